section
-- ===== PART A: goes FIRST, ahead of the names: the tables' words, and 'selects' of the private methods out of them =====
/-- a private method of a class that the tables say can be made, by its rows of tables_1 -/
def lw_okq (q : MethodName × Nat) : Prop := (q.1.cls ≠ "java/lang/invoke/MethodHandle" ∧ q.1.cls ≠ "java/lang/invoke/VarHandle") ∧ Cond.instantiable q.1.cls q.2 ∈ tables_1 ∧ Cond.privateMethod q.1 ∈ tables_1 ∧ Cond.instanceMethod q.1 ∈ tables_1
theorem lw_p0 : lw_okq (⟨"HouseClauses", "readLog", "()I"⟩, 9) := ⟨⟨by decide +kernel, by decide +kernel⟩, List.mem_of_getElem? (i := 20) (by decide +kernel), List.mem_of_getElem? (i := 227) (by decide +kernel), List.mem_of_getElem? (i := 228) (by decide +kernel)⟩
theorem lw_p1 : lw_okq (⟨"HouseClauses$LogReader", "takeKind", "(I)Z"⟩, 7) := ⟨⟨by decide +kernel, by decide +kernel⟩, List.mem_of_getElem? (i := 128) (by decide +kernel), List.mem_of_getElem? (i := 239) (by decide +kernel), List.mem_of_getElem? (i := 240) (by decide +kernel)⟩
theorem lw_p2 : lw_okq (⟨"HouseClauses$LogReader", "takeNumber", "(III)Z"⟩, 7) := ⟨⟨by decide +kernel, by decide +kernel⟩, List.mem_of_getElem? (i := 128) (by decide +kernel), List.mem_of_getElem? (i := 246) (by decide +kernel), List.mem_of_getElem? (i := 247) (by decide +kernel)⟩
theorem lw_p3 : lw_okq (⟨"HouseClauses$LogReader", "takeSign", "(I)Z"⟩, 7) := ⟨⟨by decide +kernel, by decide +kernel⟩, List.mem_of_getElem? (i := 128) (by decide +kernel), List.mem_of_getElem? (i := 250) (by decide +kernel), List.mem_of_getElem? (i := 251) (by decide +kernel)⟩
theorem lw_p4 : lw_okq (⟨"HouseClauses$LogReader", "isUnnamedRoom", "(I)Z"⟩, 7) := ⟨⟨by decide +kernel, by decide +kernel⟩, List.mem_of_getElem? (i := 128) (by decide +kernel), List.mem_of_getElem? (i := 254) (by decide +kernel), List.mem_of_getElem? (i := 255) (by decide +kernel)⟩
theorem lw_p5 : lw_okq (⟨"HouseClauses$LogReader", "takeEnd", "(I)Z"⟩, 7) := ⟨⟨by decide +kernel, by decide +kernel⟩, List.mem_of_getElem? (i := 128) (by decide +kernel), List.mem_of_getElem? (i := 261) (by decide +kernel), List.mem_of_getElem? (i := 262) (by decide +kernel)⟩
theorem lw_p6 : lw_okq (⟨"HouseClauses$LogReader", "takeRoomToBeEmpty", "(I)Z"⟩, 7) := ⟨⟨by decide +kernel, by decide +kernel⟩, List.mem_of_getElem? (i := 128) (by decide +kernel), List.mem_of_getElem? (i := 265) (by decide +kernel), List.mem_of_getElem? (i := 266) (by decide +kernel)⟩
theorem lw_p7 : lw_okq (⟨"HouseClauses$LogReader", "takeRoom", "(I)Z"⟩, 7) := ⟨⟨by decide +kernel, by decide +kernel⟩, List.mem_of_getElem? (i := 128) (by decide +kernel), List.mem_of_getElem? (i := 269) (by decide +kernel), List.mem_of_getElem? (i := 270) (by decide +kernel)⟩
theorem lw_p8 : lw_okq (⟨"HouseClauses$LogReader", "takeDays", "(I)Z"⟩, 7) := ⟨⟨by decide +kernel, by decide +kernel⟩, List.mem_of_getElem? (i := 128) (by decide +kernel), List.mem_of_getElem? (i := 273) (by decide +kernel), List.mem_of_getElem? (i := 274) (by decide +kernel)⟩
theorem lw_p9 : lw_okq (⟨"HouseClauses", "countWays", "()I"⟩, 9) := ⟨⟨by decide +kernel, by decide +kernel⟩, List.mem_of_getElem? (i := 20) (by decide +kernel), List.mem_of_getElem? (i := 341) (by decide +kernel), List.mem_of_getElem? (i := 342) (by decide +kernel)⟩
theorem lw_p10 : lw_okq (⟨"HouseClauses", "digestRules", "(J)J"⟩, 9) := ⟨⟨by decide +kernel, by decide +kernel⟩, List.mem_of_getElem? (i := 20) (by decide +kernel), List.mem_of_getElem? (i := 501) (by decide +kernel), List.mem_of_getElem? (i := 502) (by decide +kernel)⟩
theorem lw_p11 : lw_okq (⟨"HouseClauses", "followsFromOthers", "(I)Z"⟩, 9) := ⟨⟨by decide +kernel, by decide +kernel⟩, List.mem_of_getElem? (i := 20) (by decide +kernel), List.mem_of_getElem? (i := 519) (by decide +kernel), List.mem_of_getElem? (i := 520) (by decide +kernel)⟩
theorem lw_p12 : lw_okq (⟨"HouseClauses", "followsWhenSplit", "(I)Z"⟩, 9) := ⟨⟨by decide +kernel, by decide +kernel⟩, List.mem_of_getElem? (i := 20) (by decide +kernel), List.mem_of_getElem? (i := 523) (by decide +kernel), List.mem_of_getElem? (i := 524) (by decide +kernel)⟩
theorem lw_p13 : lw_okq (⟨"HouseClauses", "digestHouse", "(J)J"⟩, 9) := ⟨⟨by decide +kernel, by decide +kernel⟩, List.mem_of_getElem? (i := 20) (by decide +kernel), List.mem_of_getElem? (i := 527) (by decide +kernel), List.mem_of_getElem? (i := 528) (by decide +kernel)⟩
theorem lw_p14 : lw_okq (⟨"HouseClauses", "commonIn", "(I)I"⟩, 9) := ⟨⟨by decide +kernel, by decide +kernel⟩, List.mem_of_getElem? (i := 20) (by decide +kernel), List.mem_of_getElem? (i := 531) (by decide +kernel), List.mem_of_getElem? (i := 532) (by decide +kernel)⟩
theorem lw_p15 : lw_okq (⟨"HouseClauses", "digestStanding", "(J)J"⟩, 9) := ⟨⟨by decide +kernel, by decide +kernel⟩, List.mem_of_getElem? (i := 20) (by decide +kernel), List.mem_of_getElem? (i := 535) (by decide +kernel), List.mem_of_getElem? (i := 536) (by decide +kernel)⟩
def lw_privs_1 : List (MethodName × Nat) := [(⟨"HouseClauses", "readLog", "()I"⟩, 9), (⟨"HouseClauses$LogReader", "takeKind", "(I)Z"⟩, 7), (⟨"HouseClauses$LogReader", "takeNumber", "(III)Z"⟩, 7), (⟨"HouseClauses$LogReader", "takeSign", "(I)Z"⟩, 7), (⟨"HouseClauses$LogReader", "isUnnamedRoom", "(I)Z"⟩, 7), (⟨"HouseClauses$LogReader", "takeEnd", "(I)Z"⟩, 7), (⟨"HouseClauses$LogReader", "takeRoomToBeEmpty", "(I)Z"⟩, 7), (⟨"HouseClauses$LogReader", "takeRoom", "(I)Z"⟩, 7), (⟨"HouseClauses$LogReader", "takeDays", "(I)Z"⟩, 7), (⟨"HouseClauses", "countWays", "()I"⟩, 9), (⟨"HouseClauses", "digestRules", "(J)J"⟩, 9), (⟨"HouseClauses", "followsFromOthers", "(I)Z"⟩, 9), (⟨"HouseClauses", "followsWhenSplit", "(I)Z"⟩, 9), (⟨"HouseClauses", "digestHouse", "(J)J"⟩, 9), (⟨"HouseClauses", "commonIn", "(I)I"⟩, 9), (⟨"HouseClauses", "digestStanding", "(J)J"⟩, 9)]
theorem lw_r1 : ∀ q ∈ lw_privs_1, lw_okq q := List.forall_mem_cons.mpr ⟨lw_p0, List.forall_mem_cons.mpr ⟨lw_p1, List.forall_mem_cons.mpr ⟨lw_p2, List.forall_mem_cons.mpr ⟨lw_p3, List.forall_mem_cons.mpr ⟨lw_p4, List.forall_mem_cons.mpr ⟨lw_p5, List.forall_mem_cons.mpr ⟨lw_p6, List.forall_mem_cons.mpr ⟨lw_p7, List.forall_mem_cons.mpr ⟨lw_p8, List.forall_mem_cons.mpr ⟨lw_p9, List.forall_mem_cons.mpr ⟨lw_p10, List.forall_mem_cons.mpr ⟨lw_p11, List.forall_mem_cons.mpr ⟨lw_p12, List.forall_mem_cons.mpr ⟨lw_p13, List.forall_mem_cons.mpr ⟨lw_p14, List.forall_mem_cons.mpr ⟨lw_p15, fun _ h => absurd h List.not_mem_nil⟩⟩⟩⟩⟩⟩⟩⟩⟩⟩⟩⟩⟩⟩⟩⟩
theorem lw_p16 : lw_okq (⟨"HouseClauses$Joiner", "add", "(II)V"⟩, 3) := ⟨⟨by decide +kernel, by decide +kernel⟩, List.mem_of_getElem? (i := 163) (by decide +kernel), List.mem_of_getElem? (i := 547) (by decide +kernel), List.mem_of_getElem? (i := 548) (by decide +kernel)⟩
theorem lw_p17 : lw_okq (⟨"HouseClauses$Joiner", "joinWithEarlier", "(I)V"⟩, 3) := ⟨⟨by decide +kernel, by decide +kernel⟩, List.mem_of_getElem? (i := 163) (by decide +kernel), List.mem_of_getElem? (i := 551) (by decide +kernel), List.mem_of_getElem? (i := 552) (by decide +kernel)⟩
theorem lw_p18 : lw_okq (⟨"HouseClauses", "digestClashes", "(J)J"⟩, 9) := ⟨⟨by decide +kernel, by decide +kernel⟩, List.mem_of_getElem? (i := 20) (by decide +kernel), List.mem_of_getElem? (i := 561) (by decide +kernel), List.mem_of_getElem? (i := 562) (by decide +kernel)⟩
theorem lw_p19 : lw_okq (⟨"HouseClauses", "digestPeace", "(J)J"⟩, 9) := ⟨⟨by decide +kernel, by decide +kernel⟩, List.mem_of_getElem? (i := 20) (by decide +kernel), List.mem_of_getElem? (i := 571) (by decide +kernel), List.mem_of_getElem? (i := 572) (by decide +kernel)⟩
theorem lw_p20 : lw_okq (⟨"HouseClauses", "digestRest", "(J)J"⟩, 9) := ⟨⟨by decide +kernel, by decide +kernel⟩, List.mem_of_getElem? (i := 20) (by decide +kernel), List.mem_of_getElem? (i := 586) (by decide +kernel), List.mem_of_getElem? (i := 587) (by decide +kernel)⟩
theorem lw_p21 : lw_okq (⟨"java/lang/Throwable", "fillInStackTrace", "(I)Ljava/lang/Throwable;"⟩, 6) := ⟨⟨by decide +kernel, by decide +kernel⟩, List.mem_of_getElem? (i := 649) (by decide +kernel), List.mem_of_getElem? (i := 647) (by decide +kernel), List.mem_of_getElem? (i := 648) (by decide +kernel)⟩
theorem lw_p22 : lw_okq (⟨"HouseClauses$Past", "place", "(I)LHouseClauses$House;"⟩, 4) := ⟨⟨by decide +kernel, by decide +kernel⟩, List.mem_of_getElem? (i := 105) (by decide +kernel), List.mem_of_getElem? (i := 701) (by decide +kernel), List.mem_of_getElem? (i := 702) (by decide +kernel)⟩
theorem lw_p23 : lw_okq (⟨"HouseClauses", "requireRule", "(I)V"⟩, 9) := ⟨⟨by decide +kernel, by decide +kernel⟩, List.mem_of_getElem? (i := 20) (by decide +kernel), List.mem_of_getElem? (i := 723) (by decide +kernel), List.mem_of_getElem? (i := 724) (by decide +kernel)⟩
theorem lw_p24 : lw_okq (⟨"HouseClauses$House", "passNight", "()I"⟩, 7) := ⟨⟨by decide +kernel, by decide +kernel⟩, List.mem_of_getElem? (i := 28) (by decide +kernel), List.mem_of_getElem? (i := 810) (by decide +kernel), List.mem_of_getElem? (i := 811) (by decide +kernel)⟩
theorem lw_p25 : lw_okq (⟨"HouseClauses", "doLog", "()I"⟩, 9) := ⟨⟨by decide +kernel, by decide +kernel⟩, List.mem_of_getElem? (i := 20) (by decide +kernel), List.mem_of_getElem? (i := 835) (by decide +kernel), List.mem_of_getElem? (i := 836) (by decide +kernel)⟩
theorem lw_p26 : lw_okq (⟨"HouseClauses", "doPart", "()Z"⟩, 9) := ⟨⟨by decide +kernel, by decide +kernel⟩, List.mem_of_getElem? (i := 20) (by decide +kernel), List.mem_of_getElem? (i := 839) (by decide +kernel), List.mem_of_getElem? (i := 840) (by decide +kernel)⟩
theorem lw_p27 : lw_okq (⟨"HouseClauses", "requireSet", "(I)V"⟩, 9) := ⟨⟨by decide +kernel, by decide +kernel⟩, List.mem_of_getElem? (i := 20) (by decide +kernel), List.mem_of_getElem? (i := 928) (by decide +kernel), List.mem_of_getElem? (i := 929) (by decide +kernel)⟩
theorem lw_p28 : lw_okq (⟨"HouseClausesModel", "goes", "(ZZZ)Z"⟩, 16) := ⟨⟨by decide +kernel, by decide +kernel⟩, List.mem_of_getElem? (i := 982) (by decide +kernel), List.mem_of_getElem? (i := 1053) (by decide +kernel), List.mem_of_getElem? (i := 1054) (by decide +kernel)⟩
theorem lw_p29 : lw_okq (⟨"HouseClausesModel", "saves", "()V"⟩, 16) := ⟨⟨by decide +kernel, by decide +kernel⟩, List.mem_of_getElem? (i := 982) (by decide +kernel), List.mem_of_getElem? (i := 1057) (by decide +kernel), List.mem_of_getElem? (i := 1058) (by decide +kernel)⟩
theorem lw_p30 : lw_okq (⟨"HouseClausesModel", "copies", "(II)V"⟩, 16) := ⟨⟨by decide +kernel, by decide +kernel⟩, List.mem_of_getElem? (i := 982) (by decide +kernel), List.mem_of_getElem? (i := 1061) (by decide +kernel), List.mem_of_getElem? (i := 1062) (by decide +kernel)⟩
theorem lw_p31 : lw_okq (⟨"HouseClausesModel", "makes", "(III)I"⟩, 16) := ⟨⟨by decide +kernel, by decide +kernel⟩, List.mem_of_getElem? (i := 982) (by decide +kernel), List.mem_of_getElem? (i := 1065) (by decide +kernel), List.mem_of_getElem? (i := 1066) (by decide +kernel)⟩
def lw_privs_2 : List (MethodName × Nat) := [(⟨"HouseClauses$Joiner", "add", "(II)V"⟩, 3), (⟨"HouseClauses$Joiner", "joinWithEarlier", "(I)V"⟩, 3), (⟨"HouseClauses", "digestClashes", "(J)J"⟩, 9), (⟨"HouseClauses", "digestPeace", "(J)J"⟩, 9), (⟨"HouseClauses", "digestRest", "(J)J"⟩, 9), (⟨"java/lang/Throwable", "fillInStackTrace", "(I)Ljava/lang/Throwable;"⟩, 6), (⟨"HouseClauses$Past", "place", "(I)LHouseClauses$House;"⟩, 4), (⟨"HouseClauses", "requireRule", "(I)V"⟩, 9), (⟨"HouseClauses$House", "passNight", "()I"⟩, 7), (⟨"HouseClauses", "doLog", "()I"⟩, 9), (⟨"HouseClauses", "doPart", "()Z"⟩, 9), (⟨"HouseClauses", "requireSet", "(I)V"⟩, 9), (⟨"HouseClausesModel", "goes", "(ZZZ)Z"⟩, 16), (⟨"HouseClausesModel", "saves", "()V"⟩, 16), (⟨"HouseClausesModel", "copies", "(II)V"⟩, 16), (⟨"HouseClausesModel", "makes", "(III)I"⟩, 16)]
theorem lw_r2 : ∀ q ∈ lw_privs_2, lw_okq q := List.forall_mem_cons.mpr ⟨lw_p16, List.forall_mem_cons.mpr ⟨lw_p17, List.forall_mem_cons.mpr ⟨lw_p18, List.forall_mem_cons.mpr ⟨lw_p19, List.forall_mem_cons.mpr ⟨lw_p20, List.forall_mem_cons.mpr ⟨lw_p21, List.forall_mem_cons.mpr ⟨lw_p22, List.forall_mem_cons.mpr ⟨lw_p23, List.forall_mem_cons.mpr ⟨lw_p24, List.forall_mem_cons.mpr ⟨lw_p25, List.forall_mem_cons.mpr ⟨lw_p26, List.forall_mem_cons.mpr ⟨lw_p27, List.forall_mem_cons.mpr ⟨lw_p28, List.forall_mem_cons.mpr ⟨lw_p29, List.forall_mem_cons.mpr ⟨lw_p30, List.forall_mem_cons.mpr ⟨lw_p31, fun _ h => absurd h List.not_mem_nil⟩⟩⟩⟩⟩⟩⟩⟩⟩⟩⟩⟩⟩⟩⟩⟩
theorem lw_p32 : lw_okq (⟨"HouseClausesModel", "isRule", "(I)Z"⟩, 16) := ⟨⟨by decide +kernel, by decide +kernel⟩, List.mem_of_getElem? (i := 982) (by decide +kernel), List.mem_of_getElem? (i := 1076) (by decide +kernel), List.mem_of_getElem? (i := 1077) (by decide +kernel)⟩
theorem lw_p33 : lw_okq (⟨"HouseClausesModel", "waives", "(II)I"⟩, 16) := ⟨⟨by decide +kernel, by decide +kernel⟩, List.mem_of_getElem? (i := 982) (by decide +kernel), List.mem_of_getElem? (i := 1088) (by decide +kernel), List.mem_of_getElem? (i := 1089) (by decide +kernel)⟩
theorem lw_p34 : lw_okq (⟨"HouseClausesModel", "turnsIf", "(IZ)I"⟩, 16) := ⟨⟨by decide +kernel, by decide +kernel⟩, List.mem_of_getElem? (i := 982) (by decide +kernel), List.mem_of_getElem? (i := 1096) (by decide +kernel), List.mem_of_getElem? (i := 1097) (by decide +kernel)⟩
theorem lw_p35 : lw_okq (⟨"HouseClausesModel", "isLet", "(I)Z"⟩, 16) := ⟨⟨by decide +kernel, by decide +kernel⟩, List.mem_of_getElem? (i := 982) (by decide +kernel), List.mem_of_getElem? (i := 1103) (by decide +kernel), List.mem_of_getElem? (i := 1104) (by decide +kernel)⟩
theorem lw_p36 : lw_okq (⟨"HouseClausesModel", "refuser", "(I)I"⟩, 16) := ⟨⟨by decide +kernel, by decide +kernel⟩, List.mem_of_getElem? (i := 982) (by decide +kernel), List.mem_of_getElem? (i := 1110) (by decide +kernel), List.mem_of_getElem? (i := 1111) (by decide +kernel)⟩
theorem lw_p37 : lw_okq (⟨"HouseClausesModel", "isForce", "(II)Z"⟩, 16) := ⟨⟨by decide +kernel, by decide +kernel⟩, List.mem_of_getElem? (i := 982) (by decide +kernel), List.mem_of_getElem? (i := 1114) (by decide +kernel), List.mem_of_getElem? (i := 1115) (by decide +kernel)⟩
theorem lw_p38 : lw_okq (⟨"HouseClausesModel", "holdsNow", "(II)Z"⟩, 16) := ⟨⟨by decide +kernel, by decide +kernel⟩, List.mem_of_getElem? (i := 982) (by decide +kernel), List.mem_of_getElem? (i := 1118) (by decide +kernel), List.mem_of_getElem? (i := 1119) (by decide +kernel)⟩
theorem lw_p39 : lw_okq (⟨"HouseClausesModel", "turns", "(I)I"⟩, 16) := ⟨⟨by decide +kernel, by decide +kernel⟩, List.mem_of_getElem? (i := 982) (by decide +kernel), List.mem_of_getElem? (i := 1122) (by decide +kernel), List.mem_of_getElem? (i := 1123) (by decide +kernel)⟩
theorem lw_p40 : lw_okq (⟨"HouseClausesModel", "nights", "(I)I"⟩, 16) := ⟨⟨by decide +kernel, by decide +kernel⟩, List.mem_of_getElem? (i := 982) (by decide +kernel), List.mem_of_getElem? (i := 1134) (by decide +kernel), List.mem_of_getElem? (i := 1135) (by decide +kernel)⟩
theorem lw_p41 : lw_okq (⟨"HouseClausesModel", "brokenIn", "(I)I"⟩, 16) := ⟨⟨by decide +kernel, by decide +kernel⟩, List.mem_of_getElem? (i := 982) (by decide +kernel), List.mem_of_getElem? (i := 1138) (by decide +kernel), List.mem_of_getElem? (i := 1139) (by decide +kernel)⟩
theorem lw_p42 : lw_okq (⟨"HouseClausesModel", "finesOfSet", "(I)I"⟩, 16) := ⟨⟨by decide +kernel, by decide +kernel⟩, List.mem_of_getElem? (i := 982) (by decide +kernel), List.mem_of_getElem? (i := 1142) (by decide +kernel), List.mem_of_getElem? (i := 1143) (by decide +kernel)⟩
theorem lw_p43 : lw_okq (⟨"HouseClausesModel", "isLog", "()Z"⟩, 16) := ⟨⟨by decide +kernel, by decide +kernel⟩, List.mem_of_getElem? (i := 982) (by decide +kernel), List.mem_of_getElem? (i := 1158) (by decide +kernel), List.mem_of_getElem? (i := 1159) (by decide +kernel)⟩
theorem lw_p44 : lw_okq (⟨"HouseClausesModel", "part", "()Z"⟩, 16) := ⟨⟨by decide +kernel, by decide +kernel⟩, List.mem_of_getElem? (i := 982) (by decide +kernel), List.mem_of_getElem? (i := 1162) (by decide +kernel), List.mem_of_getElem? (i := 1163) (by decide +kernel)⟩
theorem lw_p45 : lw_okq (⟨"HouseClausesModel", "reads", "(II)I"⟩, 16) := ⟨⟨by decide +kernel, by decide +kernel⟩, List.mem_of_getElem? (i := 982) (by decide +kernel), List.mem_of_getElem? (i := 1166) (by decide +kernel), List.mem_of_getElem? (i := 1167) (by decide +kernel)⟩
theorem lw_p46 : lw_okq (⟨"HouseClausesModel", "isAt", "(II)Z"⟩, 16) := ⟨⟨by decide +kernel, by decide +kernel⟩, List.mem_of_getElem? (i := 982) (by decide +kernel), List.mem_of_getElem? (i := 1170) (by decide +kernel), List.mem_of_getElem? (i := 1171) (by decide +kernel)⟩
theorem lw_p47 : lw_okq (⟨"HouseClausesModel", "signs", "()Z"⟩, 16) := ⟨⟨by decide +kernel, by decide +kernel⟩, List.mem_of_getElem? (i := 982) (by decide +kernel), List.mem_of_getElem? (i := 1174) (by decide +kernel), List.mem_of_getElem? (i := 1175) (by decide +kernel)⟩
def lw_privs_3 : List (MethodName × Nat) := [(⟨"HouseClausesModel", "isRule", "(I)Z"⟩, 16), (⟨"HouseClausesModel", "waives", "(II)I"⟩, 16), (⟨"HouseClausesModel", "turnsIf", "(IZ)I"⟩, 16), (⟨"HouseClausesModel", "isLet", "(I)Z"⟩, 16), (⟨"HouseClausesModel", "refuser", "(I)I"⟩, 16), (⟨"HouseClausesModel", "isForce", "(II)Z"⟩, 16), (⟨"HouseClausesModel", "holdsNow", "(II)Z"⟩, 16), (⟨"HouseClausesModel", "turns", "(I)I"⟩, 16), (⟨"HouseClausesModel", "nights", "(I)I"⟩, 16), (⟨"HouseClausesModel", "brokenIn", "(I)I"⟩, 16), (⟨"HouseClausesModel", "finesOfSet", "(I)I"⟩, 16), (⟨"HouseClausesModel", "isLog", "()Z"⟩, 16), (⟨"HouseClausesModel", "part", "()Z"⟩, 16), (⟨"HouseClausesModel", "reads", "(II)I"⟩, 16), (⟨"HouseClausesModel", "isAt", "(II)Z"⟩, 16), (⟨"HouseClausesModel", "signs", "()Z"⟩, 16)]
theorem lw_r3 : ∀ q ∈ lw_privs_3, lw_okq q := List.forall_mem_cons.mpr ⟨lw_p32, List.forall_mem_cons.mpr ⟨lw_p33, List.forall_mem_cons.mpr ⟨lw_p34, List.forall_mem_cons.mpr ⟨lw_p35, List.forall_mem_cons.mpr ⟨lw_p36, List.forall_mem_cons.mpr ⟨lw_p37, List.forall_mem_cons.mpr ⟨lw_p38, List.forall_mem_cons.mpr ⟨lw_p39, List.forall_mem_cons.mpr ⟨lw_p40, List.forall_mem_cons.mpr ⟨lw_p41, List.forall_mem_cons.mpr ⟨lw_p42, List.forall_mem_cons.mpr ⟨lw_p43, List.forall_mem_cons.mpr ⟨lw_p44, List.forall_mem_cons.mpr ⟨lw_p45, List.forall_mem_cons.mpr ⟨lw_p46, List.forall_mem_cons.mpr ⟨lw_p47, fun _ h => absurd h List.not_mem_nil⟩⟩⟩⟩⟩⟩⟩⟩⟩⟩⟩⟩⟩⟩⟩⟩
theorem lw_p48 : lw_okq (⟨"HouseClausesModel", "does", "()Z"⟩, 16) := ⟨⟨by decide +kernel, by decide +kernel⟩, List.mem_of_getElem? (i := 982) (by decide +kernel), List.mem_of_getElem? (i := 1182) (by decide +kernel), List.mem_of_getElem? (i := 1183) (by decide +kernel)⟩
theorem lw_p49 : lw_okq (⟨"HouseClausesModel", "of", "(II)I"⟩, 16) := ⟨⟨by decide +kernel, by decide +kernel⟩, List.mem_of_getElem? (i := 982) (by decide +kernel), List.mem_of_getElem? (i := 1206) (by decide +kernel), List.mem_of_getElem? (i := 1207) (by decide +kernel)⟩
theorem lw_p50 : lw_okq (⟨"HouseClausesModel", "waived", "(I)I"⟩, 16) := ⟨⟨by decide +kernel, by decide +kernel⟩, List.mem_of_getElem? (i := 982) (by decide +kernel), List.mem_of_getElem? (i := 1226) (by decide +kernel), List.mem_of_getElem? (i := 1227) (by decide +kernel)⟩
theorem lw_p51 : lw_okq (⟨"HouseClausesModel", "force", "()I"⟩, 16) := ⟨⟨by decide +kernel, by decide +kernel⟩, List.mem_of_getElem? (i := 982) (by decide +kernel), List.mem_of_getElem? (i := 1246) (by decide +kernel), List.mem_of_getElem? (i := 1247) (by decide +kernel)⟩
theorem lw_p52 : lw_okq (⟨"HouseClausesModel", "sumOfRules", "()I"⟩, 16) := ⟨⟨by decide +kernel, by decide +kernel⟩, List.mem_of_getElem? (i := 982) (by decide +kernel), List.mem_of_getElem? (i := 1270) (by decide +kernel), List.mem_of_getElem? (i := 1271) (by decide +kernel)⟩
theorem lw_p53 : lw_okq (⟨"HouseClausesModel", "areRules", "(I)Z"⟩, 16) := ⟨⟨by decide +kernel, by decide +kernel⟩, List.mem_of_getElem? (i := 982) (by decide +kernel), List.mem_of_getElem? (i := 1278) (by decide +kernel), List.mem_of_getElem? (i := 1279) (by decide +kernel)⟩
theorem lw_p54 : lw_okq (⟨"HouseClausesModel", "stands", "(I)Z"⟩, 16) := ⟨⟨by decide +kernel, by decide +kernel⟩, List.mem_of_getElem? (i := 982) (by decide +kernel), List.mem_of_getElem? (i := 1282) (by decide +kernel), List.mem_of_getElem? (i := 1283) (by decide +kernel)⟩
theorem lw_p55 : lw_okq (⟨"HouseClausesModel", "looks", "()V"⟩, 16) := ⟨⟨by decide +kernel, by decide +kernel⟩, List.mem_of_getElem? (i := 982) (by decide +kernel), List.mem_of_getElem? (i := 1286) (by decide +kernel), List.mem_of_getElem? (i := 1287) (by decide +kernel)⟩
theorem lw_p56 : lw_okq (⟨"HouseClausesModel", "waysOf", "(II)J"⟩, 16) := ⟨⟨by decide +kernel, by decide +kernel⟩, List.mem_of_getElem? (i := 982) (by decide +kernel), List.mem_of_getElem? (i := 1290) (by decide +kernel), List.mem_of_getElem? (i := 1291) (by decide +kernel)⟩
theorem lw_p57 : lw_okq (⟨"HouseClausesModel", "waysOfAll", "(I)J"⟩, 16) := ⟨⟨by decide +kernel, by decide +kernel⟩, List.mem_of_getElem? (i := 982) (by decide +kernel), List.mem_of_getElem? (i := 1295) (by decide +kernel), List.mem_of_getElem? (i := 1296) (by decide +kernel)⟩
theorem lw_p58 : lw_okq (⟨"HouseClausesModel", "splits", "(I)Z"⟩, 16) := ⟨⟨by decide +kernel, by decide +kernel⟩, List.mem_of_getElem? (i := 982) (by decide +kernel), List.mem_of_getElem? (i := 1303) (by decide +kernel), List.mem_of_getElem? (i := 1304) (by decide +kernel)⟩
theorem lw_p59 : lw_okq (⟨"HouseClausesModel", "standsByJoining", "(I)Z"⟩, 16) := ⟨⟨by decide +kernel, by decide +kernel⟩, List.mem_of_getElem? (i := 982) (by decide +kernel), List.mem_of_getElem? (i := 1311) (by decide +kernel), List.mem_of_getElem? (i := 1312) (by decide +kernel)⟩
theorem lw_p60 : lw_okq (⟨"HouseClausesModel", "closes", "(I)I"⟩, 16) := ⟨⟨by decide +kernel, by decide +kernel⟩, List.mem_of_getElem? (i := 982) (by decide +kernel), List.mem_of_getElem? (i := 1315) (by decide +kernel), List.mem_of_getElem? (i := 1316) (by decide +kernel)⟩
theorem lw_p61 : lw_okq (⟨"HouseClausesModel", "puts", "(II)V"⟩, 16) := ⟨⟨by decide +kernel, by decide +kernel⟩, List.mem_of_getElem? (i := 982) (by decide +kernel), List.mem_of_getElem? (i := 1319) (by decide +kernel), List.mem_of_getElem? (i := 1320) (by decide +kernel)⟩
theorem lw_p62 : lw_okq (⟨"HouseClausesModel", "joins", "(II)V"⟩, 16) := ⟨⟨by decide +kernel, by decide +kernel⟩, List.mem_of_getElem? (i := 982) (by decide +kernel), List.mem_of_getElem? (i := 1323) (by decide +kernel), List.mem_of_getElem? (i := 1324) (by decide +kernel)⟩
theorem lw_p63 : lw_okq (⟨"HouseClausesModel", "peace", "()J"⟩, 16) := ⟨⟨by decide +kernel, by decide +kernel⟩, List.mem_of_getElem? (i := 982) (by decide +kernel), List.mem_of_getElem? (i := 1335) (by decide +kernel), List.mem_of_getElem? (i := 1336) (by decide +kernel)⟩
def lw_privs_4 : List (MethodName × Nat) := [(⟨"HouseClausesModel", "does", "()Z"⟩, 16), (⟨"HouseClausesModel", "of", "(II)I"⟩, 16), (⟨"HouseClausesModel", "waived", "(I)I"⟩, 16), (⟨"HouseClausesModel", "force", "()I"⟩, 16), (⟨"HouseClausesModel", "sumOfRules", "()I"⟩, 16), (⟨"HouseClausesModel", "areRules", "(I)Z"⟩, 16), (⟨"HouseClausesModel", "stands", "(I)Z"⟩, 16), (⟨"HouseClausesModel", "looks", "()V"⟩, 16), (⟨"HouseClausesModel", "waysOf", "(II)J"⟩, 16), (⟨"HouseClausesModel", "waysOfAll", "(I)J"⟩, 16), (⟨"HouseClausesModel", "splits", "(I)Z"⟩, 16), (⟨"HouseClausesModel", "standsByJoining", "(I)Z"⟩, 16), (⟨"HouseClausesModel", "closes", "(I)I"⟩, 16), (⟨"HouseClausesModel", "puts", "(II)V"⟩, 16), (⟨"HouseClausesModel", "joins", "(II)V"⟩, 16), (⟨"HouseClausesModel", "peace", "()J"⟩, 16)]
theorem lw_r4 : ∀ q ∈ lw_privs_4, lw_okq q := List.forall_mem_cons.mpr ⟨lw_p48, List.forall_mem_cons.mpr ⟨lw_p49, List.forall_mem_cons.mpr ⟨lw_p50, List.forall_mem_cons.mpr ⟨lw_p51, List.forall_mem_cons.mpr ⟨lw_p52, List.forall_mem_cons.mpr ⟨lw_p53, List.forall_mem_cons.mpr ⟨lw_p54, List.forall_mem_cons.mpr ⟨lw_p55, List.forall_mem_cons.mpr ⟨lw_p56, List.forall_mem_cons.mpr ⟨lw_p57, List.forall_mem_cons.mpr ⟨lw_p58, List.forall_mem_cons.mpr ⟨lw_p59, List.forall_mem_cons.mpr ⟨lw_p60, List.forall_mem_cons.mpr ⟨lw_p61, List.forall_mem_cons.mpr ⟨lw_p62, List.forall_mem_cons.mpr ⟨lw_p63, fun _ h => absurd h List.not_mem_nil⟩⟩⟩⟩⟩⟩⟩⟩⟩⟩⟩⟩⟩⟩⟩⟩
theorem lw_p64 : lw_okq (⟨"HouseClausesModel", "waysSplit", "()I"⟩, 16) := ⟨⟨by decide +kernel, by decide +kernel⟩, List.mem_of_getElem? (i := 982) (by decide +kernel), List.mem_of_getElem? (i := 1346) (by decide +kernel), List.mem_of_getElem? (i := 1347) (by decide +kernel)⟩
theorem lw_p65 : lw_okq (⟨"HouseClausesModel", "least", "(J)I"⟩, 16) := ⟨⟨by decide +kernel, by decide +kernel⟩, List.mem_of_getElem? (i := 982) (by decide +kernel), List.mem_of_getElem? (i := 1354) (by decide +kernel), List.mem_of_getElem? (i := 1355) (by decide +kernel)⟩
theorem lw_p66 : lw_okq (⟨"HouseClausesModel", "alike", "(I)I"⟩, 16) := ⟨⟨by decide +kernel, by decide +kernel⟩, List.mem_of_getElem? (i := 982) (by decide +kernel), List.mem_of_getElem? (i := 1362) (by decide +kernel), List.mem_of_getElem? (i := 1363) (by decide +kernel)⟩
theorem lw_p67 : lw_okq (⟨"HouseClausesModel", "comesOf", "(I)Z"⟩, 16) := ⟨⟨by decide +kernel, by decide +kernel⟩, List.mem_of_getElem? (i := 982) (by decide +kernel), List.mem_of_getElem? (i := 1370) (by decide +kernel), List.mem_of_getElem? (i := 1371) (by decide +kernel)⟩
theorem lw_p68 : lw_okq (⟨"HouseClausesModel", "comesBySplitting", "(I)Z"⟩, 16) := ⟨⟨by decide +kernel, by decide +kernel⟩, List.mem_of_getElem? (i := 982) (by decide +kernel), List.mem_of_getElem? (i := 1378) (by decide +kernel), List.mem_of_getElem? (i := 1379) (by decide +kernel)⟩
theorem lw_p69 : lw_okq (⟨"HouseClausesModel", "smallest", "()I"⟩, 16) := ⟨⟨by decide +kernel, by decide +kernel⟩, List.mem_of_getElem? (i := 982) (by decide +kernel), List.mem_of_getElem? (i := 1386) (by decide +kernel), List.mem_of_getElem? (i := 1387) (by decide +kernel)⟩
theorem lw_p70 : lw_okq (⟨"HouseClausesModel", "isWithin", "(II)Z"⟩, 16) := ⟨⟨by decide +kernel, by decide +kernel⟩, List.mem_of_getElem? (i := 982) (by decide +kernel), List.mem_of_getElem? (i := 1390) (by decide +kernel), List.mem_of_getElem? (i := 1391) (by decide +kernel)⟩
theorem lw_p71 : lw_okq (⟨"HouseClausesModel", "smallestMeeting", "()I"⟩, 16) := ⟨⟨by decide +kernel, by decide +kernel⟩, List.mem_of_getElem? (i := 982) (by decide +kernel), List.mem_of_getElem? (i := 1401) (by decide +kernel), List.mem_of_getElem? (i := 1402) (by decide +kernel)⟩
theorem lw_p72 : lw_okq (⟨"HouseClausesModel", "narrowed", "()I"⟩, 16) := ⟨⟨by decide +kernel, by decide +kernel⟩, List.mem_of_getElem? (i := 982) (by decide +kernel), List.mem_of_getElem? (i := 1409) (by decide +kernel), List.mem_of_getElem? (i := 1410) (by decide +kernel)⟩
theorem lw_p73 : lw_okq (⟨"HouseClausesModel", "narrows", "()I"⟩, 16) := ⟨⟨by decide +kernel, by decide +kernel⟩, List.mem_of_getElem? (i := 982) (by decide +kernel), List.mem_of_getElem? (i := 1417) (by decide +kernel), List.mem_of_getElem? (i := 1418) (by decide +kernel)⟩
theorem lw_p74 : lw_okq (⟨"HouseClausesModel", "isNarrow", "(I)Z"⟩, 16) := ⟨⟨by decide +kernel, by decide +kernel⟩, List.mem_of_getElem? (i := 982) (by decide +kernel), List.mem_of_getElem? (i := 1421) (by decide +kernel), List.mem_of_getElem? (i := 1422) (by decide +kernel)⟩
theorem lw_p75 : lw_okq (⟨"HouseClausesModel", "waivers", "()I"⟩, 16) := ⟨⟨by decide +kernel, by decide +kernel⟩, List.mem_of_getElem? (i := 982) (by decide +kernel), List.mem_of_getElem? (i := 1429) (by decide +kernel), List.mem_of_getElem? (i := 1430) (by decide +kernel)⟩
theorem lw_p76 : lw_okq (⟨"HouseClausesModel", "waiversBySets", "()I"⟩, 16) := ⟨⟨by decide +kernel, by decide +kernel⟩, List.mem_of_getElem? (i := 982) (by decide +kernel), List.mem_of_getElem? (i := 1437) (by decide +kernel), List.mem_of_getElem? (i := 1438) (by decide +kernel)⟩
theorem lw_p77 : lw_okq (⟨"HouseClausesModel", "turnsBest", "()I"⟩, 16) := ⟨⟨by decide +kernel, by decide +kernel⟩, List.mem_of_getElem? (i := 982) (by decide +kernel), List.mem_of_getElem? (i := 1445) (by decide +kernel), List.mem_of_getElem? (i := 1446) (by decide +kernel)⟩
theorem lw_p78 : lw_okq (⟨"HouseClausesModel", "turnsGoing", "()I"⟩, 16) := ⟨⟨by decide +kernel, by decide +kernel⟩, List.mem_of_getElem? (i := 982) (by decide +kernel), List.mem_of_getElem? (i := 1453) (by decide +kernel), List.mem_of_getElem? (i := 1454) (by decide +kernel)⟩
theorem lw_p79 : lw_okq (⟨"HouseClausesModel", "nightIn", "(I)I"⟩, 16) := ⟨⟨by decide +kernel, by decide +kernel⟩, List.mem_of_getElem? (i := 982) (by decide +kernel), List.mem_of_getElem? (i := 1461) (by decide +kernel), List.mem_of_getElem? (i := 1462) (by decide +kernel)⟩
def lw_privs_5 : List (MethodName × Nat) := [(⟨"HouseClausesModel", "waysSplit", "()I"⟩, 16), (⟨"HouseClausesModel", "least", "(J)I"⟩, 16), (⟨"HouseClausesModel", "alike", "(I)I"⟩, 16), (⟨"HouseClausesModel", "comesOf", "(I)Z"⟩, 16), (⟨"HouseClausesModel", "comesBySplitting", "(I)Z"⟩, 16), (⟨"HouseClausesModel", "smallest", "()I"⟩, 16), (⟨"HouseClausesModel", "isWithin", "(II)Z"⟩, 16), (⟨"HouseClausesModel", "smallestMeeting", "()I"⟩, 16), (⟨"HouseClausesModel", "narrowed", "()I"⟩, 16), (⟨"HouseClausesModel", "narrows", "()I"⟩, 16), (⟨"HouseClausesModel", "isNarrow", "(I)Z"⟩, 16), (⟨"HouseClausesModel", "waivers", "()I"⟩, 16), (⟨"HouseClausesModel", "waiversBySets", "()I"⟩, 16), (⟨"HouseClausesModel", "turnsBest", "()I"⟩, 16), (⟨"HouseClausesModel", "turnsGoing", "()I"⟩, 16), (⟨"HouseClausesModel", "nightIn", "(I)I"⟩, 16)]
theorem lw_r5 : ∀ q ∈ lw_privs_5, lw_okq q := List.forall_mem_cons.mpr ⟨lw_p64, List.forall_mem_cons.mpr ⟨lw_p65, List.forall_mem_cons.mpr ⟨lw_p66, List.forall_mem_cons.mpr ⟨lw_p67, List.forall_mem_cons.mpr ⟨lw_p68, List.forall_mem_cons.mpr ⟨lw_p69, List.forall_mem_cons.mpr ⟨lw_p70, List.forall_mem_cons.mpr ⟨lw_p71, List.forall_mem_cons.mpr ⟨lw_p72, List.forall_mem_cons.mpr ⟨lw_p73, List.forall_mem_cons.mpr ⟨lw_p74, List.forall_mem_cons.mpr ⟨lw_p75, List.forall_mem_cons.mpr ⟨lw_p76, List.forall_mem_cons.mpr ⟨lw_p77, List.forall_mem_cons.mpr ⟨lw_p78, List.forall_mem_cons.mpr ⟨lw_p79, fun _ h => absurd h List.not_mem_nil⟩⟩⟩⟩⟩⟩⟩⟩⟩⟩⟩⟩⟩⟩⟩⟩
theorem lw_p80 : lw_okq (⟨"HouseClausesModel", "cheapest", "()I"⟩, 16) := ⟨⟨by decide +kernel, by decide +kernel⟩, List.mem_of_getElem? (i := 982) (by decide +kernel), List.mem_of_getElem? (i := 1469) (by decide +kernel), List.mem_of_getElem? (i := 1470) (by decide +kernel)⟩
theorem lw_p81 : lw_okq (⟨"HouseClausesModel", "turnBest", "()I"⟩, 16) := ⟨⟨by decide +kernel, by decide +kernel⟩, List.mem_of_getElem? (i := 982) (by decide +kernel), List.mem_of_getElem? (i := 1481) (by decide +kernel), List.mem_of_getElem? (i := 1482) (by decide +kernel)⟩
theorem lw_p82 : lw_okq (⟨"HouseClausesModel", "ahead", "(I)I"⟩, 16) := ⟨⟨by decide +kernel, by decide +kernel⟩, List.mem_of_getElem? (i := 982) (by decide +kernel), List.mem_of_getElem? (i := 1489) (by decide +kernel), List.mem_of_getElem? (i := 1490) (by decide +kernel)⟩
theorem lw_p83 : lw_okq (⟨"HouseClausesModel", "sumOfFines", "()I"⟩, 16) := ⟨⟨by decide +kernel, by decide +kernel⟩, List.mem_of_getElem? (i := 982) (by decide +kernel), List.mem_of_getElem? (i := 1502) (by decide +kernel), List.mem_of_getElem? (i := 1503) (by decide +kernel)⟩
def lw_privs_6 : List (MethodName × Nat) := [(⟨"HouseClausesModel", "cheapest", "()I"⟩, 16), (⟨"HouseClausesModel", "turnBest", "()I"⟩, 16), (⟨"HouseClausesModel", "ahead", "(I)I"⟩, 16), (⟨"HouseClausesModel", "sumOfFines", "()I"⟩, 16)]
theorem lw_r6 : ∀ q ∈ lw_privs_6, lw_okq q := List.forall_mem_cons.mpr ⟨lw_p80, List.forall_mem_cons.mpr ⟨lw_p81, List.forall_mem_cons.mpr ⟨lw_p82, List.forall_mem_cons.mpr ⟨lw_p83, fun _ h => absurd h List.not_mem_nil⟩⟩⟩⟩
def lw_privs : List (MethodName × Nat) := lw_privs_1 ++ (lw_privs_2 ++ (lw_privs_3 ++ (lw_privs_4 ++ (lw_privs_5 ++ (lw_privs_6)))))
def lw_tbl : List Cond := k2_sels lw_privs ++ tables_1
theorem lw_privs_ok : ∀ q ∈ lw_privs, lw_okq q := by
  show ∀ q ∈ lw_privs_1 ++ (lw_privs_2 ++ (lw_privs_3 ++ (lw_privs_4 ++ (lw_privs_5 ++ (lw_privs_6))))), lw_okq q
  exact List.forall_mem_append.mpr ⟨lw_r1, List.forall_mem_append.mpr ⟨lw_r2, List.forall_mem_append.mpr ⟨lw_r3, List.forall_mem_append.mpr ⟨lw_r4, List.forall_mem_append.mpr ⟨lw_r5, lw_r6⟩⟩⟩⟩⟩
/-- the streams that the claim lets the run draw from -/
abbrev lw_cs : List Choice := [Jvm.Choice.named "NaN.bits"]
theorem lw_bits : nanBits ∈ lw_cs := by first | decide | exact List.mem_cons_self | simp [lw_cs, nanBits]
end
section
/-! ===== BEGIN words of one list among another's, by their places ===== -/
theorem goodIn_r {big : List Cond} (ws : List Cond) (ps : List Nat) (hp : ws = ps.filterMap (fun i => big[i]?)) (h : ws.all goodWord = true) : GoodIn big ws := by
  intro w hw
  have h1 := List.all_eq_true.mp h w hw
  rw [hp] at hw
  obtain ⟨i, -, hi⟩ := List.mem_filterMap.mp hw
  have hm : w ∈ big := by first | exact List.mem_of_getElem? hi | exact List.getElem?_mem hi
  exact ⟨hm, good_of_word h1⟩
theorem goodIn_app {big a b : List Cond} (ha : GoodIn big a) (hb : GoodIn big b) : GoodIn big (a ++ b) := fun w h => (List.mem_append.mp h).elim (ha w) (hb w)
theorem goodIn_ca {big a b : List Cond} {c : Cond} (ha : GoodIn big (c :: a)) (hb : GoodIn big b) : GoodIn big (c :: (a ++ b)) := fun w h => (List.mem_cons.mp h).elim (fun e => ha w (List.mem_cons.mpr (Or.inl e))) (fun h => (List.mem_append.mp h).elim (fun h => ha w (List.mem_cons.mpr (Or.inr h))) (hb w))
theorem goodIn_sub {big ws : List Cond} (hm : ∀ w ∈ ws, w ∈ big) (h : ws.all goodWord = true) : GoodIn big ws := fun w hw => ⟨hm w hw, good_of_word (List.all_eq_true.mp h w hw)⟩
/-! ===== END ===== -/

/-! ===== BEGIN exceptions that leave a method, and their catching by the caller (launches without stack traces) ===== -/
section VXA
/-! The laws vx_back, vx_callV, vx_callS, vx_callSW, vx_throw0, vx_throwS follow proofs of the library, with one case more: JvmDerived/Free/Laws.lean (Back.of_free), Shelf42/LK1.lean (callV, callS), Shelf/KitTraced.lean (throwNew0V, throwNewS). -/
/-- where a method has thrown q: the class by its name, the cell, what was written, the world -/
def vx_T (XC : String → State → State → Prop) (st : State) (q : Addr) (t : State) (mc ms : Nat) (free : Addr → Prop) : Prop :=
  ∃ (E : String) (ce : Cell) (L : List Loc), XC E st t ∧ t.heap[q]? = some ce ∧ ce.vm = .none ∧ st.vm.findClass E = some ce.cls ∧ st.WarmedH t.vm ∧ st.sameButNew ({ t with vm := st.vm } : State) L mc ms ∧ ∀ z ∈ L, free z.base
def vx_Q (Qc : Array Value → State → Outcome → State → Prop) (XC : String → State → State → Prop) (mc ms : Nat) (free : Addr → Prop) : Array Value → State → Outcome → State → Prop := fun a st o t =>
  (Qc a st o t ∧ ∃ L, FrameEnd st o t L mc ms ∧ ∀ q ∈ L, free q.base) ∨ ∃ q, o = .threw q ∧ vx_T XC st q t mc ms free
/-- a callee that returns or throws -/
def vx_Met (l : Launch) (y : MethodName) (ws : List Cond) (rm : Room) (Pc : Array Value → State → Prop) (Qc : Array Value → State → Outcome → State → Prop) (XC : String → State → State → Prop) (mc ms : Nat) (free : Addr → Prop) : Prop :=
  MetFree l y (headSpec ws rm) Pc (fun _ _ _ _ _ => True) (vx_Q Qc XC mc ms free)
def vx_Post (XC : String → State → State → Prop) (mc ms : Nat) (free : Addr → Prop) : Pt → Array Value → Addr → Pt → Prop := fun A a q B =>
  ∃ (g : JFrame) (mk : MethodId) (t : State) (L : List Loc) (E : String) (ce : Cell), B.U.heap = t.heap ∧ B.U.vm = t.vm ∧ XC E (A.U.calling g mk a) t ∧ t.heap[q]? = some ce ∧ ce.vm = .none ∧ A.U.vm.findClass E = some ce.cls ∧ B.locs = A.locs ++ L ∧ (∀ z ∈ L, free z.base) ∧ B.cells = A.cells + mc ∧ B.slots = A.slots + ms
def vx_Back (l : Launch) (R : Room) (p : Program) (e : Env) (below : List Frame) (s : State) (sargs : Array Value) (y : MethodName) (len W9 : Nat)
    (Pre : Pt → Array Value → Prop) (Post : Pt → Array Value → Option Value → Pt → Prop) (PostX : Pt → Array Value → Addr → Pt → Prop) : Prop :=
  ∀ (m : MethodId) (meth : Method) (c : Code) (A : Pt) (g : JFrame) (ig : Instr) (mk : MethodId) (a : Array Value),
    Stand p l e R s m sargs below meth c A.U A.locs A.cells A.slots → g.method = m → g.locals.size = c.maxLocals → decode c.code g.pc = .ok (ig, len) →
    2 * g.monitorRoom + (g.stack.map fun v => v.category).sum ≤ W9 → A.U.methodNamed? y = some mk → Pre A a →
    (∃ (v : Option Value) (B : Pt), Stand p l e R s m sargs below meth c B.U B.locs B.cells B.slots ∧ Post A a v B ∧
      Steps p.tables e below (doInvoke e (A.U.setTop g) [] mk a).1 (B.U.setTop { g with pc := g.pc + len, stack := v.toList ++ g.stack })) ∨
    (∃ (q : Addr) (B : Pt), Stand p l e R s m sargs below meth c B.U B.locs B.cells B.slots ∧ PostX A a q B ∧
      Steps p.tables e below (doInvoke e (A.U.setTop g) [] mk a).1 ((B.U.setTop g).pushFrame (.throwing q)))
section Payer
variable {l : Launch} {R : Room} {p : Program} {e : Env} {below : List Frame} {s : State} {sargs : Array Value} {y : MethodName} {len W9 : Nat}
theorem vx_back {ws : List Cond} {rm : Room} {Pc : Array Value → State → Prop} {Qc : Array Value → State → Outcome → State → Prop} {XC : String → State → State → Prop} {mc ms : Nat} {free : Addr → Prop} {bytes : ByteArray} {maxL : Nat} {ret : Option FieldType}
    (hM : vx_Met l y ws rm Pc Qc XC mc ms free) (hblind : FrameBlind Pc) (hrc : rm.cells = mc) (hrs : rm.slots = ms)
    (hframes : rm.frames + 1 ≤ R.frames) (hlocals : W9 + (maxL + 11) + rm.locals ≤ R.locals)
    (hws : ∀ w ∈ ws, ∀ a' U, s.WarmedH U.vm → w.before a' U = true) (hcode : Cond.code y bytes maxL ret ∈ ws) (hinit : ∀ a' U, s.WarmedH U.vm → (Cond.initialized y.cls).before a' U = true) :
    vx_Back l R p e below s sargs y len W9 (PreOf R mc ms Pc) (PostOf Qc mc ms free) (vx_Post XC mc ms free) := by
  intro m meth c A g ig mk a X hg hsize hdg hW hn hp
  have h1 : (headSpec ws rm).pre.before a A.U = true := atoms_intro fun w hw => hws w hw _ _ X.warmed
  have h2 : (Cond.code y bytes maxL ret).before a A.U = true := hws _ hcode _ _ X.warmed
  have h3 : (Cond.initialized y.cls).before a A.U = true := hinit _ _ X.warmed
  have h4 : A.cells + (headSpec ws rm).room.cells ≤ R.cells := by rw [show (headSpec ws rm).room.cells = mc from hrc]; exact hp.1
  have h5 : A.slots + (headSpec ws rm).room.slots ≤ R.slots := by rw [show (headSpec ws rm).room.slots = ms from hrs]; exact hp.2.1
  have hPc : Pc a (A.U.calling g mk a) := hblind _ _ _ _ hp.2.2
  obtain ⟨U, Ls, c0, s0⟩ := A
  dsimp only [Pt.U, Pt.locs, Pt.cells, Pt.slots] at h1 h2 h3 h4 h5 X hn hPc ⊢
  obtain ⟨methY, cY, hmY, hcY, -, hlY, -, -, -, -⟩ := Cond.code_spec hn h2
  obtain ⟨kY, hkY, -⟩ := className_of_methodNamed hn
  have hinitY : kY.init = .initialized := Cond.initialized_spec (findClass_of_methodNamed hn) hkY h3
  have h : At U g.method c below := by rw [hg]; exact X.here
  have hlocals9 : W9 + (maxL + 11) + (headSpec ws rm).room.locals ≤ R.locals := hlocals
  have happ : (headSpec ws rm).appliesLoose y e.platform (U.calling g mk a) = true :=
    Spec.appliesLoose_calling (g := g) h hdg hn hkY hinitY
      (X.room_calling (g := g) (R' := (headSpec ws rm).room) hsize hmY hcY hframes (by rw [hlY]; omega) h4 h5) h1
  obtain ⟨mid, hmid⟩ := h.above
  have hfr : (U.setTop g).frames = (.java g :: mid) ++ below := by rw [State.frames_setTop' g h.top, hmid]; rfl
  obtain ⟨o, s₂, hsteps, -, hend, hq⟩ := Steps.callFree hM p X.admits X.cas X.clock (acts := []) hfr happ hPc trivial
  have hq' : vx_Q Qc XC mc ms free a (U.calling g mk a) o s₂ := hq
  rw [State.frames_setTop' g h.top] at hend
  obtain ⟨g₀, hg0⟩ := Option.isSome_iff_exists.mp h.top
  obtain ⟨r, hr⟩ := State.topJava?_eq_some.mp hg0
  have hr' : (({ U with heap := s₂.heap, slotsUsed := s₂.slotsUsed } : State).setVm s₂.vm).frames = .java g₀ :: r := hr
  rcases hq' with ⟨hqc, L, hfe, hL⟩ | ⟨q, rfl, E, ce, L, hx, hce, hcv, hcl, hW₂, hsm, hL⟩
  · obtain ⟨⟨v, rfl⟩, hW₂, e2, q2, q3, q4, q5, q6⟩ := id hfe
    have e3 : s₂ = ({ (U.calling g mk a).setFrames s₂.frames with heap := s₂.heap, slotsUsed := s₂.slotsUsed } : State).setVm s₂.vm := by
      have : s₂ = ({ s₂ with vm := (U.calling g mk a).vm } : State).setVm s₂.vm := rfl
      rw [e2] at this
      exact this
    obtain ⟨c₂, i₂, len₂, hc₂, hd₂, hf₂⟩ := hend
    have hW' : U.WarmedH s₂.vm := hW₂
    have hcc : c₂ = c := by
      have h1 : s₂.code? g.method = U.code? g.method := by
        rw [State.code?_eq, State.code?_eq, hW'.alike.method?]
      exact Option.some.inj (hc₂.symm.trans (h1.trans h.code))
    subst hcc
    have hlen : len₂ = len := by rw [hdg] at hd₂; cases hd₂; rfl
    subst hlen
    have hs₂ : s₂ = (({ U with heap := s₂.heap, slotsUsed := s₂.slotsUsed } : State).setVm s₂.vm).setTop { g with pc := g.pc + len₂, stack := v.toList ++ g.stack } := by
      refine e3.trans ?_
      rw [hf₂, State.calling_eq h.top, State.setFrames_setFrames, State.setTop_of_frames _ hr', hr]
      rfl
    have hsame : U.sameButNew ({ U with heap := s₂.heap, slotsUsed := s₂.slotsUsed } : State) L mc ms := by
      refine ⟨?_, q2, q3, q4, q5, q6⟩
      obtain ⟨t, ht, -⟩ := State.frames_cons hr
      show ({ U with heap := s₂.heap, slotsUsed := s₂.slotsUsed } : State) = { U.setFrames U.frames with heap := s₂.heap, slotsUsed := s₂.slotsUsed }
      rw [State.setFrames_self ht]
    subst hg
    refine Or.inl ⟨v, ⟨(({ U with heap := s₂.heap, slotsUsed := s₂.slotsUsed } : State).setVm s₂.vm), Ls ++ L, c0 + mc, s0 + ms⟩,
      ⟨X.admits, X.cas, X.clock, X.frames, X.room, X.hears, X.method, X.code, (X.here.setHeapUsed s₂.heap s₂.slotsUsed).setVm hW'.alike, X.tail, State.WarmedH.trans X.warmed hW', X.limits, X.bytes, X.same.trans (hsame.setVm s.vm)⟩,
      ⟨g, mk, s₂, L, rfl, rfl, hqc, rfl, hL, rfl, rfl⟩, ?_⟩
    show Steps p.tables e below _ ((({ U with heap := s₂.heap, slotsUsed := s₂.slotsUsed } : State).setVm s₂.vm).setTop { g with pc := g.pc + len₂, stack := v.toList ++ g.stack })
    rw [← hs₂]
    exact hsteps
  · obtain ⟨e2, q2, q3, q4, q5, q6⟩ := id hsm
    have e3 : s₂ = ({ (U.calling g mk a).setFrames s₂.frames with heap := s₂.heap, slotsUsed := s₂.slotsUsed } : State).setVm s₂.vm := by
      have : s₂ = ({ s₂ with vm := (U.calling g mk a).vm } : State).setVm s₂.vm := rfl
      rw [e2] at this
      exact this
    have hf₂ : s₂.frames = .throwing q :: .java g :: U.frames.tail := hend
    have hW' : U.WarmedH s₂.vm := hW₂
    have hs₂ : s₂ = ((({ U with heap := s₂.heap, slotsUsed := s₂.slotsUsed } : State).setVm s₂.vm).setTop g).pushFrame (.throwing q) := by
      refine e3.trans ?_
      rw [hf₂, State.calling_eq h.top, State.setFrames_setFrames, State.pushFrame, State.frames_setTop _ hr', State.setTop_of_frames _ hr', State.setFrames_setFrames, hr]
      rfl
    have hsame : U.sameButNew ({ U with heap := s₂.heap, slotsUsed := s₂.slotsUsed } : State) L mc ms := by
      refine ⟨?_, q2, q3, q4, q5, q6⟩
      obtain ⟨t, ht, -⟩ := State.frames_cons hr
      show ({ U with heap := s₂.heap, slotsUsed := s₂.slotsUsed } : State) = { U.setFrames U.frames with heap := s₂.heap, slotsUsed := s₂.slotsUsed }
      rw [State.setFrames_self ht]
    subst hg
    refine Or.inr ⟨q, ⟨(({ U with heap := s₂.heap, slotsUsed := s₂.slotsUsed } : State).setVm s₂.vm), Ls ++ L, c0 + mc, s0 + ms⟩,
      ⟨X.admits, X.cas, X.clock, X.frames, X.room, X.hears, X.method, X.code, (X.here.setHeapUsed s₂.heap s₂.slotsUsed).setVm hW'.alike, X.tail, State.WarmedH.trans X.warmed hW', X.limits, X.bytes, X.same.trans (hsame.setVm s.vm)⟩,
      ⟨g, mk, s₂, L, E, ce, rfl, rfl, hx, hce, hcv, hcl, rfl, hL, rfl, rfl⟩, ?_⟩
    show Steps p.tables e below _ (((({ U with heap := s₂.heap, slotsUsed := s₂.slotsUsed } : State).setVm s₂.vm).setTop g).pushFrame (.throwing q))
    rw [← hs₂]
    exact hsteps
end Payer
section Calls
variable {p : Program} {l : Launch} {e : Env} {R : Room} {s : State} {m : MethodId} {args : Array Value} {below : List Frame} {meth : Method} {c : Code} {T : State} {locs : List Loc} {cells slots : Nat}
theorem vx_callV (X : Stand p l e R s m args below meth c T locs cells slots) (hexec : p.tables.exec = Jvm.exec) {own C : String} {index : Nat} {y : MethodName} {bytes : ByteArray} {maxL : Nat} {ret : Option FieldType}
    (hown : s.vm.findClass own = some m.cls) (hlink : (Cond.methodLink own index y).before args s = true) (hinst : (Cond.instanceMethod y).before args s = true) (hsel : (Cond.selects C y y).before args s = true)
    (hcode : (Cond.code y bytes maxL ret).before args s = true) (hy : y.cls ≠ "java/lang/invoke/MethodHandle" ∧ y.cls ≠ "java/lang/invoke/VarHandle")
    {W9 : Nat} {Pre : Pt → Array Value → Prop} {Post : Pt → Array Value → Option Value → Pt → Prop} {PostX : Pt → Array Value → Addr → Pt → Prop} (hK : vx_Back l R p e below s args y 3 W9 Pre Post PostX)
    {b : Addr} {cellB : Cell} (hcell : T.heap[b]? = some cellB) (hobj : cellB.vm.isStatics = false) (hcls : s.vm.findClass C = some cellB.cls)
    {g : JFrame} (hg : g.method = m) (hsize : g.locals.size = c.maxLocals) {argsL rest : List Value} (hlen : ∀ sig, parseMethodDescriptor y.desc = some sig → argsL.length = sig.parameters.length)
    (hstack : g.stack = argsL.reverse ++ .ref b :: rest) (hW : 2 * g.monitorRoom + (rest.map fun v => v.category).sum ≤ W9) (hdg : decode c.code g.pc = .ok (.invokevirtual index, 3))
    (hpre : ∀ vm₁, s.WarmedH vm₁ → Pre ⟨T.setVm vm₁, locs, cells, slots⟩ (Value.ref b :: argsL).toArray) :
    (∃ (v : Option Value) (vm₁ : Vm) (B : Pt), s.WarmedH vm₁ ∧ Stand p l e R s m args below meth c B.U B.locs B.cells B.slots ∧ Post ⟨T.setVm vm₁, locs, cells, slots⟩ (Value.ref b :: argsL).toArray v B ∧
      ∀ target, Steps p.tables e below (B.U.setTop { g with pc := g.pc + 3, stack := v.toList ++ rest }) target → Steps p.tables e below (T.setTop g) target) ∨
    (∃ (q : Addr) (vm₁ : Vm) (B : Pt), s.WarmedH vm₁ ∧ Stand p l e R s m args below meth c B.U B.locs B.cells B.slots ∧ PostX ⟨T.setVm vm₁, locs, cells, slots⟩ (Value.ref b :: argsL).toArray q B ∧
      Steps p.tables e below (T.setTop g) ((B.U.setTop { g with stack := rest }).pushFrame (.throwing q))) := by
  obtain ⟨mk, methM, hnamed, hmethM, hstM, habM⟩ := Cond.instanceMethod_spec hinst
  obtain ⟨methM', cM, hmethM', -, -, -, -, -, -, hsigM⟩ := Cond.code_spec hnamed hcode
  cases hmethM.symm.trans hmethM'
  obtain ⟨c2, r2, m2, q1, q2, q3, q4, kP, hkP, hkPi⟩ := Cond.selects_spec hsel
  cases hcls.symm.trans q1
  cases (State.methodFound?_of_named hnamed hy).symm.trans q2
  cases hnamed.symm.trans q3
  have hselP : selectMethod e.platform s.vm cellB.cls mk = .method mk := by rw [Launch.admits_selectMethod X.admits]; exact q4
  obtain ⟨vm₁, X₁, hstep₁⟩ := X.invokevirtual hexec hown hlink hnamed hmethM hstM hkP hkPi hy (a := b) (cell := cellB) hcell
    (fun z h => by rw [h] at hobj; cases hobj) hselP hmethM habM hkP hkPi (g := g) hg (argsL := argsL) (rest := rest) (hlen _ hsigM) hstack hdg
  rcases hK m meth c ⟨T.setVm vm₁, locs, cells, slots⟩ { g with stack := rest } (.invokevirtual index) mk (Value.ref b :: argsL).toArray X₁ hg hsize hdg hW (X₁.named hnamed) (hpre vm₁ X₁.warmed) with ⟨v, B, X', hpost, hsteps⟩ | ⟨q, B, X', hpost, hsteps⟩
  · exact Or.inl ⟨v, vm₁, B, X₁.warmed, X', hpost, fun target h => hstep₁ _ fun acts => by rw [doInvoke_state]; exact hsteps.trans h⟩
  · exact Or.inr ⟨q, vm₁, B, X₁.warmed, X', hpost, hstep₁ _ fun acts => by rw [doInvoke_state]; exact hsteps⟩
theorem vx_callS (X : Stand p l e R s m args below meth c T locs cells slots) (hexec : p.tables.exec = Jvm.exec) {own : String} {index : Nat} {y : MethodName} {bytes : ByteArray} {maxL : Nat} {ret : Option FieldType}
    (hown : s.vm.findClass own = some m.cls) (hlink : (Cond.methodLink own index y).before args s = true) (hstat : (Cond.static y).before args s = true) (hinit : (Cond.initialized y.cls).before args s = true)
    (hcode : (Cond.code y bytes maxL ret).before args s = true) (hy : y.cls ≠ "java/lang/invoke/MethodHandle" ∧ y.cls ≠ "java/lang/invoke/VarHandle")
    {W9 : Nat} {Pre : Pt → Array Value → Prop} {Post : Pt → Array Value → Option Value → Pt → Prop} {PostX : Pt → Array Value → Addr → Pt → Prop} (hK : vx_Back l R p e below s args y 3 W9 Pre Post PostX)
    {g : JFrame} (hg : g.method = m) (hsize : g.locals.size = c.maxLocals) {argsL rest : List Value} (hlen : ∀ sig, parseMethodDescriptor y.desc = some sig → argsL.length = sig.parameters.length)
    (hstack : g.stack = argsL.reverse ++ rest) (hW : 2 * g.monitorRoom + (rest.map fun v => v.category).sum ≤ W9) (hdg : decode c.code g.pc = .ok (.invokestatic index, 3))
    (hpre : ∀ vm₁, s.WarmedH vm₁ → Pre ⟨T.setVm vm₁, locs, cells, slots⟩ argsL.toArray) :
    (∃ (v : Option Value) (vm₁ : Vm) (B : Pt), s.WarmedH vm₁ ∧ Stand p l e R s m args below meth c B.U B.locs B.cells B.slots ∧ Post ⟨T.setVm vm₁, locs, cells, slots⟩ argsL.toArray v B ∧
      ∀ target, Steps p.tables e below (B.U.setTop { g with pc := g.pc + 3, stack := v.toList ++ rest }) target → Steps p.tables e below (T.setTop g) target) ∨
    (∃ (q : Addr) (vm₁ : Vm) (B : Pt), s.WarmedH vm₁ ∧ Stand p l e R s m args below meth c B.U B.locs B.cells B.slots ∧ PostX ⟨T.setVm vm₁, locs, cells, slots⟩ argsL.toArray q B ∧
      Steps p.tables e below (T.setTop g) ((B.U.setTop { g with stack := rest }).pushFrame (.throwing q))) := by
  obtain ⟨mk, hnamed⟩ := Cond.code_named hcode
  obtain ⟨methM, cM, hmethM, -, -, -, -, -, -, hsigM⟩ := Cond.code_spec hnamed hcode
  have hstatic : methM.isStatic = true := Cond.static_spec hnamed hmethM hstat
  obtain ⟨kP, hkP, -⟩ := className_of_methodNamed hnamed
  have hinitP : kP.init = .initialized := Cond.initialized_spec (findClass_of_methodNamed hnamed) hkP hinit
  obtain ⟨vm₁, X₁, hstep₁⟩ := X.invokestatic hexec hown hlink hnamed hmethM hstatic hkP hinitP hy (g := g) hg (argsL := argsL) (rest := rest) (hlen _ hsigM) hstack hdg
  rcases hK m meth c ⟨T.setVm vm₁, locs, cells, slots⟩ { g with stack := rest } (.invokestatic index) mk argsL.toArray X₁ hg hsize hdg hW (X₁.named hnamed) (hpre vm₁ X₁.warmed) with ⟨v, B, X', hpost, hsteps⟩ | ⟨q, B, X', hpost, hsteps⟩
  · exact Or.inl ⟨v, vm₁, B, X₁.warmed, X', hpost, fun target h => hstep₁ _ fun acts => by rw [doInvoke_state]; exact hsteps.trans h⟩
  · exact Or.inr ⟨q, vm₁, B, X₁.warmed, X', hpost, hstep₁ _ fun acts => by rw [doInvoke_state]; exact hsteps⟩
end Calls
theorem vx_cls {s : State} {T : State} {vm₁ : Vm} {E : String} {k : ClassId} (hW : s.WarmedH vm₁) (h : (T.setVm vm₁).vm.findClass E = some k) : s.vm.findClass E = some k := by
  have h1 : vm₁.findClass E = some k := h
  rw [hW.alike.findClass] at h1
  exact h1
/-- the method's frame g, with q thrown over it -/
def vx_W (p : Program) (l : Launch) (e : Env) (R : Room) (s : State) (m : MethodId) (args : Array Value) (below : List Frame) (meth : Method) (c : Code) (H : Heap) (locs : List Loc) (cells slots : Nat) (Q : State → Prop) (g : JFrame) (q : Addr) : Prop :=
  ∀ T : State, T.heap = H → Stand p l e R s m args below meth c T locs cells slots → ∃ t, Steps p.tables e below ((T.setTop g).pushFrame (.throwing q)) t ∧ Q t
def vx_Run (p : Program) (l : Launch) (e : Env) (R : Room) (s : State) (m : MethodId) (args : Array Value) (below : List Frame) (meth : Method) (c : Code) (H : Heap) (locs : List Loc) (cells slots mc ms : Nat) (g : JFrame) (rest : List Value) (Qa : State → Outcome → State → Prop) (XC : String → State → State → Prop) (free : Addr → Prop) : Prop :=
  ∀ T : State, T.heap = H → Stand p l e R s m args below meth c T locs cells slots →
    (∃ (v : Option Value) (st₀ t T' : State) (L : List Loc), st₀.heap = H ∧ Stand p l e R s m args below meth c T' (locs ++ L) (cells + mc) (slots + ms) ∧ (∀ q ∈ L, free q.base) ∧ T'.heap = t.heap ∧ T'.vm = t.vm ∧ Qa st₀ (.returned v) t ∧
      Goes p e below T g T' { g with pc := g.pc + 3, stack := v.toList ++ rest }) ∨
    (∃ (q : Addr) (st₀ t T' : State) (L : List Loc) (E : String) (ce : Cell), st₀.heap = H ∧ Stand p l e R s m args below meth c T' (locs ++ L) (cells + mc) (slots + ms) ∧ (∀ z ∈ L, free z.base) ∧ T'.heap = t.heap ∧ T'.vm = t.vm ∧ XC E st₀ t ∧ t.heap[q]? = some ce ∧ ce.vm = .none ∧ s.vm.findClass E = some ce.cls ∧
      Steps p.tables e below (T.setTop g) ((T'.setTop { g with stack := rest }).pushFrame (.throwing q)))
def vx_X {S : Type} (px : S → Prop) (B : String → S → State → Prop) (A : Nat → Prop) : String → State → State → Prop := fun E st t => ∃ u : S, px u ∧ B E u t ∧ va_F A st t
section Runs
variable {p : Program} {l : Launch} {e : Env} {R : Room} {s : State} {m : MethodId} {args : Array Value} {below : List Frame} {meth : Method} {c : Code} {H : Heap} {locs : List Loc} {cells slots : Nat}
variable {y : MethodName} {bytes cc : ByteArray} {maxL nL mc ms n index : Nat} {ret : Option FieldType} {ws : List Cond} {rm : Room} {Pc : Array Value → State → Prop} {Qc : Array Value → State → Outcome → State → Prop} {XC : String → State → State → Prop} {free : Addr → Prop} {Ts : List Cond} {own C : String} {b : Addr} {As rest : List Value} {g : JFrame}
theorem vx_callBack (cb : CallB R s args own index y bytes maxL ret ws rm mc ms n) (hM : vx_Met l y ws rm Pc Qc XC mc ms free) (hbl : FrameBlind Pc) : vx_Back l R p e below s args y 3 8 (PreOf R mc ms Pc) (PostOf Qc mc ms free) (vx_Post XC mc ms free) := by
  obtain ⟨hrc, hrs, hfr, hlo, hws, hcw, -, hini, -⟩ := cb
  exact vx_back (bytes := bytes) (maxL := maxL) (ret := ret) hM hbl hrc hrs hfr hlo hws hcw (fun a' U hW => word_at hW (Or.inl (by first | rfl | simp [Cond.onTables, Cond.keeps, Cond.steady])) hini)
theorem vx_runV (S : CallFix p m c cc nL s args Ts own) (hM : vx_Met l y ws rm Pc Qc XC mc ms free) (cw : CallW R s args own C index y bytes maxL ret ws rm mc ms n) (hp : PreV s H C b Pc As)
    (hg : g.method = m) (hn : As.length = n) (hsize : g.locals.size = nL) (hstack : g.stack = As.reverse ++ .ref b :: rest) (hW : 2 * g.monitorRoom + (rest.map fun v => v.category).sum ≤ 8) (hdg : decode cc g.pc = .ok (.invokevirtual index, 3)) (hf : cells + mc ≤ R.cells ∧ slots + ms ≤ R.slots) :
    vx_Run p l e R s m args below meth c H locs cells slots mc ms g rest (Qc (Value.ref b :: As).toArray) XC free := by
  have hK : vx_Back l R p e below s args y 3 8 (PreOf R mc ms Pc) (PostOf Qc mc ms free) (vx_Post XC mc ms free) := vx_callBack cw.1 hM hp.1
  obtain ⟨⟨-, -, -, -, -, -, hcode, -, hy, hlen, hl⟩, hin, hse⟩ := cw
  obtain ⟨hx, hb, hml, ho, -⟩ := S
  obtain ⟨-, ⟨cellB, hcB, hoB, hclB⟩, hPc⟩ := hp
  intro T hT X
  rcases vx_callV X hx (C := C) (bytes := bytes) (maxL := maxL) (ret := ret) ho hl hin hse hcode hy hK (by rw [hT]; exact hcB) hoB hclB hg (hsize.trans hml.symm) (argsL := As) (rest := rest) (fun sig h => hn.trans (hlen sig h)) hstack hW (by rw [hb]; exact hdg)
    (fun vm₁ hW₁ => ⟨hf.1, hf.2, hPc (T.setVm vm₁) hT hW₁⟩) with ⟨v, vm₁, ⟨U', l2, c2, s2⟩, hW₁, X', ⟨g', mk, t, L, e1, e2, hq, h1, hL, h2, h3⟩, st⟩ | ⟨q, vm₁, ⟨U', l2, c2, s2⟩, hW₁, X', ⟨g', mk, t, L, E, ce, e1, e2, hq, hce, hcv, hcl, h1, hL, h2, h3⟩, st⟩
  · dsimp only [Pt.U, Pt.locs, Pt.cells, Pt.slots] at X' e1 e2 h1 h2 h3 st
    subst h1; subst h2; subst h3
    exact Or.inl ⟨v, (T.setVm vm₁).calling g' mk (Value.ref b :: As).toArray, t, U', L, hT, X', hL, e1, e2, hq, st⟩
  · dsimp only [Pt.U, Pt.locs, Pt.cells, Pt.slots] at X' e1 e2 h1 h2 h3 st hcl
    subst h1; subst h2; subst h3
    exact Or.inr ⟨q, (T.setVm vm₁).calling g' mk (Value.ref b :: As).toArray, t, U', L, E, ce, hT, X', hL, e1, e2, hq, hce, hcv, vx_cls hW₁ hcl, st⟩
theorem vx_runS (S : CallFix p m c cc nL s args Ts own) (hM : vx_Met l y ws rm Pc Qc XC mc ms free) (cw : CallB R s args own index y bytes maxL ret ws rm mc ms n ∧ (Cond.static y).before args s = true) (hp : PreS s H Pc As)
    (hg : g.method = m) (hn : As.length = n) (hsize : g.locals.size = nL) (hstack : g.stack = As.reverse ++ rest) (hW : 2 * g.monitorRoom + (rest.map fun v => v.category).sum ≤ 8) (hdg : decode cc g.pc = .ok (.invokestatic index, 3)) (hf : cells + mc ≤ R.cells ∧ slots + ms ≤ R.slots) :
    vx_Run p l e R s m args below meth c H locs cells slots mc ms g rest (Qc As.toArray) XC free := by
  have hK : vx_Back l R p e below s args y 3 8 (PreOf R mc ms Pc) (PostOf Qc mc ms free) (vx_Post XC mc ms free) := vx_callBack cw.1 hM hp.1
  obtain ⟨⟨-, -, -, -, -, -, hcode, hini, hy, hlen, hl⟩, hstt⟩ := cw
  obtain ⟨hx, hb, hml, ho, -⟩ := S
  intro T hT X
  rcases vx_callS X hx (bytes := bytes) (maxL := maxL) (ret := ret) ho hl hstt hini hcode hy hK hg (hsize.trans hml.symm) (argsL := As) (rest := rest) (fun sig h => hn.trans (hlen sig h)) hstack hW (by rw [hb]; exact hdg)
    (fun vm₁ hW₁ => ⟨hf.1, hf.2, hp.2 (T.setVm vm₁) hT hW₁⟩) with ⟨v, vm₁, ⟨U', l2, c2, s2⟩, hW₁, X', ⟨g', mk, t, L, e1, e2, hq, h1, hL, h2, h3⟩, st⟩ | ⟨q, vm₁, ⟨U', l2, c2, s2⟩, hW₁, X', ⟨g', mk, t, L, E, ce, e1, e2, hq, hce, hcv, hcl, h1, hL, h2, h3⟩, st⟩
  · dsimp only [Pt.U, Pt.locs, Pt.cells, Pt.slots] at X' e1 e2 h1 h2 h3 st
    subst h1; subst h2; subst h3
    exact Or.inl ⟨v, (T.setVm vm₁).calling g' mk As.toArray, t, U', L, hT, X', hL, e1, e2, hq, st⟩
  · dsimp only [Pt.U, Pt.locs, Pt.cells, Pt.slots] at X' e1 e2 h1 h2 h3 st hcl
    subst h1; subst h2; subst h3
    exact Or.inr ⟨q, (T.setVm vm₁).calling g' mk As.toArray, t, U', L, E, ce, hT, X', hL, e1, e2, hq, hce, hcv, vx_cls hW₁ hcl, st⟩
end Runs
section Rows
variable {p : Program} {l : Launch} {e : Env} {R : Room} {s : State} {m : MethodId} {args : Array Value} {below : List Frame} {meth : Method} {c : Code} {H : Heap} {locs : List Loc} {cells slots : Nat} {Q : State → Prop}
variable {mc ms : Nat} {free : Addr → Prop} {A0 A1 : Nat → Prop} {H0 : Heap} {a : Array Value} {pc : Nat} {ls : Array Slot} {st0 rest : List Value}
theorem vx_keep {st₀ t T' : State} {L : List Loc} (h0 : st₀.heap = H) (e1 : T'.heap = t.heap) (hS : va_S A0 H0 H locs) (hA : ∀ q, q < H.size → A1 q → A0 q) (hf : ∀ q, free q → A0 q) (hL : ∀ q ∈ L, free q.base) (hF : va_F A1 st₀ t) :
    H.size ≤ T'.heap.size ∧ (∀ q : Nat, q < H.size → ¬ A1 q → T'.heap[q]? = H[q]?) ∧ va_S A0 H0 T'.heap (locs ++ L) := by
  obtain ⟨hz, hk⟩ := hF
  rw [h0] at hz hk
  exact ⟨by rw [e1]; exact hz, fun q h1 h2 => by rw [e1]; exact hk q h1 h2,
    ⟨Nat.le_trans hS.1 (by rw [e1]; exact hz), fun q h1 h2 => by rw [e1, hk q (Nat.lt_of_lt_of_le h1 hS.1) (fun z => h2 (hA q (Nat.lt_of_lt_of_le h1 hS.1) z))]; exact hS.2.1 q h1 h2, fun q hq => by
      rcases List.mem_append.mp hq with h | h
      · exact hS.2.2 q h
      · exact hf _ (hL q h)⟩⟩
theorem vx_calli {S SX : Type} {post : Int32 → S → Prop} {px : SX → Prop} {B : S → State → Prop} {BX : String → SX → State → Prop} {AX : Nat → Prop} (hr : vx_Run p l e R s m args below meth c H locs cells slots mc ms (F0 m pc ls st0) rest (va_Qi post B A1 a) (vx_X px BX AX) free) (hS : va_S A0 H0 H locs) (hA : ∀ q, q < H.size → A1 q → A0 q) (hf : ∀ q, free q → A0 q) (hAX : ∀ q, q < H.size → AX q → A0 q)
    (kx : ∀ (E : String) (ce : Cell) (q9 : Addr) (u : SX) (t : State) (H1 : Heap) (locs1 : List Loc), t.heap = H1 → s.vm.Alike t.vm → px u → BX E u t → H.size ≤ H1.size → (∀ q : Nat, q < H.size → ¬ AX q → H1[q]? = H[q]?) → va_S A0 H0 H1 locs1 → H1[q9]? = some ce → ce.vm = .none → s.vm.findClass E = some ce.cls → vx_W p l e R s m args below meth c H1 locs1 (cells + mc) (slots + ms) Q (F0 m pc ls rest) q9)
    (kk : ∀ (r : Int32) (u : S) (t : State) (H1 : Heap) (locs1 : List Loc), t.heap = H1 → s.vm.Alike t.vm → post r u → B u t → H.size ≤ H1.size → (∀ q : Nat, q < H.size → ¬ A1 q → H1[q]? = H[q]?) → va_S A0 H0 H1 locs1 → W p l e R s m args below meth c H1 locs1 (cells + mc) (slots + ms) Q (F0 m (pc + 3) ls (.int r :: rest))) : W p l e R s m args below meth c H locs cells slots Q (F0 m pc ls st0) := by
  intro T hT X
  rcases hr T hT X with ⟨v, st₀, t, T', L, h0, X', hL, e1, e2, ⟨⟨r, u, hv, hp, hb⟩, hF⟩, st⟩ | ⟨q, st₀, t, T', L, E, ce, h0, X', hL, e1, e2, ⟨u, hp, hb, hF⟩, hce, hcv, hcl, st⟩
  · cases hv
    obtain ⟨k1, k2, k3⟩ := vx_keep h0 e1 hS hA hf hL hF
    obtain ⟨t2, a1, b1⟩ := kk r u t T'.heap (locs ++ L) e1.symm (by rw [← e2]; exact X'.warmed.alike) hp hb k1 k2 k3 T' rfl X'
    exact ⟨t2, st t2 a1, b1⟩
  · obtain ⟨k1, k2, k3⟩ := vx_keep h0 e1 hS hAX hf hL hF
    obtain ⟨t2, a1, b1⟩ := kx E ce q u t T'.heap (locs ++ L) e1.symm (by rw [← e2]; exact X'.warmed.alike) hp hb k1 k2 k3 (by rw [e1]; exact hce) hcv hcl T' rfl X'
    exact ⟨t2, st.trans a1, b1⟩
theorem vx_calll {S SX : Type} {post : Int64 → S → Prop} {px : SX → Prop} {B : S → State → Prop} {BX : String → SX → State → Prop} {AX : Nat → Prop} (hr : vx_Run p l e R s m args below meth c H locs cells slots mc ms (F0 m pc ls st0) rest (va_Ql post B A1 a) (vx_X px BX AX) free) (hS : va_S A0 H0 H locs) (hA : ∀ q, q < H.size → A1 q → A0 q) (hf : ∀ q, free q → A0 q) (hAX : ∀ q, q < H.size → AX q → A0 q)
    (kx : ∀ (E : String) (ce : Cell) (q9 : Addr) (u : SX) (t : State) (H1 : Heap) (locs1 : List Loc), t.heap = H1 → s.vm.Alike t.vm → px u → BX E u t → H.size ≤ H1.size → (∀ q : Nat, q < H.size → ¬ AX q → H1[q]? = H[q]?) → va_S A0 H0 H1 locs1 → H1[q9]? = some ce → ce.vm = .none → s.vm.findClass E = some ce.cls → vx_W p l e R s m args below meth c H1 locs1 (cells + mc) (slots + ms) Q (F0 m pc ls rest) q9)
    (kk : ∀ (r : Int64) (u : S) (t : State) (H1 : Heap) (locs1 : List Loc), t.heap = H1 → s.vm.Alike t.vm → post r u → B u t → H.size ≤ H1.size → (∀ q : Nat, q < H.size → ¬ A1 q → H1[q]? = H[q]?) → va_S A0 H0 H1 locs1 → W p l e R s m args below meth c H1 locs1 (cells + mc) (slots + ms) Q (F0 m (pc + 3) ls (.long r :: rest))) : W p l e R s m args below meth c H locs cells slots Q (F0 m pc ls st0) := by
  intro T hT X
  rcases hr T hT X with ⟨v, st₀, t, T', L, h0, X', hL, e1, e2, ⟨⟨r, u, hv, hp, hb⟩, hF⟩, st⟩ | ⟨q, st₀, t, T', L, E, ce, h0, X', hL, e1, e2, ⟨u, hp, hb, hF⟩, hce, hcv, hcl, st⟩
  · cases hv
    obtain ⟨k1, k2, k3⟩ := vx_keep h0 e1 hS hA hf hL hF
    obtain ⟨t2, a1, b1⟩ := kk r u t T'.heap (locs ++ L) e1.symm (by rw [← e2]; exact X'.warmed.alike) hp hb k1 k2 k3 T' rfl X'
    exact ⟨t2, st t2 a1, b1⟩
  · obtain ⟨k1, k2, k3⟩ := vx_keep h0 e1 hS hAX hf hL hF
    obtain ⟨t2, a1, b1⟩ := kx E ce q u t T'.heap (locs ++ L) e1.symm (by rw [← e2]; exact X'.warmed.alike) hp hb k1 k2 k3 (by rw [e1]; exact hce) hcv hcl T' rfl X'
    exact ⟨t2, st.trans a1, b1⟩
theorem vx_callf {S SX : Type} {post : UInt32 → S → Prop} {px : SX → Prop} {B : S → State → Prop} {BX : String → SX → State → Prop} {AX : Nat → Prop} (hr : vx_Run p l e R s m args below meth c H locs cells slots mc ms (F0 m pc ls st0) rest (va_Qf post B A1 a) (vx_X px BX AX) free) (hS : va_S A0 H0 H locs) (hA : ∀ q, q < H.size → A1 q → A0 q) (hf : ∀ q, free q → A0 q) (hAX : ∀ q, q < H.size → AX q → A0 q)
    (kx : ∀ (E : String) (ce : Cell) (q9 : Addr) (u : SX) (t : State) (H1 : Heap) (locs1 : List Loc), t.heap = H1 → s.vm.Alike t.vm → px u → BX E u t → H.size ≤ H1.size → (∀ q : Nat, q < H.size → ¬ AX q → H1[q]? = H[q]?) → va_S A0 H0 H1 locs1 → H1[q9]? = some ce → ce.vm = .none → s.vm.findClass E = some ce.cls → vx_W p l e R s m args below meth c H1 locs1 (cells + mc) (slots + ms) Q (F0 m pc ls rest) q9)
    (kk : ∀ (r : UInt32) (u : S) (t : State) (H1 : Heap) (locs1 : List Loc), t.heap = H1 → s.vm.Alike t.vm → post r u → B u t → H.size ≤ H1.size → (∀ q : Nat, q < H.size → ¬ A1 q → H1[q]? = H[q]?) → va_S A0 H0 H1 locs1 → W p l e R s m args below meth c H1 locs1 (cells + mc) (slots + ms) Q (F0 m (pc + 3) ls (.float r :: rest))) : W p l e R s m args below meth c H locs cells slots Q (F0 m pc ls st0) := by
  intro T hT X
  rcases hr T hT X with ⟨v, st₀, t, T', L, h0, X', hL, e1, e2, ⟨⟨r, u, hv, hp, hb⟩, hF⟩, st⟩ | ⟨q, st₀, t, T', L, E, ce, h0, X', hL, e1, e2, ⟨u, hp, hb, hF⟩, hce, hcv, hcl, st⟩
  · cases hv
    obtain ⟨k1, k2, k3⟩ := vx_keep h0 e1 hS hA hf hL hF
    obtain ⟨t2, a1, b1⟩ := kk r u t T'.heap (locs ++ L) e1.symm (by rw [← e2]; exact X'.warmed.alike) hp hb k1 k2 k3 T' rfl X'
    exact ⟨t2, st t2 a1, b1⟩
  · obtain ⟨k1, k2, k3⟩ := vx_keep h0 e1 hS hAX hf hL hF
    obtain ⟨t2, a1, b1⟩ := kx E ce q u t T'.heap (locs ++ L) e1.symm (by rw [← e2]; exact X'.warmed.alike) hp hb k1 k2 k3 (by rw [e1]; exact hce) hcv hcl T' rfl X'
    exact ⟨t2, st.trans a1, b1⟩
theorem vx_calld {S SX : Type} {post : UInt64 → S → Prop} {px : SX → Prop} {B : S → State → Prop} {BX : String → SX → State → Prop} {AX : Nat → Prop} (hr : vx_Run p l e R s m args below meth c H locs cells slots mc ms (F0 m pc ls st0) rest (va_Qd post B A1 a) (vx_X px BX AX) free) (hS : va_S A0 H0 H locs) (hA : ∀ q, q < H.size → A1 q → A0 q) (hf : ∀ q, free q → A0 q) (hAX : ∀ q, q < H.size → AX q → A0 q)
    (kx : ∀ (E : String) (ce : Cell) (q9 : Addr) (u : SX) (t : State) (H1 : Heap) (locs1 : List Loc), t.heap = H1 → s.vm.Alike t.vm → px u → BX E u t → H.size ≤ H1.size → (∀ q : Nat, q < H.size → ¬ AX q → H1[q]? = H[q]?) → va_S A0 H0 H1 locs1 → H1[q9]? = some ce → ce.vm = .none → s.vm.findClass E = some ce.cls → vx_W p l e R s m args below meth c H1 locs1 (cells + mc) (slots + ms) Q (F0 m pc ls rest) q9)
    (kk : ∀ (r : UInt64) (u : S) (t : State) (H1 : Heap) (locs1 : List Loc), t.heap = H1 → s.vm.Alike t.vm → post r u → B u t → H.size ≤ H1.size → (∀ q : Nat, q < H.size → ¬ A1 q → H1[q]? = H[q]?) → va_S A0 H0 H1 locs1 → W p l e R s m args below meth c H1 locs1 (cells + mc) (slots + ms) Q (F0 m (pc + 3) ls (.double r :: rest))) : W p l e R s m args below meth c H locs cells slots Q (F0 m pc ls st0) := by
  intro T hT X
  rcases hr T hT X with ⟨v, st₀, t, T', L, h0, X', hL, e1, e2, ⟨⟨r, u, hv, hp, hb⟩, hF⟩, st⟩ | ⟨q, st₀, t, T', L, E, ce, h0, X', hL, e1, e2, ⟨u, hp, hb, hF⟩, hce, hcv, hcl, st⟩
  · cases hv
    obtain ⟨k1, k2, k3⟩ := vx_keep h0 e1 hS hA hf hL hF
    obtain ⟨t2, a1, b1⟩ := kk r u t T'.heap (locs ++ L) e1.symm (by rw [← e2]; exact X'.warmed.alike) hp hb k1 k2 k3 T' rfl X'
    exact ⟨t2, st t2 a1, b1⟩
  · obtain ⟨k1, k2, k3⟩ := vx_keep h0 e1 hS hAX hf hL hF
    obtain ⟨t2, a1, b1⟩ := kx E ce q u t T'.heap (locs ++ L) e1.symm (by rw [← e2]; exact X'.warmed.alike) hp hb k1 k2 k3 (by rw [e1]; exact hce) hcv hcl T' rfl X'
    exact ⟨t2, st.trans a1, b1⟩
theorem vx_callv {S SX : Type} {post : S → Prop} {px : SX → Prop} {B : S → State → Prop} {BX : String → SX → State → Prop} {AX : Nat → Prop} (hr : vx_Run p l e R s m args below meth c H locs cells slots mc ms (F0 m pc ls st0) rest (va_Qv post B A1 a) (vx_X px BX AX) free) (hS : va_S A0 H0 H locs) (hA : ∀ q, q < H.size → A1 q → A0 q) (hf : ∀ q, free q → A0 q) (hAX : ∀ q, q < H.size → AX q → A0 q)
    (kx : ∀ (E : String) (ce : Cell) (q9 : Addr) (u : SX) (t : State) (H1 : Heap) (locs1 : List Loc), t.heap = H1 → s.vm.Alike t.vm → px u → BX E u t → H.size ≤ H1.size → (∀ q : Nat, q < H.size → ¬ AX q → H1[q]? = H[q]?) → va_S A0 H0 H1 locs1 → H1[q9]? = some ce → ce.vm = .none → s.vm.findClass E = some ce.cls → vx_W p l e R s m args below meth c H1 locs1 (cells + mc) (slots + ms) Q (F0 m pc ls rest) q9)
    (kk : ∀ (u : S) (t : State) (H1 : Heap) (locs1 : List Loc), t.heap = H1 → s.vm.Alike t.vm → post u → B u t → H.size ≤ H1.size → (∀ q : Nat, q < H.size → ¬ A1 q → H1[q]? = H[q]?) → va_S A0 H0 H1 locs1 → W p l e R s m args below meth c H1 locs1 (cells + mc) (slots + ms) Q (F0 m (pc + 3) ls (rest))) : W p l e R s m args below meth c H locs cells slots Q (F0 m pc ls st0) := by
  intro T hT X
  rcases hr T hT X with ⟨v, st₀, t, T', L, h0, X', hL, e1, e2, ⟨⟨u, hv, hp, hb⟩, hF⟩, st⟩ | ⟨q, st₀, t, T', L, E, ce, h0, X', hL, e1, e2, ⟨u, hp, hb, hF⟩, hce, hcv, hcl, st⟩
  · cases hv
    obtain ⟨k1, k2, k3⟩ := vx_keep h0 e1 hS hA hf hL hF
    obtain ⟨t2, a1, b1⟩ := kk u t T'.heap (locs ++ L) e1.symm (by rw [← e2]; exact X'.warmed.alike) hp hb k1 k2 k3 T' rfl X'
    exact ⟨t2, st t2 a1, b1⟩
  · obtain ⟨k1, k2, k3⟩ := vx_keep h0 e1 hS hAX hf hL hF
    obtain ⟨t2, a1, b1⟩ := kx E ce q u t T'.heap (locs ++ L) e1.symm (by rw [← e2]; exact X'.warmed.alike) hp hb k1 k2 k3 (by rw [e1]; exact hce) hcv hcl T' rfl X'
    exact ⟨t2, st.trans a1, b1⟩
/-- caught by the row x of this method's table; the rows ahead don't take it -/
theorem vx_catch {own name : String} {E : String} {ce : Cell} {q : Addr} (hown : s.vm.findClass own = some m.cls) (pre : List ExceptionTableEntry) (x : ExceptionTableEntry) (suf : List ExceptionTableEntry) (hsplit : c.exceptionTable.toList = pre ++ x :: suf)
    (hpass : ∀ z ∈ pre, covers z pc = false ∨ (z.catchType ≠ 0 ∧ ∃ nm : String, (Cond.classLink own z.catchType nm).before args s = true ∧ va_Nc E nm s)) (hx : covers x pc = true) (h0 : x.catchType ≠ 0)
    (hlink : (Cond.classLink own x.catchType name).before args s = true) (hcast : (Cond.castable E name).before args s = true) (hcell : H[q]? = some ce) (hv : ce.vm = .none) (hcl : s.vm.findClass E = some ce.cls)
    (kk : W p l e R s m args below meth c H locs cells slots Q (F0 m x.handlerPc ls [.ref q])) : vx_W p l e R s m args below meth c H locs cells slots Q (F0 m pc ls rest) q := by
  intro T hT X
  have hpl : e.platform.magicAccessors = ({} : Platform).magicAccessors := by rw [X.admits.platform]
  obtain ⟨c3, c4, hc3, hc4, hasg⟩ := Cond.castable_spec hcast
  cases Option.some.inj (hc3.symm.trans hcl)
  obtain ⟨c5, hc5, hcl5⟩ := Cond.classLink_spec hown hlink e.platform hpl
  cases Option.some.inj (hc4.symm.trans hc5)
  obtain ⟨vm', X', st⟩ := X.thenCaughtThrough q (g := F0 m pc ls rest) rfl (Steps.refl _) (by rw [hT]; exact hcell) (by rw [hv]; rfl) (by obtain ⟨k9, h9, -⟩ := Vm.findClass_spec hcl; exact ⟨k9, h9⟩) pre x suf hsplit
    (fun z hz => by
      rcases hpass z hz with h | ⟨hz0, nm, hl1, hn1⟩
      · exact Or.inl h
      · obtain ⟨c6, hc6, hcl6⟩ := Cond.classLink_spec hown hl1 e.platform hpl
        obtain ⟨a8, b8, h1, h2, h3⟩ := hn1
        cases Option.some.inj (h1.symm.trans hcl)
        cases Option.some.inj (h2.symm.trans hc6)
        exact Or.inr ⟨hz0, _, hcl6, h3⟩) hx (Or.inr ⟨h0, c4, hcl5, hasg⟩)
  obtain ⟨t, a1, b1⟩ := kk (T.setVm vm') hT X'
  exact ⟨t, st.trans a1, b1⟩
end Rows
section Ends
variable {p : Program} {l : Launch} {e : Env} {R : Room} {s : State} {m : MethodId} {args : Array Value} {below : List Frame} {meth : Method} {c : Code} {H : Heap} {locs : List Loc} {cells slots : Nat} {Q : State → Prop}
variable {mc ms : Nat} {free : Addr → Prop} {A0 A1 : Nat → Prop} {H0 : Heap} {a : Array Value} {ls : Array Slot} {st0 rest : List Value}
variable {Qc : Array Value → State → Outcome → State → Prop} {XC : String → State → State → Prop}
/-- what a body that may throw owes at its end -/
def vx_MQ (below : List Frame) (Qc : Array Value → State → Outcome → State → Prop) (XC : String → State → State → Prop) (a : Array Value) (s : State) (mc ms : Nat) (free : Addr → Prop) : State → Prop := fun t =>
  ∃ o, t.status = .running ∧ Ended t below o ∧ vx_Q Qc XC mc ms free a s o t
theorem vx_ret {g : JFrame} {mc ms : Nat} (k : W p l e R s m args below meth c H locs cells slots (MQ below Qc args s mc ms free) g) : W p l e R s m args below meth c H locs cells slots (vx_MQ below Qc XC args s mc ms free) g := by
  intro T hT X
  obtain ⟨t, a1, o, b1, b2, b3, b4⟩ := k T hT X
  exact ⟨t, a1, o, b1, b2, Or.inl ⟨b3, b4⟩⟩
/-- not caught here: it goes on to the caller -/
theorem vx_widen {g : JFrame} {q : Addr} {k n : Nat} (h1 : cells ≤ k) (h2 : slots ≤ n) (kk : vx_W p l e R s m args below meth c H locs k n Q g q) : vx_W p l e R s m args below meth c H locs cells slots Q g q := fun T hT X => kk T hT (stand_widen X h1 h2)
theorem vx_out {pc : Nat} {E : String} {ce : Cell} {q : Addr} {mc ms : Nat} (hout : ∀ x ∈ c.exceptionTable.toList, covers x pc = false) (hlocks : meth.locks = false) (hcell : H[q]? = some ce) (hv : ce.vm = .none) (hcl : s.vm.findClass E = some ce.cls)
    (hx : ∀ t : State, t.heap = H → s.vm.Alike t.vm → XC E s t) (hf : ∀ z ∈ locs, free z.base) (hc : cells ≤ mc) (hs : slots ≤ ms) :
    vx_W p l e R s m args below meth c H locs cells slots (vx_MQ below Qc XC args s mc ms free) (F0 m pc ls rest) q := by
  intro T hT X
  obtain ⟨st1, hrun, hend, hW, hsm⟩ := X.leaveThrown q (g := F0 m pc ls rest) rfl rfl rfl hout hlocks
  have hcell9 : (T.setFrames (.throwing q :: below)).heap[q]? = some ce := by
    show T.heap[q]? = some ce
    rw [hT]; exact hcell
  exact ⟨_, st1, .threw q, hrun, hend, Or.inr ⟨q, rfl, E, ce, locs, hx _ hT hW.alike, hcell9, hv, hcl, hW, hsm.mono hc hs, hf⟩⟩
theorem vx_frame {U : State} {k n : Nat} (h : s.sameButNew ({ U with vm := s.vm } : State) locs k n) : s.heap.size ≤ U.heap.size ∧ ∀ q : Nat, q < s.heap.size → (∀ z ∈ locs, z.base ≠ q) → U.heap[q]? = s.heap[q]? := by
  obtain ⟨-, h2, -, -, -, h6⟩ := h
  refine ⟨h2, fun q hq hz => ?_⟩
  obtain ⟨c9, e1, e2, e3, e4⟩ := h6 q _ (Array.getElem?_eq_getElem hq)
  have hs : c9.slots = (s.heap[q]).slots := Array.ext_getElem? fun i => e4 i fun hm => hz _ hm rfl
  have h9 : c9 = s.heap[q] := by
    rw [hs] at e2
    exact e2
  have e5 : U.heap[q]? = some c9 := e1
  rw [e5, h9, Array.getElem?_eq_getElem hq]
/-- the words of a throw but the four that speak of the heap -/
def vx_no (w : Cond) : Bool := decide (w ≠ .isRef (.static Bundle.tN "UNASSIGNED_STACK" Bundle.steD)) && decide (w ≠ .isRef (.static Bundle.tN "SUPPRESSED_SENTINEL" Bundle.listD)) && decide (w ≠ .laysStatic Bundle.tN "UNASSIGNED_STACK" Bundle.steD) && decide (w ≠ .laysStatic Bundle.tN "SUPPRESSED_SENTINEL" Bundle.listD)
def vx_at0 (own : String) (ic : Nat) (X : String) (names : List String) : List Cond := (Bundle.ownAtoms0 own ic X names).filter vx_no
def vx_atS (own : String) (ic : Nat) (X : String) (names : List String) : List Cond := (Bundle.ownAtoms own ic X names).filter vx_no
/-- a word that the tables alone decide, or a good one -/
def vx_ot (w : Cond) : Bool := w.onTables || goodWord w
theorem vx_ot_at {args a' : Array Value} {s U : State} {w : Cond} (hW : s.WarmedH U.vm) (hvm : s.vm = U.vm) (hg : vx_ot w = true) (h : w.before args s = true) : w.before a' U = true := by
  simp only [vx_ot, Bool.or_eq_true] at hg
  rcases hg with hg | hg
  · exact va_tabs hg hvm h
  · exact word_at hW (good_of_word hg) h
/-- a list's words: the good ones out of the method's own list, the others by premises of their own -/
theorem vx_hat {args : Array Value} {s : State} {L B : List Cond} (h1 : ∀ w ∈ L.filter goodWord, w.before args s = true) (h2 : ∀ w ∈ L.filter (fun w => !goodWord w), w ∈ B) (h3 : ∀ w ∈ B, w.before args s = true) : ∀ w ∈ L, w.before args s = true := by
  intro w hw
  by_cases g : goodWord w = true
  · exact h1 w (List.mem_filter.mpr ⟨hw, g⟩)
  · refine h3 w (h2 w (List.mem_filter.mpr ⟨hw, ?_⟩))
    show (!goodWord w) = true
    cases hgw : goodWord w
    · rfl
    · exact absurd hgw g
theorem vx_c {args : Array Value} {s : State} {w : Cond} {B : List Cond} (h : w.before args s = true) (t : ∀ w ∈ B, w.before args s = true) : ∀ w' ∈ w :: B, w'.before args s = true := fun w' h' => (List.mem_cons.mp h').elim (fun e => by rw [e]; exact h) (t w')
theorem vx_n {args : Array Value} {s : State} : ∀ w ∈ ([] : List Cond), w.before args s = true := fun _ h => nomatch h
theorem vx_own {args : Array Value} {s : State} {L : List Cond} (h1 : ∀ w ∈ L.filter vx_no, w.before args s = true)
    (hU : (Cond.isRef (.static Bundle.tN "UNASSIGNED_STACK" Bundle.steD)).before args s = true) (hN : (Cond.isRef (.static Bundle.tN "SUPPRESSED_SENTINEL" Bundle.listD)).before args s = true)
    (lU : (Cond.laysStatic Bundle.tN "UNASSIGNED_STACK" Bundle.steD).before args s = true) (lN : (Cond.laysStatic Bundle.tN "SUPPRESSED_SENTINEL" Bundle.listD).before args s = true) : ∀ w ∈ L, w.before args s = true := by
  intro w hw
  by_cases e1 : w = .isRef (.static Bundle.tN "UNASSIGNED_STACK" Bundle.steD)
  · rw [e1]; exact hU
  · by_cases e2 : w = .isRef (.static Bundle.tN "SUPPRESSED_SENTINEL" Bundle.listD)
    · rw [e2]; exact hN
    · by_cases e3 : w = .laysStatic Bundle.tN "UNASSIGNED_STACK" Bundle.steD
      · rw [e3]; exact lU
      · by_cases e4 : w = .laysStatic Bundle.tN "SUPPRESSED_SENTINEL" Bundle.listD
        · rw [e4]; exact lN
        · exact h1 w (List.mem_filter.mpr ⟨hw, by unfold vx_no; rw [decide_eq_true e1, decide_eq_true e2, decide_eq_true e3, decide_eq_true e4]; rfl⟩)
/-- where a static field lies, its class's statics cell in H -/
def vx_L (C n d : String) (A : Nat → Prop) (U : State) (H : Heap) : Prop := ∃ (c : ClassId) (k : Class) (i : Nat) (f : Field) (a : Nat) (cell : Cell), U.vm.findClass C = some c ∧ U.fieldFound? C n d = some (c, k, i, f) ∧ f.isStatic = true ∧ k.statics = some a ∧ H[a]? = some cell ∧ cell.vm.isStatics = true ∧ cell.cls = c ∧ f.slot < cell.slots.size ∧ k.staticTypes[f.slot]? = some f.type ∧ ¬ A a
theorem vx_L.moved {C n d : String} {A : Nat → Prop} {u U : State} {H : Heap} (hvm : u.vm.Alike U.vm) (h : vx_L C n d A u H) : vx_L C n d A U H := by
  obtain ⟨c, k, i, f, a, cell, h1, h2, h3, h4, h5, h6, h7, h8, h9, h10⟩ := h
  obtain ⟨k', hi', he⟩ := State.fieldFound?_setVm hvm h2
  exact ⟨c, k', i, f, a, cell, by rw [hvm.findClass]; exact h1, hi', h3, by rw [he]; exact h4, h5, h6, h7, h8, by rw [he]; exact h9, h10⟩
theorem vx_L.kept {C n d : String} {A : Nat → Prop} {U : State} {H H1 : Heap} (h : vx_L C n d A U H) (hq : ∀ a : Nat, a < H.size → ¬ A a → H1[a]? = H[a]?) : vx_L C n d A U H1 := by
  obtain ⟨c, k, i, f, a, cell, h1, h2, h3, h4, h5, h6, h7, h8, h9, h10⟩ := h
  exact ⟨c, k, i, f, a, cell, h1, h2, h3, h4, by rw [hq a (Array.getElem?_eq_some_iff.mp h5).1 h10]; exact h5, h6, h7, h8, h9, h10⟩
theorem vx_L.narrow {C n d : String} {A B : Nat → Prop} {U : State} {H : Heap} (h : vx_L C n d A U H) (hAB : ∀ q, B q → A q) : vx_L C n d B U H := by
  obtain ⟨c, k, i, f, a, cell, h1, h2, h3, h4, h5, h6, h7, h8, h9, h10⟩ := h
  exact ⟨c, k, i, f, a, cell, h1, h2, h3, h4, h5, h6, h7, h8, h9, fun z => h10 (hAB _ z)⟩
theorem vx_L.word {C n d : String} {A : Nat → Prop} {s : State} {args : Array Value} (h : vx_L C n d A s s.heap) : (Cond.laysStatic C n d).before args s = true := by
  obtain ⟨c, k, i, f, a, cell, h1, h2, h3, h4, h5, h6, h7, h8, h9, -⟩ := h
  show (Cond.laysStatic C n d).holds args s none s [] = true
  exact Cond.laysStatic_of h1 h2 h3 h4 h5 h6 h7 h8 h9
/-- .. and what it holds: null or some reference -/
def vx_Zq (C n d : String) (A : Nat → Prop) (U : State) (H : Heap) : Prop := va_Zq C n d A U H ∧ vx_L C n d A U H
theorem vx_Zq.moved {C n d : String} {A : Nat → Prop} {u U : State} {H : Heap} (hvm : u.vm.Alike U.vm) (h : vx_Zq C n d A u H) : vx_Zq C n d A U H := ⟨va_Zq.moved hvm h.1, vx_L.moved hvm h.2⟩
theorem vx_Zq.kept {C n d : String} {A : Nat → Prop} {U : State} {H H1 : Heap} (h : vx_Zq C n d A U H) (hq : ∀ a : Nat, a < H.size → ¬ A a → H1[a]? = H[a]?) : vx_Zq C n d A U H1 := ⟨va_Zq.kept h.1 hq, vx_L.kept h.2 hq⟩
theorem vx_Zq.narrow {C n d : String} {A B : Nat → Prop} {U : State} {H : Heap} (h : vx_Zq C n d A U H) (hAB : ∀ q, B q → A q) : vx_Zq C n d B U H := ⟨va_Zq.narrow h.1 hAB, vx_L.narrow h.2 hAB⟩
theorem vx_Zqof {args : Array Value} {s : State} {C n d : String} {A : Nat → Prop} (hl : (Cond.laysStatic C n d).before args s = true) (hini : (Cond.initialized C).before args s = true) (h : (Cond.isRef (.static C n d)).before args s = true) (hA : ∀ a : Nat, a < s.heap.size → ¬ A a) : vx_Zq C n d A s s.heap := by
  refine ⟨va_Zqof hl hini h hA, ?_⟩
  obtain ⟨c, k, i, f, a, cell, h1, h2, h3, h4, h5, h6, h7, h8, h9⟩ := Cond.laysStatic_spec hl
  exact ⟨c, k, i, f, a, cell, h1, h2, h3, h4, h5, h6, h7, h8, h9, hA a (Array.getElem?_eq_some_iff.mp h5).1⟩
theorem vx_isRef {C n d : String} {v : Value} {A : Nat → Prop} {s : State} {args : Array Value} (h : va_Z C n d v A s s.heap) (hv : v.isRef = true) : (Cond.isRef (.static C n d)).before args s = true := by
  obtain ⟨cf, kf, fi, f, a, cell, h1, h2, h3, h4, h5, h6, h7, -⟩ := h
  have he : (Term.static C n d).eval args s none [] s = some v := by
    simp [Term.eval, State.fieldNamed?, h1, h2, h4, h5, h6, h7]
  simp only [Cond.before, Cond.holds, Cond.value, he]
  cases v <;> simp_all [Value.isRef]
theorem vx_isRefq {C n d : String} {A : Nat → Prop} {s : State} {args : Array Value} (h : va_Zq C n d A s s.heap) : (Cond.isRef (.static C n d)).before args s = true := by
  rcases h with h | ⟨t, h⟩
  · exact vx_isRef h rfl
  · exact vx_isRef h rfl
/-- the same frame, seen from here: as if the method were called anew in this heap -/
theorem vx_rebase {T : State} (X : Stand p l e R s m args below meth c T locs cells slots) {R' : Room} (hf : R'.frames ≤ R.frames) (hl : R'.locals ≤ R.locals) (hc : cells + R'.cells ≤ R.cells) (hs : slots + R'.slots ≤ R.slots) :
    Stand p l e R' ((T.setVm s.vm).setFrames (.invoking m args :: below)) m args below meth c T [] 0 0 := by
  have htop : (T.setVm s.vm).topJava?.isSome := X.here.top
  have hF : ((T.setVm s.vm).setFrames (.invoking m args :: below)).frames = .invoking m args :: below := State.frames_setFrames _ (State.cur_lt_of_top htop)
  obtain ⟨g₀, hg0⟩ := Option.isSome_iff_exists.mp htop
  obtain ⟨r, hr⟩ := State.topJava?_eq_some.mp hg0
  have hl9 : e.platform.stackLimits (T.setVm s.vm).me = e.platform.stackLimits s.me := X.limits
  have hb9 : (T.setVm s.vm).me.stackBytes = s.me.stackBytes := X.bytes
  refine ⟨X.admits, X.cas, X.clock, hF, ?_, X.hears, X.method, X.code, X.here, X.tail, X.warmed, ?_, ?_, ?_⟩
  · have h := X.room
    have hU : ((T.setVm s.vm).setFrames (.invoking m args :: below)).localsInUse = s.localsInUse := by
      rw [State.localsInUse_invoking hF (meth := meth) (c := c) X.method X.code, State.localsInUse_invoking X.frames X.method X.code]
    simp only [State.hasRoom, Bool.and_eq_true, decide_eq_true_eq] at h ⊢
    obtain ⟨⟨⟨⟨h1, h2, h3, h4, h5, h6⟩, h7⟩, h8⟩, h9⟩ := h
    rw [X.frames, List.length_cons] at h2 h3
    have q1 := X.heapSize
    have q2 := X.used
    simp only [hF, hU, List.length_cons, State.stackLimits_setFrames, State.stackBytes_setFrames, hl9, hb9]
    refine ⟨⟨⟨⟨by omega, by omega, by omega, by omega, by omega, h6⟩, ?_⟩, ?_⟩, X.book⟩
    · show T.heap.size + R'.cells ≤ e.platform.maxCells
      omega
    · show T.slotsUsed + R'.slots ≤ e.platform.maxSlots
      omega
  · rw [State.stackLimits_setFrames]; rfl
  · rw [State.stackBytes_setFrames]; rfl
  · refine ⟨?_, Nat.le_refl _, Nat.le_refl _, ?_, ?_, fun a c9 h9 => ⟨c9, h9, rfl, rfl, fun _ _ => rfl⟩⟩
    · obtain ⟨t, ht, -⟩ := State.frames_cons hr
      show T.setVm s.vm = { ((T.setVm s.vm).setFrames (.invoking m args :: below)).setFrames (T.setVm s.vm).frames with heap := T.heap, slotsUsed := T.slotsUsed }
      rw [State.setFrames_setFrames, State.setFrames_self ht]
      rfl
    · show T.slotsUsed = T.slotsUsed + ((T.heap.toList.drop T.heap.size).map (·.slots.size)).sum
      rw [List.drop_eq_nil_of_le (Nat.le_of_eq Array.length_toList)]
      rfl
    · show ((T.heap.toList.drop T.heap.size).map (·.slots.size)).sum ≤ 0
      rw [List.drop_eq_nil_of_le (Nat.le_of_eq Array.length_toList)]
      exact Nat.le_refl _
/-- 'throw new E()': new; dup; invokespecial; athrow -/
theorem vx_throw0 {cc : ByteArray} {pc : Nat} (hexec : p.tables.exec = Jvm.exec) (hb : c.code = cc) (hl : l.stackTraces = false) {own cls : String} {names : List String} {ik ic mc ms : Nat} {A : Nat → Prop}
    (hown : s.vm.findClass own = some m.cls) (hcls : Bundle.fit cls = true) (hnames : ∀ n ∈ names, Bundle.fit n = true)
    (hk : (Cond.classLink own ik cls).before args s = true) (hini : (Cond.initialized cls).before args s = true) (hat : ∀ w ∈ vx_at0 own ic cls names, w.before args s = true)
    (hgood : ∀ w ∈ Cond.classLink own ik cls :: Cond.initialized cls :: vx_at0 own ic cls names, vx_ot w = true)
    (hU : vx_Zq Bundle.tN "UNASSIGNED_STACK" Bundle.steD A s s.heap) (hN : vx_Zq Bundle.tN "SUPPRESSED_SENTINEL" Bundle.listD A s s.heap) (hS : va_S A s.heap H locs) (hsize : ls.size = c.maxLocals)
    (d0 : decode cc pc = .ok (.new ik, 3)) (d3 : decode cc (pc + 3) = .ok (.dup, 1)) (d4 : decode cc (pc + 4) = .ok (.invokespecial ic, 3)) (d7 : decode cc (pc + 7) = .ok (.athrow, 1))
    (hout : ∀ x ∈ c.exceptionTable.toList, covers x (pc + 7) = false)
    (hRframes : names.length + 3 < R.frames) (hRlocals : (rest.map fun v => v.category).sum + (13 * (names.length + 1) + 42) ≤ R.locals) (hRcells : cells + 1 ≤ R.cells) (hRslots : slots + 6 ≤ R.slots) (hlocks : meth.locks = false)
    (hx : ∀ t : State, s.vm.Alike t.vm → H.size ≤ t.heap.size → (∀ q : Nat, q < H.size → t.heap[q]? = H[q]?) → XC cls s t)
    (hf : ∀ z ∈ locs, free z.base) (hc : cells + 1 ≤ mc) (hs : slots + 6 ≤ ms) :
    W p l e R s m args below meth c H locs cells slots (vx_MQ below Qc XC args s mc ms free) (F0 m pc ls rest) := by
  intro T hT X
  have htr : e.platform.stackTraces = false := (show e.platform.stackTraces = l.stackTraces by rw [X.admits.platform]).trans hl
  have Y := vx_rebase X (R' := { frames := R.frames, locals := R.locals, cells := 1, slots := 6 }) (Nat.le_refl _) (Nat.le_refl _) hRcells hRslots
  obtain ⟨s', hA⟩ : ∃ z, z = (T.setVm s.vm).setFrames (.invoking m args :: below) := ⟨_, rfl⟩
  rw [← hA] at Y
  have hvm : s'.vm = s.vm := by rw [hA]; rfl
  have hhp : s'.heap = H := by rw [hA]; exact hT
  have hW0 : s.WarmedH s'.vm := by rw [hvm]; exact State.WarmedH.refl s
  have hat' : ∀ w ∈ vx_at0 own ic cls names, w.before args s' = true := fun w hw => vx_ot_at hW0 hvm.symm (hgood w (List.mem_cons_of_mem _ (List.mem_cons_of_mem _ hw))) (hat w hw)
  have hk' : (Cond.classLink own ik cls).before args s' = true := vx_ot_at hW0 hvm.symm (hgood _ List.mem_cons_self) hk
  have hini' : (Cond.initialized cls).before args s' = true := vx_ot_at hW0 hvm.symm (hgood _ (List.mem_cons_of_mem _ List.mem_cons_self)) hini
  have hU' : vx_Zq Bundle.tN "UNASSIGNED_STACK" Bundle.steD A s' s'.heap := by rw [hhp]; exact vx_Zq.moved hW0.alike (hU.kept hS.2.1)
  have hN' : vx_Zq Bundle.tN "SUPPRESSED_SENTINEL" Bundle.listD A s' s'.heap := by rw [hhp]; exact vx_Zq.moved hW0.alike (hN.kept hS.2.1)
  have h : ∀ w ∈ Bundle.ownAtoms0 own ic cls names, w.before args s' = true := vx_own hat' (vx_isRefq hU'.1) (vx_isRefq hN'.1) hU'.2.word hN'.2.word
  have hown' : s'.vm.findClass own = some m.cls := by rw [hvm]; exact hown
  have hins : (Cond.instantiable cls 6).before args s' = true := h _ (by simp [Bundle.ownAtoms0])
  obtain ⟨vm₁, cX, kX, hfX, hkX, -, -, X₁, st1⟩ := Y.newCold hexec (own := own) (C := cls) (index := ik) (n := 6) hown' hk' hins hini'
    (g := F0 m pc ls rest) rfl (by rw [hb]; exact d0) (Nat.le_refl _) (Nat.le_refl _)
  generalize hT1 : (T.setVm vm₁).pushCell { cls := cX, slots := kX.instanceTypes.map defaultValue, vm := .none } = T1 at X₁ st1
  have hcat : (Value.ref T.heap.size).category = 1 := rfl
  have hcellA : T1.heap[T.heap.size]? = some (freshCell cX kX) := by rw [← hT1]; exact State.heap_pushCell_size _ _
  have d3' : decode c.code (pc + 3) = .ok (.dup, 1) := by rw [hb]; exact d3
  obtain ⟨U, hsteps, hrun, hend, hW, hsame, ce, hce, hO⟩ := X₁.ctorThrow0 hexec htr (own := own) (cls := cls) (names := names) (ic := ic) hown' hcls hnames h (fun x hx => nomatch hx) hfX hkX hcellA (by rw [hhp, hT]; exact Nat.le_refl _)
    (g := { method := m, pc := pc + 4, locals := ls, stack := .ref T.heap.size :: .ref T.heap.size :: rest, locked := none }) rfl hsize rfl rfl (rest := rest) rfl
    (by rw [hb]; exact d4) (by rw [hb]; exact d7) hout hRframes (by simp only [List.map_cons, List.sum_cons, hcat]; omega) hlocks
  obtain ⟨f1, f2⟩ := vx_frame hsame
  rw [hhp] at f1 f2
  have hWs : s.WarmedH U.vm := State.WarmedH.trans hW0 hW
  have hcl : s.vm.findClass cls = some ce.cls := by
    have h9 := hO.cls
    rw [hvm] at h9
    exact h9
  have hall : s.sameButNew ({ U with vm := s.vm } : State) locs mc ms := by
    subst hA
    obtain ⟨e1, e2⟩ := hsame
    rw [State.setFrames_setFrames] at e1
    have h2 : (T.setVm s.vm).sameButNew ({ U with vm := s.vm } : State) [] (0 + 1) (0 + 6) := ⟨e1, e2⟩
    have h3 := X.same.trans h2
    rw [List.append_nil] at h3
    exact h3.mono hc hs
  refine ⟨U, ?_, .threw T.heap.size, hrun, hend, Or.inr ⟨T.heap.size, rfl, cls, ce, locs, hx U hWs.alike f1 (fun q hq => f2 q hq (fun z hz => nomatch hz)), hce, hO.vm, hcl, hWs, hall, hf⟩⟩
  refine st1 _ ?_
  show Steps p.tables e below (T1.setTop { method := m, pc := pc + 3, locals := ls, stack := .ref T.heap.size :: rest, locked := none }) _
  jvm_step X₁.here [X₁.here.top, hexec, d3', Value.category]
  exact hsteps
/-- 'throw new E("text")': new; dup; ldc; invokespecial; athrow -/
theorem vx_throwS {cc : ByteArray} {pc : Nat} (hexec : p.tables.exec = Jvm.exec) (hb : c.code = cc) (hl : l.stackTraces = false) {own cls text : String} {names : List String} {ik is ic mc ms sa : Nat} {A : Nat → Prop}
    (hown : s.vm.findClass own = some m.cls) (hcls : Bundle.fit cls = true) (hnames : ∀ n ∈ names, Bundle.fit n = true)
    (hk : (Cond.classLink own ik cls).before args s = true) (hini : (Cond.initialized cls).before args s = true) (hstr : vk_R own is text sa s) (hat : ∀ w ∈ vx_atS own ic cls names, w.before args s = true)
    (hgood : ∀ w ∈ Cond.classLink own ik cls :: Cond.initialized cls :: vx_atS own ic cls names, vx_ot w = true)
    (hU : vx_Zq Bundle.tN "UNASSIGNED_STACK" Bundle.steD A s s.heap) (hN : vx_Zq Bundle.tN "SUPPRESSED_SENTINEL" Bundle.listD A s s.heap) (hS : va_S A s.heap H locs) (hsize : ls.size = c.maxLocals)
    (d0 : decode cc pc = .ok (.new ik, 3)) (d3 : decode cc (pc + 3) = .ok (.dup, 1)) (d4 : decode cc (pc + 4) = .ok (.ldc is, 2)) (d6 : decode cc (pc + 6) = .ok (.invokespecial ic, 3)) (d9 : decode cc (pc + 9) = .ok (.athrow, 1))
    (hout : ∀ x ∈ c.exceptionTable.toList, covers x (pc + 9) = false)
    (hRframes : names.length + 3 < R.frames) (hRlocals : (rest.map fun v => v.category).sum + (13 * (names.length + 1) + 43) ≤ R.locals) (hRcells : cells + 1 ≤ R.cells) (hRslots : slots + 6 ≤ R.slots) (hlocks : meth.locks = false)
    (hx : ∀ t : State, s.vm.Alike t.vm → H.size ≤ t.heap.size → (∀ q : Nat, q < H.size → t.heap[q]? = H[q]?) → XC cls s t)
    (hf : ∀ z ∈ locs, free z.base) (hc : cells + 1 ≤ mc) (hs : slots + 6 ≤ ms) :
    W p l e R s m args below meth c H locs cells slots (vx_MQ below Qc XC args s mc ms free) (F0 m pc ls rest) := by
  intro T hT X
  have htr : e.platform.stackTraces = false := (show e.platform.stackTraces = l.stackTraces by rw [X.admits.platform]).trans hl
  have Y := vx_rebase X (R' := { frames := R.frames, locals := R.locals, cells := 1, slots := 6 }) (Nat.le_refl _) (Nat.le_refl _) hRcells hRslots
  obtain ⟨s', hA⟩ : ∃ z, z = (T.setVm s.vm).setFrames (.invoking m args :: below) := ⟨_, rfl⟩
  rw [← hA] at Y
  have hvm : s'.vm = s.vm := by rw [hA]; rfl
  have hhp : s'.heap = H := by rw [hA]; exact hT
  have hW0 : s.WarmedH s'.vm := by rw [hvm]; exact State.WarmedH.refl s
  have hat' : ∀ w ∈ vx_atS own ic cls names, w.before args s' = true := fun w hw => vx_ot_at hW0 hvm.symm (hgood w (List.mem_cons_of_mem _ (List.mem_cons_of_mem _ hw))) (hat w hw)
  have hk' : (Cond.classLink own ik cls).before args s' = true := vx_ot_at hW0 hvm.symm (hgood _ List.mem_cons_self) hk
  have hini' : (Cond.initialized cls).before args s' = true := vx_ot_at hW0 hvm.symm (hgood _ (List.mem_cons_of_mem _ List.mem_cons_self)) hini
  have hU' : vx_Zq Bundle.tN "UNASSIGNED_STACK" Bundle.steD A s' s'.heap := by rw [hhp]; exact vx_Zq.moved hW0.alike (hU.kept hS.2.1)
  have hN' : vx_Zq Bundle.tN "SUPPRESSED_SENTINEL" Bundle.listD A s' s'.heap := by rw [hhp]; exact vx_Zq.moved hW0.alike (hN.kept hS.2.1)
  have h : ∀ w ∈ Bundle.ownAtoms own ic cls names, w.before args s' = true := vx_own hat' (vx_isRefq hU'.1) (vx_isRefq hN'.1) hU'.2.word hN'.2.word
  have hown' : s'.vm.findClass own = some m.cls := by rw [hvm]; exact hown
  have hins : (Cond.instantiable cls 6).before args s' = true := h _ (by simp [Bundle.ownAtoms])
  obtain ⟨vm₁, cX, kX, hfX, hkX, -, -, X₁, st1⟩ := Y.newCold hexec (own := own) (C := cls) (index := ik) (n := 6) hown' hk' hins hini'
    (g := F0 m pc ls rest) rfl (by rw [hb]; exact d0) (Nat.le_refl _) (Nat.le_refl _)
  generalize hT1 : (T.setVm vm₁).pushCell { cls := cX, slots := kX.instanceTypes.map defaultValue, vm := .none } = T1 at X₁ st1
  have hcat : (Value.ref T.heap.size).category = 1 := rfl
  have hcellA : T1.heap[T.heap.size]? = some (freshCell cX kX) := by rw [← hT1]; exact State.heap_pushCell_size _ _
  have d3' : decode c.code (pc + 3) = .ok (.dup, 1) := by rw [hb]; exact d3
  have d4' : decode c.code (pc + 4) = .ok (.ldc is, 2) := by rw [hb]; exact d4
  have hstr' : vk_R own is text sa s' := vk_R.warm hW0 hstr
  obtain ⟨U, hsteps, hrun, hend, hW, hsame, ce, hce, hO⟩ := X₁.ctorThrowS hexec htr (own := own) (cls := cls) (names := names) (ic := ic) hown' hcls hnames h (fun x hx => nomatch hx) hfX hkX hcellA (by rw [hhp, hT]; exact Nat.le_refl _) (msg := .ref sa) rfl
    (g := { method := m, pc := pc + 6, locals := ls, stack := .ref sa :: .ref T.heap.size :: .ref T.heap.size :: rest, locked := none }) rfl hsize rfl rfl (rest := rest) rfl
    (by rw [hb]; exact d6) (by rw [hb]; exact d9) hout hRframes (by simp only [List.map_cons, List.sum_cons, hcat]; omega) hlocks
  obtain ⟨f1, f2⟩ := vx_frame hsame
  rw [hhp] at f1 f2
  have hWs : s.WarmedH U.vm := State.WarmedH.trans hW0 hW
  have hcl : s.vm.findClass cls = some ce.cls := by
    have h9 := hO.cls
    rw [hvm] at h9
    exact h9
  have hall : s.sameButNew ({ U with vm := s.vm } : State) locs mc ms := by
    subst hA
    obtain ⟨e1, e2⟩ := hsame
    rw [State.setFrames_setFrames] at e1
    have h2 : (T.setVm s.vm).sameButNew ({ U with vm := s.vm } : State) [] (0 + 1) (0 + 6) := ⟨e1, e2⟩
    have h3 := X.same.trans h2
    rw [List.append_nil] at h3
    exact h3.mono hc hs
  refine ⟨U, ?_, .threw T.heap.size, hrun, hend, Or.inr ⟨T.heap.size, rfl, cls, ce, locs, hx U hWs.alike f1 (fun q hq => f2 q hq (fun z hz => nomatch hz)), hce, hO.vm, hcl, hWs, hall, hf⟩⟩
  refine st1 _ ?_
  show Steps p.tables e below (T1.setTop { method := m, pc := pc + 3, locals := ls, stack := .ref T.heap.size :: rest, locked := none }) _
  jvm_step X₁.here [X₁.here.top, hexec, d3', Value.category]
  exact X₁.ldcString hexec (own := own) (text := text) (index := is) (a := sa) hown' hstr'.1 hstr'.2
    (g := { method := m, pc := pc + 4, locals := ls, stack := .ref T.heap.size :: .ref T.heap.size :: rest, locked := none }) rfl d4' _ hsteps
/-- 'throw new E("text")', the text by a wide index -/
theorem vx_throwSW {cc : ByteArray} {pc : Nat} (hexec : p.tables.exec = Jvm.exec) (hb : c.code = cc) (hl : l.stackTraces = false) {own cls text : String} {names : List String} {ik is ic mc ms sa : Nat} {A : Nat → Prop}
    (hown : s.vm.findClass own = some m.cls) (hcls : Bundle.fit cls = true) (hnames : ∀ n ∈ names, Bundle.fit n = true)
    (hk : (Cond.classLink own ik cls).before args s = true) (hini : (Cond.initialized cls).before args s = true) (hstr : vk_R own is text sa s) (hat : ∀ w ∈ vx_atS own ic cls names, w.before args s = true)
    (hgood : ∀ w ∈ Cond.classLink own ik cls :: Cond.initialized cls :: vx_atS own ic cls names, vx_ot w = true)
    (hU : vx_Zq Bundle.tN "UNASSIGNED_STACK" Bundle.steD A s s.heap) (hN : vx_Zq Bundle.tN "SUPPRESSED_SENTINEL" Bundle.listD A s s.heap) (hS : va_S A s.heap H locs) (hsize : ls.size = c.maxLocals)
    (d0 : decode cc pc = .ok (.new ik, 3)) (d3 : decode cc (pc + 3) = .ok (.dup, 1)) (d4 : decode cc (pc + 4) = .ok (.ldc_w is, 3)) (d7 : decode cc (pc + 7) = .ok (.invokespecial ic, 3)) (d10 : decode cc (pc + 10) = .ok (.athrow, 1))
    (hout : ∀ x ∈ c.exceptionTable.toList, covers x (pc + 10) = false)
    (hRframes : names.length + 3 < R.frames) (hRlocals : (rest.map fun v => v.category).sum + (13 * (names.length + 1) + 43) ≤ R.locals) (hRcells : cells + 1 ≤ R.cells) (hRslots : slots + 6 ≤ R.slots) (hlocks : meth.locks = false)
    (hx : ∀ t : State, s.vm.Alike t.vm → H.size ≤ t.heap.size → (∀ q : Nat, q < H.size → t.heap[q]? = H[q]?) → XC cls s t)
    (hf : ∀ z ∈ locs, free z.base) (hc : cells + 1 ≤ mc) (hs : slots + 6 ≤ ms) :
    W p l e R s m args below meth c H locs cells slots (vx_MQ below Qc XC args s mc ms free) (F0 m pc ls rest) := by
  intro T hT X
  have htr : e.platform.stackTraces = false := (show e.platform.stackTraces = l.stackTraces by rw [X.admits.platform]).trans hl
  have Y := vx_rebase X (R' := { frames := R.frames, locals := R.locals, cells := 1, slots := 6 }) (Nat.le_refl _) (Nat.le_refl _) hRcells hRslots
  obtain ⟨s', hA⟩ : ∃ z, z = (T.setVm s.vm).setFrames (.invoking m args :: below) := ⟨_, rfl⟩
  rw [← hA] at Y
  have hvm : s'.vm = s.vm := by rw [hA]; rfl
  have hhp : s'.heap = H := by rw [hA]; exact hT
  have hW0 : s.WarmedH s'.vm := by rw [hvm]; exact State.WarmedH.refl s
  have hat' : ∀ w ∈ vx_atS own ic cls names, w.before args s' = true := fun w hw => vx_ot_at hW0 hvm.symm (hgood w (List.mem_cons_of_mem _ (List.mem_cons_of_mem _ hw))) (hat w hw)
  have hk' : (Cond.classLink own ik cls).before args s' = true := vx_ot_at hW0 hvm.symm (hgood _ List.mem_cons_self) hk
  have hini' : (Cond.initialized cls).before args s' = true := vx_ot_at hW0 hvm.symm (hgood _ (List.mem_cons_of_mem _ List.mem_cons_self)) hini
  have hU' : vx_Zq Bundle.tN "UNASSIGNED_STACK" Bundle.steD A s' s'.heap := by rw [hhp]; exact vx_Zq.moved hW0.alike (hU.kept hS.2.1)
  have hN' : vx_Zq Bundle.tN "SUPPRESSED_SENTINEL" Bundle.listD A s' s'.heap := by rw [hhp]; exact vx_Zq.moved hW0.alike (hN.kept hS.2.1)
  have h : ∀ w ∈ Bundle.ownAtoms own ic cls names, w.before args s' = true := vx_own hat' (vx_isRefq hU'.1) (vx_isRefq hN'.1) hU'.2.word hN'.2.word
  have hown' : s'.vm.findClass own = some m.cls := by rw [hvm]; exact hown
  have hins : (Cond.instantiable cls 6).before args s' = true := h _ (by simp [Bundle.ownAtoms])
  obtain ⟨vm₁, cX, kX, hfX, hkX, -, -, X₁, st1⟩ := Y.newCold hexec (own := own) (C := cls) (index := ik) (n := 6) hown' hk' hins hini'
    (g := F0 m pc ls rest) rfl (by rw [hb]; exact d0) (Nat.le_refl _) (Nat.le_refl _)
  generalize hT1 : (T.setVm vm₁).pushCell { cls := cX, slots := kX.instanceTypes.map defaultValue, vm := .none } = T1 at X₁ st1
  have hcat : (Value.ref T.heap.size).category = 1 := rfl
  have hcellA : T1.heap[T.heap.size]? = some (freshCell cX kX) := by rw [← hT1]; exact State.heap_pushCell_size _ _
  have d3' : decode c.code (pc + 3) = .ok (.dup, 1) := by rw [hb]; exact d3
  have d4' : decode c.code (pc + 4) = .ok (.ldc_w is, 3) := by rw [hb]; exact d4
  have hstr' : vk_R own is text sa s' := vk_R.warm hW0 hstr
  obtain ⟨U, hsteps, hrun, hend, hW, hsame, ce, hce, hO⟩ := X₁.ctorThrowS hexec htr (own := own) (cls := cls) (names := names) (ic := ic) hown' hcls hnames h (fun x hx => nomatch hx) hfX hkX hcellA (by rw [hhp, hT]; exact Nat.le_refl _) (msg := .ref sa) rfl
    (g := { method := m, pc := pc + 7, locals := ls, stack := .ref sa :: .ref T.heap.size :: .ref T.heap.size :: rest, locked := none }) rfl hsize rfl rfl (rest := rest) rfl
    (by rw [hb]; exact d7) (by rw [hb]; exact d10) hout hRframes (by simp only [List.map_cons, List.sum_cons, hcat]; omega) hlocks
  obtain ⟨f1, f2⟩ := vx_frame hsame
  rw [hhp] at f1 f2
  have hWs : s.WarmedH U.vm := State.WarmedH.trans hW0 hW
  have hcl : s.vm.findClass cls = some ce.cls := by
    have h9 := hO.cls
    rw [hvm] at h9
    exact h9
  have hall : s.sameButNew ({ U with vm := s.vm } : State) locs mc ms := by
    subst hA
    obtain ⟨e1, e2⟩ := hsame
    rw [State.setFrames_setFrames] at e1
    have h2 : (T.setVm s.vm).sameButNew ({ U with vm := s.vm } : State) [] (0 + 1) (0 + 6) := ⟨e1, e2⟩
    have h3 := X.same.trans h2
    rw [List.append_nil] at h3
    exact h3.mono hc hs
  refine ⟨U, ?_, .threw T.heap.size, hrun, hend, Or.inr ⟨T.heap.size, rfl, cls, ce, locs, hx U hWs.alike f1 (fun q hq => f2 q hq (fun z hz => nomatch hz)), hce, hO.vm, hcl, hWs, hall, hf⟩⟩
  refine st1 _ ?_
  show Steps p.tables e below (T1.setTop { method := m, pc := pc + 3, locals := ls, stack := .ref T.heap.size :: rest, locked := none }) _
  jvm_step X₁.here [X₁.here.top, hexec, d3', Value.category]
  exact X₁.ldcStringW hexec (own := own) (text := text) (index := is) (a := sa) hown' hstr'.1 hstr'.2
    (g := { method := m, pc := pc + 4, locals := ls, stack := .ref T.heap.size :: .ref T.heap.size :: rest, locked := none }) rfl d4' _ hsteps
end Ends
section Bodies
variable {l : Launch}
theorem vx_ofW {y : MethodName} {ws ws' : List Cond} {rm : Room} {Pc : Array Value → State → Prop} {Qc : Array Value → State → Outcome → State → Prop} {XC : String → State → State → Prop} {mc ms : Nat} {free : Addr → Prop} {cc : ByteArray} {maxL : Nat} {ret : Option FieldType}
    (hy : plainName y.cls = true) (hw : ws = Cond.code y cc maxL ret :: ws')
    (body : ∀ p e s m args below meth c s₁, BodyLoose p l y (headSpec ws rm) cc maxL ret e s m args below meth c s₁ → c.maxLocals = maxL → (∀ x ∈ c.exceptionTable.toList, False) → Pc args s →
      W p l e (headSpec ws rm).room s m args below meth c s.heap [] 0 0 (vx_MQ below Qc XC args s mc ms free) (entryFrame m args maxL)) : vx_Met l y ws rm Pc Qc XC mc ms free := by
  refine MetFree.of_bodyS (code := cc) (maxLocals := maxL) (ret := ret) hy ?_ ?_
  · intro args s m h hn
    obtain ⟨meth, c, h1, h2, h3, h4, h5, h6, -, -⟩ := Cond.code_spec hn (atoms_spec (ws := ws) h _ (by rw [hw]; exact List.mem_cons_self))
    exact ⟨meth, c, h1, h2, h3, h4, h5, h6⟩
  · intro p e s m args below meth c s₁ B hml hP _
    have hh0 : s₁.heap = s.heap := by rw [B.state]; rfl
    have ht : ∀ x ∈ c.exceptionTable.toList, False := by
      obtain ⟨meth9, c9, h1, h2, -, -, -, -, h7, -⟩ := Cond.code_spec B.named (atoms_spec (ws := ws) B.pre _ (by rw [hw]; exact List.mem_cons_self))
      cases Option.some.inj (h1.symm.trans B.method)
      cases Option.some.inj (h2.symm.trans (Stand.of_body B).code)
      intro x hx
      rw [Array.isEmpty_iff.mp h7] at hx
      cases hx
    obtain ⟨t, a1, o, b1, b2, b3⟩ := body p e s m args below meth c s₁ B hml ht hP s₁ hh0 (Stand.of_body B)
    exact ⟨t, o, a1, b1, b2, b3⟩
/-- the table of a body with handlers -/
theorem vx_table {p : Program} {x y : MethodName} {S : Spec} {cc bytes : ByteArray} {maxL maxL' : Nat} {ret ret' : Option FieldType} {e : Env} {s s₁ : State} {m : MethodId} {args : Array Value} {below : List Frame} {meth : Method} {c : Code} {hh : List (Nat × Nat × Nat × Nat)}
    (B : BodyLoose p l y S cc maxL ret e s m args below meth c s₁) (h : (Cond.codeWith y bytes maxL' ret' hh).before args s = true) : c.exceptionTable.toList = tableOf hh := by
  obtain ⟨m9, meth9, c9, hn9, h1, h2, -, -, h6, -⟩ := Cond.codeWith_spec h
  cases Option.some.inj (hn9.symm.trans B.named)
  cases Option.some.inj (h1.symm.trans B.method)
  cases Option.some.inj (h2.symm.trans (Stand.of_body B).code)
  rw [← h6, table_eq]
end Bodies
end VXA
/-! ===== END ===== -/
/-! ===== BEGIN a static call of a method with an exception table ===== -/
section VXS
variable {p : Program} {l : Launch} {e : Env} {R : Room} {s : State} {m : MethodId} {args : Array Value} {below : List Frame} {meth : Method} {c : Code} {T : State} {H : Heap} {locs : List Loc} {cells slots : Nat}
abbrev vx_CSW (R : Room) (s : State) (args : Array Value) (own : String) (index : Nat) (y : MethodName) (bytes : ByteArray) (maxL : Nat) (ret : Option FieldType) (hh : List (Nat × Nat × Nat × Nat)) (ws : List Cond) (rm : Room) (mc ms n : Nat) : Prop :=
  (rm.cells = mc ∧ rm.slots = ms ∧ rm.frames + 1 ≤ R.frames ∧ 8 + (maxL + 11) + rm.locals ≤ R.locals ∧ (∀ w ∈ ws, ∀ (a' : Array Value) (U : State), s.WarmedH U.vm → w.before a' U = true) ∧ Cond.codeWith y bytes maxL ret hh ∈ ws) ∧
  (Cond.codeWith y bytes maxL ret hh).before args s = true ∧ (Cond.initialized y.cls).before args s = true ∧ (y.cls ≠ "java/lang/invoke/MethodHandle" ∧ y.cls ≠ "java/lang/invoke/VarHandle") ∧
  (∀ sig, parseMethodDescriptor y.desc = some sig → n = sig.parameters.length) ∧ (Cond.methodLink own index y).before args s = true ∧ (Cond.static y).before args s = true
theorem vx_cwSW {own : String} {index maxL mc ms : Nat} {y : MethodName} {bytes : ByteArray} {ret : Option FieldType} {hh : List (Nat × Nat × Nat × Nat)} {Ts ws ws' : List Cond} {rm : Room} (n : Nat) (ht : ∀ w ∈ Ts, w.before args s = true) (hT : GoodIn Ts (va_wsS own index y ws)) (hw : ws = Cond.codeWith y bytes maxL ret hh :: ws') (hrc : rm.cells = mc) (hrs : rm.slots = ms)
    (hd : y.cls ≠ "java/lang/invoke/MethodHandle" ∧ y.cls ≠ "java/lang/invoke/VarHandle" ∧ (parseMethodDescriptor y.desc).map (fun d => d.parameters.length) = some n) (hR : rm.frames + 1 ≤ R.frames ∧ 8 + (maxL + 11) + rm.locals ≤ R.locals) :
    vx_CSW R s args own index y bytes maxL ret hh ws rm mc ms n := by
  have ok : ∀ w ∈ va_wsS own index y ws, w.before args s = true := fun w h => ht w (hT w h).1
  have hG : GoodIn Ts ws := fun w h => hT w (by unfold va_wsS; exact List.mem_append_right _ h)
  have hc : Cond.codeWith y bytes maxL ret hh ∈ ws := by rw [hw]; exact List.mem_cons_self
  refine ⟨⟨hrc, hrs, hR.1, hR.2, pay_in ht hG, hc⟩, ht _ (hG _ hc).1, ok _ (by simp [va_wsS]), ⟨hd.1, hd.2.1⟩, fun sig h => ?_, ok _ (by simp [va_wsS]), ok _ (by simp [va_wsS])⟩
  have h2 := hd.2.2
  rw [h] at h2
  exact (Option.some.inj h2).symm
theorem vx_callSW (X : Stand p l e R s m args below meth c T locs cells slots) (hexec : p.tables.exec = Jvm.exec) {own : String} {index : Nat} {y : MethodName} {bytes : ByteArray} {maxL : Nat} {ret : Option FieldType} {hh : List (Nat × Nat × Nat × Nat)}
    (hown : s.vm.findClass own = some m.cls) (hlink : (Cond.methodLink own index y).before args s = true) (hstat : (Cond.static y).before args s = true) (hinit : (Cond.initialized y.cls).before args s = true)
    (hcode : (Cond.codeWith y bytes maxL ret hh).before args s = true) (hy : y.cls ≠ "java/lang/invoke/MethodHandle" ∧ y.cls ≠ "java/lang/invoke/VarHandle")
    {W9 : Nat} {Pre : Pt → Array Value → Prop} {Post : Pt → Array Value → Option Value → Pt → Prop} (hK : Back l R p e below s args y 3 W9 Pre Post)
    {g : JFrame} (hg : g.method = m) (hsize : g.locals.size = c.maxLocals) {argsL rest : List Value} (hlen : ∀ sig, parseMethodDescriptor y.desc = some sig → argsL.length = sig.parameters.length)
    (hstack : g.stack = argsL.reverse ++ rest) (hW : 2 * g.monitorRoom + (rest.map fun v => v.category).sum ≤ W9) (hdg : decode c.code g.pc = .ok (.invokestatic index, 3))
    (hpre : ∀ vm₁, s.WarmedH vm₁ → Pre ⟨T.setVm vm₁, locs, cells, slots⟩ argsL.toArray) :
    ∃ (v : Option Value) (vm₁ : Vm) (B : Pt), s.WarmedH vm₁ ∧ Stand p l e R s m args below meth c B.U B.locs B.cells B.slots ∧ Post ⟨T.setVm vm₁, locs, cells, slots⟩ argsL.toArray v B ∧
      ∀ target, Steps p.tables e below (B.U.setTop { g with pc := g.pc + 3, stack := v.toList ++ rest }) target → Steps p.tables e below (T.setTop g) target := by
  obtain ⟨mk, methM, cM, hnamed, hmethM, -, -, -, -, -, -, hsigM⟩ := Cond.codeWith_spec hcode
  have hstatic : methM.isStatic = true := Cond.static_spec hnamed hmethM hstat
  obtain ⟨kP, hkP, -⟩ := className_of_methodNamed hnamed
  have hinitP : kP.init = .initialized := Cond.initialized_spec (findClass_of_methodNamed hnamed) hkP hinit
  obtain ⟨vm₁, X₁, hstep₁⟩ := X.invokestatic hexec hown hlink hnamed hmethM hstatic hkP hinitP hy (g := g) hg (argsL := argsL) (rest := rest) (hlen _ hsigM) hstack hdg
  obtain ⟨v, B, X', hpost, hsteps⟩ := hK m meth c ⟨T.setVm vm₁, locs, cells, slots⟩ { g with stack := rest } (.invokestatic index) mk argsL.toArray X₁ hg hsize hdg hW (X₁.named hnamed) (hpre vm₁ X₁.warmed)
  exact ⟨v, vm₁, B, X₁.warmed, X', hpost, fun target h => hstep₁ _ fun acts => by rw [doInvoke_state]; exact hsteps.trans h⟩
theorem vx_runSW {y : MethodName} {bytes cc : ByteArray} {maxL nL mc ms n index : Nat} {ret : Option FieldType} {hh : List (Nat × Nat × Nat × Nat)} {ws : List Cond} {rm : Room} {Pc : Array Value → State → Prop} {Qc : Array Value → State → Outcome → State → Prop} {free : Addr → Prop} {Ts : List Cond} {own : String} {As rest : List Value} {g : JFrame}
    (S : CallFix p m c cc nL s args Ts own) (hM : Met l y ws rm Pc Qc mc ms free) (cw : vx_CSW R s args own index y bytes maxL ret hh ws rm mc ms n) (hp : PreS s H Pc As)
    (hg : g.method = m) (hn : As.length = n) (hsize : g.locals.size = nL) (hstack : g.stack = As.reverse ++ rest) (hW : 2 * g.monitorRoom + (rest.map fun v => v.category).sum ≤ 8) (hdg : decode cc g.pc = .ok (.invokestatic index, 3)) (hf : cells + mc ≤ R.cells ∧ slots + ms ≤ R.slots) :
    va_Run p l e R s m args below meth c H locs cells slots mc ms g rest (Qc As.toArray) (free) := by
  obtain ⟨⟨hrc, hrs, hfr, hlo, hws, hcw⟩, hcode, hini, hy, hlen, hl, hstt⟩ := cw
  have hK : Back l R p e below s args y 3 8 (PreOf R mc ms Pc) (PostOf Qc mc ms free) := va_backW (hh := hh) (bytes := bytes) (maxL := maxL) (ret := ret) hM hp.1 hrc hrs hfr hlo hws hcw (fun a' U hW => word_at hW (Or.inl (by first | rfl | simp [Cond.onTables, Cond.keeps, Cond.steady])) hini)
  obtain ⟨hx, hb, hml, ho, -⟩ := S
  intro T hT X
  obtain ⟨v, vm₁, ⟨U', l2, c2, s2⟩, hW₁, X', ⟨g', mk, t, L, e1, e2, hq, h1, hL, h2, h3⟩, st⟩ := vx_callSW X hx (hh := hh) (bytes := bytes) (maxL := maxL) (ret := ret) ho hl hstt hini hcode hy hK hg (hsize.trans hml.symm) (argsL := As) (rest := rest) (fun sig h => hn.trans (hlen sig h)) hstack hW (by rw [hb]; exact hdg)
    (fun vm₁ hW₁ => ⟨hf.1, hf.2, hp.2 (T.setVm vm₁) hT hW₁⟩)
  dsimp only [Pt.U, Pt.locs, Pt.cells, Pt.slots] at X' e1 e2 h1 h2 h3 st
  subst h1; subst h2; subst h3
  exact ⟨v, (T.setVm vm₁).calling g' mk As.toArray, t, U', L, hT, X', hL, e1, e2, hq, st⟩
/-- not caught here, past rows that name other classes: it goes on to the caller -/
theorem vx_outP {p : Program} {l : Launch} {e : Env} {R : Room} {s : State} {m : MethodId} {args : Array Value} {below : List Frame} {meth : Method} {c : Code} {H : Heap} {locs : List Loc} {cells slots : Nat} {free : Addr → Prop} {ls : Array Slot} {rest : List Value} {Qc : Array Value → State → Outcome → State → Prop} {XC : String → State → State → Prop}
    {pc : Nat} {own E : String} {ce : Cell} {q : Addr} {mc ms : Nat} (hown : s.vm.findClass own = some m.cls) (hlocks : meth.locks = false)
    (hpass : ∀ z ∈ c.exceptionTable.toList, covers z pc = false ∨ (z.catchType ≠ 0 ∧ ∃ nm : String, (Cond.classLink own z.catchType nm).before args s = true ∧ va_Nc E nm s)) (hcell : H[q]? = some ce) (hv : ce.vm = .none) (hcl : s.vm.findClass E = some ce.cls)
    (hx : ∀ t : State, t.heap = H → s.vm.Alike t.vm → XC E s t) (hf : ∀ z ∈ locs, free z.base) (hc : cells ≤ mc) (hs : slots ≤ ms) :
    vx_W p l e R s m args below meth c H locs cells slots (vx_MQ below Qc XC args s mc ms free) (F0 m pc ls rest) q := by
  intro T hT X
  have hpl : e.platform.magicAccessors = ({} : Platform).magicAccessors := by rw [X.admits.platform]
  obtain ⟨vm', hW', X', st⟩ := X.outThrough hlocks q (g := F0 m pc ls rest) rfl rfl rfl (cell := ce) (by rw [hT]; exact hcell) (by rw [hv]; rfl)
    (by obtain ⟨k9, h9, -⟩ := Vm.findClass_spec hcl; exact ⟨k9, h9⟩) (fun z hz => by
      rcases hpass z hz with h | ⟨hz0, nm, hl1, hn1⟩
      · exact Or.inl h
      · obtain ⟨c6, hc6, hcl6⟩ := Cond.classLink_spec hown hl1 e.platform hpl
        obtain ⟨a8, b8, h1, h2, h3⟩ := hn1
        cases Option.some.inj (h1.symm.trans hcl)
        cases Option.some.inj (h2.symm.trans hc6)
        exact Or.inr ⟨hz0, _, hcl6, h3⟩)
  obtain ⟨g₀, hfr⟩ := X'.frames_eq
  have hcell9 : ((T.setVm vm').setFrames (.throwing q :: below)).heap[q]? = some ce := by
    show T.heap[q]? = some ce
    rw [hT]; exact hcell
  have hend : Ended ((T.setVm vm').setFrames (.throwing q :: below)) below (.threw q) := State.frames_setFrames _ (State.cur_lt_of_frames hfr)
  refine ⟨(T.setVm vm').setFrames (.throwing q :: below), ?_, .threw q, X'.here.running, hend, Or.inr ⟨q, rfl, E, ce, locs, hx _ hT (X'.ends _).1.alike, hcell9, hv, hcl, (X'.ends _).1, (X'.ends _).2.mono hc hs, hf⟩⟩
  rw [X.pushThrowing_eq]
  exact st
/-- a thing of a world lies in the heap -/
theorem vx_lt {D : va_G} {cl : List vw_C} {ws : va_W} {H1 : Heap} (h : va_P D cl ws H1) {k : Nat} {q : Nat × va_E} (hk : ws[k]? = some q) : q.1 < H1.size := (h k q hk).lt
end VXS
/-! ===== END ===== -/
/-! ===== BEGIN methods with a table of their own: called by a name, returning or throwing ===== -/
section VXH
/-! vx_backW, vx_callVX, vx_callSX, vx_callVW, vx_runVW, vx_runVX, vx_runSX, vx_ofWH follow the same proofs as their sisters above (Free/Laws.lean, Shelf42/LK1.lean); vx_outP calls Shelf42/NT130.lean (outThrough). -/
section
variable {l : Launch} {R : Room} {p : Program} {e : Env} {below : List Frame} {s : State} {sargs : Array Value} {y : MethodName} {len W9 : Nat}
theorem vx_backW {ws : List Cond} {rm : Room} {Pc : Array Value → State → Prop} {Qc : Array Value → State → Outcome → State → Prop} {XC : String → State → State → Prop} {mc ms : Nat} {free : Addr → Prop} {bytes : ByteArray} {maxL : Nat} {ret : Option FieldType} {hh : List (Nat × Nat × Nat × Nat)}
    (hM : vx_Met l y ws rm Pc Qc XC mc ms free) (hblind : FrameBlind Pc) (hrc : rm.cells = mc) (hrs : rm.slots = ms)
    (hframes : rm.frames + 1 ≤ R.frames) (hlocals : W9 + (maxL + 11) + rm.locals ≤ R.locals)
    (hws : ∀ w ∈ ws, ∀ a' U, s.WarmedH U.vm → w.before a' U = true) (hcode : Cond.codeWith y bytes maxL ret hh ∈ ws) (hinit : ∀ a' U, s.WarmedH U.vm → (Cond.initialized y.cls).before a' U = true) :
    vx_Back l R p e below s sargs y len W9 (PreOf R mc ms Pc) (PostOf Qc mc ms free) (vx_Post XC mc ms free) := by
  intro m meth c A g ig mk a X hg hsize hdg hW hn hp
  have h1 : (headSpec ws rm).pre.before a A.U = true := atoms_intro fun w hw => hws w hw _ _ X.warmed
  have h2 : (Cond.codeWith y bytes maxL ret hh).before a A.U = true := hws _ hcode _ _ X.warmed
  have h3 : (Cond.initialized y.cls).before a A.U = true := hinit _ _ X.warmed
  have h4 : A.cells + (headSpec ws rm).room.cells ≤ R.cells := by rw [show (headSpec ws rm).room.cells = mc from hrc]; exact hp.1
  have h5 : A.slots + (headSpec ws rm).room.slots ≤ R.slots := by rw [show (headSpec ws rm).room.slots = ms from hrs]; exact hp.2.1
  have hPc : Pc a (A.U.calling g mk a) := hblind _ _ _ _ hp.2.2
  obtain ⟨U, Ls, c0, s0⟩ := A
  dsimp only [Pt.U, Pt.locs, Pt.cells, Pt.slots] at h1 h2 h3 h4 h5 X hn hPc ⊢
  obtain ⟨m9, methY, cY, hn9, hmY, hcY, -, hlY, -⟩ := Cond.codeWith_spec h2
  cases Option.some.inj (hn9.symm.trans hn)
  obtain ⟨kY, hkY, -⟩ := className_of_methodNamed hn
  have hinitY : kY.init = .initialized := Cond.initialized_spec (findClass_of_methodNamed hn) hkY h3
  have h : At U g.method c below := by rw [hg]; exact X.here
  have hlocals9 : W9 + (maxL + 11) + (headSpec ws rm).room.locals ≤ R.locals := hlocals
  have happ : (headSpec ws rm).appliesLoose y e.platform (U.calling g mk a) = true :=
    Spec.appliesLoose_calling (g := g) h hdg hn hkY hinitY
      (X.room_calling (g := g) (R' := (headSpec ws rm).room) hsize hmY hcY hframes (by rw [hlY]; omega) h4 h5) h1
  obtain ⟨mid, hmid⟩ := h.above
  have hfr : (U.setTop g).frames = (.java g :: mid) ++ below := by rw [State.frames_setTop' g h.top, hmid]; rfl
  obtain ⟨o, s₂, hsteps, -, hend, hq⟩ := Steps.callFree hM p X.admits X.cas X.clock (acts := []) hfr happ hPc trivial
  have hq' : vx_Q Qc XC mc ms free a (U.calling g mk a) o s₂ := hq
  rw [State.frames_setTop' g h.top] at hend
  obtain ⟨g₀, hg0⟩ := Option.isSome_iff_exists.mp h.top
  obtain ⟨r, hr⟩ := State.topJava?_eq_some.mp hg0
  have hr' : (({ U with heap := s₂.heap, slotsUsed := s₂.slotsUsed } : State).setVm s₂.vm).frames = .java g₀ :: r := hr
  rcases hq' with ⟨hqc, L, hfe, hL⟩ | ⟨q, rfl, E, ce, L, hx, hce, hcv, hcl, hW₂, hsm, hL⟩
  · obtain ⟨⟨v, rfl⟩, hW₂, e2, q2, q3, q4, q5, q6⟩ := id hfe
    have e3 : s₂ = ({ (U.calling g mk a).setFrames s₂.frames with heap := s₂.heap, slotsUsed := s₂.slotsUsed } : State).setVm s₂.vm := by
      have : s₂ = ({ s₂ with vm := (U.calling g mk a).vm } : State).setVm s₂.vm := rfl
      rw [e2] at this
      exact this
    obtain ⟨c₂, i₂, len₂, hc₂, hd₂, hf₂⟩ := hend
    have hW' : U.WarmedH s₂.vm := hW₂
    have hcc : c₂ = c := by
      have h1 : s₂.code? g.method = U.code? g.method := by
        rw [State.code?_eq, State.code?_eq, hW'.alike.method?]
      exact Option.some.inj (hc₂.symm.trans (h1.trans h.code))
    subst hcc
    have hlen : len₂ = len := by rw [hdg] at hd₂; cases hd₂; rfl
    subst hlen
    have hs₂ : s₂ = (({ U with heap := s₂.heap, slotsUsed := s₂.slotsUsed } : State).setVm s₂.vm).setTop { g with pc := g.pc + len₂, stack := v.toList ++ g.stack } := by
      refine e3.trans ?_
      rw [hf₂, State.calling_eq h.top, State.setFrames_setFrames, State.setTop_of_frames _ hr', hr]
      rfl
    have hsame : U.sameButNew ({ U with heap := s₂.heap, slotsUsed := s₂.slotsUsed } : State) L mc ms := by
      refine ⟨?_, q2, q3, q4, q5, q6⟩
      obtain ⟨t, ht, -⟩ := State.frames_cons hr
      show ({ U with heap := s₂.heap, slotsUsed := s₂.slotsUsed } : State) = { U.setFrames U.frames with heap := s₂.heap, slotsUsed := s₂.slotsUsed }
      rw [State.setFrames_self ht]
    subst hg
    refine Or.inl ⟨v, ⟨(({ U with heap := s₂.heap, slotsUsed := s₂.slotsUsed } : State).setVm s₂.vm), Ls ++ L, c0 + mc, s0 + ms⟩,
      ⟨X.admits, X.cas, X.clock, X.frames, X.room, X.hears, X.method, X.code, (X.here.setHeapUsed s₂.heap s₂.slotsUsed).setVm hW'.alike, X.tail, State.WarmedH.trans X.warmed hW', X.limits, X.bytes, X.same.trans (hsame.setVm s.vm)⟩,
      ⟨g, mk, s₂, L, rfl, rfl, hqc, rfl, hL, rfl, rfl⟩, ?_⟩
    show Steps p.tables e below _ ((({ U with heap := s₂.heap, slotsUsed := s₂.slotsUsed } : State).setVm s₂.vm).setTop { g with pc := g.pc + len₂, stack := v.toList ++ g.stack })
    rw [← hs₂]
    exact hsteps
  · obtain ⟨e2, q2, q3, q4, q5, q6⟩ := id hsm
    have e3 : s₂ = ({ (U.calling g mk a).setFrames s₂.frames with heap := s₂.heap, slotsUsed := s₂.slotsUsed } : State).setVm s₂.vm := by
      have : s₂ = ({ s₂ with vm := (U.calling g mk a).vm } : State).setVm s₂.vm := rfl
      rw [e2] at this
      exact this
    have hf₂ : s₂.frames = .throwing q :: .java g :: U.frames.tail := hend
    have hW' : U.WarmedH s₂.vm := hW₂
    have hs₂ : s₂ = ((({ U with heap := s₂.heap, slotsUsed := s₂.slotsUsed } : State).setVm s₂.vm).setTop g).pushFrame (.throwing q) := by
      refine e3.trans ?_
      rw [hf₂, State.calling_eq h.top, State.setFrames_setFrames, State.pushFrame, State.frames_setTop _ hr', State.setTop_of_frames _ hr', State.setFrames_setFrames, hr]
      rfl
    have hsame : U.sameButNew ({ U with heap := s₂.heap, slotsUsed := s₂.slotsUsed } : State) L mc ms := by
      refine ⟨?_, q2, q3, q4, q5, q6⟩
      obtain ⟨t, ht, -⟩ := State.frames_cons hr
      show ({ U with heap := s₂.heap, slotsUsed := s₂.slotsUsed } : State) = { U.setFrames U.frames with heap := s₂.heap, slotsUsed := s₂.slotsUsed }
      rw [State.setFrames_self ht]
    subst hg
    refine Or.inr ⟨q, ⟨(({ U with heap := s₂.heap, slotsUsed := s₂.slotsUsed } : State).setVm s₂.vm), Ls ++ L, c0 + mc, s0 + ms⟩,
      ⟨X.admits, X.cas, X.clock, X.frames, X.room, X.hears, X.method, X.code, (X.here.setHeapUsed s₂.heap s₂.slotsUsed).setVm hW'.alike, X.tail, State.WarmedH.trans X.warmed hW', X.limits, X.bytes, X.same.trans (hsame.setVm s.vm)⟩,
      ⟨g, mk, s₂, L, E, ce, rfl, rfl, hx, hce, hcv, hcl, rfl, hL, rfl, rfl⟩, ?_⟩
    show Steps p.tables e below _ (((({ U with heap := s₂.heap, slotsUsed := s₂.slotsUsed } : State).setVm s₂.vm).setTop g).pushFrame (.throwing q))
    rw [← hs₂]
    exact hsteps
end
variable {p : Program} {l : Launch} {e : Env} {R : Room} {s : State} {m : MethodId} {args : Array Value} {below : List Frame} {meth : Method} {c : Code} {T : State} {H : Heap} {locs : List Loc} {cells slots : Nat}
theorem vx_callVX (X : Stand p l e R s m args below meth c T locs cells slots) (hexec : p.tables.exec = Jvm.exec) {own C : String} {index : Nat} {y : MethodName} {bytes : ByteArray} {maxL : Nat} {ret : Option FieldType} {hh : List (Nat × Nat × Nat × Nat)}
    (hown : s.vm.findClass own = some m.cls) (hlink : (Cond.methodLink own index y).before args s = true) (hinst : (Cond.instanceMethod y).before args s = true) (hsel : (Cond.selects C y y).before args s = true)
    (hcode : (Cond.codeWith y bytes maxL ret hh).before args s = true) (hy : y.cls ≠ "java/lang/invoke/MethodHandle" ∧ y.cls ≠ "java/lang/invoke/VarHandle")
    {W9 : Nat} {Pre : Pt → Array Value → Prop} {Post : Pt → Array Value → Option Value → Pt → Prop} {PostX : Pt → Array Value → Addr → Pt → Prop} (hK : vx_Back l R p e below s args y 3 W9 Pre Post PostX)
    {b : Addr} {cellB : Cell} (hcell : T.heap[b]? = some cellB) (hobj : cellB.vm.isStatics = false) (hcls : s.vm.findClass C = some cellB.cls)
    {g : JFrame} (hg : g.method = m) (hsize : g.locals.size = c.maxLocals) {argsL rest : List Value} (hlen : ∀ sig, parseMethodDescriptor y.desc = some sig → argsL.length = sig.parameters.length)
    (hstack : g.stack = argsL.reverse ++ .ref b :: rest) (hW : 2 * g.monitorRoom + (rest.map fun v => v.category).sum ≤ W9) (hdg : decode c.code g.pc = .ok (.invokevirtual index, 3))
    (hpre : ∀ vm₁, s.WarmedH vm₁ → Pre ⟨T.setVm vm₁, locs, cells, slots⟩ (Value.ref b :: argsL).toArray) :
    (∃ (v : Option Value) (vm₁ : Vm) (B : Pt), s.WarmedH vm₁ ∧ Stand p l e R s m args below meth c B.U B.locs B.cells B.slots ∧ Post ⟨T.setVm vm₁, locs, cells, slots⟩ (Value.ref b :: argsL).toArray v B ∧
      ∀ target, Steps p.tables e below (B.U.setTop { g with pc := g.pc + 3, stack := v.toList ++ rest }) target → Steps p.tables e below (T.setTop g) target) ∨
    (∃ (q : Addr) (vm₁ : Vm) (B : Pt), s.WarmedH vm₁ ∧ Stand p l e R s m args below meth c B.U B.locs B.cells B.slots ∧ PostX ⟨T.setVm vm₁, locs, cells, slots⟩ (Value.ref b :: argsL).toArray q B ∧
      Steps p.tables e below (T.setTop g) ((B.U.setTop { g with stack := rest }).pushFrame (.throwing q))) := by
  obtain ⟨mk, methM, hnamed, hmethM, hstM, habM⟩ := Cond.instanceMethod_spec hinst
  obtain ⟨m8, methM', cM, hn8, hmethM', -, -, -, -, -, -, hsigM⟩ := Cond.codeWith_spec hcode
  cases Option.some.inj (hn8.symm.trans hnamed)
  cases hmethM.symm.trans hmethM'
  obtain ⟨c2, r2, m2, q1, q2, q3, q4, kP, hkP, hkPi⟩ := Cond.selects_spec hsel
  cases hcls.symm.trans q1
  cases (State.methodFound?_of_named hnamed hy).symm.trans q2
  cases hnamed.symm.trans q3
  have hselP : selectMethod e.platform s.vm cellB.cls mk = .method mk := by rw [Launch.admits_selectMethod X.admits]; exact q4
  obtain ⟨vm₁, X₁, hstep₁⟩ := X.invokevirtual hexec hown hlink hnamed hmethM hstM hkP hkPi hy (a := b) (cell := cellB) hcell
    (fun z h => by rw [h] at hobj; cases hobj) hselP hmethM habM hkP hkPi (g := g) hg (argsL := argsL) (rest := rest) (hlen _ hsigM) hstack hdg
  rcases hK m meth c ⟨T.setVm vm₁, locs, cells, slots⟩ { g with stack := rest } (.invokevirtual index) mk (Value.ref b :: argsL).toArray X₁ hg hsize hdg hW (X₁.named hnamed) (hpre vm₁ X₁.warmed) with ⟨v, B, X', hpost, hsteps⟩ | ⟨q, B, X', hpost, hsteps⟩
  · exact Or.inl ⟨v, vm₁, B, X₁.warmed, X', hpost, fun target h => hstep₁ _ fun acts => by rw [doInvoke_state]; exact hsteps.trans h⟩
  · exact Or.inr ⟨q, vm₁, B, X₁.warmed, X', hpost, hstep₁ _ fun acts => by rw [doInvoke_state]; exact hsteps⟩
theorem vx_callSX (X : Stand p l e R s m args below meth c T locs cells slots) (hexec : p.tables.exec = Jvm.exec) {own : String} {index : Nat} {y : MethodName} {bytes : ByteArray} {maxL : Nat} {ret : Option FieldType} {hh : List (Nat × Nat × Nat × Nat)}
    (hown : s.vm.findClass own = some m.cls) (hlink : (Cond.methodLink own index y).before args s = true) (hstat : (Cond.static y).before args s = true) (hinit : (Cond.initialized y.cls).before args s = true)
    (hcode : (Cond.codeWith y bytes maxL ret hh).before args s = true) (hy : y.cls ≠ "java/lang/invoke/MethodHandle" ∧ y.cls ≠ "java/lang/invoke/VarHandle")
    {W9 : Nat} {Pre : Pt → Array Value → Prop} {Post : Pt → Array Value → Option Value → Pt → Prop} {PostX : Pt → Array Value → Addr → Pt → Prop} (hK : vx_Back l R p e below s args y 3 W9 Pre Post PostX)
    {g : JFrame} (hg : g.method = m) (hsize : g.locals.size = c.maxLocals) {argsL rest : List Value} (hlen : ∀ sig, parseMethodDescriptor y.desc = some sig → argsL.length = sig.parameters.length)
    (hstack : g.stack = argsL.reverse ++ rest) (hW : 2 * g.monitorRoom + (rest.map fun v => v.category).sum ≤ W9) (hdg : decode c.code g.pc = .ok (.invokestatic index, 3))
    (hpre : ∀ vm₁, s.WarmedH vm₁ → Pre ⟨T.setVm vm₁, locs, cells, slots⟩ argsL.toArray) :
    (∃ (v : Option Value) (vm₁ : Vm) (B : Pt), s.WarmedH vm₁ ∧ Stand p l e R s m args below meth c B.U B.locs B.cells B.slots ∧ Post ⟨T.setVm vm₁, locs, cells, slots⟩ argsL.toArray v B ∧
      ∀ target, Steps p.tables e below (B.U.setTop { g with pc := g.pc + 3, stack := v.toList ++ rest }) target → Steps p.tables e below (T.setTop g) target) ∨
    (∃ (q : Addr) (vm₁ : Vm) (B : Pt), s.WarmedH vm₁ ∧ Stand p l e R s m args below meth c B.U B.locs B.cells B.slots ∧ PostX ⟨T.setVm vm₁, locs, cells, slots⟩ argsL.toArray q B ∧
      Steps p.tables e below (T.setTop g) ((B.U.setTop { g with stack := rest }).pushFrame (.throwing q))) := by
  obtain ⟨mk, methM, cM, hnamed, hmethM, -, -, -, -, -, -, hsigM⟩ := Cond.codeWith_spec hcode
  have hstatic : methM.isStatic = true := Cond.static_spec hnamed hmethM hstat
  obtain ⟨kP, hkP, -⟩ := className_of_methodNamed hnamed
  have hinitP : kP.init = .initialized := Cond.initialized_spec (findClass_of_methodNamed hnamed) hkP hinit
  obtain ⟨vm₁, X₁, hstep₁⟩ := X.invokestatic hexec hown hlink hnamed hmethM hstatic hkP hinitP hy (g := g) hg (argsL := argsL) (rest := rest) (hlen _ hsigM) hstack hdg
  rcases hK m meth c ⟨T.setVm vm₁, locs, cells, slots⟩ { g with stack := rest } (.invokestatic index) mk argsL.toArray X₁ hg hsize hdg hW (X₁.named hnamed) (hpre vm₁ X₁.warmed) with ⟨v, B, X', hpost, hsteps⟩ | ⟨q, B, X', hpost, hsteps⟩
  · exact Or.inl ⟨v, vm₁, B, X₁.warmed, X', hpost, fun target h => hstep₁ _ fun acts => by rw [doInvoke_state]; exact hsteps.trans h⟩
  · exact Or.inr ⟨q, vm₁, B, X₁.warmed, X', hpost, hstep₁ _ fun acts => by rw [doInvoke_state]; exact hsteps⟩
theorem vx_callVW (X : Stand p l e R s m args below meth c T locs cells slots) (hexec : p.tables.exec = Jvm.exec) {own C : String} {index : Nat} {y : MethodName} {bytes : ByteArray} {maxL : Nat} {ret : Option FieldType} {hh : List (Nat × Nat × Nat × Nat)}
    (hown : s.vm.findClass own = some m.cls) (hlink : (Cond.methodLink own index y).before args s = true) (hinst : (Cond.instanceMethod y).before args s = true) (hsel : (Cond.selects C y y).before args s = true)
    (hcode : (Cond.codeWith y bytes maxL ret hh).before args s = true) (hy : y.cls ≠ "java/lang/invoke/MethodHandle" ∧ y.cls ≠ "java/lang/invoke/VarHandle")
    {W9 : Nat} {Pre : Pt → Array Value → Prop} {Post : Pt → Array Value → Option Value → Pt → Prop} (hK : Back l R p e below s args y 3 W9 Pre Post)
    {b : Addr} {cellB : Cell} (hcell : T.heap[b]? = some cellB) (hobj : cellB.vm.isStatics = false) (hcls : s.vm.findClass C = some cellB.cls)
    {g : JFrame} (hg : g.method = m) (hsize : g.locals.size = c.maxLocals) {argsL rest : List Value} (hlen : ∀ sig, parseMethodDescriptor y.desc = some sig → argsL.length = sig.parameters.length)
    (hstack : g.stack = argsL.reverse ++ .ref b :: rest) (hW : 2 * g.monitorRoom + (rest.map fun v => v.category).sum ≤ W9) (hdg : decode c.code g.pc = .ok (.invokevirtual index, 3))
    (hpre : ∀ vm₁, s.WarmedH vm₁ → Pre ⟨T.setVm vm₁, locs, cells, slots⟩ (Value.ref b :: argsL).toArray) :
    ∃ (v : Option Value) (vm₁ : Vm) (B : Pt), s.WarmedH vm₁ ∧ Stand p l e R s m args below meth c B.U B.locs B.cells B.slots ∧ Post ⟨T.setVm vm₁, locs, cells, slots⟩ (Value.ref b :: argsL).toArray v B ∧
      ∀ target, Steps p.tables e below (B.U.setTop { g with pc := g.pc + 3, stack := v.toList ++ rest }) target → Steps p.tables e below (T.setTop g) target := by
  obtain ⟨mk, methM, hnamed, hmethM, hstM, habM⟩ := Cond.instanceMethod_spec hinst
  obtain ⟨m8, methM', cM, hn8, hmethM', -, -, -, -, -, -, hsigM⟩ := Cond.codeWith_spec hcode
  cases Option.some.inj (hn8.symm.trans hnamed)
  cases hmethM.symm.trans hmethM'
  obtain ⟨c2, r2, m2, q1, q2, q3, q4, kP, hkP, hkPi⟩ := Cond.selects_spec hsel
  cases hcls.symm.trans q1
  cases (State.methodFound?_of_named hnamed hy).symm.trans q2
  cases hnamed.symm.trans q3
  have hselP : selectMethod e.platform s.vm cellB.cls mk = .method mk := by rw [Launch.admits_selectMethod X.admits]; exact q4
  obtain ⟨vm₁, X₁, hstep₁⟩ := X.invokevirtual hexec hown hlink hnamed hmethM hstM hkP hkPi hy (a := b) (cell := cellB) hcell
    (fun z h => by rw [h] at hobj; cases hobj) hselP hmethM habM hkP hkPi (g := g) hg (argsL := argsL) (rest := rest) (hlen _ hsigM) hstack hdg
  obtain ⟨v, B, X', hpost, hsteps⟩ := hK m meth c ⟨T.setVm vm₁, locs, cells, slots⟩ { g with stack := rest } (.invokevirtual index) mk (Value.ref b :: argsL).toArray X₁ hg hsize hdg hW (X₁.named hnamed) (hpre vm₁ X₁.warmed)
  exact ⟨v, vm₁, B, X₁.warmed, X', hpost, fun target h => hstep₁ _ fun acts => by rw [doInvoke_state]; exact hsteps.trans h⟩
abbrev vx_CVW (R : Room) (s : State) (args : Array Value) (own C : String) (index : Nat) (y : MethodName) (bytes : ByteArray) (maxL : Nat) (ret : Option FieldType) (hh : List (Nat × Nat × Nat × Nat)) (ws : List Cond) (rm : Room) (mc ms n : Nat) : Prop :=
  (rm.cells = mc ∧ rm.slots = ms ∧ rm.frames + 1 ≤ R.frames ∧ 8 + (maxL + 11) + rm.locals ≤ R.locals ∧ (∀ w ∈ ws, ∀ (a' : Array Value) (U : State), s.WarmedH U.vm → w.before a' U = true) ∧ Cond.codeWith y bytes maxL ret hh ∈ ws) ∧
  (Cond.codeWith y bytes maxL ret hh).before args s = true ∧ (Cond.initialized y.cls).before args s = true ∧ (y.cls ≠ "java/lang/invoke/MethodHandle" ∧ y.cls ≠ "java/lang/invoke/VarHandle") ∧
  (∀ sig, parseMethodDescriptor y.desc = some sig → n = sig.parameters.length) ∧ (Cond.methodLink own index y).before args s = true ∧ (Cond.instanceMethod y).before args s = true ∧ (Cond.selects C y y).before args s = true
theorem vx_cwVW {own C : String} {index maxL mc ms : Nat} {y : MethodName} {bytes : ByteArray} {ret : Option FieldType} {hh : List (Nat × Nat × Nat × Nat)} {Ts ws ws' : List Cond} {rm : Room} (n : Nat) (ht : ∀ w ∈ Ts, w.before args s = true) (hT : GoodIn Ts (wsV own index C y ws)) (hw : ws = Cond.codeWith y bytes maxL ret hh :: ws') (hrc : rm.cells = mc) (hrs : rm.slots = ms)
    (hd : y.cls = C ∧ y.cls ≠ "java/lang/invoke/MethodHandle" ∧ y.cls ≠ "java/lang/invoke/VarHandle" ∧ (parseMethodDescriptor y.desc).map (fun d => d.parameters.length) = some n) (hR : rm.frames + 1 ≤ R.frames ∧ 8 + (maxL + 11) + rm.locals ≤ R.locals) :
    vx_CVW R s args own C index y bytes maxL ret hh ws rm mc ms n := by
  obtain ⟨hC, hd⟩ := hd
  subst hC
  have ok : ∀ w ∈ wsV own index y.cls y ws, w.before args s = true := fun w h => ht w (hT w h).1
  have hG : GoodIn Ts ws := fun w h => hT w (by unfold wsV; exact List.mem_append_right _ h)
  have hc : Cond.codeWith y bytes maxL ret hh ∈ ws := by rw [hw]; exact List.mem_cons_self
  refine ⟨⟨hrc, hrs, hR.1, hR.2, pay_in ht hG, hc⟩, ht _ (hG _ hc).1, ok _ (by simp [wsV]), ⟨hd.1, hd.2.1⟩, fun sig h => ?_, ok _ (by simp [wsV]), ok _ (by simp [wsV]), ok _ (by simp [wsV])⟩
  have h2 := hd.2.2
  rw [h] at h2
  exact (Option.some.inj h2).symm
theorem vx_runVW {y : MethodName} {bytes cc : ByteArray} {maxL nL mc ms n index : Nat} {ret : Option FieldType} {hh : List (Nat × Nat × Nat × Nat)} {ws : List Cond} {rm : Room} {Pc : Array Value → State → Prop} {Qc : Array Value → State → Outcome → State → Prop} {free : Addr → Prop} {Ts : List Cond} {own C : String} {b : Addr} {As rest : List Value} {g : JFrame}
    (S : CallFix p m c cc nL s args Ts own) (hM : Met l y ws rm Pc Qc mc ms free) (cw : vx_CVW R s args own C index y bytes maxL ret hh ws rm mc ms n) (hp : PreV s H C b Pc As)
    (hg : g.method = m) (hn : As.length = n) (hsize : g.locals.size = nL) (hstack : g.stack = As.reverse ++ .ref b :: rest) (hW : 2 * g.monitorRoom + (rest.map fun v => v.category).sum ≤ 8) (hdg : decode cc g.pc = .ok (.invokevirtual index, 3)) (hf : cells + mc ≤ R.cells ∧ slots + ms ≤ R.slots) :
    va_Run p l e R s m args below meth c H locs cells slots mc ms g rest (Qc (Value.ref b :: As).toArray) free := by
  obtain ⟨⟨hrc, hrs, hfr, hlo, hws, hcw⟩, hcode, hini, hy, hlen, hl, hin, hse⟩ := cw
  have hK : Back l R p e below s args y 3 8 (PreOf R mc ms Pc) (PostOf Qc mc ms free) := va_backW (hh := hh) (bytes := bytes) (maxL := maxL) (ret := ret) hM hp.1 hrc hrs hfr hlo hws hcw (fun a' U hW => word_at hW (Or.inl (by first | rfl | simp [Cond.onTables, Cond.keeps, Cond.steady])) hini)
  obtain ⟨hx, hb, hml, ho, -⟩ := S
  obtain ⟨-, ⟨cellB, hcB, hoB, hclB⟩, hPc⟩ := hp
  intro T hT X
  obtain ⟨v, vm₁, ⟨U', l2, c2, s2⟩, hW₁, X', ⟨g', mk, t, L, e1, e2, hq, h1, hL, h2, h3⟩, st⟩ := vx_callVW X hx (C := C) (hh := hh) (bytes := bytes) (maxL := maxL) (ret := ret) ho hl hin hse hcode hy hK (by rw [hT]; exact hcB) hoB hclB hg (hsize.trans hml.symm) (argsL := As) (rest := rest) (fun sig h => hn.trans (hlen sig h)) hstack hW (by rw [hb]; exact hdg)
    (fun vm₁ hW₁ => ⟨hf.1, hf.2, hPc (T.setVm vm₁) hT hW₁⟩)
  dsimp only [Pt.U, Pt.locs, Pt.cells, Pt.slots] at X' e1 e2 h1 h2 h3 st
  subst h1; subst h2; subst h3
  exact ⟨v, (T.setVm vm₁).calling g' mk (Value.ref b :: As).toArray, t, U', L, hT, X', hL, e1, e2, hq, st⟩
section
variable {y : MethodName} {bytes cc : ByteArray} {maxL nL mc ms n index : Nat} {ret : Option FieldType} {ws : List Cond} {rm : Room} {Pc : Array Value → State → Prop} {Qc : Array Value → State → Outcome → State → Prop} {XC : String → State → State → Prop} {free : Addr → Prop} {Ts : List Cond} {own C : String} {b : Addr} {As rest : List Value} {g : JFrame}
theorem vx_runVX {hh : List (Nat × Nat × Nat × Nat)} (S : CallFix p m c cc nL s args Ts own) (hM : vx_Met l y ws rm Pc Qc XC mc ms free) (cw : vx_CVW R s args own C index y bytes maxL ret hh ws rm mc ms n) (hp : PreV s H C b Pc As)
    (hg : g.method = m) (hn : As.length = n) (hsize : g.locals.size = nL) (hstack : g.stack = As.reverse ++ .ref b :: rest) (hW : 2 * g.monitorRoom + (rest.map fun v => v.category).sum ≤ 8) (hdg : decode cc g.pc = .ok (.invokevirtual index, 3)) (hf : cells + mc ≤ R.cells ∧ slots + ms ≤ R.slots) :
    vx_Run p l e R s m args below meth c H locs cells slots mc ms g rest (Qc (Value.ref b :: As).toArray) XC free := by
  obtain ⟨⟨hrc, hrs, hfr, hlo, hws, hcw⟩, hcode, hini, hy, hlen, hl, hin, hse⟩ := cw
  have hK : vx_Back l R p e below s args y 3 8 (PreOf R mc ms Pc) (PostOf Qc mc ms free) (vx_Post XC mc ms free) := vx_backW (hh := hh) (bytes := bytes) (maxL := maxL) (ret := ret) hM hp.1 hrc hrs hfr hlo hws hcw (fun a' U hW => word_at hW (Or.inl (by first | rfl | simp [Cond.onTables, Cond.keeps, Cond.steady])) hini)
  obtain ⟨hx, hb, hml, ho, -⟩ := S
  obtain ⟨-, ⟨cellB, hcB, hoB, hclB⟩, hPc⟩ := hp
  intro T hT X
  rcases vx_callVX X hx (C := C) (hh := hh) (bytes := bytes) (maxL := maxL) (ret := ret) ho hl hin hse hcode hy hK (by rw [hT]; exact hcB) hoB hclB hg (hsize.trans hml.symm) (argsL := As) (rest := rest) (fun sig h => hn.trans (hlen sig h)) hstack hW (by rw [hb]; exact hdg)
    (fun vm₁ hW₁ => ⟨hf.1, hf.2, hPc (T.setVm vm₁) hT hW₁⟩) with ⟨v, vm₁, ⟨U', l2, c2, s2⟩, hW₁, X', ⟨g', mk, t, L, e1, e2, hq, h1, hL, h2, h3⟩, st⟩ | ⟨q, vm₁, ⟨U', l2, c2, s2⟩, hW₁, X', ⟨g', mk, t, L, E, ce, e1, e2, hq, hce, hcv, hcl, h1, hL, h2, h3⟩, st⟩
  · dsimp only [Pt.U, Pt.locs, Pt.cells, Pt.slots] at X' e1 e2 h1 h2 h3 st
    subst h1; subst h2; subst h3
    exact Or.inl ⟨v, (T.setVm vm₁).calling g' mk (Value.ref b :: As).toArray, t, U', L, hT, X', hL, e1, e2, hq, st⟩
  · dsimp only [Pt.U, Pt.locs, Pt.cells, Pt.slots] at X' e1 e2 h1 h2 h3 st hcl
    subst h1; subst h2; subst h3
    exact Or.inr ⟨q, (T.setVm vm₁).calling g' mk (Value.ref b :: As).toArray, t, U', L, E, ce, hT, X', hL, e1, e2, hq, hce, hcv, vx_cls hW₁ hcl, st⟩
theorem vx_runSX {hh : List (Nat × Nat × Nat × Nat)} (S : CallFix p m c cc nL s args Ts own) (hM : vx_Met l y ws rm Pc Qc XC mc ms free) (cw : vx_CSW R s args own index y bytes maxL ret hh ws rm mc ms n) (hp : PreS s H Pc As)
    (hg : g.method = m) (hn : As.length = n) (hsize : g.locals.size = nL) (hstack : g.stack = As.reverse ++ rest) (hW : 2 * g.monitorRoom + (rest.map fun v => v.category).sum ≤ 8) (hdg : decode cc g.pc = .ok (.invokestatic index, 3)) (hf : cells + mc ≤ R.cells ∧ slots + ms ≤ R.slots) :
    vx_Run p l e R s m args below meth c H locs cells slots mc ms g rest (Qc As.toArray) XC free := by
  obtain ⟨⟨hrc, hrs, hfr, hlo, hws, hcw⟩, hcode, hini, hy, hlen, hl, hstt⟩ := cw
  have hK : vx_Back l R p e below s args y 3 8 (PreOf R mc ms Pc) (PostOf Qc mc ms free) (vx_Post XC mc ms free) := vx_backW (hh := hh) (bytes := bytes) (maxL := maxL) (ret := ret) hM hp.1 hrc hrs hfr hlo hws hcw (fun a' U hW => word_at hW (Or.inl (by first | rfl | simp [Cond.onTables, Cond.keeps, Cond.steady])) hini)
  obtain ⟨hx, hb, hml, ho, -⟩ := S
  intro T hT X
  rcases vx_callSX X hx (hh := hh) (bytes := bytes) (maxL := maxL) (ret := ret) ho hl hstt hini hcode hy hK hg (hsize.trans hml.symm) (argsL := As) (rest := rest) (fun sig h => hn.trans (hlen sig h)) hstack hW (by rw [hb]; exact hdg)
    (fun vm₁ hW₁ => ⟨hf.1, hf.2, hp.2 (T.setVm vm₁) hT hW₁⟩) with ⟨v, vm₁, ⟨U', l2, c2, s2⟩, hW₁, X', ⟨g', mk, t, L, e1, e2, hq, h1, hL, h2, h3⟩, st⟩ | ⟨q, vm₁, ⟨U', l2, c2, s2⟩, hW₁, X', ⟨g', mk, t, L, E, ce, e1, e2, hq, hce, hcv, hcl, h1, hL, h2, h3⟩, st⟩
  · dsimp only [Pt.U, Pt.locs, Pt.cells, Pt.slots] at X' e1 e2 h1 h2 h3 st
    subst h1; subst h2; subst h3
    exact Or.inl ⟨v, (T.setVm vm₁).calling g' mk As.toArray, t, U', L, hT, X', hL, e1, e2, hq, st⟩
  · dsimp only [Pt.U, Pt.locs, Pt.cells, Pt.slots] at X' e1 e2 h1 h2 h3 st hcl
    subst h1; subst h2; subst h3
    exact Or.inr ⟨q, (T.setVm vm₁).calling g' mk As.toArray, t, U', L, E, ce, hT, X', hL, e1, e2, hq, hce, hcv, vx_cls hW₁ hcl, st⟩
end
end VXH
theorem vx_ofWH {l : Launch} {y : MethodName} {ws ws' : List Cond} {rm : Room} {Pc : Array Value → State → Prop} {Qc : Array Value → State → Outcome → State → Prop} {XC : String → State → State → Prop} {mc ms : Nat} {free : Addr → Prop} {cc : ByteArray} {maxL : Nat} {ret : Option FieldType} {hh : List (Nat × Nat × Nat × Nat)}
    (hy : plainName y.cls = true) (hw : ws = Cond.codeWith y cc maxL ret hh :: ws')
    (body : ∀ p e s m args below meth c s₁, BodyLoose p l y (headSpec ws rm) cc maxL ret e s m args below meth c s₁ → c.maxLocals = maxL → Pc args s →
      W p l e (headSpec ws rm).room s m args below meth c s.heap [] 0 0 (vx_MQ below Qc XC args s mc ms free) (entryFrame m args maxL)) : vx_Met l y ws rm Pc Qc XC mc ms free := by
  refine MetFree.of_bodyS (code := cc) (maxLocals := maxL) (ret := ret) hy ?_ ?_
  · intro args s m h hn
    obtain ⟨m9, meth, c, hn9, h1, h2, h3, h4, -, h5, h6, -⟩ := Cond.codeWith_spec (atoms_spec (ws := ws) h _ (by rw [hw]; exact List.mem_cons_self))
    cases hn.symm.trans hn9
    exact ⟨meth, c, h1, h2, h3, h4, h5, h6⟩
  · intro p e s m args below meth c s₁ B hml hP _
    have hh0 : s₁.heap = s.heap := by rw [B.state]; rfl
    obtain ⟨t, a1, o, b1, b2, b3⟩ := body p e s m args below meth c s₁ B hml hP s₁ hh0 (Stand.of_body B)
    exact ⟨t, o, a1, b1, b2, b3⟩
/-! ===== END ===== -/
end
section
def RX0 : String := "HouseClauses$House"
def TX0 : u_T := fun k => match k with
  | 0 => ("HouseClauses$House", "list", "[LHouseClauses$Rule;", true)
  | 1 => ("HouseClauses$House", "spare", "LHouseClauses$Rule;", true)
  | 2 => ("HouseClauses$House", "count", "I", false)
  | 3 => ("HouseClauses$House", "guests", "I", false)
  | 4 => ("HouseClauses$House", "today", "I", false)
  | 5 => ("HouseClauses$House", "nightly", "I", false)
  | _ => ("HouseClauses$House", "withdrawn", "I", false)
def tyX0 : Nat → FieldType := fun k => match k with
  | 0 => .array (.object "HouseClauses$Rule")
  | 1 => .object "HouseClauses$Rule"
  | 2 => .int
  | 3 => .int
  | 4 => .int
  | 5 => .int
  | _ => .int
abbrev wsX00 : List Cond := u_ws RX0 TX0 7
theorem nmX0 : ∀ a, a < 7 → ∀ b, b < 7 → a ≠ b → (TX0 a).2.1 ≠ (TX0 b).2.1 := by decide +kernel
theorem tyX0_ok : ∀ k, k < 7 → parseFieldDescriptor (TX0 k).2.2.1 = some (tyX0 k) := by decide +kernel
abbrev cX0_init : ByteArray := prog_2_method_1_code
def yX0_init : MethodName := ⟨RX0, "<init>", "()V"⟩
abbrev cX0_at : ByteArray := prog_2_method_2_code
def yX0_at : MethodName := ⟨RX0, "at", "(I)LHouseClauses$Rule;"⟩
abbrev cX0_become : ByteArray := prog_2_method_3_code
def yX0_become : MethodName := ⟨RX0, "become", "(LHouseClauses$House;)V"⟩
abbrev cX0_addRule : ByteArray := prog_2_method_4_code
def yX0_addRule : MethodName := ⟨RX0, "addRule", "(III)I"⟩
abbrev cX0_dropRule : ByteArray := prog_2_method_5_code
def yX0_dropRule : MethodName := ⟨RX0, "dropRule", "(I)V"⟩
abbrev cX0_waiveRule : ByteArray := prog_2_method_6_code
def yX0_waiveRule : MethodName := ⟨RX0, "waiveRule", "(II)I"⟩
abbrev cX0_daysWaived : ByteArray := prog_2_method_7_code
def yX0_daysWaived : MethodName := ⟨RX0, "daysWaived", "(I)I"⟩
abbrev cX0_rulesInForce : ByteArray := prog_2_method_8_code
def yX0_rulesInForce : MethodName := ⟨RX0, "rulesInForce", "(I)I"⟩
abbrev cX0_rulesBroken : ByteArray := prog_2_method_9_code
def yX0_rulesBroken : MethodName := ⟨RX0, "rulesBroken", "(II)I"⟩
abbrev cX0_rulesLost : ByteArray := prog_2_method_10_code
def yX0_rulesLost : MethodName := ⟨RX0, "rulesLost", "(III)I"⟩
abbrev cX0_pricesOf : ByteArray := prog_2_method_11_code
def yX0_pricesOf : MethodName := ⟨RX0, "pricesOf", "(I)I"⟩
abbrev cX0_nightIn : ByteArray := prog_2_method_12_code
def yX0_nightIn : MethodName := ⟨RX0, "nightIn", "(II)I"⟩
abbrev cX0_nightsAhead : ByteArray := prog_2_method_13_code
def yX0_nightsAhead : MethodName := ⟨RX0, "nightsAhead", "(I)I"⟩
abbrev cX0_waysOf : ByteArray := prog_2_method_14_code
def yX0_waysOf : MethodName := ⟨RX0, "waysOf", "(I)J"⟩
abbrev cX0_peacefulWays : ByteArray := prog_2_method_15_code
def yX0_peacefulWays : MethodName := ⟨RX0, "peacefulWays", "()J"⟩
abbrev cX0_refuser : ByteArray := prog_2_method_16_code
def yX0_refuser : MethodName := ⟨RX0, "refuser", "(I)I"⟩
abbrev cX0_canTurn : ByteArray := prog_2_method_17_code
def yX0_canTurn : MethodName := ⟨RX0, "canTurn", "(IZ)Z"⟩
abbrev cX0_turn : ByteArray := prog_2_method_18_code
def yX0_turn : MethodName := ⟨RX0, "turn", "(I)I"⟩
abbrev cX0_passNights : ByteArray := prog_2_method_19_code
def yX0_passNights : MethodName := ⟨RX0, "passNights", "(I)I"⟩
abbrev cX0_passNight : ByteArray := prog_2_method_20_code
def yX0_passNight : MethodName := ⟨RX0, "passNight", "()I"⟩
abbrev cX0_accounts : ByteArray := prog_2_method_21_code
def yX0_accounts : MethodName := ⟨RX0, "accounts", "()I"⟩
def RX1 : String := "HouseClauses$Joiner"
def TX1 : u_T := fun k => match k with
  | 0 => ("HouseClauses$Joiner", "made", "[I", true)
  | 1 => ("HouseClauses$Joiner", "seen", "[J", true)
  | _ => ("HouseClauses$Joiner", "count", "I", false)
def tyX1 : Nat → FieldType := fun k => match k with
  | 0 => .array .int
  | 1 => .array .long
  | _ => .int
abbrev wsX10 : List Cond := u_ws RX1 TX1 3
theorem nmX1 : ∀ a, a < 3 → ∀ b, b < 3 → a ≠ b → (TX1 a).2.1 ≠ (TX1 b).2.1 := by decide +kernel
theorem tyX1_ok : ∀ k, k < 3 → parseFieldDescriptor (TX1 k).2.2.1 = some (tyX1 k) := by decide +kernel
abbrev cX1_init : ByteArray := prog_3_method_1_code
def yX1_init : MethodName := ⟨RX1, "<init>", "()V"⟩
abbrev cX1_joinAll : ByteArray := prog_3_method_2_code
def yX1_joinAll : MethodName := ⟨RX1, "joinAll", "(LHouseClauses$House;I)V"⟩
abbrev cX1_hasNothing : ByteArray := prog_3_method_3_code
def yX1_hasNothing : MethodName := ⟨RX1, "hasNothing", "()Z"⟩
abbrev cX1_joinWithEarlier : ByteArray := prog_3_method_4_code
def yX1_joinWithEarlier : MethodName := ⟨RX1, "joinWithEarlier", "(I)V"⟩
abbrev cX1_add : ByteArray := prog_3_method_5_code
def yX1_add : MethodName := ⟨RX1, "add", "(II)V"⟩
def RX2 : String := "HouseClauses$LogReader"
def TX2 : u_T := fun k => match k with
  | 0 => ("HouseClauses$LogReader", "stage", "I", false)
  | 1 => ("HouseClauses$LogReader", "kind", "I", false)
  | 2 => ("HouseClauses$LogReader", "number", "I", false)
  | 3 => ("HouseClauses$LogReader", "days", "I", false)
  | 4 => ("HouseClauses$LogReader", "room", "I", false)
  | 5 => ("HouseClauses$LogReader", "letRooms", "I", false)
  | _ => ("HouseClauses$LogReader", "emptyRooms", "I", false)
def tyX2 : Nat → FieldType := fun k => match k with
  | 0 => .int
  | 1 => .int
  | 2 => .int
  | 3 => .int
  | 4 => .int
  | 5 => .int
  | _ => .int
abbrev wsX20 : List Cond := u_ws RX2 TX2 7
theorem nmX2 : ∀ a, a < 7 → ∀ b, b < 7 → a ≠ b → (TX2 a).2.1 ≠ (TX2 b).2.1 := by decide +kernel
theorem tyX2_ok : ∀ k, k < 7 → parseFieldDescriptor (TX2 k).2.2.1 = some (tyX2 k) := by decide +kernel
abbrev cX2_init : ByteArray := prog_4_method_1_code
def yX2_init : MethodName := ⟨RX2, "<init>", "()V"⟩
abbrev cX2_begin : ByteArray := prog_4_method_2_code
def yX2_begin : MethodName := ⟨RX2, "begin", "()V"⟩
abbrev cX2_isAtEnd : ByteArray := prog_4_method_3_code
def yX2_isAtEnd : MethodName := ⟨RX2, "isAtEnd", "()Z"⟩
abbrev cX2_take : ByteArray := prog_4_method_4_code
def yX2_take : MethodName := ⟨RX2, "take", "(I)Z"⟩
abbrev cX2_takeKind : ByteArray := prog_4_method_5_code
def yX2_takeKind : MethodName := ⟨RX2, "takeKind", "(I)Z"⟩
abbrev cX2_stageBehind : ByteArray := prog_4_method_6_code
def yX2_stageBehind : MethodName := ⟨RX2, "stageBehind", "(I)I"⟩
abbrev cX2_takeNumber : ByteArray := prog_4_method_7_code
def yX2_takeNumber : MethodName := ⟨RX2, "takeNumber", "(III)Z"⟩
abbrev cX2_takeDays : ByteArray := prog_4_method_8_code
def yX2_takeDays : MethodName := ⟨RX2, "takeDays", "(I)Z"⟩
abbrev cX2_takeRoom : ByteArray := prog_4_method_9_code
def yX2_takeRoom : MethodName := ⟨RX2, "takeRoom", "(I)Z"⟩
abbrev cX2_takeSign : ByteArray := prog_4_method_10_code
def yX2_takeSign : MethodName := ⟨RX2, "takeSign", "(I)Z"⟩
abbrev cX2_takeRoomToBeEmpty : ByteArray := prog_4_method_11_code
def yX2_takeRoomToBeEmpty : MethodName := ⟨RX2, "takeRoomToBeEmpty", "(I)Z"⟩
abbrev cX2_takeEnd : ByteArray := prog_4_method_12_code
def yX2_takeEnd : MethodName := ⟨RX2, "takeEnd", "(I)Z"⟩
abbrev cX2_isRoom : ByteArray := prog_4_method_13_code
def yX2_isRoom : MethodName := ⟨RX2, "isRoom", "(I)Z"⟩
abbrev cX2_isUnnamedRoom : ByteArray := prog_4_method_14_code
def yX2_isUnnamedRoom : MethodName := ⟨RX2, "isUnnamedRoom", "(I)Z"⟩
def RX3 : String := "HouseClauses$Past"
def TX3 : u_T := fun k => match k with
  | 0 => ("HouseClauses$Past", "ring", "[LHouseClauses$House;", true)
  | 1 => ("HouseClauses$Past", "spare", "LHouseClauses$House;", true)
  | 2 => ("HouseClauses$Past", "oldest", "I", false)
  | _ => ("HouseClauses$Past", "count", "I", false)
def tyX3 : Nat → FieldType := fun k => match k with
  | 0 => .array (.object "HouseClauses$House")
  | 1 => .object "HouseClauses$House"
  | 2 => .int
  | _ => .int
abbrev wsX30 : List Cond := u_ws RX3 TX3 4
theorem nmX3 : ∀ a, a < 4 → ∀ b, b < 4 → a ≠ b → (TX3 a).2.1 ≠ (TX3 b).2.1 := by decide +kernel
theorem tyX3_ok : ∀ k, k < 4 → parseFieldDescriptor (TX3 k).2.2.1 = some (tyX3 k) := by decide +kernel
abbrev cX3_init : ByteArray := prog_5_method_1_code
def yX3_init : MethodName := ⟨RX3, "<init>", "()V"⟩
abbrev cX3_place : ByteArray := prog_5_method_2_code
def yX3_place : MethodName := ⟨RX3, "place", "(I)LHouseClauses$House;"⟩
abbrev cX3_save : ByteArray := prog_5_method_3_code
def yX3_save : MethodName := ⟨RX3, "save", "(LHouseClauses$House;)V"⟩
abbrev cX3_restore : ByteArray := prog_5_method_4_code
def yX3_restore : MethodName := ⟨RX3, "restore", "(LHouseClauses$House;)V"⟩
def RX4 : String := "HouseClauses$Rule"
def TX4 : u_T := fun k => match k with
  | 0 => ("HouseClauses$Rule", "letRooms", "I", false)
  | 1 => ("HouseClauses$Rule", "emptyRooms", "I", false)
  | 2 => ("HouseClauses$Rule", "price", "I", false)
  | 3 => ("HouseClauses$Rule", "strict", "Z", false)
  | 4 => ("HouseClauses$Rule", "firstDayInForce", "I", false)
  | 5 => ("HouseClauses$Rule", "brought", "I", false)
  | _ => ("HouseClauses$Rule", "heldWays", "J", false)
def tyX4 : Nat → FieldType := fun k => match k with
  | 0 => .int
  | 1 => .int
  | 2 => .int
  | 3 => .boolean
  | 4 => .int
  | 5 => .int
  | _ => .long
abbrev wsX40 : List Cond := u_ws RX4 TX4 7
theorem nmX4 : ∀ a, a < 7 → ∀ b, b < 7 → a ≠ b → (TX4 a).2.1 ≠ (TX4 b).2.1 := by decide +kernel
theorem tyX4_ok : ∀ k, k < 7 → parseFieldDescriptor (TX4 k).2.2.1 = some (tyX4 k) := by decide +kernel
abbrev cX4_init : ByteArray := prog_6_method_1_code
def yX4_init : MethodName := ⟨RX4, "<init>", "()V"⟩
abbrev cX4_become : ByteArray := prog_6_method_2_code
def yX4_become : MethodName := ⟨RX4, "become", "(LHouseClauses$Rule;)V"⟩
abbrev cX4_begin : ByteArray := prog_6_method_3_code
def yX4_begin : MethodName := ⟨RX4, "begin", "(III)V"⟩
abbrev cX4_holdsOn : ByteArray := prog_6_method_4_code
def yX4_holdsOn : MethodName := ⟨RX4, "holdsOn", "(I)Z"⟩
abbrev cX4_hasLostAll : ByteArray := prog_6_method_5_code
def yX4_hasLostAll : MethodName := ⟨RX4, "hasLostAll", "(II)Z"⟩
def RX5 : String := "HouseClauses$SetTable"
def TX5 : u_T := fun k => match k with
  | _ => ("HouseClauses$SetTable", "open", "[J", true)
def tyX5 : Nat → FieldType := fun k => match k with
  | _ => .array .long
abbrev wsX50 : List Cond := u_ws RX5 TX5 1
theorem nmX5 : ∀ a, a < 1 → ∀ b, b < 1 → a ≠ b → (TX5 a).2.1 ≠ (TX5 b).2.1 := by decide +kernel
theorem tyX5_ok : ∀ k, k < 1 → parseFieldDescriptor (TX5 k).2.2.1 = some (tyX5 k) := by decide +kernel
abbrev cX5_init : ByteArray := prog_7_method_1_code
def yX5_init : MethodName := ⟨RX5, "<init>", "()V"⟩
abbrev cX5_fill : ByteArray := prog_7_method_2_code
def yX5_fill : MethodName := ⟨RX5, "fill", "(LHouseClauses$House;)V"⟩
abbrev cX5_of : ByteArray := prog_7_method_3_code
def yX5_of : MethodName := ⟨RX5, "of", "(I)J"⟩
abbrev cX5_isNarrowClash : ByteArray := prog_7_method_4_code
def yX5_isNarrowClash : MethodName := ⟨RX5, "isNarrowClash", "(I)Z"⟩
def RX6 : String := "HouseClauses"
def TX6 : u_T := fun k => match k with
  | 0 => ("HouseClauses", "now", "LHouseClauses$House;", true)
  | 1 => ("HouseClauses", "snapshot", "LHouseClauses$House;", true)
  | 2 => ("HouseClauses", "hasSnapshot", "Z", false)
  | 3 => ("HouseClauses", "past", "LHouseClauses$Past;", true)
  | 4 => ("HouseClauses", "buffer", "[I", true)
  | 5 => ("HouseClauses", "length", "I", false)
  | 6 => ("HouseClauses", "reader", "LHouseClauses$LogReader;", true)
  | 7 => ("HouseClauses", "joiner", "LHouseClauses$Joiner;", true)
  | _ => ("HouseClauses", "sets", "LHouseClauses$SetTable;", true)
def tyX6 : Nat → FieldType := fun k => match k with
  | 0 => .object "HouseClauses$House"
  | 1 => .object "HouseClauses$House"
  | 2 => .boolean
  | 3 => .object "HouseClauses$Past"
  | 4 => .array .int
  | 5 => .int
  | 6 => .object "HouseClauses$LogReader"
  | 7 => .object "HouseClauses$Joiner"
  | _ => .object "HouseClauses$SetTable"
abbrev wsX60 : List Cond := u_ws RX6 TX6 9
theorem nmX6 : ∀ a, a < 9 → ∀ b, b < 9 → a ≠ b → (TX6 a).2.1 ≠ (TX6 b).2.1 := by decide +kernel
theorem tyX6_ok : ∀ k, k < 9 → parseFieldDescriptor (TX6 k).2.2.1 = some (tyX6 k) := by decide +kernel
abbrev cX6_init : ByteArray := prog_1_method_1_code
def yX6_init : MethodName := ⟨RX6, "<init>", "()V"⟩
abbrev cX6_make : ByteArray := prog_1_method_2_code
def yX6_make : MethodName := ⟨RX6, "make", "(III)I"⟩
abbrev cX6_withdraw : ByteArray := prog_1_method_3_code
def yX6_withdraw : MethodName := ⟨RX6, "withdraw", "(I)I"⟩
abbrev cX6_setStrict : ByteArray := prog_1_method_4_code
def yX6_setStrict : MethodName := ⟨RX6, "setStrict", "(IZ)Z"⟩
abbrev cX6_waive : ByteArray := prog_1_method_5_code
def yX6_waive : MethodName := ⟨RX6, "waive", "(II)I"⟩
abbrev cX6_come : ByteArray := prog_1_method_6_code
def yX6_come : MethodName := ⟨RX6, "come", "(I)I"⟩
abbrev cX6_go : ByteArray := prog_1_method_7_code
def yX6_go : MethodName := ⟨RX6, "go", "(I)I"⟩
abbrev cX6_pass : ByteArray := prog_1_method_8_code
def yX6_pass : MethodName := ⟨RX6, "pass", "(I)I"⟩
abbrev cX6_append : ByteArray := prog_1_method_9_code
def yX6_append : MethodName := ⟨RX6, "append", "(I)I"⟩
abbrev cX6_clearBuffer : ByteArray := prog_1_method_10_code
def yX6_clearBuffer : MethodName := ⟨RX6, "clearBuffer", "()I"⟩
abbrev cX6_firstError : ByteArray := prog_1_method_11_code
def yX6_firstError : MethodName := ⟨RX6, "firstError", "()I"⟩
abbrev cX6_runLog : ByteArray := prog_1_method_12_code
def yX6_runLog : MethodName := ⟨RX6, "runLog", "()I"⟩
abbrev cX6_keep : ByteArray := prog_1_method_13_code
def yX6_keep : MethodName := ⟨RX6, "keep", "()I"⟩
abbrev cX6_goBack : ByteArray := prog_1_method_14_code
def yX6_goBack : MethodName := ⟨RX6, "goBack", "()I"⟩
abbrev cX6_undo : ByteArray := prog_1_method_15_code
def yX6_undo : MethodName := ⟨RX6, "undo", "()I"⟩
abbrev cX6_rules : ByteArray := prog_1_method_16_code
def yX6_rules : MethodName := ⟨RX6, "rules", "()I"⟩
abbrev cX6_shouldBeLet : ByteArray := prog_1_method_17_code
def yX6_shouldBeLet : MethodName := ⟨RX6, "shouldBeLet", "(I)I"⟩
abbrev cX6_shouldBeEmpty : ByteArray := prog_1_method_18_code
def yX6_shouldBeEmpty : MethodName := ⟨RX6, "shouldBeEmpty", "(I)I"⟩
abbrev cX6_fine : ByteArray := prog_1_method_19_code
def yX6_fine : MethodName := ⟨RX6, "fine", "(I)I"⟩
abbrev cX6_isStrict : ByteArray := prog_1_method_20_code
def yX6_isStrict : MethodName := ⟨RX6, "isStrict", "(I)Z"⟩
abbrev cX6_waivedFor : ByteArray := prog_1_method_21_code
def yX6_waivedFor : MethodName := ⟨RX6, "waivedFor", "(I)I"⟩
abbrev cX6_holdsIn : ByteArray := prog_1_method_22_code
def yX6_holdsIn : MethodName := ⟨RX6, "holdsIn", "(II)Z"⟩
abbrev cX6_way : ByteArray := prog_1_method_23_code
def yX6_way : MethodName := ⟨RX6, "way", "()I"⟩
abbrev cX6_day : ByteArray := prog_1_method_24_code
def yX6_day : MethodName := ⟨RX6, "day", "()I"⟩
abbrev cX6_inForce : ByteArray := prog_1_method_25_code
def yX6_inForce : MethodName := ⟨RX6, "inForce", "()I"⟩
abbrev cX6_broken : ByteArray := prog_1_method_26_code
def yX6_broken : MethodName := ⟨RX6, "broken", "()I"⟩
abbrev cX6_refusedBy : ByteArray := prog_1_method_27_code
def yX6_refusedBy : MethodName := ⟨RX6, "refusedBy", "(I)I"⟩
abbrev cX6_finesOf : ByteArray := prog_1_method_28_code
def yX6_finesOf : MethodName := ⟨RX6, "finesOf", "(I)I"⟩
abbrev cX6_fines : ByteArray := prog_1_method_29_code
def yX6_fines : MethodName := ⟨RX6, "fines", "()I"⟩
abbrev cX6_finesByRules : ByteArray := prog_1_method_30_code
def yX6_finesByRules : MethodName := ⟨RX6, "finesByRules", "()I"⟩
abbrev cX6_canStand : ByteArray := prog_1_method_31_code
def yX6_canStand : MethodName := ⟨RX6, "canStand", "(I)Z"⟩
abbrev cX6_canStandBySplitting : ByteArray := prog_1_method_32_code
def yX6_canStandBySplitting : MethodName := ⟨RX6, "canStandBySplitting", "(I)Z"⟩
abbrev cX6_canStandByJoining : ByteArray := prog_1_method_33_code
def yX6_canStandByJoining : MethodName := ⟨RX6, "canStandByJoining", "(I)Z"⟩
abbrev cX6_joined : ByteArray := prog_1_method_34_code
def yX6_joined : MethodName := ⟨RX6, "joined", "(I)I"⟩
abbrev cX6_ways : ByteArray := prog_1_method_35_code
def yX6_ways : MethodName := ⟨RX6, "ways", "()I"⟩
abbrev cX6_waysBySplitting : ByteArray := prog_1_method_36_code
def yX6_waysBySplitting : MethodName := ⟨RX6, "waysBySplitting", "()I"⟩
abbrev cX6_firstWay : ByteArray := prog_1_method_37_code
def yX6_firstWay : MethodName := ⟨RX6, "firstWay", "()I"⟩
abbrev cX6_forced : ByteArray := prog_1_method_38_code
def yX6_forced : MethodName := ⟨RX6, "forced", "(I)I"⟩
abbrev cX6_follows : ByteArray := prog_1_method_39_code
def yX6_follows : MethodName := ⟨RX6, "follows", "(I)Z"⟩
abbrev cX6_followsBySplitting : ByteArray := prog_1_method_40_code
def yX6_followsBySplitting : MethodName := ⟨RX6, "followsBySplitting", "(I)Z"⟩
abbrev cX6_smallestClash : ByteArray := prog_1_method_41_code
def yX6_smallestClash : MethodName := ⟨RX6, "smallestClash", "()I"⟩
abbrev cX6_smallestClashByWays : ByteArray := prog_1_method_42_code
def yX6_smallestClashByWays : MethodName := ⟨RX6, "smallestClashByWays", "()I"⟩
abbrev cX6_narrowedClash : ByteArray := prog_1_method_43_code
def yX6_narrowedClash : MethodName := ⟨RX6, "narrowedClash", "()I"⟩
abbrev cX6_narrowClashes : ByteArray := prog_1_method_44_code
def yX6_narrowClashes : MethodName := ⟨RX6, "narrowClashes", "()I"⟩
abbrev cX6_fewestWaivers : ByteArray := prog_1_method_45_code
def yX6_fewestWaivers : MethodName := ⟨RX6, "fewestWaivers", "()I"⟩
abbrev cX6_fewestWaiversBySets : ByteArray := prog_1_method_46_code
def yX6_fewestWaiversBySets : MethodName := ⟨RX6, "fewestWaiversBySets", "()I"⟩
abbrev cX6_turnsToPeace : ByteArray := prog_1_method_47_code
def yX6_turnsToPeace : MethodName := ⟨RX6, "turnsToPeace", "()I"⟩
abbrev cX6_turnsToPeaceByGoing : ByteArray := prog_1_method_48_code
def yX6_turnsToPeaceByGoing : MethodName := ⟨RX6, "turnsToPeaceByGoing", "()I"⟩
abbrev cX6_nightNow : ByteArray := prog_1_method_49_code
def yX6_nightNow : MethodName := ⟨RX6, "nightNow", "()I"⟩
abbrev cX6_cheapestWay : ByteArray := prog_1_method_50_code
def yX6_cheapestWay : MethodName := ⟨RX6, "cheapestWay", "()I"⟩
abbrev cX6_cheapestNight : ByteArray := prog_1_method_51_code
def yX6_cheapestNight : MethodName := ⟨RX6, "cheapestNight", "()I"⟩
abbrev cX6_bestTurn : ByteArray := prog_1_method_52_code
def yX6_bestTurn : MethodName := ⟨RX6, "bestTurn", "()I"⟩
abbrev cX6_finesIn : ByteArray := prog_1_method_53_code
def yX6_finesIn : MethodName := ⟨RX6, "finesIn", "(I)I"⟩
abbrev cX6_peaceShare : ByteArray := prog_1_method_54_code
def yX6_peaceShare : MethodName := ⟨RX6, "peaceShare", "()D"⟩
abbrev cX6_meanFine : ByteArray := prog_1_method_55_code
def yX6_meanFine : MethodName := ⟨RX6, "meanFine", "()F"⟩
abbrev cX6_digest : ByteArray := prog_1_method_56_code
def yX6_digest : MethodName := ⟨RX6, "digest", "()J"⟩
abbrev cX6_requireRule : ByteArray := prog_1_method_57_code
def yX6_requireRule : MethodName := ⟨RX6, "requireRule", "(I)V"⟩
abbrev cX6_requireRoom : ByteArray := prog_1_method_58_code
def yX6_requireRoom : MethodName := ⟨RX6, "requireRoom", "(I)V"⟩
abbrev cX6_requireNights : ByteArray := prog_1_method_59_code
def yX6_requireNights : MethodName := ⟨RX6, "requireNights", "(I)V"⟩
abbrev cX6_requireSet : ByteArray := prog_1_method_60_code
def yX6_requireSet : MethodName := ⟨RX6, "requireSet", "(I)V"⟩
abbrev cX6_isPartOf : ByteArray := prog_1_method_61_code
def yX6_isPartOf : MethodName := ⟨RX6, "isPartOf", "(II)Z"⟩
abbrev cX6_hasWay : ByteArray := prog_1_method_62_code
def yX6_hasWay : MethodName := ⟨RX6, "hasWay", "(JI)Z"⟩
abbrev cX6_countWays : ByteArray := prog_1_method_63_code
def yX6_countWays : MethodName := ⟨RX6, "countWays", "()I"⟩
abbrev cX6_commonIn : ByteArray := prog_1_method_64_code
def yX6_commonIn : MethodName := ⟨RX6, "commonIn", "(I)I"⟩
abbrev cX6_oneTurnFurther : ByteArray := prog_1_method_65_code
def yX6_oneTurnFurther : MethodName := ⟨RX6, "oneTurnFurther", "(J)J"⟩
abbrev cX6_followsFromOthers : ByteArray := prog_1_method_66_code
def yX6_followsFromOthers : MethodName := ⟨RX6, "followsFromOthers", "(I)Z"⟩
abbrev cX6_followsWhenSplit : ByteArray := prog_1_method_67_code
def yX6_followsWhenSplit : MethodName := ⟨RX6, "followsWhenSplit", "(I)Z"⟩
abbrev cX6_splitWays : ByteArray := prog_1_method_68_code
def yX6_splitWays : MethodName := ⟨RX6, "splitWays", "(LHouseClauses$House;IIII)I"⟩
abbrev cX6_splitCheapest : ByteArray := prog_1_method_69_code
def yX6_splitCheapest : MethodName := ⟨RX6, "splitCheapest", "(LHouseClauses$House;IIIII)I"⟩
abbrev cX6_leastClash : ByteArray := prog_1_method_70_code
def yX6_leastClash : MethodName := ⟨RX6, "leastClash", "(LHouseClauses$House;IIIJ)I"⟩
abbrev cX6_readLog : ByteArray := prog_1_method_71_code
def yX6_readLog : MethodName := ⟨RX6, "readLog", "()I"⟩
abbrev cX6_doLog : ByteArray := prog_1_method_72_code
def yX6_doLog : MethodName := ⟨RX6, "doLog", "()I"⟩
abbrev cX6_doPart : ByteArray := prog_1_method_73_code
def yX6_doPart : MethodName := ⟨RX6, "doPart", "()Z"⟩
abbrev cX6_mix : ByteArray := prog_1_method_74_code
def yX6_mix : MethodName := ⟨RX6, "mix", "(JJ)J"⟩
abbrev cX6_mix_ : ByteArray := prog_1_method_75_code
def yX6_mix_ : MethodName := ⟨RX6, "mix", "(JZ)J"⟩
abbrev cX6_digestRules : ByteArray := prog_1_method_76_code
def yX6_digestRules : MethodName := ⟨RX6, "digestRules", "(J)J"⟩
abbrev cX6_digestHouse : ByteArray := prog_1_method_77_code
def yX6_digestHouse : MethodName := ⟨RX6, "digestHouse", "(J)J"⟩
abbrev cX6_digestStanding : ByteArray := prog_1_method_78_code
def yX6_digestStanding : MethodName := ⟨RX6, "digestStanding", "(J)J"⟩
abbrev cX6_digestClashes : ByteArray := prog_1_method_79_code
def yX6_digestClashes : MethodName := ⟨RX6, "digestClashes", "(J)J"⟩
abbrev cX6_digestPeace : ByteArray := prog_1_method_80_code
def yX6_digestPeace : MethodName := ⟨RX6, "digestPeace", "(J)J"⟩
abbrev cX6_digestRest : ByteArray := prog_1_method_81_code
def yX6_digestRest : MethodName := ⟨RX6, "digestRest", "(J)J"⟩
abbrev cX6_bitsOfShare : ByteArray := prog_1_method_82_code
def yX6_bitsOfShare : MethodName := ⟨RX6, "bitsOfShare", "(D)J"⟩
abbrev cX6_bitsOfMean : ByteArray := prog_1_method_83_code
def yX6_bitsOfMean : MethodName := ⟨RX6, "bitsOfMean", "(F)I"⟩
def RX7 : String := "HouseClausesModel"
def TX7 : u_T := fun k => match k with
  | 0 => ("HouseClausesModel", "s", "[I", true)
  | 1 => ("HouseClausesModel", "states", "I", false)
  | 2 => ("HouseClausesModel", "isKept", "Z", false)
  | 3 => ("HouseClausesModel", "thrown", "I", false)
  | 4 => ("HouseClausesModel", "text", "[C", true)
  | 5 => ("HouseClausesModel", "typed", "I", false)
  | 6 => ("HouseClausesModel", "at", "I", false)
  | 7 => ("HouseClausesModel", "what", "C", false)
  | 8 => ("HouseClausesModel", "first", "I", false)
  | 9 => ("HouseClausesModel", "second", "I", false)
  | 10 => ("HouseClausesModel", "third", "I", false)
  | 11 => ("HouseClausesModel", "lets", "[J", true)
  | 12 => ("HouseClausesModel", "holds", "[J", true)
  | 13 => ("HouseClausesModel", "isMade", "[Z", true)
  | 14 => ("HouseClausesModel", "made", "[I", true)
  | _ => ("HouseClausesModel", "many", "I", false)
def tyX7 : Nat → FieldType := fun k => match k with
  | 0 => .array .int
  | 1 => .int
  | 2 => .boolean
  | 3 => .int
  | 4 => .array .char
  | 5 => .int
  | 6 => .int
  | 7 => .char
  | 8 => .int
  | 9 => .int
  | 10 => .int
  | 11 => .array .long
  | 12 => .array .long
  | 13 => .array .boolean
  | 14 => .array .int
  | _ => .int
abbrev wsX70 : List Cond := u_ws RX7 TX7 16
theorem nmX7 : ∀ a, a < 16 → ∀ b, b < 16 → a ≠ b → (TX7 a).2.1 ≠ (TX7 b).2.1 := by decide +kernel
theorem tyX7_ok : ∀ k, k < 16 → parseFieldDescriptor (TX7 k).2.2.1 = some (tyX7 k) := by decide +kernel
abbrev cX7_init : ByteArray := prog_9_method_1_code
def yX7_init : MethodName := ⟨RX7, "<init>", "()V"⟩
abbrev cX7_thrown : ByteArray := prog_9_method_2_code
def yX7_thrown : MethodName := ⟨RX7, "thrown", "()I"⟩
abbrev cX7_in : ByteArray := prog_9_method_3_code
def yX7_in : MethodName := ⟨RX7, "in", "(III)Z"⟩
abbrev cX7_goes : ByteArray := prog_9_method_4_code
def yX7_goes : MethodName := ⟨RX7, "goes", "(ZZZ)Z"⟩
abbrev cX7_isIn : ByteArray := prog_9_method_5_code
def yX7_isIn : MethodName := ⟨RX7, "isIn", "(II)Z"⟩
abbrev cX7_count : ByteArray := prog_9_method_6_code
def yX7_count : MethodName := ⟨RX7, "count", "(I)I"⟩
abbrev cX7_countWays : ByteArray := prog_9_method_7_code
def yX7_countWays : MethodName := ⟨RX7, "countWays", "(J)I"⟩
abbrev cX7_copies : ByteArray := prog_9_method_8_code
def yX7_copies : MethodName := ⟨RX7, "copies", "(II)V"⟩
abbrev cX7_saves : ByteArray := prog_9_method_9_code
def yX7_saves : MethodName := ⟨RX7, "saves", "()V"⟩
abbrev cX7_isRule : ByteArray := prog_9_method_10_code
def yX7_isRule : MethodName := ⟨RX7, "isRule", "(I)Z"⟩
abbrev cX7_at : ByteArray := prog_9_method_11_code
def yX7_at : MethodName := ⟨RX7, "at", "(I)I"⟩
abbrev cX7_waysOf : ByteArray := prog_9_method_12_code
def yX7_waysOf : MethodName := ⟨RX7, "waysOf", "(II)J"⟩
abbrev cX7_looks : ByteArray := prog_9_method_13_code
def yX7_looks : MethodName := ⟨RX7, "looks", "()V"⟩
abbrev cX7_waysOfAll : ByteArray := prog_9_method_14_code
def yX7_waysOfAll : MethodName := ⟨RX7, "waysOfAll", "(I)J"⟩
abbrev cX7_holdsNow : ByteArray := prog_9_method_15_code
def yX7_holdsNow : MethodName := ⟨RX7, "holdsNow", "(II)Z"⟩
abbrev cX7_isForce : ByteArray := prog_9_method_16_code
def yX7_isForce : MethodName := ⟨RX7, "isForce", "(II)Z"⟩
abbrev cX7_force : ByteArray := prog_9_method_17_code
def yX7_force : MethodName := ⟨RX7, "force", "()I"⟩
abbrev cX7_brokenIn : ByteArray := prog_9_method_18_code
def yX7_brokenIn : MethodName := ⟨RX7, "brokenIn", "(I)I"⟩
abbrev cX7_finesOfSet : ByteArray := prog_9_method_19_code
def yX7_finesOfSet : MethodName := ⟨RX7, "finesOfSet", "(I)I"⟩
abbrev cX7_areMasks : ByteArray := prog_9_method_20_code
def yX7_areMasks : MethodName := ⟨RX7, "areMasks", "(II)Z"⟩
abbrev cX7_makes : ByteArray := prog_9_method_21_code
def yX7_makes : MethodName := ⟨RX7, "makes", "(III)I"⟩
abbrev cX7_make : ByteArray := prog_9_method_22_code
def yX7_make : MethodName := ⟨RX7, "make", "(III)I"⟩
abbrev cX7_withdraw : ByteArray := prog_9_method_23_code
def yX7_withdraw : MethodName := ⟨RX7, "withdraw", "(I)I"⟩
abbrev cX7_setStrict : ByteArray := prog_9_method_24_code
def yX7_setStrict : MethodName := ⟨RX7, "setStrict", "(IZ)Z"⟩
abbrev cX7_waives : ByteArray := prog_9_method_25_code
def yX7_waives : MethodName := ⟨RX7, "waives", "(II)I"⟩
abbrev cX7_waive : ByteArray := prog_9_method_26_code
def yX7_waive : MethodName := ⟨RX7, "waive", "(II)I"⟩
abbrev cX7_isRoom : ByteArray := prog_9_method_27_code
def yX7_isRoom : MethodName := ⟨RX7, "isRoom", "(I)Z"⟩
abbrev cX7_isLet : ByteArray := prog_9_method_28_code
def yX7_isLet : MethodName := ⟨RX7, "isLet", "(I)Z"⟩
abbrev cX7_refuser : ByteArray := prog_9_method_29_code
def yX7_refuser : MethodName := ⟨RX7, "refuser", "(I)I"⟩
abbrev cX7_turns : ByteArray := prog_9_method_30_code
def yX7_turns : MethodName := ⟨RX7, "turns", "(I)I"⟩
abbrev cX7_turnsIf : ByteArray := prog_9_method_31_code
def yX7_turnsIf : MethodName := ⟨RX7, "turnsIf", "(IZ)I"⟩
abbrev cX7_come : ByteArray := prog_9_method_32_code
def yX7_come : MethodName := ⟨RX7, "come", "(I)I"⟩
abbrev cX7_go : ByteArray := prog_9_method_33_code
def yX7_go : MethodName := ⟨RX7, "go", "(I)I"⟩
abbrev cX7_nights : ByteArray := prog_9_method_34_code
def yX7_nights : MethodName := ⟨RX7, "nights", "(I)I"⟩
abbrev cX7_pass : ByteArray := prog_9_method_35_code
def yX7_pass : MethodName := ⟨RX7, "pass", "(I)I"⟩
abbrev cX7_append : ByteArray := prog_9_method_36_code
def yX7_append : MethodName := ⟨RX7, "append", "(I)I"⟩
abbrev cX7_clearBuffer : ByteArray := prog_9_method_37_code
def yX7_clearBuffer : MethodName := ⟨RX7, "clearBuffer", "()I"⟩
abbrev cX7_isAt : ByteArray := prog_9_method_38_code
def yX7_isAt : MethodName := ⟨RX7, "isAt", "(II)Z"⟩
abbrev cX7_reads : ByteArray := prog_9_method_39_code
def yX7_reads : MethodName := ⟨RX7, "reads", "(II)I"⟩
abbrev cX7_signs : ByteArray := prog_9_method_40_code
def yX7_signs : MethodName := ⟨RX7, "signs", "()Z"⟩
abbrev cX7_part : ByteArray := prog_9_method_41_code
def yX7_part : MethodName := ⟨RX7, "part", "()Z"⟩
abbrev cX7_isLog : ByteArray := prog_9_method_42_code
def yX7_isLog : MethodName := ⟨RX7, "isLog", "()Z"⟩
abbrev cX7_firstError : ByteArray := prog_9_method_43_code
def yX7_firstError : MethodName := ⟨RX7, "firstError", "()I"⟩
abbrev cX7_does : ByteArray := prog_9_method_44_code
def yX7_does : MethodName := ⟨RX7, "does", "()Z"⟩
abbrev cX7_runLog : ByteArray := prog_9_method_45_code
def yX7_runLog : MethodName := ⟨RX7, "runLog", "()I"⟩
abbrev cX7_keep : ByteArray := prog_9_method_46_code
def yX7_keep : MethodName := ⟨RX7, "keep", "()I"⟩
abbrev cX7_goBack : ByteArray := prog_9_method_47_code
def yX7_goBack : MethodName := ⟨RX7, "goBack", "()I"⟩
abbrev cX7_undo : ByteArray := prog_9_method_48_code
def yX7_undo : MethodName := ⟨RX7, "undo", "()I"⟩
abbrev cX7_rules : ByteArray := prog_9_method_49_code
def yX7_rules : MethodName := ⟨RX7, "rules", "()I"⟩
abbrev cX7_of : ByteArray := prog_9_method_50_code
def yX7_of : MethodName := ⟨RX7, "of", "(II)I"⟩
abbrev cX7_shouldBeLet : ByteArray := prog_9_method_51_code
def yX7_shouldBeLet : MethodName := ⟨RX7, "shouldBeLet", "(I)I"⟩
abbrev cX7_shouldBeEmpty : ByteArray := prog_9_method_52_code
def yX7_shouldBeEmpty : MethodName := ⟨RX7, "shouldBeEmpty", "(I)I"⟩
abbrev cX7_fine : ByteArray := prog_9_method_53_code
def yX7_fine : MethodName := ⟨RX7, "fine", "(I)I"⟩
abbrev cX7_isStrict : ByteArray := prog_9_method_54_code
def yX7_isStrict : MethodName := ⟨RX7, "isStrict", "(I)Z"⟩
abbrev cX7_waived : ByteArray := prog_9_method_55_code
def yX7_waived : MethodName := ⟨RX7, "waived", "(I)I"⟩
abbrev cX7_waivedFor : ByteArray := prog_9_method_56_code
def yX7_waivedFor : MethodName := ⟨RX7, "waivedFor", "(I)I"⟩
abbrev cX7_holdsIn : ByteArray := prog_9_method_57_code
def yX7_holdsIn : MethodName := ⟨RX7, "holdsIn", "(II)Z"⟩
abbrev cX7_way : ByteArray := prog_9_method_58_code
def yX7_way : MethodName := ⟨RX7, "way", "()I"⟩
abbrev cX7_day : ByteArray := prog_9_method_59_code
def yX7_day : MethodName := ⟨RX7, "day", "()I"⟩
abbrev cX7_inForce : ByteArray := prog_9_method_60_code
def yX7_inForce : MethodName := ⟨RX7, "inForce", "()I"⟩
abbrev cX7_broken : ByteArray := prog_9_method_61_code
def yX7_broken : MethodName := ⟨RX7, "broken", "()I"⟩
abbrev cX7_refusedBy : ByteArray := prog_9_method_62_code
def yX7_refusedBy : MethodName := ⟨RX7, "refusedBy", "(I)I"⟩
abbrev cX7_finesOf : ByteArray := prog_9_method_63_code
def yX7_finesOf : MethodName := ⟨RX7, "finesOf", "(I)I"⟩
abbrev cX7_fines : ByteArray := prog_9_method_64_code
def yX7_fines : MethodName := ⟨RX7, "fines", "()I"⟩
abbrev cX7_sumOfRules : ByteArray := prog_9_method_65_code
def yX7_sumOfRules : MethodName := ⟨RX7, "sumOfRules", "()I"⟩
abbrev cX7_finesByRules : ByteArray := prog_9_method_66_code
def yX7_finesByRules : MethodName := ⟨RX7, "finesByRules", "()I"⟩
abbrev cX7_areRules : ByteArray := prog_9_method_67_code
def yX7_areRules : MethodName := ⟨RX7, "areRules", "(I)Z"⟩
abbrev cX7_stands : ByteArray := prog_9_method_68_code
def yX7_stands : MethodName := ⟨RX7, "stands", "(I)Z"⟩
abbrev cX7_splits : ByteArray := prog_9_method_69_code
def yX7_splits : MethodName := ⟨RX7, "splits", "(I)Z"⟩
abbrev cX7_puts : ByteArray := prog_9_method_70_code
def yX7_puts : MethodName := ⟨RX7, "puts", "(II)V"⟩
abbrev cX7_joins : ByteArray := prog_9_method_71_code
def yX7_joins : MethodName := ⟨RX7, "joins", "(II)V"⟩
abbrev cX7_closes : ByteArray := prog_9_method_72_code
def yX7_closes : MethodName := ⟨RX7, "closes", "(I)I"⟩
abbrev cX7_standsByJoining : ByteArray := prog_9_method_73_code
def yX7_standsByJoining : MethodName := ⟨RX7, "standsByJoining", "(I)Z"⟩
abbrev cX7_canStand : ByteArray := prog_9_method_74_code
def yX7_canStand : MethodName := ⟨RX7, "canStand", "(I)Z"⟩
abbrev cX7_canStandBySplitting : ByteArray := prog_9_method_75_code
def yX7_canStandBySplitting : MethodName := ⟨RX7, "canStandBySplitting", "(I)Z"⟩
abbrev cX7_canStandByJoining : ByteArray := prog_9_method_76_code
def yX7_canStandByJoining : MethodName := ⟨RX7, "canStandByJoining", "(I)Z"⟩
abbrev cX7_joined : ByteArray := prog_9_method_77_code
def yX7_joined : MethodName := ⟨RX7, "joined", "(I)I"⟩
abbrev cX7_peace : ByteArray := prog_9_method_78_code
def yX7_peace : MethodName := ⟨RX7, "peace", "()J"⟩
abbrev cX7_ways : ByteArray := prog_9_method_79_code
def yX7_ways : MethodName := ⟨RX7, "ways", "()I"⟩
abbrev cX7_waysSplit : ByteArray := prog_9_method_80_code
def yX7_waysSplit : MethodName := ⟨RX7, "waysSplit", "()I"⟩
abbrev cX7_waysBySplitting : ByteArray := prog_9_method_81_code
def yX7_waysBySplitting : MethodName := ⟨RX7, "waysBySplitting", "()I"⟩
abbrev cX7_least : ByteArray := prog_9_method_82_code
def yX7_least : MethodName := ⟨RX7, "least", "(J)I"⟩
abbrev cX7_firstWay : ByteArray := prog_9_method_83_code
def yX7_firstWay : MethodName := ⟨RX7, "firstWay", "()I"⟩
abbrev cX7_alike : ByteArray := prog_9_method_84_code
def yX7_alike : MethodName := ⟨RX7, "alike", "(I)I"⟩
abbrev cX7_forced : ByteArray := prog_9_method_85_code
def yX7_forced : MethodName := ⟨RX7, "forced", "(I)I"⟩
abbrev cX7_comesOf : ByteArray := prog_9_method_86_code
def yX7_comesOf : MethodName := ⟨RX7, "comesOf", "(I)Z"⟩
abbrev cX7_comesBySplitting : ByteArray := prog_9_method_87_code
def yX7_comesBySplitting : MethodName := ⟨RX7, "comesBySplitting", "(I)Z"⟩
abbrev cX7_follows : ByteArray := prog_9_method_88_code
def yX7_follows : MethodName := ⟨RX7, "follows", "(I)Z"⟩
abbrev cX7_followsBySplitting : ByteArray := prog_9_method_89_code
def yX7_followsBySplitting : MethodName := ⟨RX7, "followsBySplitting", "(I)Z"⟩
abbrev cX7_isWithin : ByteArray := prog_9_method_90_code
def yX7_isWithin : MethodName := ⟨RX7, "isWithin", "(II)Z"⟩
abbrev cX7_smallest : ByteArray := prog_9_method_91_code
def yX7_smallest : MethodName := ⟨RX7, "smallest", "()I"⟩
abbrev cX7_smallestClash : ByteArray := prog_9_method_92_code
def yX7_smallestClash : MethodName := ⟨RX7, "smallestClash", "()I"⟩
abbrev cX7_smallestMeeting : ByteArray := prog_9_method_93_code
def yX7_smallestMeeting : MethodName := ⟨RX7, "smallestMeeting", "()I"⟩
abbrev cX7_smallestClashByWays : ByteArray := prog_9_method_94_code
def yX7_smallestClashByWays : MethodName := ⟨RX7, "smallestClashByWays", "()I"⟩
abbrev cX7_narrowed : ByteArray := prog_9_method_95_code
def yX7_narrowed : MethodName := ⟨RX7, "narrowed", "()I"⟩
abbrev cX7_narrowedClash : ByteArray := prog_9_method_96_code
def yX7_narrowedClash : MethodName := ⟨RX7, "narrowedClash", "()I"⟩
abbrev cX7_isNarrow : ByteArray := prog_9_method_97_code
def yX7_isNarrow : MethodName := ⟨RX7, "isNarrow", "(I)Z"⟩
abbrev cX7_narrows : ByteArray := prog_9_method_98_code
def yX7_narrows : MethodName := ⟨RX7, "narrows", "()I"⟩
abbrev cX7_narrowClashes : ByteArray := prog_9_method_99_code
def yX7_narrowClashes : MethodName := ⟨RX7, "narrowClashes", "()I"⟩
abbrev cX7_waivers : ByteArray := prog_9_method_100_code
def yX7_waivers : MethodName := ⟨RX7, "waivers", "()I"⟩
abbrev cX7_fewestWaivers : ByteArray := prog_9_method_101_code
def yX7_fewestWaivers : MethodName := ⟨RX7, "fewestWaivers", "()I"⟩
abbrev cX7_waiversBySets : ByteArray := prog_9_method_102_code
def yX7_waiversBySets : MethodName := ⟨RX7, "waiversBySets", "()I"⟩
abbrev cX7_fewestWaiversBySets : ByteArray := prog_9_method_103_code
def yX7_fewestWaiversBySets : MethodName := ⟨RX7, "fewestWaiversBySets", "()I"⟩
abbrev cX7_turnsBest : ByteArray := prog_9_method_104_code
def yX7_turnsBest : MethodName := ⟨RX7, "turnsBest", "()I"⟩
abbrev cX7_turnsToPeace : ByteArray := prog_9_method_105_code
def yX7_turnsToPeace : MethodName := ⟨RX7, "turnsToPeace", "()I"⟩
abbrev cX7_turnsGoing : ByteArray := prog_9_method_106_code
def yX7_turnsGoing : MethodName := ⟨RX7, "turnsGoing", "()I"⟩
abbrev cX7_turnsToPeaceByGoing : ByteArray := prog_9_method_107_code
def yX7_turnsToPeaceByGoing : MethodName := ⟨RX7, "turnsToPeaceByGoing", "()I"⟩
abbrev cX7_nightIn : ByteArray := prog_9_method_108_code
def yX7_nightIn : MethodName := ⟨RX7, "nightIn", "(I)I"⟩
abbrev cX7_nightNow : ByteArray := prog_9_method_109_code
def yX7_nightNow : MethodName := ⟨RX7, "nightNow", "()I"⟩
abbrev cX7_cheapest : ByteArray := prog_9_method_110_code
def yX7_cheapest : MethodName := ⟨RX7, "cheapest", "()I"⟩
abbrev cX7_cheapestWay : ByteArray := prog_9_method_111_code
def yX7_cheapestWay : MethodName := ⟨RX7, "cheapestWay", "()I"⟩
abbrev cX7_cheapestNight : ByteArray := prog_9_method_112_code
def yX7_cheapestNight : MethodName := ⟨RX7, "cheapestNight", "()I"⟩
abbrev cX7_turnBest : ByteArray := prog_9_method_113_code
def yX7_turnBest : MethodName := ⟨RX7, "turnBest", "()I"⟩
abbrev cX7_bestTurn : ByteArray := prog_9_method_114_code
def yX7_bestTurn : MethodName := ⟨RX7, "bestTurn", "()I"⟩
abbrev cX7_ahead : ByteArray := prog_9_method_115_code
def yX7_ahead : MethodName := ⟨RX7, "ahead", "(I)I"⟩
abbrev cX7_finesIn : ByteArray := prog_9_method_116_code
def yX7_finesIn : MethodName := ⟨RX7, "finesIn", "(I)I"⟩
abbrev cX7_peaceShare : ByteArray := prog_9_method_117_code
def yX7_peaceShare : MethodName := ⟨RX7, "peaceShare", "()D"⟩
abbrev cX7_sumOfFines : ByteArray := prog_9_method_118_code
def yX7_sumOfFines : MethodName := ⟨RX7, "sumOfFines", "()I"⟩
abbrev cX7_meanFine : ByteArray := prog_9_method_119_code
def yX7_meanFine : MethodName := ⟨RX7, "meanFine", "()F"⟩
abbrev cX7_shareBits : ByteArray := prog_9_method_120_code
def yX7_shareBits : MethodName := ⟨RX7, "shareBits", "(I)J"⟩
abbrev cX7_meanBits : ByteArray := prog_9_method_121_code
def yX7_meanBits : MethodName := ⟨RX7, "meanBits", "(II)I"⟩
abbrev cX7_digest : ByteArray := prog_9_method_122_code
def yX7_digest : MethodName := ⟨RX7, "digest", "()J"⟩
def RJx145de : String := "java/io/Serializable"
def RJ6 : String := "java/lang/Integer"
abbrev cJ6_compare_7cf53 : ByteArray := prog_14_method_40_code
def yJ6_compare_7cf53 : MethodName := ⟨RJ6, "compare", "(II)I"⟩
abbrev cJ6_bitCount_0f7a4 : ByteArray := prog_14_method_49_code
def yJ6_bitCount_0f7a4 : MethodName := ⟨RJ6, "bitCount", "(I)I"⟩
def RJ13 : String := "java/lang/Long"
abbrev cJ13_bitCount_95d88 : ByteArray := prog_15_method_50_code
def yJ13_bitCount_95d88 : MethodName := ⟨RJ13, "bitCount", "(J)I"⟩
def RJ9 : String := "java/lang/Math"
abbrev cJ9_max_7cf53 : ByteArray := prog_16_method_65_code
def yJ9_max_7cf53 : MethodName := ⟨RJ9, "max", "(II)I"⟩
abbrev cJ9_min_7cf53 : ByteArray := prog_16_method_69_code
def yJ9_min_7cf53 : MethodName := ⟨RJ9, "min", "(II)I"⟩
def RJ0 : String := "java/lang/String"
def RJ7 : String := "java/util/Arrays"
abbrev cJ7_fill_d0a16 : ByteArray := prog_20_method_101_code
def yJ7_fill_d0a16 : MethodName := ⟨RJ7, "fill", "([JJ)V"⟩
def RL : String := "HouseClausesLaw"
abbrev cL_make : ByteArray := method_3_code
def yL_make : MethodName := ⟨RL, "make", "(LHouseClauses;III[J)I"⟩
abbrev cL_withdraw : ByteArray := method_4_code
def yL_withdraw : MethodName := ⟨RL, "withdraw", "(LHouseClauses;I[J)I"⟩
abbrev cL_setStrict : ByteArray := method_5_code
def yL_setStrict : MethodName := ⟨RL, "setStrict", "(LHouseClauses;IZ[J)I"⟩
abbrev cL_waive : ByteArray := method_6_code
def yL_waive : MethodName := ⟨RL, "waive", "(LHouseClauses;II[J)I"⟩
abbrev cL_come : ByteArray := method_7_code
def yL_come : MethodName := ⟨RL, "come", "(LHouseClauses;I[J)I"⟩
abbrev cL_go : ByteArray := method_8_code
def yL_go : MethodName := ⟨RL, "go", "(LHouseClauses;I[J)I"⟩
abbrev cL_pass : ByteArray := method_9_code
def yL_pass : MethodName := ⟨RL, "pass", "(LHouseClauses;I[J)I"⟩
abbrev cL_append : ByteArray := method_10_code
def yL_append : MethodName := ⟨RL, "append", "(LHouseClauses;I[J)I"⟩
abbrev cL_runLog : ByteArray := method_11_code
def yL_runLog : MethodName := ⟨RL, "runLog", "(LHouseClauses;[J)I"⟩
abbrev cL_goBack : ByteArray := method_12_code
def yL_goBack : MethodName := ⟨RL, "goBack", "(LHouseClauses;[J)I"⟩
abbrev cL_undo : ByteArray := method_13_code
def yL_undo : MethodName := ⟨RL, "undo", "(LHouseClauses;[J)I"⟩
abbrev cL_shouldBeLet : ByteArray := method_14_code
def yL_shouldBeLet : MethodName := ⟨RL, "shouldBeLet", "(LHouseClauses;I[J)I"⟩
abbrev cL_shouldBeEmpty : ByteArray := method_15_code
def yL_shouldBeEmpty : MethodName := ⟨RL, "shouldBeEmpty", "(LHouseClauses;I[J)I"⟩
abbrev cL_fine : ByteArray := method_16_code
def yL_fine : MethodName := ⟨RL, "fine", "(LHouseClauses;I[J)I"⟩
abbrev cL_isStrict : ByteArray := method_17_code
def yL_isStrict : MethodName := ⟨RL, "isStrict", "(LHouseClauses;I[J)I"⟩
abbrev cL_waivedFor : ByteArray := method_18_code
def yL_waivedFor : MethodName := ⟨RL, "waivedFor", "(LHouseClauses;I[J)I"⟩
abbrev cL_holdsIn : ByteArray := method_19_code
def yL_holdsIn : MethodName := ⟨RL, "holdsIn", "(LHouseClauses;II[J)I"⟩
abbrev cL_refusedBy : ByteArray := method_20_code
def yL_refusedBy : MethodName := ⟨RL, "refusedBy", "(LHouseClauses;I[J)I"⟩
abbrev cL_finesOf : ByteArray := method_21_code
def yL_finesOf : MethodName := ⟨RL, "finesOf", "(LHouseClauses;I[J)I"⟩
abbrev cL_canStand : ByteArray := method_22_code
def yL_canStand : MethodName := ⟨RL, "canStand", "(LHouseClauses;I[J)I"⟩
abbrev cL_canStandBySplitting : ByteArray := method_23_code
def yL_canStandBySplitting : MethodName := ⟨RL, "canStandBySplitting", "(LHouseClauses;I[J)I"⟩
abbrev cL_canStandByJoining : ByteArray := method_24_code
def yL_canStandByJoining : MethodName := ⟨RL, "canStandByJoining", "(LHouseClauses;I[J)I"⟩
abbrev cL_joined : ByteArray := method_25_code
def yL_joined : MethodName := ⟨RL, "joined", "(LHouseClauses;I[J)I"⟩
abbrev cL_forced : ByteArray := method_26_code
def yL_forced : MethodName := ⟨RL, "forced", "(LHouseClauses;I[J)I"⟩
abbrev cL_follows : ByteArray := method_27_code
def yL_follows : MethodName := ⟨RL, "follows", "(LHouseClauses;I[J)I"⟩
abbrev cL_followsBySplitting : ByteArray := method_28_code
def yL_followsBySplitting : MethodName := ⟨RL, "followsBySplitting", "(LHouseClauses;I[J)I"⟩
abbrev cL_finesIn : ByteArray := method_29_code
def yL_finesIn : MethodName := ⟨RL, "finesIn", "(LHouseClauses;I[J)I"⟩
abbrev cL_law : ByteArray := code
def yL_law : MethodName := ⟨RL, "law", "([I)Z"⟩
abbrev vwCl : List vw_C := [(RX0, TX0, 7), (RX1, TX1, 3), (RX2, TX2, 7), (RX3, TX3, 4), (RX4, TX4, 7), (RX5, TX5, 1), (RX6, TX6, 9), (RX7, TX7, 16)]
end
section
theorem dX0_init_0 : decode cX0_init 0 = .ok (.aload_n 0, 1) := by decide +kernel
theorem dX0_init_1 : decode cX0_init 1 = .ok (.invokespecial 3, 3) := by decide +kernel
theorem dX0_init_4 : decode cX0_init 4 = .ok (.aload_n 0, 1) := by decide +kernel
theorem dX0_init_5 : decode cX0_init 5 = .ok (.bipush 10, 2) := by decide +kernel
theorem dX0_init_7 : decode cX0_init 7 = .ok (.anewarray 9, 3) := by decide +kernel
theorem dX0_init_10 : decode cX0_init 10 = .ok (.putfield 11, 3) := by decide +kernel
theorem dX0_init_13 : decode cX0_init 13 = .ok (.iconst 0, 1) := by decide +kernel
theorem dX0_init_14 : decode cX0_init 14 = .ok (.istore_n 1, 1) := by decide +kernel
theorem dX0_init_15 : decode cX0_init 15 = .ok (.iload_n 1, 1) := by decide +kernel
theorem dX0_init_16 : decode cX0_init 16 = .ok (.aload_n 0, 1) := by decide +kernel
theorem dX0_init_17 : decode cX0_init 17 = .ok (.getfield 11, 3) := by decide +kernel
theorem dX0_init_20 : decode cX0_init 20 = .ok (.arraylength, 1) := by decide +kernel
theorem dX0_init_21 : decode cX0_init 21 = .ok (.if_icmp .ge 22, 3) := by decide +kernel
theorem dX0_init_24 : decode cX0_init 24 = .ok (.aload_n 0, 1) := by decide +kernel
theorem dX0_init_25 : decode cX0_init 25 = .ok (.getfield 11, 3) := by decide +kernel
theorem dX0_init_28 : decode cX0_init 28 = .ok (.iload_n 1, 1) := by decide +kernel
theorem dX0_init_29 : decode cX0_init 29 = .ok (.new 9, 3) := by decide +kernel
theorem dX0_init_32 : decode cX0_init 32 = .ok (.dup, 1) := by decide +kernel
theorem dX0_init_33 : decode cX0_init 33 = .ok (.invokespecial 17, 3) := by decide +kernel
theorem dX0_init_36 : decode cX0_init 36 = .ok (.aastore, 1) := by decide +kernel
theorem dX0_init_37 : decode cX0_init 37 = .ok (.iinc 1 1, 3) := by decide +kernel
theorem dX0_init_40 : decode cX0_init 40 = .ok (.goto (-25), 3) := by decide +kernel
theorem dX0_init_43 : decode cX0_init 43 = .ok (.aload_n 0, 1) := by decide +kernel
theorem dX0_init_44 : decode cX0_init 44 = .ok (.new 9, 3) := by decide +kernel
theorem dX0_init_47 : decode cX0_init 47 = .ok (.dup, 1) := by decide +kernel
theorem dX0_init_48 : decode cX0_init 48 = .ok (.invokespecial 17, 3) := by decide +kernel
theorem dX0_init_51 : decode cX0_init 51 = .ok (.putfield 18, 3) := by decide +kernel
theorem dX0_init_54 : decode cX0_init 54 = .ok (.return_, 1) := by decide +kernel
theorem dX0_at_0 : decode cX0_at 0 = .ok (.iload_n 1, 1) := by decide +kernel
theorem dX0_at_1 : decode cX0_at 1 = .ok (.ifCond .lt 12, 3) := by decide +kernel
theorem dX0_at_4 : decode cX0_at 4 = .ok (.iload_n 1, 1) := by decide +kernel
theorem dX0_at_5 : decode cX0_at 5 = .ok (.aload_n 0, 1) := by decide +kernel
theorem dX0_at_6 : decode cX0_at 6 = .ok (.getfield 11, 3) := by decide +kernel
theorem dX0_at_9 : decode cX0_at 9 = .ok (.arraylength, 1) := by decide +kernel
theorem dX0_at_10 : decode cX0_at 10 = .ok (.if_icmp .lt 8, 3) := by decide +kernel
theorem dX0_at_13 : decode cX0_at 13 = .ok (.aload_n 0, 1) := by decide +kernel
theorem dX0_at_14 : decode cX0_at 14 = .ok (.getfield 18, 3) := by decide +kernel
theorem dX0_at_17 : decode cX0_at 17 = .ok (.areturn, 1) := by decide +kernel
theorem dX0_at_18 : decode cX0_at 18 = .ok (.aload_n 0, 1) := by decide +kernel
theorem dX0_at_19 : decode cX0_at 19 = .ok (.getfield 11, 3) := by decide +kernel
theorem dX0_at_22 : decode cX0_at 22 = .ok (.iload_n 1, 1) := by decide +kernel
theorem dX0_at_23 : decode cX0_at 23 = .ok (.aaload, 1) := by decide +kernel
theorem dX0_at_24 : decode cX0_at 24 = .ok (.astore_n 2, 1) := by decide +kernel
theorem dX0_at_25 : decode cX0_at 25 = .ok (.aload_n 2, 1) := by decide +kernel
theorem dX0_at_26 : decode cX0_at 26 = .ok (.ifnonnull 10, 3) := by decide +kernel
theorem dX0_at_29 : decode cX0_at 29 = .ok (.aload_n 0, 1) := by decide +kernel
theorem dX0_at_30 : decode cX0_at 30 = .ok (.getfield 18, 3) := by decide +kernel
theorem dX0_at_33 : decode cX0_at 33 = .ok (.goto 4, 3) := by decide +kernel
theorem dX0_at_36 : decode cX0_at 36 = .ok (.aload_n 2, 1) := by decide +kernel
theorem dX0_at_37 : decode cX0_at 37 = .ok (.areturn, 1) := by decide +kernel
theorem dX0_become_0 : decode cX0_become 0 = .ok (.aload_n 0, 1) := by decide +kernel
theorem dX0_become_1 : decode cX0_become 1 = .ok (.aload_n 1, 1) := by decide +kernel
theorem dX0_become_2 : decode cX0_become 2 = .ok (.getfield 22, 3) := by decide +kernel
theorem dX0_become_5 : decode cX0_become 5 = .ok (.putfield 22, 3) := by decide +kernel
theorem dX0_become_8 : decode cX0_become 8 = .ok (.aload_n 0, 1) := by decide +kernel
theorem dX0_become_9 : decode cX0_become 9 = .ok (.aload_n 1, 1) := by decide +kernel
theorem dX0_become_10 : decode cX0_become 10 = .ok (.getfield 26, 3) := by decide +kernel
theorem dX0_become_13 : decode cX0_become 13 = .ok (.putfield 26, 3) := by decide +kernel
theorem dX0_become_16 : decode cX0_become 16 = .ok (.aload_n 0, 1) := by decide +kernel
theorem dX0_become_17 : decode cX0_become 17 = .ok (.aload_n 1, 1) := by decide +kernel
theorem dX0_become_18 : decode cX0_become 18 = .ok (.getfield 29, 3) := by decide +kernel
theorem dX0_become_21 : decode cX0_become 21 = .ok (.putfield 29, 3) := by decide +kernel
theorem dX0_become_24 : decode cX0_become 24 = .ok (.aload_n 0, 1) := by decide +kernel
theorem dX0_become_25 : decode cX0_become 25 = .ok (.aload_n 1, 1) := by decide +kernel
theorem dX0_become_26 : decode cX0_become 26 = .ok (.getfield 32, 3) := by decide +kernel
theorem dX0_become_29 : decode cX0_become 29 = .ok (.putfield 32, 3) := by decide +kernel
theorem dX0_become_32 : decode cX0_become 32 = .ok (.aload_n 0, 1) := by decide +kernel
theorem dX0_become_33 : decode cX0_become 33 = .ok (.aload_n 1, 1) := by decide +kernel
theorem dX0_become_34 : decode cX0_become 34 = .ok (.getfield 35, 3) := by decide +kernel
theorem dX0_become_37 : decode cX0_become 37 = .ok (.putfield 35, 3) := by decide +kernel
theorem dX0_become_40 : decode cX0_become 40 = .ok (.iconst 0, 1) := by decide +kernel
theorem dX0_become_41 : decode cX0_become 41 = .ok (.istore_n 2, 1) := by decide +kernel
theorem dX0_become_42 : decode cX0_become 42 = .ok (.iload_n 2, 1) := by decide +kernel
theorem dX0_become_43 : decode cX0_become 43 = .ok (.aload_n 0, 1) := by decide +kernel
theorem dX0_become_44 : decode cX0_become 44 = .ok (.getfield 22, 3) := by decide +kernel
theorem dX0_become_47 : decode cX0_become 47 = .ok (.if_icmp .ge 22, 3) := by decide +kernel
theorem dX0_become_50 : decode cX0_become 50 = .ok (.aload_n 0, 1) := by decide +kernel
theorem dX0_become_51 : decode cX0_become 51 = .ok (.iload_n 2, 1) := by decide +kernel
theorem dX0_become_52 : decode cX0_become 52 = .ok (.invokevirtual 38, 3) := by decide +kernel
theorem dX0_become_55 : decode cX0_become 55 = .ok (.aload_n 1, 1) := by decide +kernel
theorem dX0_become_56 : decode cX0_become 56 = .ok (.iload_n 2, 1) := by decide +kernel
theorem dX0_become_57 : decode cX0_become 57 = .ok (.invokevirtual 38, 3) := by decide +kernel
theorem dX0_become_60 : decode cX0_become 60 = .ok (.invokevirtual 42, 3) := by decide +kernel
theorem dX0_become_63 : decode cX0_become 63 = .ok (.iinc 2 1, 3) := by decide +kernel
theorem dX0_become_66 : decode cX0_become 66 = .ok (.goto (-24), 3) := by decide +kernel
theorem dX0_become_69 : decode cX0_become 69 = .ok (.return_, 1) := by decide +kernel
theorem dX0_addRule_0 : decode cX0_addRule 0 = .ok (.aload_n 0, 1) := by decide +kernel
theorem dX0_addRule_1 : decode cX0_addRule 1 = .ok (.getfield 22, 3) := by decide +kernel
theorem dX0_addRule_4 : decode cX0_addRule 4 = .ok (.istore 4, 2) := by decide +kernel
theorem dX0_addRule_6 : decode cX0_addRule 6 = .ok (.aload_n 0, 1) := by decide +kernel
theorem dX0_addRule_7 : decode cX0_addRule 7 = .ok (.iload 4, 2) := by decide +kernel
theorem dX0_addRule_9 : decode cX0_addRule 9 = .ok (.invokevirtual 38, 3) := by decide +kernel
theorem dX0_addRule_12 : decode cX0_addRule 12 = .ok (.iload_n 1, 1) := by decide +kernel
theorem dX0_addRule_13 : decode cX0_addRule 13 = .ok (.iload_n 2, 1) := by decide +kernel
theorem dX0_addRule_14 : decode cX0_addRule 14 = .ok (.iload_n 3, 1) := by decide +kernel
theorem dX0_addRule_15 : decode cX0_addRule 15 = .ok (.invokevirtual 46, 3) := by decide +kernel
theorem dX0_addRule_18 : decode cX0_addRule 18 = .ok (.aload_n 0, 1) := by decide +kernel
theorem dX0_addRule_19 : decode cX0_addRule 19 = .ok (.dup, 1) := by decide +kernel
theorem dX0_addRule_20 : decode cX0_addRule 20 = .ok (.getfield 22, 3) := by decide +kernel
theorem dX0_addRule_23 : decode cX0_addRule 23 = .ok (.iconst 1, 1) := by decide +kernel
theorem dX0_addRule_24 : decode cX0_addRule 24 = .ok (.iadd, 1) := by decide +kernel
theorem dX0_addRule_25 : decode cX0_addRule 25 = .ok (.putfield 22, 3) := by decide +kernel
theorem dX0_addRule_28 : decode cX0_addRule 28 = .ok (.iload 4, 2) := by decide +kernel
theorem dX0_addRule_30 : decode cX0_addRule 30 = .ok (.ireturn, 1) := by decide +kernel
theorem dX0_dropRule_0 : decode cX0_dropRule 0 = .ok (.aload_n 0, 1) := by decide +kernel
theorem dX0_dropRule_1 : decode cX0_dropRule 1 = .ok (.dup, 1) := by decide +kernel
theorem dX0_dropRule_2 : decode cX0_dropRule 2 = .ok (.getfield 35, 3) := by decide +kernel
theorem dX0_dropRule_5 : decode cX0_dropRule 5 = .ok (.aload_n 0, 1) := by decide +kernel
theorem dX0_dropRule_6 : decode cX0_dropRule 6 = .ok (.iload_n 1, 1) := by decide +kernel
theorem dX0_dropRule_7 : decode cX0_dropRule 7 = .ok (.invokevirtual 38, 3) := by decide +kernel
theorem dX0_dropRule_10 : decode cX0_dropRule 10 = .ok (.getfield 50, 3) := by decide +kernel
theorem dX0_dropRule_13 : decode cX0_dropRule 13 = .ok (.iadd, 1) := by decide +kernel
theorem dX0_dropRule_14 : decode cX0_dropRule 14 = .ok (.putfield 35, 3) := by decide +kernel
theorem dX0_dropRule_17 : decode cX0_dropRule 17 = .ok (.iload_n 1, 1) := by decide +kernel
theorem dX0_dropRule_18 : decode cX0_dropRule 18 = .ok (.istore_n 2, 1) := by decide +kernel
theorem dX0_dropRule_19 : decode cX0_dropRule 19 = .ok (.iload_n 2, 1) := by decide +kernel
theorem dX0_dropRule_20 : decode cX0_dropRule 20 = .ok (.iconst 1, 1) := by decide +kernel
theorem dX0_dropRule_21 : decode cX0_dropRule 21 = .ok (.iadd, 1) := by decide +kernel
theorem dX0_dropRule_22 : decode cX0_dropRule 22 = .ok (.aload_n 0, 1) := by decide +kernel
theorem dX0_dropRule_23 : decode cX0_dropRule 23 = .ok (.getfield 22, 3) := by decide +kernel
theorem dX0_dropRule_26 : decode cX0_dropRule 26 = .ok (.if_icmp .ge 24, 3) := by decide +kernel
theorem dX0_dropRule_29 : decode cX0_dropRule 29 = .ok (.aload_n 0, 1) := by decide +kernel
theorem dX0_dropRule_30 : decode cX0_dropRule 30 = .ok (.iload_n 2, 1) := by decide +kernel
theorem dX0_dropRule_31 : decode cX0_dropRule 31 = .ok (.invokevirtual 38, 3) := by decide +kernel
theorem dX0_dropRule_34 : decode cX0_dropRule 34 = .ok (.aload_n 0, 1) := by decide +kernel
theorem dX0_dropRule_35 : decode cX0_dropRule 35 = .ok (.iload_n 2, 1) := by decide +kernel
theorem dX0_dropRule_36 : decode cX0_dropRule 36 = .ok (.iconst 1, 1) := by decide +kernel
theorem dX0_dropRule_37 : decode cX0_dropRule 37 = .ok (.iadd, 1) := by decide +kernel
theorem dX0_dropRule_38 : decode cX0_dropRule 38 = .ok (.invokevirtual 38, 3) := by decide +kernel
theorem dX0_dropRule_41 : decode cX0_dropRule 41 = .ok (.invokevirtual 42, 3) := by decide +kernel
theorem dX0_dropRule_44 : decode cX0_dropRule 44 = .ok (.iinc 2 1, 3) := by decide +kernel
theorem dX0_dropRule_47 : decode cX0_dropRule 47 = .ok (.goto (-28), 3) := by decide +kernel
theorem dX0_dropRule_50 : decode cX0_dropRule 50 = .ok (.aload_n 0, 1) := by decide +kernel
theorem dX0_dropRule_51 : decode cX0_dropRule 51 = .ok (.dup, 1) := by decide +kernel
theorem dX0_dropRule_52 : decode cX0_dropRule 52 = .ok (.getfield 22, 3) := by decide +kernel
theorem dX0_dropRule_55 : decode cX0_dropRule 55 = .ok (.iconst 1, 1) := by decide +kernel
theorem dX0_dropRule_56 : decode cX0_dropRule 56 = .ok (.isub, 1) := by decide +kernel
theorem dX0_dropRule_57 : decode cX0_dropRule 57 = .ok (.putfield 22, 3) := by decide +kernel
theorem dX0_dropRule_60 : decode cX0_dropRule 60 = .ok (.return_, 1) := by decide +kernel
theorem dX0_waiveRule_0 : decode cX0_waiveRule 0 = .ok (.aload_n 0, 1) := by decide +kernel
theorem dX0_waiveRule_1 : decode cX0_waiveRule 1 = .ok (.iload_n 1, 1) := by decide +kernel
theorem dX0_waiveRule_2 : decode cX0_waiveRule 2 = .ok (.invokevirtual 38, 3) := by decide +kernel
theorem dX0_waiveRule_5 : decode cX0_waiveRule 5 = .ok (.aload_n 0, 1) := by decide +kernel
theorem dX0_waiveRule_6 : decode cX0_waiveRule 6 = .ok (.getfield 29, 3) := by decide +kernel
theorem dX0_waiveRule_9 : decode cX0_waiveRule 9 = .ok (.iload_n 2, 1) := by decide +kernel
theorem dX0_waiveRule_10 : decode cX0_waiveRule 10 = .ok (.iadd, 1) := by decide +kernel
theorem dX0_waiveRule_11 : decode cX0_waiveRule 11 = .ok (.putfield 53, 3) := by decide +kernel
theorem dX0_waiveRule_14 : decode cX0_waiveRule 14 = .ok (.aload_n 0, 1) := by decide +kernel
theorem dX0_waiveRule_15 : decode cX0_waiveRule 15 = .ok (.getfield 29, 3) := by decide +kernel
theorem dX0_waiveRule_18 : decode cX0_waiveRule 18 = .ok (.iload_n 2, 1) := by decide +kernel
theorem dX0_waiveRule_19 : decode cX0_waiveRule 19 = .ok (.iadd, 1) := by decide +kernel
theorem dX0_waiveRule_20 : decode cX0_waiveRule 20 = .ok (.ireturn, 1) := by decide +kernel
theorem dX0_daysWaived_0 : decode cX0_daysWaived 0 = .ok (.iconst 0, 1) := by decide +kernel
theorem dX0_daysWaived_1 : decode cX0_daysWaived 1 = .ok (.aload_n 0, 1) := by decide +kernel
theorem dX0_daysWaived_2 : decode cX0_daysWaived 2 = .ok (.iload_n 1, 1) := by decide +kernel
theorem dX0_daysWaived_3 : decode cX0_daysWaived 3 = .ok (.invokevirtual 38, 3) := by decide +kernel
theorem dX0_daysWaived_6 : decode cX0_daysWaived 6 = .ok (.getfield 53, 3) := by decide +kernel
theorem dX0_daysWaived_9 : decode cX0_daysWaived 9 = .ok (.aload_n 0, 1) := by decide +kernel
theorem dX0_daysWaived_10 : decode cX0_daysWaived 10 = .ok (.getfield 29, 3) := by decide +kernel
theorem dX0_daysWaived_13 : decode cX0_daysWaived 13 = .ok (.isub, 1) := by decide +kernel
theorem dX0_daysWaived_14 : decode cX0_daysWaived 14 = .ok (.invokestatic 56, 3) := by decide +kernel
theorem dX0_daysWaived_17 : decode cX0_daysWaived 17 = .ok (.ireturn, 1) := by decide +kernel
theorem dX0_rulesInForce_0 : decode cX0_rulesInForce 0 = .ok (.iconst 0, 1) := by decide +kernel
theorem dX0_rulesInForce_1 : decode cX0_rulesInForce 1 = .ok (.istore_n 2, 1) := by decide +kernel
theorem dX0_rulesInForce_2 : decode cX0_rulesInForce 2 = .ok (.iconst 0, 1) := by decide +kernel
theorem dX0_rulesInForce_3 : decode cX0_rulesInForce 3 = .ok (.istore_n 3, 1) := by decide +kernel
theorem dX0_rulesInForce_4 : decode cX0_rulesInForce 4 = .ok (.iload_n 3, 1) := by decide +kernel
theorem dX0_rulesInForce_5 : decode cX0_rulesInForce 5 = .ok (.aload_n 0, 1) := by decide +kernel
theorem dX0_rulesInForce_6 : decode cX0_rulesInForce 6 = .ok (.getfield 22, 3) := by decide +kernel
theorem dX0_rulesInForce_9 : decode cX0_rulesInForce 9 = .ok (.if_icmp .ge 27, 3) := by decide +kernel
theorem dX0_rulesInForce_12 : decode cX0_rulesInForce 12 = .ok (.aload_n 0, 1) := by decide +kernel
theorem dX0_rulesInForce_13 : decode cX0_rulesInForce 13 = .ok (.iload_n 3, 1) := by decide +kernel
theorem dX0_rulesInForce_14 : decode cX0_rulesInForce 14 = .ok (.invokevirtual 38, 3) := by decide +kernel
theorem dX0_rulesInForce_17 : decode cX0_rulesInForce 17 = .ok (.getfield 53, 3) := by decide +kernel
theorem dX0_rulesInForce_20 : decode cX0_rulesInForce 20 = .ok (.iload_n 1, 1) := by decide +kernel
theorem dX0_rulesInForce_21 : decode cX0_rulesInForce 21 = .ok (.if_icmp .gt 9, 3) := by decide +kernel
theorem dX0_rulesInForce_24 : decode cX0_rulesInForce 24 = .ok (.iload_n 2, 1) := by decide +kernel
theorem dX0_rulesInForce_25 : decode cX0_rulesInForce 25 = .ok (.iconst 1, 1) := by decide +kernel
theorem dX0_rulesInForce_26 : decode cX0_rulesInForce 26 = .ok (.iload_n 3, 1) := by decide +kernel
theorem dX0_rulesInForce_27 : decode cX0_rulesInForce 27 = .ok (.ishl, 1) := by decide +kernel
theorem dX0_rulesInForce_28 : decode cX0_rulesInForce 28 = .ok (.ior, 1) := by decide +kernel
theorem dX0_rulesInForce_29 : decode cX0_rulesInForce 29 = .ok (.istore_n 2, 1) := by decide +kernel
theorem dX0_rulesInForce_30 : decode cX0_rulesInForce 30 = .ok (.iinc 3 1, 3) := by decide +kernel
theorem dX0_rulesInForce_33 : decode cX0_rulesInForce 33 = .ok (.goto (-29), 3) := by decide +kernel
theorem dX0_rulesInForce_36 : decode cX0_rulesInForce 36 = .ok (.iload_n 2, 1) := by decide +kernel
theorem dX0_rulesInForce_37 : decode cX0_rulesInForce 37 = .ok (.ireturn, 1) := by decide +kernel
theorem dX0_rulesBroken_0 : decode cX0_rulesBroken 0 = .ok (.iconst 0, 1) := by decide +kernel
theorem dX0_rulesBroken_1 : decode cX0_rulesBroken 1 = .ok (.istore_n 3, 1) := by decide +kernel
theorem dX0_rulesBroken_2 : decode cX0_rulesBroken 2 = .ok (.iconst 0, 1) := by decide +kernel
theorem dX0_rulesBroken_3 : decode cX0_rulesBroken 3 = .ok (.istore 4, 2) := by decide +kernel
theorem dX0_rulesBroken_5 : decode cX0_rulesBroken 5 = .ok (.iload 4, 2) := by decide +kernel
theorem dX0_rulesBroken_7 : decode cX0_rulesBroken 7 = .ok (.aload_n 0, 1) := by decide +kernel
theorem dX0_rulesBroken_8 : decode cX0_rulesBroken 8 = .ok (.getfield 22, 3) := by decide +kernel
theorem dX0_rulesBroken_11 : decode cX0_rulesBroken 11 = .ok (.if_icmp .ge 42, 3) := by decide +kernel
theorem dX0_rulesBroken_14 : decode cX0_rulesBroken 14 = .ok (.aload_n 0, 1) := by decide +kernel
theorem dX0_rulesBroken_15 : decode cX0_rulesBroken 15 = .ok (.iload 4, 2) := by decide +kernel
theorem dX0_rulesBroken_17 : decode cX0_rulesBroken 17 = .ok (.invokevirtual 38, 3) := by decide +kernel
theorem dX0_rulesBroken_20 : decode cX0_rulesBroken 20 = .ok (.astore 5, 2) := by decide +kernel
theorem dX0_rulesBroken_22 : decode cX0_rulesBroken 22 = .ok (.aload 5, 2) := by decide +kernel
theorem dX0_rulesBroken_24 : decode cX0_rulesBroken 24 = .ok (.getfield 53, 3) := by decide +kernel
theorem dX0_rulesBroken_27 : decode cX0_rulesBroken 27 = .ok (.iload_n 2, 1) := by decide +kernel
theorem dX0_rulesBroken_28 : decode cX0_rulesBroken 28 = .ok (.if_icmp .gt 19, 3) := by decide +kernel
theorem dX0_rulesBroken_31 : decode cX0_rulesBroken 31 = .ok (.aload 5, 2) := by decide +kernel
theorem dX0_rulesBroken_33 : decode cX0_rulesBroken 33 = .ok (.iload_n 1, 1) := by decide +kernel
theorem dX0_rulesBroken_34 : decode cX0_rulesBroken 34 = .ok (.invokevirtual 62, 3) := by decide +kernel
theorem dX0_rulesBroken_37 : decode cX0_rulesBroken 37 = .ok (.ifCond .ne 10, 3) := by decide +kernel
theorem dX0_rulesBroken_40 : decode cX0_rulesBroken 40 = .ok (.iload_n 3, 1) := by decide +kernel
theorem dX0_rulesBroken_41 : decode cX0_rulesBroken 41 = .ok (.iconst 1, 1) := by decide +kernel
theorem dX0_rulesBroken_42 : decode cX0_rulesBroken 42 = .ok (.iload 4, 2) := by decide +kernel
theorem dX0_rulesBroken_44 : decode cX0_rulesBroken 44 = .ok (.ishl, 1) := by decide +kernel
theorem dX0_rulesBroken_45 : decode cX0_rulesBroken 45 = .ok (.ior, 1) := by decide +kernel
theorem dX0_rulesBroken_46 : decode cX0_rulesBroken 46 = .ok (.istore_n 3, 1) := by decide +kernel
theorem dX0_rulesBroken_47 : decode cX0_rulesBroken 47 = .ok (.iinc 4 1, 3) := by decide +kernel
theorem dX0_rulesBroken_50 : decode cX0_rulesBroken 50 = .ok (.goto (-45), 3) := by decide +kernel
theorem dX0_rulesBroken_53 : decode cX0_rulesBroken 53 = .ok (.iload_n 3, 1) := by decide +kernel
theorem dX0_rulesBroken_54 : decode cX0_rulesBroken 54 = .ok (.ireturn, 1) := by decide +kernel
theorem dX0_rulesLost_0 : decode cX0_rulesLost 0 = .ok (.iconst 0, 1) := by decide +kernel
theorem dX0_rulesLost_1 : decode cX0_rulesLost 1 = .ok (.istore 4, 2) := by decide +kernel
theorem dX0_rulesLost_3 : decode cX0_rulesLost 3 = .ok (.iconst 0, 1) := by decide +kernel
theorem dX0_rulesLost_4 : decode cX0_rulesLost 4 = .ok (.istore 5, 2) := by decide +kernel
theorem dX0_rulesLost_6 : decode cX0_rulesLost 6 = .ok (.iload 5, 2) := by decide +kernel
theorem dX0_rulesLost_8 : decode cX0_rulesLost 8 = .ok (.aload_n 0, 1) := by decide +kernel
theorem dX0_rulesLost_9 : decode cX0_rulesLost 9 = .ok (.getfield 22, 3) := by decide +kernel
theorem dX0_rulesLost_12 : decode cX0_rulesLost 12 = .ok (.if_icmp .ge 41, 3) := by decide +kernel
theorem dX0_rulesLost_15 : decode cX0_rulesLost 15 = .ok (.iload_n 1, 1) := by decide +kernel
theorem dX0_rulesLost_16 : decode cX0_rulesLost 16 = .ok (.iload 5, 2) := by decide +kernel
theorem dX0_rulesLost_18 : decode cX0_rulesLost 18 = .ok (.ishr, 1) := by decide +kernel
theorem dX0_rulesLost_19 : decode cX0_rulesLost 19 = .ok (.iconst 1, 1) := by decide +kernel
theorem dX0_rulesLost_20 : decode cX0_rulesLost 20 = .ok (.iand, 1) := by decide +kernel
theorem dX0_rulesLost_21 : decode cX0_rulesLost 21 = .ok (.ifCond .eq 26, 3) := by decide +kernel
theorem dX0_rulesLost_24 : decode cX0_rulesLost 24 = .ok (.aload_n 0, 1) := by decide +kernel
theorem dX0_rulesLost_25 : decode cX0_rulesLost 25 = .ok (.iload 5, 2) := by decide +kernel
theorem dX0_rulesLost_27 : decode cX0_rulesLost 27 = .ok (.invokevirtual 38, 3) := by decide +kernel
theorem dX0_rulesLost_30 : decode cX0_rulesLost 30 = .ok (.iload_n 2, 1) := by decide +kernel
theorem dX0_rulesLost_31 : decode cX0_rulesLost 31 = .ok (.iload_n 3, 1) := by decide +kernel
theorem dX0_rulesLost_32 : decode cX0_rulesLost 32 = .ok (.invokevirtual 66, 3) := by decide +kernel
theorem dX0_rulesLost_35 : decode cX0_rulesLost 35 = .ok (.ifCond .eq 12, 3) := by decide +kernel
theorem dX0_rulesLost_38 : decode cX0_rulesLost 38 = .ok (.iload 4, 2) := by decide +kernel
theorem dX0_rulesLost_40 : decode cX0_rulesLost 40 = .ok (.iconst 1, 1) := by decide +kernel
theorem dX0_rulesLost_41 : decode cX0_rulesLost 41 = .ok (.iload 5, 2) := by decide +kernel
theorem dX0_rulesLost_43 : decode cX0_rulesLost 43 = .ok (.ishl, 1) := by decide +kernel
theorem dX0_rulesLost_44 : decode cX0_rulesLost 44 = .ok (.ior, 1) := by decide +kernel
theorem dX0_rulesLost_45 : decode cX0_rulesLost 45 = .ok (.istore 4, 2) := by decide +kernel
theorem dX0_rulesLost_47 : decode cX0_rulesLost 47 = .ok (.iinc 5 1, 3) := by decide +kernel
theorem dX0_rulesLost_50 : decode cX0_rulesLost 50 = .ok (.goto (-44), 3) := by decide +kernel
theorem dX0_rulesLost_53 : decode cX0_rulesLost 53 = .ok (.iload 4, 2) := by decide +kernel
theorem dX0_rulesLost_55 : decode cX0_rulesLost 55 = .ok (.ireturn, 1) := by decide +kernel
theorem dX0_pricesOf_0 : decode cX0_pricesOf 0 = .ok (.iconst 0, 1) := by decide +kernel
theorem dX0_pricesOf_1 : decode cX0_pricesOf 1 = .ok (.istore_n 2, 1) := by decide +kernel
theorem dX0_pricesOf_2 : decode cX0_pricesOf 2 = .ok (.iconst 0, 1) := by decide +kernel
theorem dX0_pricesOf_3 : decode cX0_pricesOf 3 = .ok (.istore_n 3, 1) := by decide +kernel
theorem dX0_pricesOf_4 : decode cX0_pricesOf 4 = .ok (.iload_n 3, 1) := by decide +kernel
theorem dX0_pricesOf_5 : decode cX0_pricesOf 5 = .ok (.aload_n 0, 1) := by decide +kernel
theorem dX0_pricesOf_6 : decode cX0_pricesOf 6 = .ok (.getfield 22, 3) := by decide +kernel
theorem dX0_pricesOf_9 : decode cX0_pricesOf 9 = .ok (.if_icmp .ge 28, 3) := by decide +kernel
theorem dX0_pricesOf_12 : decode cX0_pricesOf 12 = .ok (.iload_n 1, 1) := by decide +kernel
theorem dX0_pricesOf_13 : decode cX0_pricesOf 13 = .ok (.iload_n 3, 1) := by decide +kernel
theorem dX0_pricesOf_14 : decode cX0_pricesOf 14 = .ok (.ishr, 1) := by decide +kernel
theorem dX0_pricesOf_15 : decode cX0_pricesOf 15 = .ok (.iconst 1, 1) := by decide +kernel
theorem dX0_pricesOf_16 : decode cX0_pricesOf 16 = .ok (.iand, 1) := by decide +kernel
theorem dX0_pricesOf_17 : decode cX0_pricesOf 17 = .ok (.ifCond .eq 14, 3) := by decide +kernel
theorem dX0_pricesOf_20 : decode cX0_pricesOf 20 = .ok (.iload_n 2, 1) := by decide +kernel
theorem dX0_pricesOf_21 : decode cX0_pricesOf 21 = .ok (.aload_n 0, 1) := by decide +kernel
theorem dX0_pricesOf_22 : decode cX0_pricesOf 22 = .ok (.iload_n 3, 1) := by decide +kernel
theorem dX0_pricesOf_23 : decode cX0_pricesOf 23 = .ok (.invokevirtual 38, 3) := by decide +kernel
theorem dX0_pricesOf_26 : decode cX0_pricesOf 26 = .ok (.getfield 70, 3) := by decide +kernel
theorem dX0_pricesOf_29 : decode cX0_pricesOf 29 = .ok (.iadd, 1) := by decide +kernel
theorem dX0_pricesOf_30 : decode cX0_pricesOf 30 = .ok (.istore_n 2, 1) := by decide +kernel
theorem dX0_pricesOf_31 : decode cX0_pricesOf 31 = .ok (.iinc 3 1, 3) := by decide +kernel
theorem dX0_pricesOf_34 : decode cX0_pricesOf 34 = .ok (.goto (-30), 3) := by decide +kernel
theorem dX0_pricesOf_37 : decode cX0_pricesOf 37 = .ok (.iload_n 2, 1) := by decide +kernel
theorem dX0_pricesOf_38 : decode cX0_pricesOf 38 = .ok (.ireturn, 1) := by decide +kernel
theorem dX0_nightIn_0 : decode cX0_nightIn 0 = .ok (.aload_n 0, 1) := by decide +kernel
theorem dX0_nightIn_1 : decode cX0_nightIn 1 = .ok (.aload_n 0, 1) := by decide +kernel
theorem dX0_nightIn_2 : decode cX0_nightIn 2 = .ok (.iload_n 1, 1) := by decide +kernel
theorem dX0_nightIn_3 : decode cX0_nightIn 3 = .ok (.iload_n 2, 1) := by decide +kernel
theorem dX0_nightIn_4 : decode cX0_nightIn 4 = .ok (.invokevirtual 73, 3) := by decide +kernel
theorem dX0_nightIn_7 : decode cX0_nightIn 7 = .ok (.invokevirtual 76, 3) := by decide +kernel
theorem dX0_nightIn_10 : decode cX0_nightIn 10 = .ok (.ireturn, 1) := by decide +kernel
theorem dX0_nightsAhead_0 : decode cX0_nightsAhead 0 = .ok (.iconst 0, 1) := by decide +kernel
theorem dX0_nightsAhead_1 : decode cX0_nightsAhead 1 = .ok (.istore_n 2, 1) := by decide +kernel
theorem dX0_nightsAhead_2 : decode cX0_nightsAhead 2 = .ok (.iconst 0, 1) := by decide +kernel
theorem dX0_nightsAhead_3 : decode cX0_nightsAhead 3 = .ok (.istore_n 3, 1) := by decide +kernel
theorem dX0_nightsAhead_4 : decode cX0_nightsAhead 4 = .ok (.iload_n 3, 1) := by decide +kernel
theorem dX0_nightsAhead_5 : decode cX0_nightsAhead 5 = .ok (.iload_n 1, 1) := by decide +kernel
theorem dX0_nightsAhead_6 : decode cX0_nightsAhead 6 = .ok (.if_icmp .ge 26, 3) := by decide +kernel
theorem dX0_nightsAhead_9 : decode cX0_nightsAhead 9 = .ok (.iload_n 2, 1) := by decide +kernel
theorem dX0_nightsAhead_10 : decode cX0_nightsAhead 10 = .ok (.aload_n 0, 1) := by decide +kernel
theorem dX0_nightsAhead_11 : decode cX0_nightsAhead 11 = .ok (.aload_n 0, 1) := by decide +kernel
theorem dX0_nightsAhead_12 : decode cX0_nightsAhead 12 = .ok (.getfield 26, 3) := by decide +kernel
theorem dX0_nightsAhead_15 : decode cX0_nightsAhead 15 = .ok (.aload_n 0, 1) := by decide +kernel
theorem dX0_nightsAhead_16 : decode cX0_nightsAhead 16 = .ok (.getfield 29, 3) := by decide +kernel
theorem dX0_nightsAhead_19 : decode cX0_nightsAhead 19 = .ok (.iload_n 3, 1) := by decide +kernel
theorem dX0_nightsAhead_20 : decode cX0_nightsAhead 20 = .ok (.iadd, 1) := by decide +kernel
theorem dX0_nightsAhead_21 : decode cX0_nightsAhead 21 = .ok (.invokevirtual 80, 3) := by decide +kernel
theorem dX0_nightsAhead_24 : decode cX0_nightsAhead 24 = .ok (.iadd, 1) := by decide +kernel
theorem dX0_nightsAhead_25 : decode cX0_nightsAhead 25 = .ok (.istore_n 2, 1) := by decide +kernel
theorem dX0_nightsAhead_26 : decode cX0_nightsAhead 26 = .ok (.iinc 3 1, 3) := by decide +kernel
theorem dX0_nightsAhead_29 : decode cX0_nightsAhead 29 = .ok (.goto (-25), 3) := by decide +kernel
theorem dX0_nightsAhead_32 : decode cX0_nightsAhead 32 = .ok (.iload_n 2, 1) := by decide +kernel
theorem dX0_nightsAhead_33 : decode cX0_nightsAhead 33 = .ok (.ireturn, 1) := by decide +kernel
theorem dX0_waysOf_0 : decode cX0_waysOf 0 = .ok (.ldc2_w 83, 3) := by decide +kernel
theorem dX0_waysOf_3 : decode cX0_waysOf 3 = .ok (.lstore_n 2, 1) := by decide +kernel
theorem dX0_waysOf_4 : decode cX0_waysOf 4 = .ok (.iconst 0, 1) := by decide +kernel
theorem dX0_waysOf_5 : decode cX0_waysOf 5 = .ok (.istore 4, 2) := by decide +kernel
theorem dX0_waysOf_7 : decode cX0_waysOf 7 = .ok (.iload 4, 2) := by decide +kernel
theorem dX0_waysOf_9 : decode cX0_waysOf 9 = .ok (.aload_n 0, 1) := by decide +kernel
theorem dX0_waysOf_10 : decode cX0_waysOf 10 = .ok (.getfield 22, 3) := by decide +kernel
theorem dX0_waysOf_13 : decode cX0_waysOf 13 = .ok (.if_icmp .ge 30, 3) := by decide +kernel
theorem dX0_waysOf_16 : decode cX0_waysOf 16 = .ok (.iload_n 1, 1) := by decide +kernel
theorem dX0_waysOf_17 : decode cX0_waysOf 17 = .ok (.iload 4, 2) := by decide +kernel
theorem dX0_waysOf_19 : decode cX0_waysOf 19 = .ok (.ishr, 1) := by decide +kernel
theorem dX0_waysOf_20 : decode cX0_waysOf 20 = .ok (.iconst 1, 1) := by decide +kernel
theorem dX0_waysOf_21 : decode cX0_waysOf 21 = .ok (.iand, 1) := by decide +kernel
theorem dX0_waysOf_22 : decode cX0_waysOf 22 = .ok (.ifCond .eq 15, 3) := by decide +kernel
theorem dX0_waysOf_25 : decode cX0_waysOf 25 = .ok (.lload_n 2, 1) := by decide +kernel
theorem dX0_waysOf_26 : decode cX0_waysOf 26 = .ok (.aload_n 0, 1) := by decide +kernel
theorem dX0_waysOf_27 : decode cX0_waysOf 27 = .ok (.iload 4, 2) := by decide +kernel
theorem dX0_waysOf_29 : decode cX0_waysOf 29 = .ok (.invokevirtual 38, 3) := by decide +kernel
theorem dX0_waysOf_32 : decode cX0_waysOf 32 = .ok (.getfield 85, 3) := by decide +kernel
theorem dX0_waysOf_35 : decode cX0_waysOf 35 = .ok (.land, 1) := by decide +kernel
theorem dX0_waysOf_36 : decode cX0_waysOf 36 = .ok (.lstore_n 2, 1) := by decide +kernel
theorem dX0_waysOf_37 : decode cX0_waysOf 37 = .ok (.iinc 4 1, 3) := by decide +kernel
theorem dX0_waysOf_40 : decode cX0_waysOf 40 = .ok (.goto (-33), 3) := by decide +kernel
theorem dX0_waysOf_43 : decode cX0_waysOf 43 = .ok (.lload_n 2, 1) := by decide +kernel
theorem dX0_waysOf_44 : decode cX0_waysOf 44 = .ok (.lreturn, 1) := by decide +kernel
theorem dX0_peacefulWays_0 : decode cX0_peacefulWays 0 = .ok (.aload_n 0, 1) := by decide +kernel
theorem dX0_peacefulWays_1 : decode cX0_peacefulWays 1 = .ok (.aload_n 0, 1) := by decide +kernel
theorem dX0_peacefulWays_2 : decode cX0_peacefulWays 2 = .ok (.aload_n 0, 1) := by decide +kernel
theorem dX0_peacefulWays_3 : decode cX0_peacefulWays 3 = .ok (.getfield 29, 3) := by decide +kernel
theorem dX0_peacefulWays_6 : decode cX0_peacefulWays 6 = .ok (.invokevirtual 89, 3) := by decide +kernel
theorem dX0_peacefulWays_9 : decode cX0_peacefulWays 9 = .ok (.invokevirtual 92, 3) := by decide +kernel
theorem dX0_peacefulWays_12 : decode cX0_peacefulWays 12 = .ok (.lreturn, 1) := by decide +kernel
theorem dX0_refuser_0 : decode cX0_refuser 0 = .ok (.aload_n 0, 1) := by decide +kernel
theorem dX0_refuser_1 : decode cX0_refuser 1 = .ok (.getfield 26, 3) := by decide +kernel
theorem dX0_refuser_4 : decode cX0_refuser 4 = .ok (.iconst 1, 1) := by decide +kernel
theorem dX0_refuser_5 : decode cX0_refuser 5 = .ok (.iload_n 1, 1) := by decide +kernel
theorem dX0_refuser_6 : decode cX0_refuser 6 = .ok (.ishl, 1) := by decide +kernel
theorem dX0_refuser_7 : decode cX0_refuser 7 = .ok (.ixor, 1) := by decide +kernel
theorem dX0_refuser_8 : decode cX0_refuser 8 = .ok (.istore_n 2, 1) := by decide +kernel
theorem dX0_refuser_9 : decode cX0_refuser 9 = .ok (.iconst 0, 1) := by decide +kernel
theorem dX0_refuser_10 : decode cX0_refuser 10 = .ok (.istore_n 3, 1) := by decide +kernel
theorem dX0_refuser_11 : decode cX0_refuser 11 = .ok (.iload_n 3, 1) := by decide +kernel
theorem dX0_refuser_12 : decode cX0_refuser 12 = .ok (.aload_n 0, 1) := by decide +kernel
theorem dX0_refuser_13 : decode cX0_refuser 13 = .ok (.getfield 22, 3) := by decide +kernel
theorem dX0_refuser_16 : decode cX0_refuser 16 = .ok (.if_icmp .ge 71, 3) := by decide +kernel
theorem dX0_refuser_19 : decode cX0_refuser 19 = .ok (.aload_n 0, 1) := by decide +kernel
theorem dX0_refuser_20 : decode cX0_refuser 20 = .ok (.iload_n 3, 1) := by decide +kernel
theorem dX0_refuser_21 : decode cX0_refuser 21 = .ok (.invokevirtual 38, 3) := by decide +kernel
theorem dX0_refuser_24 : decode cX0_refuser 24 = .ok (.astore 4, 2) := by decide +kernel
theorem dX0_refuser_26 : decode cX0_refuser 26 = .ok (.aload 4, 2) := by decide +kernel
theorem dX0_refuser_28 : decode cX0_refuser 28 = .ok (.getfield 96, 3) := by decide +kernel
theorem dX0_refuser_31 : decode cX0_refuser 31 = .ok (.ifCond .eq 19, 3) := by decide +kernel
theorem dX0_refuser_34 : decode cX0_refuser 34 = .ok (.aload 4, 2) := by decide +kernel
theorem dX0_refuser_36 : decode cX0_refuser 36 = .ok (.getfield 53, 3) := by decide +kernel
theorem dX0_refuser_39 : decode cX0_refuser 39 = .ok (.aload_n 0, 1) := by decide +kernel
theorem dX0_refuser_40 : decode cX0_refuser 40 = .ok (.getfield 29, 3) := by decide +kernel
theorem dX0_refuser_43 : decode cX0_refuser 43 = .ok (.if_icmp .gt 7, 3) := by decide +kernel
theorem dX0_refuser_46 : decode cX0_refuser 46 = .ok (.iconst 1, 1) := by decide +kernel
theorem dX0_refuser_47 : decode cX0_refuser 47 = .ok (.goto 4, 3) := by decide +kernel
theorem dX0_refuser_50 : decode cX0_refuser 50 = .ok (.iconst 0, 1) := by decide +kernel
theorem dX0_refuser_51 : decode cX0_refuser 51 = .ok (.istore 5, 2) := by decide +kernel
theorem dX0_refuser_53 : decode cX0_refuser 53 = .ok (.iload 5, 2) := by decide +kernel
theorem dX0_refuser_55 : decode cX0_refuser 55 = .ok (.ifCond .eq 26, 3) := by decide +kernel
theorem dX0_refuser_58 : decode cX0_refuser 58 = .ok (.aload 4, 2) := by decide +kernel
theorem dX0_refuser_60 : decode cX0_refuser 60 = .ok (.aload_n 0, 1) := by decide +kernel
theorem dX0_refuser_61 : decode cX0_refuser 61 = .ok (.getfield 26, 3) := by decide +kernel
theorem dX0_refuser_64 : decode cX0_refuser 64 = .ok (.invokevirtual 62, 3) := by decide +kernel
theorem dX0_refuser_67 : decode cX0_refuser 67 = .ok (.ifCond .eq 14, 3) := by decide +kernel
theorem dX0_refuser_70 : decode cX0_refuser 70 = .ok (.aload 4, 2) := by decide +kernel
theorem dX0_refuser_72 : decode cX0_refuser 72 = .ok (.iload_n 2, 1) := by decide +kernel
theorem dX0_refuser_73 : decode cX0_refuser 73 = .ok (.invokevirtual 62, 3) := by decide +kernel
theorem dX0_refuser_76 : decode cX0_refuser 76 = .ok (.ifCond .ne 5, 3) := by decide +kernel
theorem dX0_refuser_79 : decode cX0_refuser 79 = .ok (.iload_n 3, 1) := by decide +kernel
theorem dX0_refuser_80 : decode cX0_refuser 80 = .ok (.ireturn, 1) := by decide +kernel
theorem dX0_refuser_81 : decode cX0_refuser 81 = .ok (.iinc 3 1, 3) := by decide +kernel
theorem dX0_refuser_84 : decode cX0_refuser 84 = .ok (.goto (-73), 3) := by decide +kernel
theorem dX0_refuser_87 : decode cX0_refuser 87 = .ok (.iconst (-1), 1) := by decide +kernel
theorem dX0_refuser_88 : decode cX0_refuser 88 = .ok (.ireturn, 1) := by decide +kernel
theorem dX0_canTurn_0 : decode cX0_canTurn 0 = .ok (.aload_n 0, 1) := by decide +kernel
theorem dX0_canTurn_1 : decode cX0_canTurn 1 = .ok (.getfield 26, 3) := by decide +kernel
theorem dX0_canTurn_4 : decode cX0_canTurn 4 = .ok (.iload_n 1, 1) := by decide +kernel
theorem dX0_canTurn_5 : decode cX0_canTurn 5 = .ok (.ishr, 1) := by decide +kernel
theorem dX0_canTurn_6 : decode cX0_canTurn 6 = .ok (.iconst 1, 1) := by decide +kernel
theorem dX0_canTurn_7 : decode cX0_canTurn 7 = .ok (.iand, 1) := by decide +kernel
theorem dX0_canTurn_8 : decode cX0_canTurn 8 = .ok (.ifCond .eq 7, 3) := by decide +kernel
theorem dX0_canTurn_11 : decode cX0_canTurn 11 = .ok (.iconst 1, 1) := by decide +kernel
theorem dX0_canTurn_12 : decode cX0_canTurn 12 = .ok (.goto 4, 3) := by decide +kernel
theorem dX0_canTurn_15 : decode cX0_canTurn 15 = .ok (.iconst 0, 1) := by decide +kernel
theorem dX0_canTurn_16 : decode cX0_canTurn 16 = .ok (.istore_n 3, 1) := by decide +kernel
theorem dX0_canTurn_17 : decode cX0_canTurn 17 = .ok (.iload_n 3, 1) := by decide +kernel
theorem dX0_canTurn_18 : decode cX0_canTurn 18 = .ok (.iload_n 2, 1) := by decide +kernel
theorem dX0_canTurn_19 : decode cX0_canTurn 19 = .ok (.if_icmp .ne 16, 3) := by decide +kernel
theorem dX0_canTurn_22 : decode cX0_canTurn 22 = .ok (.aload_n 0, 1) := by decide +kernel
theorem dX0_canTurn_23 : decode cX0_canTurn 23 = .ok (.iload_n 1, 1) := by decide +kernel
theorem dX0_canTurn_24 : decode cX0_canTurn 24 = .ok (.invokevirtual 100, 3) := by decide +kernel
theorem dX0_canTurn_27 : decode cX0_canTurn 27 = .ok (.iconst (-1), 1) := by decide +kernel
theorem dX0_canTurn_28 : decode cX0_canTurn 28 = .ok (.if_icmp .ne 7, 3) := by decide +kernel
theorem dX0_canTurn_31 : decode cX0_canTurn 31 = .ok (.iconst 1, 1) := by decide +kernel
theorem dX0_canTurn_32 : decode cX0_canTurn 32 = .ok (.goto 4, 3) := by decide +kernel
theorem dX0_canTurn_35 : decode cX0_canTurn 35 = .ok (.iconst 0, 1) := by decide +kernel
theorem dX0_canTurn_36 : decode cX0_canTurn 36 = .ok (.ireturn, 1) := by decide +kernel
theorem dX0_turn_0 : decode cX0_turn 0 = .ok (.aload_n 0, 1) := by decide +kernel
theorem dX0_turn_1 : decode cX0_turn 1 = .ok (.dup, 1) := by decide +kernel
theorem dX0_turn_2 : decode cX0_turn 2 = .ok (.getfield 26, 3) := by decide +kernel
theorem dX0_turn_5 : decode cX0_turn 5 = .ok (.iconst 1, 1) := by decide +kernel
theorem dX0_turn_6 : decode cX0_turn 6 = .ok (.iload_n 1, 1) := by decide +kernel
theorem dX0_turn_7 : decode cX0_turn 7 = .ok (.ishl, 1) := by decide +kernel
theorem dX0_turn_8 : decode cX0_turn 8 = .ok (.ixor, 1) := by decide +kernel
theorem dX0_turn_9 : decode cX0_turn 9 = .ok (.putfield 26, 3) := by decide +kernel
theorem dX0_turn_12 : decode cX0_turn 12 = .ok (.aload_n 0, 1) := by decide +kernel
theorem dX0_turn_13 : decode cX0_turn 13 = .ok (.getfield 26, 3) := by decide +kernel
theorem dX0_turn_16 : decode cX0_turn 16 = .ok (.ireturn, 1) := by decide +kernel
theorem dX0_passNights_0 : decode cX0_passNights 0 = .ok (.iconst 0, 1) := by decide +kernel
theorem dX0_passNights_1 : decode cX0_passNights 1 = .ok (.istore_n 2, 1) := by decide +kernel
theorem dX0_passNights_2 : decode cX0_passNights 2 = .ok (.iconst 0, 1) := by decide +kernel
theorem dX0_passNights_3 : decode cX0_passNights 3 = .ok (.istore_n 3, 1) := by decide +kernel
theorem dX0_passNights_4 : decode cX0_passNights 4 = .ok (.iload_n 3, 1) := by decide +kernel
theorem dX0_passNights_5 : decode cX0_passNights 5 = .ok (.iload_n 1, 1) := by decide +kernel
theorem dX0_passNights_6 : decode cX0_passNights 6 = .ok (.if_icmp .ge 16, 3) := by decide +kernel
theorem dX0_passNights_9 : decode cX0_passNights 9 = .ok (.iload_n 2, 1) := by decide +kernel
theorem dX0_passNights_10 : decode cX0_passNights 10 = .ok (.aload_n 0, 1) := by decide +kernel
theorem dX0_passNights_11 : decode cX0_passNights 11 = .ok (.invokevirtual 103, 3) := by decide +kernel
theorem dX0_passNights_14 : decode cX0_passNights 14 = .ok (.iadd, 1) := by decide +kernel
theorem dX0_passNights_15 : decode cX0_passNights 15 = .ok (.istore_n 2, 1) := by decide +kernel
theorem dX0_passNights_16 : decode cX0_passNights 16 = .ok (.iinc 3 1, 3) := by decide +kernel
theorem dX0_passNights_19 : decode cX0_passNights 19 = .ok (.goto (-15), 3) := by decide +kernel
theorem dX0_passNights_22 : decode cX0_passNights 22 = .ok (.iload_n 2, 1) := by decide +kernel
theorem dX0_passNights_23 : decode cX0_passNights 23 = .ok (.ireturn, 1) := by decide +kernel
theorem dX0_passNight_0 : decode cX0_passNight 0 = .ok (.aload_n 0, 1) := by decide +kernel
theorem dX0_passNight_1 : decode cX0_passNight 1 = .ok (.aload_n 0, 1) := by decide +kernel
theorem dX0_passNight_2 : decode cX0_passNight 2 = .ok (.getfield 26, 3) := by decide +kernel
theorem dX0_passNight_5 : decode cX0_passNight 5 = .ok (.aload_n 0, 1) := by decide +kernel
theorem dX0_passNight_6 : decode cX0_passNight 6 = .ok (.getfield 29, 3) := by decide +kernel
theorem dX0_passNight_9 : decode cX0_passNight 9 = .ok (.invokevirtual 73, 3) := by decide +kernel
theorem dX0_passNight_12 : decode cX0_passNight 12 = .ok (.istore_n 1, 1) := by decide +kernel
theorem dX0_passNight_13 : decode cX0_passNight 13 = .ok (.iconst 0, 1) := by decide +kernel
theorem dX0_passNight_14 : decode cX0_passNight 14 = .ok (.istore_n 2, 1) := by decide +kernel
theorem dX0_passNight_15 : decode cX0_passNight 15 = .ok (.iload_n 2, 1) := by decide +kernel
theorem dX0_passNight_16 : decode cX0_passNight 16 = .ok (.aload_n 0, 1) := by decide +kernel
theorem dX0_passNight_17 : decode cX0_passNight 17 = .ok (.getfield 22, 3) := by decide +kernel
theorem dX0_passNight_20 : decode cX0_passNight 20 = .ok (.if_icmp .ge 38, 3) := by decide +kernel
theorem dX0_passNight_23 : decode cX0_passNight 23 = .ok (.iload_n 1, 1) := by decide +kernel
theorem dX0_passNight_24 : decode cX0_passNight 24 = .ok (.iload_n 2, 1) := by decide +kernel
theorem dX0_passNight_25 : decode cX0_passNight 25 = .ok (.ishr, 1) := by decide +kernel
theorem dX0_passNight_26 : decode cX0_passNight 26 = .ok (.iconst 1, 1) := by decide +kernel
theorem dX0_passNight_27 : decode cX0_passNight 27 = .ok (.iand, 1) := by decide +kernel
theorem dX0_passNight_28 : decode cX0_passNight 28 = .ok (.ifCond .eq 24, 3) := by decide +kernel
theorem dX0_passNight_31 : decode cX0_passNight 31 = .ok (.aload_n 0, 1) := by decide +kernel
theorem dX0_passNight_32 : decode cX0_passNight 32 = .ok (.iload_n 2, 1) := by decide +kernel
theorem dX0_passNight_33 : decode cX0_passNight 33 = .ok (.invokevirtual 38, 3) := by decide +kernel
theorem dX0_passNight_36 : decode cX0_passNight 36 = .ok (.dup, 1) := by decide +kernel
theorem dX0_passNight_37 : decode cX0_passNight 37 = .ok (.getfield 50, 3) := by decide +kernel
theorem dX0_passNight_40 : decode cX0_passNight 40 = .ok (.aload_n 0, 1) := by decide +kernel
theorem dX0_passNight_41 : decode cX0_passNight 41 = .ok (.iload_n 2, 1) := by decide +kernel
theorem dX0_passNight_42 : decode cX0_passNight 42 = .ok (.invokevirtual 38, 3) := by decide +kernel
theorem dX0_passNight_45 : decode cX0_passNight 45 = .ok (.getfield 70, 3) := by decide +kernel
theorem dX0_passNight_48 : decode cX0_passNight 48 = .ok (.iadd, 1) := by decide +kernel
theorem dX0_passNight_49 : decode cX0_passNight 49 = .ok (.putfield 50, 3) := by decide +kernel
theorem dX0_passNight_52 : decode cX0_passNight 52 = .ok (.iinc 2 1, 3) := by decide +kernel
theorem dX0_passNight_55 : decode cX0_passNight 55 = .ok (.goto (-40), 3) := by decide +kernel
theorem dX0_passNight_58 : decode cX0_passNight 58 = .ok (.aload_n 0, 1) := by decide +kernel
theorem dX0_passNight_59 : decode cX0_passNight 59 = .ok (.iload_n 1, 1) := by decide +kernel
theorem dX0_passNight_60 : decode cX0_passNight 60 = .ok (.invokevirtual 76, 3) := by decide +kernel
theorem dX0_passNight_63 : decode cX0_passNight 63 = .ok (.istore_n 2, 1) := by decide +kernel
theorem dX0_passNight_64 : decode cX0_passNight 64 = .ok (.aload_n 0, 1) := by decide +kernel
theorem dX0_passNight_65 : decode cX0_passNight 65 = .ok (.dup, 1) := by decide +kernel
theorem dX0_passNight_66 : decode cX0_passNight 66 = .ok (.getfield 32, 3) := by decide +kernel
theorem dX0_passNight_69 : decode cX0_passNight 69 = .ok (.iload_n 2, 1) := by decide +kernel
theorem dX0_passNight_70 : decode cX0_passNight 70 = .ok (.iadd, 1) := by decide +kernel
theorem dX0_passNight_71 : decode cX0_passNight 71 = .ok (.putfield 32, 3) := by decide +kernel
theorem dX0_passNight_74 : decode cX0_passNight 74 = .ok (.aload_n 0, 1) := by decide +kernel
theorem dX0_passNight_75 : decode cX0_passNight 75 = .ok (.dup, 1) := by decide +kernel
theorem dX0_passNight_76 : decode cX0_passNight 76 = .ok (.getfield 29, 3) := by decide +kernel
theorem dX0_passNight_79 : decode cX0_passNight 79 = .ok (.iconst 1, 1) := by decide +kernel
theorem dX0_passNight_80 : decode cX0_passNight 80 = .ok (.iadd, 1) := by decide +kernel
theorem dX0_passNight_81 : decode cX0_passNight 81 = .ok (.putfield 29, 3) := by decide +kernel
theorem dX0_passNight_84 : decode cX0_passNight 84 = .ok (.iload_n 2, 1) := by decide +kernel
theorem dX0_passNight_85 : decode cX0_passNight 85 = .ok (.ireturn, 1) := by decide +kernel
theorem dX0_accounts_0 : decode cX0_accounts 0 = .ok (.aload_n 0, 1) := by decide +kernel
theorem dX0_accounts_1 : decode cX0_accounts 1 = .ok (.getfield 35, 3) := by decide +kernel
theorem dX0_accounts_4 : decode cX0_accounts 4 = .ok (.istore_n 1, 1) := by decide +kernel
theorem dX0_accounts_5 : decode cX0_accounts 5 = .ok (.iconst 0, 1) := by decide +kernel
theorem dX0_accounts_6 : decode cX0_accounts 6 = .ok (.istore_n 2, 1) := by decide +kernel
theorem dX0_accounts_7 : decode cX0_accounts 7 = .ok (.iload_n 2, 1) := by decide +kernel
theorem dX0_accounts_8 : decode cX0_accounts 8 = .ok (.aload_n 0, 1) := by decide +kernel
theorem dX0_accounts_9 : decode cX0_accounts 9 = .ok (.getfield 22, 3) := by decide +kernel
theorem dX0_accounts_12 : decode cX0_accounts 12 = .ok (.if_icmp .ge 20, 3) := by decide +kernel
theorem dX0_accounts_15 : decode cX0_accounts 15 = .ok (.iload_n 1, 1) := by decide +kernel
theorem dX0_accounts_16 : decode cX0_accounts 16 = .ok (.aload_n 0, 1) := by decide +kernel
theorem dX0_accounts_17 : decode cX0_accounts 17 = .ok (.iload_n 2, 1) := by decide +kernel
theorem dX0_accounts_18 : decode cX0_accounts 18 = .ok (.invokevirtual 38, 3) := by decide +kernel
theorem dX0_accounts_21 : decode cX0_accounts 21 = .ok (.getfield 50, 3) := by decide +kernel
theorem dX0_accounts_24 : decode cX0_accounts 24 = .ok (.iadd, 1) := by decide +kernel
theorem dX0_accounts_25 : decode cX0_accounts 25 = .ok (.istore_n 1, 1) := by decide +kernel
theorem dX0_accounts_26 : decode cX0_accounts 26 = .ok (.iinc 2 1, 3) := by decide +kernel
theorem dX0_accounts_29 : decode cX0_accounts 29 = .ok (.goto (-22), 3) := by decide +kernel
theorem dX0_accounts_32 : decode cX0_accounts 32 = .ok (.iload_n 1, 1) := by decide +kernel
theorem dX0_accounts_33 : decode cX0_accounts 33 = .ok (.ireturn, 1) := by decide +kernel
theorem dX1_init_0 : decode cX1_init 0 = .ok (.aload_n 0, 1) := by decide +kernel
theorem dX1_init_1 : decode cX1_init 1 = .ok (.invokespecial 3, 3) := by decide +kernel
theorem dX1_init_4 : decode cX1_init 4 = .ok (.aload_n 0, 1) := by decide +kernel
theorem dX1_init_5 : decode cX1_init 5 = .ok (.sipush 729, 3) := by decide +kernel
theorem dX1_init_8 : decode cX1_init 8 = .ok (.newarray .int, 2) := by decide +kernel
theorem dX1_init_10 : decode cX1_init 10 = .ok (.putfield 9, 3) := by decide +kernel
theorem dX1_init_13 : decode cX1_init 13 = .ok (.aload_n 0, 1) := by decide +kernel
theorem dX1_init_14 : decode cX1_init 14 = .ok (.bipush 64, 2) := by decide +kernel
theorem dX1_init_16 : decode cX1_init 16 = .ok (.newarray .long, 2) := by decide +kernel
theorem dX1_init_18 : decode cX1_init 18 = .ok (.putfield 15, 3) := by decide +kernel
theorem dX1_init_21 : decode cX1_init 21 = .ok (.return_, 1) := by decide +kernel
theorem dX1_joinAll_0 : decode cX1_joinAll 0 = .ok (.aload_n 0, 1) := by decide +kernel
theorem dX1_joinAll_1 : decode cX1_joinAll 1 = .ok (.iconst 0, 1) := by decide +kernel
theorem dX1_joinAll_2 : decode cX1_joinAll 2 = .ok (.putfield 19, 3) := by decide +kernel
theorem dX1_joinAll_5 : decode cX1_joinAll 5 = .ok (.aload_n 0, 1) := by decide +kernel
theorem dX1_joinAll_6 : decode cX1_joinAll 6 = .ok (.getfield 15, 3) := by decide +kernel
theorem dX1_joinAll_9 : decode cX1_joinAll 9 = .ok (.lconst 0, 1) := by decide +kernel
theorem dX1_joinAll_10 : decode cX1_joinAll 10 = .ok (.invokestatic 23, 3) := by decide +kernel
theorem dX1_joinAll_13 : decode cX1_joinAll 13 = .ok (.iconst 0, 1) := by decide +kernel
theorem dX1_joinAll_14 : decode cX1_joinAll 14 = .ok (.istore_n 3, 1) := by decide +kernel
theorem dX1_joinAll_15 : decode cX1_joinAll 15 = .ok (.iload_n 3, 1) := by decide +kernel
theorem dX1_joinAll_16 : decode cX1_joinAll 16 = .ok (.aload_n 1, 1) := by decide +kernel
theorem dX1_joinAll_17 : decode cX1_joinAll 17 = .ok (.getfield 29, 3) := by decide +kernel
theorem dX1_joinAll_20 : decode cX1_joinAll 20 = .ok (.if_icmp .ge 37, 3) := by decide +kernel
theorem dX1_joinAll_23 : decode cX1_joinAll 23 = .ok (.iload_n 2, 1) := by decide +kernel
theorem dX1_joinAll_24 : decode cX1_joinAll 24 = .ok (.iload_n 3, 1) := by decide +kernel
theorem dX1_joinAll_25 : decode cX1_joinAll 25 = .ok (.ishr, 1) := by decide +kernel
theorem dX1_joinAll_26 : decode cX1_joinAll 26 = .ok (.iconst 1, 1) := by decide +kernel
theorem dX1_joinAll_27 : decode cX1_joinAll 27 = .ok (.iand, 1) := by decide +kernel
theorem dX1_joinAll_28 : decode cX1_joinAll 28 = .ok (.ifCond .eq 23, 3) := by decide +kernel
theorem dX1_joinAll_31 : decode cX1_joinAll 31 = .ok (.aload_n 0, 1) := by decide +kernel
theorem dX1_joinAll_32 : decode cX1_joinAll 32 = .ok (.aload_n 1, 1) := by decide +kernel
theorem dX1_joinAll_33 : decode cX1_joinAll 33 = .ok (.iload_n 3, 1) := by decide +kernel
theorem dX1_joinAll_34 : decode cX1_joinAll 34 = .ok (.invokevirtual 32, 3) := by decide +kernel
theorem dX1_joinAll_37 : decode cX1_joinAll 37 = .ok (.getfield 36, 3) := by decide +kernel
theorem dX1_joinAll_40 : decode cX1_joinAll 40 = .ok (.aload_n 1, 1) := by decide +kernel
theorem dX1_joinAll_41 : decode cX1_joinAll 41 = .ok (.iload_n 3, 1) := by decide +kernel
theorem dX1_joinAll_42 : decode cX1_joinAll 42 = .ok (.invokevirtual 32, 3) := by decide +kernel
theorem dX1_joinAll_45 : decode cX1_joinAll 45 = .ok (.getfield 41, 3) := by decide +kernel
theorem dX1_joinAll_48 : decode cX1_joinAll 48 = .ok (.invokevirtual 44, 3) := by decide +kernel
theorem dX1_joinAll_51 : decode cX1_joinAll 51 = .ok (.iinc 3 1, 3) := by decide +kernel
theorem dX1_joinAll_54 : decode cX1_joinAll 54 = .ok (.goto (-39), 3) := by decide +kernel
theorem dX1_joinAll_57 : decode cX1_joinAll 57 = .ok (.iconst 1, 1) := by decide +kernel
theorem dX1_joinAll_58 : decode cX1_joinAll 58 = .ok (.istore_n 3, 1) := by decide +kernel
theorem dX1_joinAll_59 : decode cX1_joinAll 59 = .ok (.iload_n 3, 1) := by decide +kernel
theorem dX1_joinAll_60 : decode cX1_joinAll 60 = .ok (.aload_n 0, 1) := by decide +kernel
theorem dX1_joinAll_61 : decode cX1_joinAll 61 = .ok (.getfield 19, 3) := by decide +kernel
theorem dX1_joinAll_64 : decode cX1_joinAll 64 = .ok (.if_icmp .ge 23, 3) := by decide +kernel
theorem dX1_joinAll_67 : decode cX1_joinAll 67 = .ok (.iload_n 3, 1) := by decide +kernel
theorem dX1_joinAll_68 : decode cX1_joinAll 68 = .ok (.aload_n 0, 1) := by decide +kernel
theorem dX1_joinAll_69 : decode cX1_joinAll 69 = .ok (.getfield 9, 3) := by decide +kernel
theorem dX1_joinAll_72 : decode cX1_joinAll 72 = .ok (.arraylength, 1) := by decide +kernel
theorem dX1_joinAll_73 : decode cX1_joinAll 73 = .ok (.if_icmp .ge 14, 3) := by decide +kernel
theorem dX1_joinAll_76 : decode cX1_joinAll 76 = .ok (.aload_n 0, 1) := by decide +kernel
theorem dX1_joinAll_77 : decode cX1_joinAll 77 = .ok (.iload_n 3, 1) := by decide +kernel
theorem dX1_joinAll_78 : decode cX1_joinAll 78 = .ok (.invokevirtual 48, 3) := by decide +kernel
theorem dX1_joinAll_81 : decode cX1_joinAll 81 = .ok (.iinc 3 1, 3) := by decide +kernel
theorem dX1_joinAll_84 : decode cX1_joinAll 84 = .ok (.goto (-25), 3) := by decide +kernel
theorem dX1_joinAll_87 : decode cX1_joinAll 87 = .ok (.return_, 1) := by decide +kernel
theorem dX1_hasNothing_0 : decode cX1_hasNothing 0 = .ok (.aload_n 0, 1) := by decide +kernel
theorem dX1_hasNothing_1 : decode cX1_hasNothing 1 = .ok (.getfield 15, 3) := by decide +kernel
theorem dX1_hasNothing_4 : decode cX1_hasNothing 4 = .ok (.arraylength, 1) := by decide +kernel
theorem dX1_hasNothing_5 : decode cX1_hasNothing 5 = .ok (.ifCond .le 20, 3) := by decide +kernel
theorem dX1_hasNothing_8 : decode cX1_hasNothing 8 = .ok (.aload_n 0, 1) := by decide +kernel
theorem dX1_hasNothing_9 : decode cX1_hasNothing 9 = .ok (.getfield 15, 3) := by decide +kernel
theorem dX1_hasNothing_12 : decode cX1_hasNothing 12 = .ok (.iconst 0, 1) := by decide +kernel
theorem dX1_hasNothing_13 : decode cX1_hasNothing 13 = .ok (.laload, 1) := by decide +kernel
theorem dX1_hasNothing_14 : decode cX1_hasNothing 14 = .ok (.lconst 1, 1) := by decide +kernel
theorem dX1_hasNothing_15 : decode cX1_hasNothing 15 = .ok (.land, 1) := by decide +kernel
theorem dX1_hasNothing_16 : decode cX1_hasNothing 16 = .ok (.lconst 0, 1) := by decide +kernel
theorem dX1_hasNothing_17 : decode cX1_hasNothing 17 = .ok (.lcmp, 1) := by decide +kernel
theorem dX1_hasNothing_18 : decode cX1_hasNothing 18 = .ok (.ifCond .eq 7, 3) := by decide +kernel
theorem dX1_hasNothing_21 : decode cX1_hasNothing 21 = .ok (.iconst 1, 1) := by decide +kernel
theorem dX1_hasNothing_22 : decode cX1_hasNothing 22 = .ok (.goto 4, 3) := by decide +kernel
theorem dX1_hasNothing_25 : decode cX1_hasNothing 25 = .ok (.iconst 0, 1) := by decide +kernel
theorem dX1_hasNothing_26 : decode cX1_hasNothing 26 = .ok (.ireturn, 1) := by decide +kernel
theorem dX1_joinWithEarlier_0 : decode cX1_joinWithEarlier 0 = .ok (.iload_n 1, 1) := by decide +kernel
theorem dX1_joinWithEarlier_1 : decode cX1_joinWithEarlier 1 = .ok (.ifCond .lt 21, 3) := by decide +kernel
theorem dX1_joinWithEarlier_4 : decode cX1_joinWithEarlier 4 = .ok (.iload_n 1, 1) := by decide +kernel
theorem dX1_joinWithEarlier_5 : decode cX1_joinWithEarlier 5 = .ok (.aload_n 0, 1) := by decide +kernel
theorem dX1_joinWithEarlier_6 : decode cX1_joinWithEarlier 6 = .ok (.getfield 9, 3) := by decide +kernel
theorem dX1_joinWithEarlier_9 : decode cX1_joinWithEarlier 9 = .ok (.arraylength, 1) := by decide +kernel
theorem dX1_joinWithEarlier_10 : decode cX1_joinWithEarlier 10 = .ok (.if_icmp .ge 12, 3) := by decide +kernel
theorem dX1_joinWithEarlier_13 : decode cX1_joinWithEarlier 13 = .ok (.aload_n 0, 1) := by decide +kernel
theorem dX1_joinWithEarlier_14 : decode cX1_joinWithEarlier 14 = .ok (.getfield 9, 3) := by decide +kernel
theorem dX1_joinWithEarlier_17 : decode cX1_joinWithEarlier 17 = .ok (.iload_n 1, 1) := by decide +kernel
theorem dX1_joinWithEarlier_18 : decode cX1_joinWithEarlier 18 = .ok (.iaload, 1) := by decide +kernel
theorem dX1_joinWithEarlier_19 : decode cX1_joinWithEarlier 19 = .ok (.goto 4, 3) := by decide +kernel
theorem dX1_joinWithEarlier_22 : decode cX1_joinWithEarlier 22 = .ok (.iconst 0, 1) := by decide +kernel
theorem dX1_joinWithEarlier_23 : decode cX1_joinWithEarlier 23 = .ok (.istore_n 2, 1) := by decide +kernel
theorem dX1_joinWithEarlier_24 : decode cX1_joinWithEarlier 24 = .ok (.iconst 0, 1) := by decide +kernel
theorem dX1_joinWithEarlier_25 : decode cX1_joinWithEarlier 25 = .ok (.istore_n 3, 1) := by decide +kernel
theorem dX1_joinWithEarlier_26 : decode cX1_joinWithEarlier 26 = .ok (.iload_n 3, 1) := by decide +kernel
theorem dX1_joinWithEarlier_27 : decode cX1_joinWithEarlier 27 = .ok (.iload_n 1, 1) := by decide +kernel
theorem dX1_joinWithEarlier_28 : decode cX1_joinWithEarlier 28 = .ok (.if_icmp .ge 92, 3) := by decide +kernel
theorem dX1_joinWithEarlier_31 : decode cX1_joinWithEarlier 31 = .ok (.iload_n 3, 1) := by decide +kernel
theorem dX1_joinWithEarlier_32 : decode cX1_joinWithEarlier 32 = .ok (.aload_n 0, 1) := by decide +kernel
theorem dX1_joinWithEarlier_33 : decode cX1_joinWithEarlier 33 = .ok (.getfield 9, 3) := by decide +kernel
theorem dX1_joinWithEarlier_36 : decode cX1_joinWithEarlier 36 = .ok (.arraylength, 1) := by decide +kernel
theorem dX1_joinWithEarlier_37 : decode cX1_joinWithEarlier 37 = .ok (.if_icmp .ge 83, 3) := by decide +kernel
theorem dX1_joinWithEarlier_40 : decode cX1_joinWithEarlier 40 = .ok (.aload_n 0, 1) := by decide +kernel
theorem dX1_joinWithEarlier_41 : decode cX1_joinWithEarlier 41 = .ok (.getfield 9, 3) := by decide +kernel
theorem dX1_joinWithEarlier_44 : decode cX1_joinWithEarlier 44 = .ok (.iload_n 3, 1) := by decide +kernel
theorem dX1_joinWithEarlier_45 : decode cX1_joinWithEarlier 45 = .ok (.iaload, 1) := by decide +kernel
theorem dX1_joinWithEarlier_46 : decode cX1_joinWithEarlier 46 = .ok (.istore 4, 2) := by decide +kernel
theorem dX1_joinWithEarlier_48 : decode cX1_joinWithEarlier 48 = .ok (.iload_n 2, 1) := by decide +kernel
theorem dX1_joinWithEarlier_49 : decode cX1_joinWithEarlier 49 = .ok (.bipush 6, 2) := by decide +kernel
theorem dX1_joinWithEarlier_51 : decode cX1_joinWithEarlier 51 = .ok (.ishr, 1) := by decide +kernel
theorem dX1_joinWithEarlier_52 : decode cX1_joinWithEarlier 52 = .ok (.iload 4, 2) := by decide +kernel
theorem dX1_joinWithEarlier_54 : decode cX1_joinWithEarlier 54 = .ok (.iand, 1) := by decide +kernel
theorem dX1_joinWithEarlier_55 : decode cX1_joinWithEarlier 55 = .ok (.iload_n 2, 1) := by decide +kernel
theorem dX1_joinWithEarlier_56 : decode cX1_joinWithEarlier 56 = .ok (.iload 4, 2) := by decide +kernel
theorem dX1_joinWithEarlier_58 : decode cX1_joinWithEarlier 58 = .ok (.bipush 6, 2) := by decide +kernel
theorem dX1_joinWithEarlier_60 : decode cX1_joinWithEarlier 60 = .ok (.ishr, 1) := by decide +kernel
theorem dX1_joinWithEarlier_61 : decode cX1_joinWithEarlier 61 = .ok (.iand, 1) := by decide +kernel
theorem dX1_joinWithEarlier_62 : decode cX1_joinWithEarlier 62 = .ok (.ior, 1) := by decide +kernel
theorem dX1_joinWithEarlier_63 : decode cX1_joinWithEarlier 63 = .ok (.bipush 63, 2) := by decide +kernel
theorem dX1_joinWithEarlier_65 : decode cX1_joinWithEarlier 65 = .ok (.iand, 1) := by decide +kernel
theorem dX1_joinWithEarlier_66 : decode cX1_joinWithEarlier 66 = .ok (.istore 5, 2) := by decide +kernel
theorem dX1_joinWithEarlier_68 : decode cX1_joinWithEarlier 68 = .ok (.iload 5, 2) := by decide +kernel
theorem dX1_joinWithEarlier_70 : decode cX1_joinWithEarlier 70 = .ok (.ifCond .eq 44, 3) := by decide +kernel
theorem dX1_joinWithEarlier_73 : decode cX1_joinWithEarlier 73 = .ok (.iload 5, 2) := by decide +kernel
theorem dX1_joinWithEarlier_75 : decode cX1_joinWithEarlier 75 = .ok (.iload 5, 2) := by decide +kernel
theorem dX1_joinWithEarlier_77 : decode cX1_joinWithEarlier 77 = .ok (.iconst 1, 1) := by decide +kernel
theorem dX1_joinWithEarlier_78 : decode cX1_joinWithEarlier 78 = .ok (.isub, 1) := by decide +kernel
theorem dX1_joinWithEarlier_79 : decode cX1_joinWithEarlier 79 = .ok (.iand, 1) := by decide +kernel
theorem dX1_joinWithEarlier_80 : decode cX1_joinWithEarlier 80 = .ok (.ifCond .ne 34, 3) := by decide +kernel
theorem dX1_joinWithEarlier_83 : decode cX1_joinWithEarlier 83 = .ok (.iload_n 2, 1) := by decide +kernel
theorem dX1_joinWithEarlier_84 : decode cX1_joinWithEarlier 84 = .ok (.iload 4, 2) := by decide +kernel
theorem dX1_joinWithEarlier_86 : decode cX1_joinWithEarlier 86 = .ok (.ior, 1) := by decide +kernel
theorem dX1_joinWithEarlier_87 : decode cX1_joinWithEarlier 87 = .ok (.iload 5, 2) := by decide +kernel
theorem dX1_joinWithEarlier_89 : decode cX1_joinWithEarlier 89 = .ok (.bipush 6, 2) := by decide +kernel
theorem dX1_joinWithEarlier_91 : decode cX1_joinWithEarlier 91 = .ok (.ishl, 1) := by decide +kernel
theorem dX1_joinWithEarlier_92 : decode cX1_joinWithEarlier 92 = .ok (.iload 5, 2) := by decide +kernel
theorem dX1_joinWithEarlier_94 : decode cX1_joinWithEarlier 94 = .ok (.ior, 1) := by decide +kernel
theorem dX1_joinWithEarlier_95 : decode cX1_joinWithEarlier 95 = .ok (.iconst (-1), 1) := by decide +kernel
theorem dX1_joinWithEarlier_96 : decode cX1_joinWithEarlier 96 = .ok (.ixor, 1) := by decide +kernel
theorem dX1_joinWithEarlier_97 : decode cX1_joinWithEarlier 97 = .ok (.iand, 1) := by decide +kernel
theorem dX1_joinWithEarlier_98 : decode cX1_joinWithEarlier 98 = .ok (.istore 6, 2) := by decide +kernel
theorem dX1_joinWithEarlier_100 : decode cX1_joinWithEarlier 100 = .ok (.aload_n 0, 1) := by decide +kernel
theorem dX1_joinWithEarlier_101 : decode cX1_joinWithEarlier 101 = .ok (.iload 6, 2) := by decide +kernel
theorem dX1_joinWithEarlier_103 : decode cX1_joinWithEarlier 103 = .ok (.bipush 6, 2) := by decide +kernel
theorem dX1_joinWithEarlier_105 : decode cX1_joinWithEarlier 105 = .ok (.ishr, 1) := by decide +kernel
theorem dX1_joinWithEarlier_106 : decode cX1_joinWithEarlier 106 = .ok (.iload 6, 2) := by decide +kernel
theorem dX1_joinWithEarlier_108 : decode cX1_joinWithEarlier 108 = .ok (.bipush 63, 2) := by decide +kernel
theorem dX1_joinWithEarlier_110 : decode cX1_joinWithEarlier 110 = .ok (.iand, 1) := by decide +kernel
theorem dX1_joinWithEarlier_111 : decode cX1_joinWithEarlier 111 = .ok (.invokevirtual 44, 3) := by decide +kernel
theorem dX1_joinWithEarlier_114 : decode cX1_joinWithEarlier 114 = .ok (.iinc 3 1, 3) := by decide +kernel
theorem dX1_joinWithEarlier_117 : decode cX1_joinWithEarlier 117 = .ok (.goto (-91), 3) := by decide +kernel
theorem dX1_joinWithEarlier_120 : decode cX1_joinWithEarlier 120 = .ok (.return_, 1) := by decide +kernel
theorem dX1_add_0 : decode cX1_add 0 = .ok (.iload_n 1, 1) := by decide +kernel
theorem dX1_add_1 : decode cX1_add 1 = .ok (.ifCond .lt 31, 3) := by decide +kernel
theorem dX1_add_4 : decode cX1_add 4 = .ok (.iload_n 1, 1) := by decide +kernel
theorem dX1_add_5 : decode cX1_add 5 = .ok (.aload_n 0, 1) := by decide +kernel
theorem dX1_add_6 : decode cX1_add 6 = .ok (.getfield 15, 3) := by decide +kernel
theorem dX1_add_9 : decode cX1_add 9 = .ok (.arraylength, 1) := by decide +kernel
theorem dX1_add_10 : decode cX1_add 10 = .ok (.if_icmp .ge 22, 3) := by decide +kernel
theorem dX1_add_13 : decode cX1_add 13 = .ok (.aload_n 0, 1) := by decide +kernel
theorem dX1_add_14 : decode cX1_add 14 = .ok (.getfield 19, 3) := by decide +kernel
theorem dX1_add_17 : decode cX1_add 17 = .ok (.ifCond .lt 15, 3) := by decide +kernel
theorem dX1_add_20 : decode cX1_add 20 = .ok (.aload_n 0, 1) := by decide +kernel
theorem dX1_add_21 : decode cX1_add 21 = .ok (.getfield 19, 3) := by decide +kernel
theorem dX1_add_24 : decode cX1_add 24 = .ok (.aload_n 0, 1) := by decide +kernel
theorem dX1_add_25 : decode cX1_add 25 = .ok (.getfield 9, 3) := by decide +kernel
theorem dX1_add_28 : decode cX1_add 28 = .ok (.arraylength, 1) := by decide +kernel
theorem dX1_add_29 : decode cX1_add 29 = .ok (.if_icmp .lt 4, 3) := by decide +kernel
theorem dX1_add_32 : decode cX1_add 32 = .ok (.return_, 1) := by decide +kernel
theorem dX1_add_33 : decode cX1_add 33 = .ok (.aload_n 0, 1) := by decide +kernel
theorem dX1_add_34 : decode cX1_add 34 = .ok (.getfield 15, 3) := by decide +kernel
theorem dX1_add_37 : decode cX1_add 37 = .ok (.iload_n 1, 1) := by decide +kernel
theorem dX1_add_38 : decode cX1_add 38 = .ok (.laload, 1) := by decide +kernel
theorem dX1_add_39 : decode cX1_add 39 = .ok (.iload_n 2, 1) := by decide +kernel
theorem dX1_add_40 : decode cX1_add 40 = .ok (.lushr, 1) := by decide +kernel
theorem dX1_add_41 : decode cX1_add 41 = .ok (.lconst 1, 1) := by decide +kernel
theorem dX1_add_42 : decode cX1_add 42 = .ok (.land, 1) := by decide +kernel
theorem dX1_add_43 : decode cX1_add 43 = .ok (.lconst 0, 1) := by decide +kernel
theorem dX1_add_44 : decode cX1_add 44 = .ok (.lcmp, 1) := by decide +kernel
theorem dX1_add_45 : decode cX1_add 45 = .ok (.ifCond .ne 40, 3) := by decide +kernel
theorem dX1_add_48 : decode cX1_add 48 = .ok (.aload_n 0, 1) := by decide +kernel
theorem dX1_add_49 : decode cX1_add 49 = .ok (.getfield 15, 3) := by decide +kernel
theorem dX1_add_52 : decode cX1_add 52 = .ok (.iload_n 1, 1) := by decide +kernel
theorem dX1_add_53 : decode cX1_add 53 = .ok (.dup2, 1) := by decide +kernel
theorem dX1_add_54 : decode cX1_add 54 = .ok (.laload, 1) := by decide +kernel
theorem dX1_add_55 : decode cX1_add 55 = .ok (.lconst 1, 1) := by decide +kernel
theorem dX1_add_56 : decode cX1_add 56 = .ok (.iload_n 2, 1) := by decide +kernel
theorem dX1_add_57 : decode cX1_add 57 = .ok (.lshl, 1) := by decide +kernel
theorem dX1_add_58 : decode cX1_add 58 = .ok (.lor, 1) := by decide +kernel
theorem dX1_add_59 : decode cX1_add 59 = .ok (.lastore, 1) := by decide +kernel
theorem dX1_add_60 : decode cX1_add 60 = .ok (.aload_n 0, 1) := by decide +kernel
theorem dX1_add_61 : decode cX1_add 61 = .ok (.getfield 9, 3) := by decide +kernel
theorem dX1_add_64 : decode cX1_add 64 = .ok (.aload_n 0, 1) := by decide +kernel
theorem dX1_add_65 : decode cX1_add 65 = .ok (.getfield 19, 3) := by decide +kernel
theorem dX1_add_68 : decode cX1_add 68 = .ok (.iload_n 1, 1) := by decide +kernel
theorem dX1_add_69 : decode cX1_add 69 = .ok (.bipush 6, 2) := by decide +kernel
theorem dX1_add_71 : decode cX1_add 71 = .ok (.ishl, 1) := by decide +kernel
theorem dX1_add_72 : decode cX1_add 72 = .ok (.iload_n 2, 1) := by decide +kernel
theorem dX1_add_73 : decode cX1_add 73 = .ok (.ior, 1) := by decide +kernel
theorem dX1_add_74 : decode cX1_add 74 = .ok (.iastore, 1) := by decide +kernel
theorem dX1_add_75 : decode cX1_add 75 = .ok (.aload_n 0, 1) := by decide +kernel
theorem dX1_add_76 : decode cX1_add 76 = .ok (.dup, 1) := by decide +kernel
theorem dX1_add_77 : decode cX1_add 77 = .ok (.getfield 19, 3) := by decide +kernel
theorem dX1_add_80 : decode cX1_add 80 = .ok (.iconst 1, 1) := by decide +kernel
theorem dX1_add_81 : decode cX1_add 81 = .ok (.iadd, 1) := by decide +kernel
theorem dX1_add_82 : decode cX1_add 82 = .ok (.putfield 19, 3) := by decide +kernel
theorem dX1_add_85 : decode cX1_add 85 = .ok (.return_, 1) := by decide +kernel
theorem dX2_init_0 : decode cX2_init 0 = .ok (.aload_n 0, 1) := by decide +kernel
theorem dX2_init_1 : decode cX2_init 1 = .ok (.invokespecial 3, 3) := by decide +kernel
theorem dX2_init_4 : decode cX2_init 4 = .ok (.return_, 1) := by decide +kernel
theorem dX2_begin_0 : decode cX2_begin 0 = .ok (.aload_n 0, 1) := by decide +kernel
theorem dX2_begin_1 : decode cX2_begin 1 = .ok (.iconst 0, 1) := by decide +kernel
theorem dX2_begin_2 : decode cX2_begin 2 = .ok (.putfield 11, 3) := by decide +kernel
theorem dX2_begin_5 : decode cX2_begin 5 = .ok (.aload_n 0, 1) := by decide +kernel
theorem dX2_begin_6 : decode cX2_begin 6 = .ok (.iconst 0, 1) := by decide +kernel
theorem dX2_begin_7 : decode cX2_begin 7 = .ok (.putfield 15, 3) := by decide +kernel
theorem dX2_begin_10 : decode cX2_begin 10 = .ok (.return_, 1) := by decide +kernel
theorem dX2_isAtEnd_0 : decode cX2_isAtEnd 0 = .ok (.aload_n 0, 1) := by decide +kernel
theorem dX2_isAtEnd_1 : decode cX2_isAtEnd 1 = .ok (.getfield 11, 3) := by decide +kernel
theorem dX2_isAtEnd_4 : decode cX2_isAtEnd 4 = .ok (.bipush 9, 2) := by decide +kernel
theorem dX2_isAtEnd_6 : decode cX2_isAtEnd 6 = .ok (.if_icmp .eq 11, 3) := by decide +kernel
theorem dX2_isAtEnd_9 : decode cX2_isAtEnd 9 = .ok (.aload_n 0, 1) := by decide +kernel
theorem dX2_isAtEnd_10 : decode cX2_isAtEnd 10 = .ok (.getfield 11, 3) := by decide +kernel
theorem dX2_isAtEnd_13 : decode cX2_isAtEnd 13 = .ok (.iconst 3, 1) := by decide +kernel
theorem dX2_isAtEnd_14 : decode cX2_isAtEnd 14 = .ok (.if_icmp .ne 7, 3) := by decide +kernel
theorem dX2_isAtEnd_17 : decode cX2_isAtEnd 17 = .ok (.iconst 1, 1) := by decide +kernel
theorem dX2_isAtEnd_18 : decode cX2_isAtEnd 18 = .ok (.goto 4, 3) := by decide +kernel
theorem dX2_isAtEnd_21 : decode cX2_isAtEnd 21 = .ok (.iconst 0, 1) := by decide +kernel
theorem dX2_isAtEnd_22 : decode cX2_isAtEnd 22 = .ok (.ireturn, 1) := by decide +kernel
theorem dX2_take_0 : decode cX2_take 0 = .ok (.aload_n 0, 1) := by decide +kernel
theorem dX2_take_1 : decode cX2_take 1 = .ok (.getfield 11, 3) := by decide +kernel
theorem dX2_take_4 : decode cX2_take 4 = .ok (.tableswitch 130 0 8 #[52, 58, 66, 72, 94, 100, 106, 115, 124], 52) := by decide +kernel
theorem dX2_take_56 : decode cX2_take 56 = .ok (.aload_n 0, 1) := by decide +kernel
theorem dX2_take_57 : decode cX2_take 57 = .ok (.iload_n 1, 1) := by decide +kernel
theorem dX2_take_58 : decode cX2_take 58 = .ok (.invokevirtual 18, 3) := by decide +kernel
theorem dX2_take_61 : decode cX2_take 61 = .ok (.ireturn, 1) := by decide +kernel
theorem dX2_take_62 : decode cX2_take 62 = .ok (.aload_n 0, 1) := by decide +kernel
theorem dX2_take_63 : decode cX2_take 63 = .ok (.iload_n 1, 1) := by decide +kernel
theorem dX2_take_64 : decode cX2_take 64 = .ok (.iconst 1, 1) := by decide +kernel
theorem dX2_take_65 : decode cX2_take 65 = .ok (.iconst 2, 1) := by decide +kernel
theorem dX2_take_66 : decode cX2_take 66 = .ok (.invokevirtual 22, 3) := by decide +kernel
theorem dX2_take_69 : decode cX2_take 69 = .ok (.ireturn, 1) := by decide +kernel
theorem dX2_take_70 : decode cX2_take 70 = .ok (.aload_n 0, 1) := by decide +kernel
theorem dX2_take_71 : decode cX2_take 71 = .ok (.iload_n 1, 1) := by decide +kernel
theorem dX2_take_72 : decode cX2_take 72 = .ok (.invokevirtual 26, 3) := by decide +kernel
theorem dX2_take_75 : decode cX2_take 75 = .ok (.ireturn, 1) := by decide +kernel
theorem dX2_take_76 : decode cX2_take 76 = .ok (.aload_n 0, 1) := by decide +kernel
theorem dX2_take_77 : decode cX2_take 77 = .ok (.iload_n 1, 1) := by decide +kernel
theorem dX2_take_78 : decode cX2_take 78 = .ok (.invokevirtual 29, 3) := by decide +kernel
theorem dX2_take_81 : decode cX2_take 81 = .ok (.ifCond .ne 11, 3) := by decide +kernel
theorem dX2_take_84 : decode cX2_take 84 = .ok (.aload_n 0, 1) := by decide +kernel
theorem dX2_take_85 : decode cX2_take 85 = .ok (.iload_n 1, 1) := by decide +kernel
theorem dX2_take_86 : decode cX2_take 86 = .ok (.invokevirtual 26, 3) := by decide +kernel
theorem dX2_take_89 : decode cX2_take 89 = .ok (.ifCond .eq 7, 3) := by decide +kernel
theorem dX2_take_92 : decode cX2_take 92 = .ok (.iconst 1, 1) := by decide +kernel
theorem dX2_take_93 : decode cX2_take 93 = .ok (.goto 4, 3) := by decide +kernel
theorem dX2_take_96 : decode cX2_take 96 = .ok (.iconst 0, 1) := by decide +kernel
theorem dX2_take_97 : decode cX2_take 97 = .ok (.ireturn, 1) := by decide +kernel
theorem dX2_take_98 : decode cX2_take 98 = .ok (.aload_n 0, 1) := by decide +kernel
theorem dX2_take_99 : decode cX2_take 99 = .ok (.iload_n 1, 1) := by decide +kernel
theorem dX2_take_100 : decode cX2_take 100 = .ok (.invokevirtual 32, 3) := by decide +kernel
theorem dX2_take_103 : decode cX2_take 103 = .ok (.ireturn, 1) := by decide +kernel
theorem dX2_take_104 : decode cX2_take 104 = .ok (.aload_n 0, 1) := by decide +kernel
theorem dX2_take_105 : decode cX2_take 105 = .ok (.iload_n 1, 1) := by decide +kernel
theorem dX2_take_106 : decode cX2_take 106 = .ok (.invokevirtual 35, 3) := by decide +kernel
theorem dX2_take_109 : decode cX2_take 109 = .ok (.ireturn, 1) := by decide +kernel
theorem dX2_take_110 : decode cX2_take 110 = .ok (.aload_n 0, 1) := by decide +kernel
theorem dX2_take_111 : decode cX2_take 111 = .ok (.iload_n 1, 1) := by decide +kernel
theorem dX2_take_112 : decode cX2_take 112 = .ok (.iconst 1, 1) := by decide +kernel
theorem dX2_take_113 : decode cX2_take 113 = .ok (.bipush 9, 2) := by decide +kernel
theorem dX2_take_115 : decode cX2_take 115 = .ok (.invokevirtual 22, 3) := by decide +kernel
theorem dX2_take_118 : decode cX2_take 118 = .ok (.ireturn, 1) := by decide +kernel
theorem dX2_take_119 : decode cX2_take 119 = .ok (.aload_n 0, 1) := by decide +kernel
theorem dX2_take_120 : decode cX2_take 120 = .ok (.iload_n 1, 1) := by decide +kernel
theorem dX2_take_121 : decode cX2_take 121 = .ok (.iconst 0, 1) := by decide +kernel
theorem dX2_take_122 : decode cX2_take 122 = .ok (.bipush 8, 2) := by decide +kernel
theorem dX2_take_124 : decode cX2_take 124 = .ok (.invokevirtual 22, 3) := by decide +kernel
theorem dX2_take_127 : decode cX2_take 127 = .ok (.ireturn, 1) := by decide +kernel
theorem dX2_take_128 : decode cX2_take 128 = .ok (.aload_n 0, 1) := by decide +kernel
theorem dX2_take_129 : decode cX2_take 129 = .ok (.iload_n 1, 1) := by decide +kernel
theorem dX2_take_130 : decode cX2_take 130 = .ok (.invokevirtual 38, 3) := by decide +kernel
theorem dX2_take_133 : decode cX2_take 133 = .ok (.ireturn, 1) := by decide +kernel
theorem dX2_take_134 : decode cX2_take 134 = .ok (.aload_n 0, 1) := by decide +kernel
theorem dX2_take_135 : decode cX2_take 135 = .ok (.iload_n 1, 1) := by decide +kernel
theorem dX2_take_136 : decode cX2_take 136 = .ok (.invokevirtual 29, 3) := by decide +kernel
theorem dX2_take_139 : decode cX2_take 139 = .ok (.ireturn, 1) := by decide +kernel
theorem dX2_takeKind_0 : decode cX2_takeKind 0 = .ok (.iload_n 1, 1) := by decide +kernel
theorem dX2_takeKind_1 : decode cX2_takeKind 1 = .ok (.invokestatic 41, 3) := by decide +kernel
theorem dX2_takeKind_4 : decode cX2_takeKind 4 = .ok (.istore_n 2, 1) := by decide +kernel
theorem dX2_takeKind_5 : decode cX2_takeKind 5 = .ok (.iload_n 2, 1) := by decide +kernel
theorem dX2_takeKind_6 : decode cX2_takeKind 6 = .ok (.ifCond .ne 5, 3) := by decide +kernel
theorem dX2_takeKind_9 : decode cX2_takeKind 9 = .ok (.iconst 0, 1) := by decide +kernel
theorem dX2_takeKind_10 : decode cX2_takeKind 10 = .ok (.ireturn, 1) := by decide +kernel
theorem dX2_takeKind_11 : decode cX2_takeKind 11 = .ok (.aload_n 0, 1) := by decide +kernel
theorem dX2_takeKind_12 : decode cX2_takeKind 12 = .ok (.iload_n 1, 1) := by decide +kernel
theorem dX2_takeKind_13 : decode cX2_takeKind 13 = .ok (.putfield 15, 3) := by decide +kernel
theorem dX2_takeKind_16 : decode cX2_takeKind 16 = .ok (.aload_n 0, 1) := by decide +kernel
theorem dX2_takeKind_17 : decode cX2_takeKind 17 = .ok (.iconst 0, 1) := by decide +kernel
theorem dX2_takeKind_18 : decode cX2_takeKind 18 = .ok (.putfield 45, 3) := by decide +kernel
theorem dX2_takeKind_21 : decode cX2_takeKind 21 = .ok (.aload_n 0, 1) := by decide +kernel
theorem dX2_takeKind_22 : decode cX2_takeKind 22 = .ok (.iconst 0, 1) := by decide +kernel
theorem dX2_takeKind_23 : decode cX2_takeKind 23 = .ok (.putfield 48, 3) := by decide +kernel
theorem dX2_takeKind_26 : decode cX2_takeKind 26 = .ok (.aload_n 0, 1) := by decide +kernel
theorem dX2_takeKind_27 : decode cX2_takeKind 27 = .ok (.iload_n 2, 1) := by decide +kernel
theorem dX2_takeKind_28 : decode cX2_takeKind 28 = .ok (.putfield 11, 3) := by decide +kernel
theorem dX2_takeKind_31 : decode cX2_takeKind 31 = .ok (.iconst 1, 1) := by decide +kernel
theorem dX2_takeKind_32 : decode cX2_takeKind 32 = .ok (.ireturn, 1) := by decide +kernel
theorem dX2_stageBehind_0 : decode cX2_stageBehind 0 = .ok (.iload_n 0, 1) := by decide +kernel
theorem dX2_stageBehind_1 : decode cX2_stageBehind 1 = .ok (.lookupswitch 61 #[(99, 53), (103, 53), (110, 55), (114, 51), (118, 58)], 51) := by decide +kernel
theorem dX2_stageBehind_52 : decode cX2_stageBehind 52 = .ok (.iconst 1, 1) := by decide +kernel
theorem dX2_stageBehind_53 : decode cX2_stageBehind 53 = .ok (.ireturn, 1) := by decide +kernel
theorem dX2_stageBehind_54 : decode cX2_stageBehind 54 = .ok (.iconst 5, 1) := by decide +kernel
theorem dX2_stageBehind_55 : decode cX2_stageBehind 55 = .ok (.ireturn, 1) := by decide +kernel
theorem dX2_stageBehind_56 : decode cX2_stageBehind 56 = .ok (.bipush 6, 2) := by decide +kernel
theorem dX2_stageBehind_58 : decode cX2_stageBehind 58 = .ok (.ireturn, 1) := by decide +kernel
theorem dX2_stageBehind_59 : decode cX2_stageBehind 59 = .ok (.bipush 7, 2) := by decide +kernel
theorem dX2_stageBehind_61 : decode cX2_stageBehind 61 = .ok (.ireturn, 1) := by decide +kernel
theorem dX2_stageBehind_62 : decode cX2_stageBehind 62 = .ok (.iconst 0, 1) := by decide +kernel
theorem dX2_stageBehind_63 : decode cX2_stageBehind 63 = .ok (.ireturn, 1) := by decide +kernel
theorem dX2_takeNumber_0 : decode cX2_takeNumber 0 = .ok (.iload_n 1, 1) := by decide +kernel
theorem dX2_takeNumber_1 : decode cX2_takeNumber 1 = .ok (.bipush 48, 2) := by decide +kernel
theorem dX2_takeNumber_3 : decode cX2_takeNumber 3 = .ok (.isub, 1) := by decide +kernel
theorem dX2_takeNumber_4 : decode cX2_takeNumber 4 = .ok (.istore 4, 2) := by decide +kernel
theorem dX2_takeNumber_6 : decode cX2_takeNumber 6 = .ok (.iload 4, 2) := by decide +kernel
theorem dX2_takeNumber_8 : decode cX2_takeNumber 8 = .ok (.iload_n 2, 1) := by decide +kernel
theorem dX2_takeNumber_9 : decode cX2_takeNumber 9 = .ok (.if_icmp .lt 10, 3) := by decide +kernel
theorem dX2_takeNumber_12 : decode cX2_takeNumber 12 = .ok (.iload 4, 2) := by decide +kernel
theorem dX2_takeNumber_14 : decode cX2_takeNumber 14 = .ok (.bipush 9, 2) := by decide +kernel
theorem dX2_takeNumber_16 : decode cX2_takeNumber 16 = .ok (.if_icmp .le 5, 3) := by decide +kernel
theorem dX2_takeNumber_19 : decode cX2_takeNumber 19 = .ok (.iconst 0, 1) := by decide +kernel
theorem dX2_takeNumber_20 : decode cX2_takeNumber 20 = .ok (.ireturn, 1) := by decide +kernel
theorem dX2_takeNumber_21 : decode cX2_takeNumber 21 = .ok (.aload_n 0, 1) := by decide +kernel
theorem dX2_takeNumber_22 : decode cX2_takeNumber 22 = .ok (.iload 4, 2) := by decide +kernel
theorem dX2_takeNumber_24 : decode cX2_takeNumber 24 = .ok (.putfield 51, 3) := by decide +kernel
theorem dX2_takeNumber_27 : decode cX2_takeNumber 27 = .ok (.aload_n 0, 1) := by decide +kernel
theorem dX2_takeNumber_28 : decode cX2_takeNumber 28 = .ok (.iload_n 3, 1) := by decide +kernel
theorem dX2_takeNumber_29 : decode cX2_takeNumber 29 = .ok (.putfield 11, 3) := by decide +kernel
theorem dX2_takeNumber_32 : decode cX2_takeNumber 32 = .ok (.iconst 1, 1) := by decide +kernel
theorem dX2_takeNumber_33 : decode cX2_takeNumber 33 = .ok (.ireturn, 1) := by decide +kernel
theorem dX2_takeDays_0 : decode cX2_takeDays 0 = .ok (.iload_n 1, 1) := by decide +kernel
theorem dX2_takeDays_1 : decode cX2_takeDays 1 = .ok (.bipush 48, 2) := by decide +kernel
theorem dX2_takeDays_3 : decode cX2_takeDays 3 = .ok (.isub, 1) := by decide +kernel
theorem dX2_takeDays_4 : decode cX2_takeDays 4 = .ok (.istore_n 2, 1) := by decide +kernel
theorem dX2_takeDays_5 : decode cX2_takeDays 5 = .ok (.iload_n 2, 1) := by decide +kernel
theorem dX2_takeDays_6 : decode cX2_takeDays 6 = .ok (.ifCond .lt 9, 3) := by decide +kernel
theorem dX2_takeDays_9 : decode cX2_takeDays 9 = .ok (.iload_n 2, 1) := by decide +kernel
theorem dX2_takeDays_10 : decode cX2_takeDays 10 = .ok (.bipush 9, 2) := by decide +kernel
theorem dX2_takeDays_12 : decode cX2_takeDays 12 = .ok (.if_icmp .le 5, 3) := by decide +kernel
theorem dX2_takeDays_15 : decode cX2_takeDays 15 = .ok (.iconst 0, 1) := by decide +kernel
theorem dX2_takeDays_16 : decode cX2_takeDays 16 = .ok (.ireturn, 1) := by decide +kernel
theorem dX2_takeDays_17 : decode cX2_takeDays 17 = .ok (.aload_n 0, 1) := by decide +kernel
theorem dX2_takeDays_18 : decode cX2_takeDays 18 = .ok (.iload_n 2, 1) := by decide +kernel
theorem dX2_takeDays_19 : decode cX2_takeDays 19 = .ok (.putfield 54, 3) := by decide +kernel
theorem dX2_takeDays_22 : decode cX2_takeDays 22 = .ok (.aload_n 0, 1) := by decide +kernel
theorem dX2_takeDays_23 : decode cX2_takeDays 23 = .ok (.bipush 9, 2) := by decide +kernel
theorem dX2_takeDays_25 : decode cX2_takeDays 25 = .ok (.putfield 11, 3) := by decide +kernel
theorem dX2_takeDays_28 : decode cX2_takeDays 28 = .ok (.iconst 1, 1) := by decide +kernel
theorem dX2_takeDays_29 : decode cX2_takeDays 29 = .ok (.ireturn, 1) := by decide +kernel
theorem dX2_takeRoom_0 : decode cX2_takeRoom 0 = .ok (.iload_n 1, 1) := by decide +kernel
theorem dX2_takeRoom_1 : decode cX2_takeRoom 1 = .ok (.invokestatic 57, 3) := by decide +kernel
theorem dX2_takeRoom_4 : decode cX2_takeRoom 4 = .ok (.ifCond .ne 5, 3) := by decide +kernel
theorem dX2_takeRoom_7 : decode cX2_takeRoom 7 = .ok (.iconst 0, 1) := by decide +kernel
theorem dX2_takeRoom_8 : decode cX2_takeRoom 8 = .ok (.ireturn, 1) := by decide +kernel
theorem dX2_takeRoom_9 : decode cX2_takeRoom 9 = .ok (.aload_n 0, 1) := by decide +kernel
theorem dX2_takeRoom_10 : decode cX2_takeRoom 10 = .ok (.iload_n 1, 1) := by decide +kernel
theorem dX2_takeRoom_11 : decode cX2_takeRoom 11 = .ok (.bipush 97, 2) := by decide +kernel
theorem dX2_takeRoom_13 : decode cX2_takeRoom 13 = .ok (.isub, 1) := by decide +kernel
theorem dX2_takeRoom_14 : decode cX2_takeRoom 14 = .ok (.putfield 60, 3) := by decide +kernel
theorem dX2_takeRoom_17 : decode cX2_takeRoom 17 = .ok (.aload_n 0, 1) := by decide +kernel
theorem dX2_takeRoom_18 : decode cX2_takeRoom 18 = .ok (.bipush 9, 2) := by decide +kernel
theorem dX2_takeRoom_20 : decode cX2_takeRoom 20 = .ok (.putfield 11, 3) := by decide +kernel
theorem dX2_takeRoom_23 : decode cX2_takeRoom 23 = .ok (.iconst 1, 1) := by decide +kernel
theorem dX2_takeRoom_24 : decode cX2_takeRoom 24 = .ok (.ireturn, 1) := by decide +kernel
theorem dX2_takeSign_0 : decode cX2_takeSign 0 = .ok (.iload_n 1, 1) := by decide +kernel
theorem dX2_takeSign_1 : decode cX2_takeSign 1 = .ok (.bipush 33, 2) := by decide +kernel
theorem dX2_takeSign_3 : decode cX2_takeSign 3 = .ok (.if_icmp .ne 24, 3) := by decide +kernel
theorem dX2_takeSign_6 : decode cX2_takeSign 6 = .ok (.aload_n 0, 1) := by decide +kernel
theorem dX2_takeSign_7 : decode cX2_takeSign 7 = .ok (.getfield 45, 3) := by decide +kernel
theorem dX2_takeSign_10 : decode cX2_takeSign 10 = .ok (.aload_n 0, 1) := by decide +kernel
theorem dX2_takeSign_11 : decode cX2_takeSign 11 = .ok (.getfield 48, 3) := by decide +kernel
theorem dX2_takeSign_14 : decode cX2_takeSign 14 = .ok (.ior, 1) := by decide +kernel
theorem dX2_takeSign_15 : decode cX2_takeSign 15 = .ok (.bipush 63, 2) := by decide +kernel
theorem dX2_takeSign_17 : decode cX2_takeSign 17 = .ok (.if_icmp .eq 10, 3) := by decide +kernel
theorem dX2_takeSign_20 : decode cX2_takeSign 20 = .ok (.aload_n 0, 1) := by decide +kernel
theorem dX2_takeSign_21 : decode cX2_takeSign 21 = .ok (.iconst 4, 1) := by decide +kernel
theorem dX2_takeSign_22 : decode cX2_takeSign 22 = .ok (.putfield 11, 3) := by decide +kernel
theorem dX2_takeSign_25 : decode cX2_takeSign 25 = .ok (.iconst 1, 1) := by decide +kernel
theorem dX2_takeSign_26 : decode cX2_takeSign 26 = .ok (.ireturn, 1) := by decide +kernel
theorem dX2_takeSign_27 : decode cX2_takeSign 27 = .ok (.aload_n 0, 1) := by decide +kernel
theorem dX2_takeSign_28 : decode cX2_takeSign 28 = .ok (.iload_n 1, 1) := by decide +kernel
theorem dX2_takeSign_29 : decode cX2_takeSign 29 = .ok (.invokevirtual 63, 3) := by decide +kernel
theorem dX2_takeSign_32 : decode cX2_takeSign 32 = .ok (.ifCond .ne 5, 3) := by decide +kernel
theorem dX2_takeSign_35 : decode cX2_takeSign 35 = .ok (.iconst 0, 1) := by decide +kernel
theorem dX2_takeSign_36 : decode cX2_takeSign 36 = .ok (.ireturn, 1) := by decide +kernel
theorem dX2_takeSign_37 : decode cX2_takeSign 37 = .ok (.aload_n 0, 1) := by decide +kernel
theorem dX2_takeSign_38 : decode cX2_takeSign 38 = .ok (.dup, 1) := by decide +kernel
theorem dX2_takeSign_39 : decode cX2_takeSign 39 = .ok (.getfield 45, 3) := by decide +kernel
theorem dX2_takeSign_42 : decode cX2_takeSign 42 = .ok (.iconst 1, 1) := by decide +kernel
theorem dX2_takeSign_43 : decode cX2_takeSign 43 = .ok (.iload_n 1, 1) := by decide +kernel
theorem dX2_takeSign_44 : decode cX2_takeSign 44 = .ok (.bipush 97, 2) := by decide +kernel
theorem dX2_takeSign_46 : decode cX2_takeSign 46 = .ok (.isub, 1) := by decide +kernel
theorem dX2_takeSign_47 : decode cX2_takeSign 47 = .ok (.ishl, 1) := by decide +kernel
theorem dX2_takeSign_48 : decode cX2_takeSign 48 = .ok (.ior, 1) := by decide +kernel
theorem dX2_takeSign_49 : decode cX2_takeSign 49 = .ok (.putfield 45, 3) := by decide +kernel
theorem dX2_takeSign_52 : decode cX2_takeSign 52 = .ok (.aload_n 0, 1) := by decide +kernel
theorem dX2_takeSign_53 : decode cX2_takeSign 53 = .ok (.iconst 3, 1) := by decide +kernel
theorem dX2_takeSign_54 : decode cX2_takeSign 54 = .ok (.putfield 11, 3) := by decide +kernel
theorem dX2_takeSign_57 : decode cX2_takeSign 57 = .ok (.iconst 1, 1) := by decide +kernel
theorem dX2_takeSign_58 : decode cX2_takeSign 58 = .ok (.ireturn, 1) := by decide +kernel
theorem dX2_takeRoomToBeEmpty_0 : decode cX2_takeRoomToBeEmpty 0 = .ok (.aload_n 0, 1) := by decide +kernel
theorem dX2_takeRoomToBeEmpty_1 : decode cX2_takeRoomToBeEmpty 1 = .ok (.iload_n 1, 1) := by decide +kernel
theorem dX2_takeRoomToBeEmpty_2 : decode cX2_takeRoomToBeEmpty 2 = .ok (.invokevirtual 63, 3) := by decide +kernel
theorem dX2_takeRoomToBeEmpty_5 : decode cX2_takeRoomToBeEmpty 5 = .ok (.ifCond .ne 5, 3) := by decide +kernel
theorem dX2_takeRoomToBeEmpty_8 : decode cX2_takeRoomToBeEmpty 8 = .ok (.iconst 0, 1) := by decide +kernel
theorem dX2_takeRoomToBeEmpty_9 : decode cX2_takeRoomToBeEmpty 9 = .ok (.ireturn, 1) := by decide +kernel
theorem dX2_takeRoomToBeEmpty_10 : decode cX2_takeRoomToBeEmpty 10 = .ok (.aload_n 0, 1) := by decide +kernel
theorem dX2_takeRoomToBeEmpty_11 : decode cX2_takeRoomToBeEmpty 11 = .ok (.dup, 1) := by decide +kernel
theorem dX2_takeRoomToBeEmpty_12 : decode cX2_takeRoomToBeEmpty 12 = .ok (.getfield 48, 3) := by decide +kernel
theorem dX2_takeRoomToBeEmpty_15 : decode cX2_takeRoomToBeEmpty 15 = .ok (.iconst 1, 1) := by decide +kernel
theorem dX2_takeRoomToBeEmpty_16 : decode cX2_takeRoomToBeEmpty 16 = .ok (.iload_n 1, 1) := by decide +kernel
theorem dX2_takeRoomToBeEmpty_17 : decode cX2_takeRoomToBeEmpty 17 = .ok (.bipush 97, 2) := by decide +kernel
theorem dX2_takeRoomToBeEmpty_19 : decode cX2_takeRoomToBeEmpty 19 = .ok (.isub, 1) := by decide +kernel
theorem dX2_takeRoomToBeEmpty_20 : decode cX2_takeRoomToBeEmpty 20 = .ok (.ishl, 1) := by decide +kernel
theorem dX2_takeRoomToBeEmpty_21 : decode cX2_takeRoomToBeEmpty 21 = .ok (.ior, 1) := by decide +kernel
theorem dX2_takeRoomToBeEmpty_22 : decode cX2_takeRoomToBeEmpty 22 = .ok (.putfield 48, 3) := by decide +kernel
theorem dX2_takeRoomToBeEmpty_25 : decode cX2_takeRoomToBeEmpty 25 = .ok (.aload_n 0, 1) := by decide +kernel
theorem dX2_takeRoomToBeEmpty_26 : decode cX2_takeRoomToBeEmpty 26 = .ok (.iconst 3, 1) := by decide +kernel
theorem dX2_takeRoomToBeEmpty_27 : decode cX2_takeRoomToBeEmpty 27 = .ok (.putfield 11, 3) := by decide +kernel
theorem dX2_takeRoomToBeEmpty_30 : decode cX2_takeRoomToBeEmpty 30 = .ok (.iconst 1, 1) := by decide +kernel
theorem dX2_takeRoomToBeEmpty_31 : decode cX2_takeRoomToBeEmpty 31 = .ok (.ireturn, 1) := by decide +kernel
theorem dX2_takeEnd_0 : decode cX2_takeEnd 0 = .ok (.iload_n 1, 1) := by decide +kernel
theorem dX2_takeEnd_1 : decode cX2_takeEnd 1 = .ok (.bipush 59, 2) := by decide +kernel
theorem dX2_takeEnd_3 : decode cX2_takeEnd 3 = .ok (.if_icmp .eq 5, 3) := by decide +kernel
theorem dX2_takeEnd_6 : decode cX2_takeEnd 6 = .ok (.iconst 0, 1) := by decide +kernel
theorem dX2_takeEnd_7 : decode cX2_takeEnd 7 = .ok (.ireturn, 1) := by decide +kernel
theorem dX2_takeEnd_8 : decode cX2_takeEnd 8 = .ok (.aload_n 0, 1) := by decide +kernel
theorem dX2_takeEnd_9 : decode cX2_takeEnd 9 = .ok (.iconst 0, 1) := by decide +kernel
theorem dX2_takeEnd_10 : decode cX2_takeEnd 10 = .ok (.putfield 11, 3) := by decide +kernel
theorem dX2_takeEnd_13 : decode cX2_takeEnd 13 = .ok (.iconst 1, 1) := by decide +kernel
theorem dX2_takeEnd_14 : decode cX2_takeEnd 14 = .ok (.ireturn, 1) := by decide +kernel
theorem dX2_isRoom_0 : decode cX2_isRoom 0 = .ok (.iload_n 0, 1) := by decide +kernel
theorem dX2_isRoom_1 : decode cX2_isRoom 1 = .ok (.bipush 97, 2) := by decide +kernel
theorem dX2_isRoom_3 : decode cX2_isRoom 3 = .ok (.if_icmp .lt 13, 3) := by decide +kernel
theorem dX2_isRoom_6 : decode cX2_isRoom 6 = .ok (.iload_n 0, 1) := by decide +kernel
theorem dX2_isRoom_7 : decode cX2_isRoom 7 = .ok (.bipush 103, 2) := by decide +kernel
theorem dX2_isRoom_9 : decode cX2_isRoom 9 = .ok (.if_icmp .ge 7, 3) := by decide +kernel
theorem dX2_isRoom_12 : decode cX2_isRoom 12 = .ok (.iconst 1, 1) := by decide +kernel
theorem dX2_isRoom_13 : decode cX2_isRoom 13 = .ok (.goto 4, 3) := by decide +kernel
theorem dX2_isRoom_16 : decode cX2_isRoom 16 = .ok (.iconst 0, 1) := by decide +kernel
theorem dX2_isRoom_17 : decode cX2_isRoom 17 = .ok (.ireturn, 1) := by decide +kernel
theorem dX2_isUnnamedRoom_0 : decode cX2_isUnnamedRoom 0 = .ok (.iload_n 1, 1) := by decide +kernel
theorem dX2_isUnnamedRoom_1 : decode cX2_isUnnamedRoom 1 = .ok (.invokestatic 57, 3) := by decide +kernel
theorem dX2_isUnnamedRoom_4 : decode cX2_isUnnamedRoom 4 = .ok (.ifCond .eq 26, 3) := by decide +kernel
theorem dX2_isUnnamedRoom_7 : decode cX2_isUnnamedRoom 7 = .ok (.aload_n 0, 1) := by decide +kernel
theorem dX2_isUnnamedRoom_8 : decode cX2_isUnnamedRoom 8 = .ok (.getfield 45, 3) := by decide +kernel
theorem dX2_isUnnamedRoom_11 : decode cX2_isUnnamedRoom 11 = .ok (.aload_n 0, 1) := by decide +kernel
theorem dX2_isUnnamedRoom_12 : decode cX2_isUnnamedRoom 12 = .ok (.getfield 48, 3) := by decide +kernel
theorem dX2_isUnnamedRoom_15 : decode cX2_isUnnamedRoom 15 = .ok (.ior, 1) := by decide +kernel
theorem dX2_isUnnamedRoom_16 : decode cX2_isUnnamedRoom 16 = .ok (.iload_n 1, 1) := by decide +kernel
theorem dX2_isUnnamedRoom_17 : decode cX2_isUnnamedRoom 17 = .ok (.bipush 97, 2) := by decide +kernel
theorem dX2_isUnnamedRoom_19 : decode cX2_isUnnamedRoom 19 = .ok (.isub, 1) := by decide +kernel
theorem dX2_isUnnamedRoom_20 : decode cX2_isUnnamedRoom 20 = .ok (.ishr, 1) := by decide +kernel
theorem dX2_isUnnamedRoom_21 : decode cX2_isUnnamedRoom 21 = .ok (.iconst 1, 1) := by decide +kernel
theorem dX2_isUnnamedRoom_22 : decode cX2_isUnnamedRoom 22 = .ok (.iand, 1) := by decide +kernel
theorem dX2_isUnnamedRoom_23 : decode cX2_isUnnamedRoom 23 = .ok (.ifCond .ne 7, 3) := by decide +kernel
theorem dX2_isUnnamedRoom_26 : decode cX2_isUnnamedRoom 26 = .ok (.iconst 1, 1) := by decide +kernel
theorem dX2_isUnnamedRoom_27 : decode cX2_isUnnamedRoom 27 = .ok (.goto 4, 3) := by decide +kernel
theorem dX2_isUnnamedRoom_30 : decode cX2_isUnnamedRoom 30 = .ok (.iconst 0, 1) := by decide +kernel
theorem dX2_isUnnamedRoom_31 : decode cX2_isUnnamedRoom 31 = .ok (.ireturn, 1) := by decide +kernel
theorem dX3_init_0 : decode cX3_init 0 = .ok (.aload_n 0, 1) := by decide +kernel
theorem dX3_init_1 : decode cX3_init 1 = .ok (.invokespecial 3, 3) := by decide +kernel
theorem dX3_init_4 : decode cX3_init 4 = .ok (.aload_n 0, 1) := by decide +kernel
theorem dX3_init_5 : decode cX3_init 5 = .ok (.bipush 6, 2) := by decide +kernel
theorem dX3_init_7 : decode cX3_init 7 = .ok (.anewarray 9, 3) := by decide +kernel
theorem dX3_init_10 : decode cX3_init 10 = .ok (.putfield 11, 3) := by decide +kernel
theorem dX3_init_13 : decode cX3_init 13 = .ok (.iconst 0, 1) := by decide +kernel
theorem dX3_init_14 : decode cX3_init 14 = .ok (.istore_n 1, 1) := by decide +kernel
theorem dX3_init_15 : decode cX3_init 15 = .ok (.iload_n 1, 1) := by decide +kernel
theorem dX3_init_16 : decode cX3_init 16 = .ok (.aload_n 0, 1) := by decide +kernel
theorem dX3_init_17 : decode cX3_init 17 = .ok (.getfield 11, 3) := by decide +kernel
theorem dX3_init_20 : decode cX3_init 20 = .ok (.arraylength, 1) := by decide +kernel
theorem dX3_init_21 : decode cX3_init 21 = .ok (.if_icmp .ge 22, 3) := by decide +kernel
theorem dX3_init_24 : decode cX3_init 24 = .ok (.aload_n 0, 1) := by decide +kernel
theorem dX3_init_25 : decode cX3_init 25 = .ok (.getfield 11, 3) := by decide +kernel
theorem dX3_init_28 : decode cX3_init 28 = .ok (.iload_n 1, 1) := by decide +kernel
theorem dX3_init_29 : decode cX3_init 29 = .ok (.new 9, 3) := by decide +kernel
theorem dX3_init_32 : decode cX3_init 32 = .ok (.dup, 1) := by decide +kernel
theorem dX3_init_33 : decode cX3_init 33 = .ok (.invokespecial 17, 3) := by decide +kernel
theorem dX3_init_36 : decode cX3_init 36 = .ok (.aastore, 1) := by decide +kernel
theorem dX3_init_37 : decode cX3_init 37 = .ok (.iinc 1 1, 3) := by decide +kernel
theorem dX3_init_40 : decode cX3_init 40 = .ok (.goto (-25), 3) := by decide +kernel
theorem dX3_init_43 : decode cX3_init 43 = .ok (.aload_n 0, 1) := by decide +kernel
theorem dX3_init_44 : decode cX3_init 44 = .ok (.new 9, 3) := by decide +kernel
theorem dX3_init_47 : decode cX3_init 47 = .ok (.dup, 1) := by decide +kernel
theorem dX3_init_48 : decode cX3_init 48 = .ok (.invokespecial 17, 3) := by decide +kernel
theorem dX3_init_51 : decode cX3_init 51 = .ok (.putfield 18, 3) := by decide +kernel
theorem dX3_init_54 : decode cX3_init 54 = .ok (.return_, 1) := by decide +kernel
theorem dX3_place_0 : decode cX3_place 0 = .ok (.aload_n 0, 1) := by decide +kernel
theorem dX3_place_1 : decode cX3_place 1 = .ok (.getfield 22, 3) := by decide +kernel
theorem dX3_place_4 : decode cX3_place 4 = .ok (.iload_n 1, 1) := by decide +kernel
theorem dX3_place_5 : decode cX3_place 5 = .ok (.iadd, 1) := by decide +kernel
theorem dX3_place_6 : decode cX3_place 6 = .ok (.bipush 6, 2) := by decide +kernel
theorem dX3_place_8 : decode cX3_place 8 = .ok (.irem, 1) := by decide +kernel
theorem dX3_place_9 : decode cX3_place 9 = .ok (.istore_n 2, 1) := by decide +kernel
theorem dX3_place_10 : decode cX3_place 10 = .ok (.iload_n 2, 1) := by decide +kernel
theorem dX3_place_11 : decode cX3_place 11 = .ok (.ifCond .lt 12, 3) := by decide +kernel
theorem dX3_place_14 : decode cX3_place 14 = .ok (.iload_n 2, 1) := by decide +kernel
theorem dX3_place_15 : decode cX3_place 15 = .ok (.aload_n 0, 1) := by decide +kernel
theorem dX3_place_16 : decode cX3_place 16 = .ok (.getfield 11, 3) := by decide +kernel
theorem dX3_place_19 : decode cX3_place 19 = .ok (.arraylength, 1) := by decide +kernel
theorem dX3_place_20 : decode cX3_place 20 = .ok (.if_icmp .lt 8, 3) := by decide +kernel
theorem dX3_place_23 : decode cX3_place 23 = .ok (.aload_n 0, 1) := by decide +kernel
theorem dX3_place_24 : decode cX3_place 24 = .ok (.getfield 18, 3) := by decide +kernel
theorem dX3_place_27 : decode cX3_place 27 = .ok (.areturn, 1) := by decide +kernel
theorem dX3_place_28 : decode cX3_place 28 = .ok (.aload_n 0, 1) := by decide +kernel
theorem dX3_place_29 : decode cX3_place 29 = .ok (.getfield 11, 3) := by decide +kernel
theorem dX3_place_32 : decode cX3_place 32 = .ok (.iload_n 2, 1) := by decide +kernel
theorem dX3_place_33 : decode cX3_place 33 = .ok (.aaload, 1) := by decide +kernel
theorem dX3_place_34 : decode cX3_place 34 = .ok (.astore_n 3, 1) := by decide +kernel
theorem dX3_place_35 : decode cX3_place 35 = .ok (.aload_n 3, 1) := by decide +kernel
theorem dX3_place_36 : decode cX3_place 36 = .ok (.ifnonnull 10, 3) := by decide +kernel
theorem dX3_place_39 : decode cX3_place 39 = .ok (.aload_n 0, 1) := by decide +kernel
theorem dX3_place_40 : decode cX3_place 40 = .ok (.getfield 18, 3) := by decide +kernel
theorem dX3_place_43 : decode cX3_place 43 = .ok (.goto 4, 3) := by decide +kernel
theorem dX3_place_46 : decode cX3_place 46 = .ok (.aload_n 3, 1) := by decide +kernel
theorem dX3_place_47 : decode cX3_place 47 = .ok (.areturn, 1) := by decide +kernel
theorem dX3_save_0 : decode cX3_save 0 = .ok (.aload_n 0, 1) := by decide +kernel
theorem dX3_save_1 : decode cX3_save 1 = .ok (.aload_n 0, 1) := by decide +kernel
theorem dX3_save_2 : decode cX3_save 2 = .ok (.getfield 26, 3) := by decide +kernel
theorem dX3_save_5 : decode cX3_save 5 = .ok (.invokevirtual 29, 3) := by decide +kernel
theorem dX3_save_8 : decode cX3_save 8 = .ok (.aload_n 1, 1) := by decide +kernel
theorem dX3_save_9 : decode cX3_save 9 = .ok (.invokevirtual 33, 3) := by decide +kernel
theorem dX3_save_12 : decode cX3_save 12 = .ok (.aload_n 0, 1) := by decide +kernel
theorem dX3_save_13 : decode cX3_save 13 = .ok (.getfield 26, 3) := by decide +kernel
theorem dX3_save_16 : decode cX3_save 16 = .ok (.bipush 6, 2) := by decide +kernel
theorem dX3_save_18 : decode cX3_save 18 = .ok (.if_icmp .ge 16, 3) := by decide +kernel
theorem dX3_save_21 : decode cX3_save 21 = .ok (.aload_n 0, 1) := by decide +kernel
theorem dX3_save_22 : decode cX3_save 22 = .ok (.dup, 1) := by decide +kernel
theorem dX3_save_23 : decode cX3_save 23 = .ok (.getfield 26, 3) := by decide +kernel
theorem dX3_save_26 : decode cX3_save 26 = .ok (.iconst 1, 1) := by decide +kernel
theorem dX3_save_27 : decode cX3_save 27 = .ok (.iadd, 1) := by decide +kernel
theorem dX3_save_28 : decode cX3_save 28 = .ok (.putfield 26, 3) := by decide +kernel
theorem dX3_save_31 : decode cX3_save 31 = .ok (.goto 16, 3) := by decide +kernel
theorem dX3_save_34 : decode cX3_save 34 = .ok (.aload_n 0, 1) := by decide +kernel
theorem dX3_save_35 : decode cX3_save 35 = .ok (.aload_n 0, 1) := by decide +kernel
theorem dX3_save_36 : decode cX3_save 36 = .ok (.getfield 22, 3) := by decide +kernel
theorem dX3_save_39 : decode cX3_save 39 = .ok (.iconst 1, 1) := by decide +kernel
theorem dX3_save_40 : decode cX3_save 40 = .ok (.iadd, 1) := by decide +kernel
theorem dX3_save_41 : decode cX3_save 41 = .ok (.bipush 6, 2) := by decide +kernel
theorem dX3_save_43 : decode cX3_save 43 = .ok (.irem, 1) := by decide +kernel
theorem dX3_save_44 : decode cX3_save 44 = .ok (.putfield 22, 3) := by decide +kernel
theorem dX3_save_47 : decode cX3_save 47 = .ok (.return_, 1) := by decide +kernel
theorem dX3_restore_0 : decode cX3_restore 0 = .ok (.aload_n 0, 1) := by decide +kernel
theorem dX3_restore_1 : decode cX3_restore 1 = .ok (.dup, 1) := by decide +kernel
theorem dX3_restore_2 : decode cX3_restore 2 = .ok (.getfield 26, 3) := by decide +kernel
theorem dX3_restore_5 : decode cX3_restore 5 = .ok (.iconst 1, 1) := by decide +kernel
theorem dX3_restore_6 : decode cX3_restore 6 = .ok (.isub, 1) := by decide +kernel
theorem dX3_restore_7 : decode cX3_restore 7 = .ok (.putfield 26, 3) := by decide +kernel
theorem dX3_restore_10 : decode cX3_restore 10 = .ok (.aload_n 1, 1) := by decide +kernel
theorem dX3_restore_11 : decode cX3_restore 11 = .ok (.aload_n 0, 1) := by decide +kernel
theorem dX3_restore_12 : decode cX3_restore 12 = .ok (.aload_n 0, 1) := by decide +kernel
theorem dX3_restore_13 : decode cX3_restore 13 = .ok (.getfield 26, 3) := by decide +kernel
theorem dX3_restore_16 : decode cX3_restore 16 = .ok (.invokevirtual 29, 3) := by decide +kernel
theorem dX3_restore_19 : decode cX3_restore 19 = .ok (.invokevirtual 33, 3) := by decide +kernel
theorem dX3_restore_22 : decode cX3_restore 22 = .ok (.return_, 1) := by decide +kernel
theorem dX4_init_0 : decode cX4_init 0 = .ok (.aload_n 0, 1) := by decide +kernel
theorem dX4_init_1 : decode cX4_init 1 = .ok (.invokespecial 3, 3) := by decide +kernel
theorem dX4_init_4 : decode cX4_init 4 = .ok (.return_, 1) := by decide +kernel
theorem dX4_become_0 : decode cX4_become 0 = .ok (.aload_n 0, 1) := by decide +kernel
theorem dX4_become_1 : decode cX4_become 1 = .ok (.aload_n 1, 1) := by decide +kernel
theorem dX4_become_2 : decode cX4_become 2 = .ok (.getfield 9, 3) := by decide +kernel
theorem dX4_become_5 : decode cX4_become 5 = .ok (.putfield 9, 3) := by decide +kernel
theorem dX4_become_8 : decode cX4_become 8 = .ok (.aload_n 0, 1) := by decide +kernel
theorem dX4_become_9 : decode cX4_become 9 = .ok (.aload_n 1, 1) := by decide +kernel
theorem dX4_become_10 : decode cX4_become 10 = .ok (.getfield 15, 3) := by decide +kernel
theorem dX4_become_13 : decode cX4_become 13 = .ok (.putfield 15, 3) := by decide +kernel
theorem dX4_become_16 : decode cX4_become 16 = .ok (.aload_n 0, 1) := by decide +kernel
theorem dX4_become_17 : decode cX4_become 17 = .ok (.aload_n 1, 1) := by decide +kernel
theorem dX4_become_18 : decode cX4_become 18 = .ok (.getfield 18, 3) := by decide +kernel
theorem dX4_become_21 : decode cX4_become 21 = .ok (.putfield 18, 3) := by decide +kernel
theorem dX4_become_24 : decode cX4_become 24 = .ok (.aload_n 0, 1) := by decide +kernel
theorem dX4_become_25 : decode cX4_become 25 = .ok (.aload_n 1, 1) := by decide +kernel
theorem dX4_become_26 : decode cX4_become 26 = .ok (.getfield 21, 3) := by decide +kernel
theorem dX4_become_29 : decode cX4_become 29 = .ok (.putfield 21, 3) := by decide +kernel
theorem dX4_become_32 : decode cX4_become 32 = .ok (.aload_n 0, 1) := by decide +kernel
theorem dX4_become_33 : decode cX4_become 33 = .ok (.aload_n 1, 1) := by decide +kernel
theorem dX4_become_34 : decode cX4_become 34 = .ok (.getfield 25, 3) := by decide +kernel
theorem dX4_become_37 : decode cX4_become 37 = .ok (.putfield 25, 3) := by decide +kernel
theorem dX4_become_40 : decode cX4_become 40 = .ok (.aload_n 0, 1) := by decide +kernel
theorem dX4_become_41 : decode cX4_become 41 = .ok (.aload_n 1, 1) := by decide +kernel
theorem dX4_become_42 : decode cX4_become 42 = .ok (.getfield 28, 3) := by decide +kernel
theorem dX4_become_45 : decode cX4_become 45 = .ok (.putfield 28, 3) := by decide +kernel
theorem dX4_become_48 : decode cX4_become 48 = .ok (.aload_n 0, 1) := by decide +kernel
theorem dX4_become_49 : decode cX4_become 49 = .ok (.aload_n 1, 1) := by decide +kernel
theorem dX4_become_50 : decode cX4_become 50 = .ok (.getfield 31, 3) := by decide +kernel
theorem dX4_become_53 : decode cX4_become 53 = .ok (.putfield 31, 3) := by decide +kernel
theorem dX4_become_56 : decode cX4_become 56 = .ok (.return_, 1) := by decide +kernel
theorem dX4_begin_0 : decode cX4_begin 0 = .ok (.aload_n 0, 1) := by decide +kernel
theorem dX4_begin_1 : decode cX4_begin 1 = .ok (.iload_n 2, 1) := by decide +kernel
theorem dX4_begin_2 : decode cX4_begin 2 = .ok (.putfield 9, 3) := by decide +kernel
theorem dX4_begin_5 : decode cX4_begin 5 = .ok (.aload_n 0, 1) := by decide +kernel
theorem dX4_begin_6 : decode cX4_begin 6 = .ok (.iload_n 3, 1) := by decide +kernel
theorem dX4_begin_7 : decode cX4_begin 7 = .ok (.putfield 15, 3) := by decide +kernel
theorem dX4_begin_10 : decode cX4_begin 10 = .ok (.aload_n 0, 1) := by decide +kernel
theorem dX4_begin_11 : decode cX4_begin 11 = .ok (.iload_n 1, 1) := by decide +kernel
theorem dX4_begin_12 : decode cX4_begin 12 = .ok (.putfield 18, 3) := by decide +kernel
theorem dX4_begin_15 : decode cX4_begin 15 = .ok (.aload_n 0, 1) := by decide +kernel
theorem dX4_begin_16 : decode cX4_begin 16 = .ok (.iconst 0, 1) := by decide +kernel
theorem dX4_begin_17 : decode cX4_begin 17 = .ok (.putfield 21, 3) := by decide +kernel
theorem dX4_begin_20 : decode cX4_begin 20 = .ok (.aload_n 0, 1) := by decide +kernel
theorem dX4_begin_21 : decode cX4_begin 21 = .ok (.iconst 0, 1) := by decide +kernel
theorem dX4_begin_22 : decode cX4_begin 22 = .ok (.putfield 25, 3) := by decide +kernel
theorem dX4_begin_25 : decode cX4_begin 25 = .ok (.aload_n 0, 1) := by decide +kernel
theorem dX4_begin_26 : decode cX4_begin 26 = .ok (.iconst 0, 1) := by decide +kernel
theorem dX4_begin_27 : decode cX4_begin 27 = .ok (.putfield 28, 3) := by decide +kernel
theorem dX4_begin_30 : decode cX4_begin 30 = .ok (.aload_n 0, 1) := by decide +kernel
theorem dX4_begin_31 : decode cX4_begin 31 = .ok (.lconst 0, 1) := by decide +kernel
theorem dX4_begin_32 : decode cX4_begin 32 = .ok (.putfield 31, 3) := by decide +kernel
theorem dX4_begin_35 : decode cX4_begin 35 = .ok (.iconst 0, 1) := by decide +kernel
theorem dX4_begin_36 : decode cX4_begin 36 = .ok (.istore 4, 2) := by decide +kernel
theorem dX4_begin_38 : decode cX4_begin 38 = .ok (.iload 4, 2) := by decide +kernel
theorem dX4_begin_40 : decode cX4_begin 40 = .ok (.bipush 64, 2) := by decide +kernel
theorem dX4_begin_42 : decode cX4_begin 42 = .ok (.if_icmp .ge 31, 3) := by decide +kernel
theorem dX4_begin_45 : decode cX4_begin 45 = .ok (.aload_n 0, 1) := by decide +kernel
theorem dX4_begin_46 : decode cX4_begin 46 = .ok (.iload 4, 2) := by decide +kernel
theorem dX4_begin_48 : decode cX4_begin 48 = .ok (.invokevirtual 35, 3) := by decide +kernel
theorem dX4_begin_51 : decode cX4_begin 51 = .ok (.ifCond .eq 16, 3) := by decide +kernel
theorem dX4_begin_54 : decode cX4_begin 54 = .ok (.aload_n 0, 1) := by decide +kernel
theorem dX4_begin_55 : decode cX4_begin 55 = .ok (.dup, 1) := by decide +kernel
theorem dX4_begin_56 : decode cX4_begin 56 = .ok (.getfield 31, 3) := by decide +kernel
theorem dX4_begin_59 : decode cX4_begin 59 = .ok (.lconst 1, 1) := by decide +kernel
theorem dX4_begin_60 : decode cX4_begin 60 = .ok (.iload 4, 2) := by decide +kernel
theorem dX4_begin_62 : decode cX4_begin 62 = .ok (.lshl, 1) := by decide +kernel
theorem dX4_begin_63 : decode cX4_begin 63 = .ok (.lor, 1) := by decide +kernel
theorem dX4_begin_64 : decode cX4_begin 64 = .ok (.putfield 31, 3) := by decide +kernel
theorem dX4_begin_67 : decode cX4_begin 67 = .ok (.iinc 4 1, 3) := by decide +kernel
theorem dX4_begin_70 : decode cX4_begin 70 = .ok (.goto (-32), 3) := by decide +kernel
theorem dX4_begin_73 : decode cX4_begin 73 = .ok (.return_, 1) := by decide +kernel
theorem dX4_holdsOn_0 : decode cX4_holdsOn 0 = .ok (.aload_n 0, 1) := by decide +kernel
theorem dX4_holdsOn_1 : decode cX4_holdsOn 1 = .ok (.getfield 9, 3) := by decide +kernel
theorem dX4_holdsOn_4 : decode cX4_holdsOn 4 = .ok (.iload_n 1, 1) := by decide +kernel
theorem dX4_holdsOn_5 : decode cX4_holdsOn 5 = .ok (.iand, 1) := by decide +kernel
theorem dX4_holdsOn_6 : decode cX4_holdsOn 6 = .ok (.ifCond .ne 14, 3) := by decide +kernel
theorem dX4_holdsOn_9 : decode cX4_holdsOn 9 = .ok (.aload_n 0, 1) := by decide +kernel
theorem dX4_holdsOn_10 : decode cX4_holdsOn 10 = .ok (.getfield 15, 3) := by decide +kernel
theorem dX4_holdsOn_13 : decode cX4_holdsOn 13 = .ok (.iload_n 1, 1) := by decide +kernel
theorem dX4_holdsOn_14 : decode cX4_holdsOn 14 = .ok (.iconst (-1), 1) := by decide +kernel
theorem dX4_holdsOn_15 : decode cX4_holdsOn 15 = .ok (.ixor, 1) := by decide +kernel
theorem dX4_holdsOn_16 : decode cX4_holdsOn 16 = .ok (.iand, 1) := by decide +kernel
theorem dX4_holdsOn_17 : decode cX4_holdsOn 17 = .ok (.ifCond .eq 7, 3) := by decide +kernel
theorem dX4_holdsOn_20 : decode cX4_holdsOn 20 = .ok (.iconst 1, 1) := by decide +kernel
theorem dX4_holdsOn_21 : decode cX4_holdsOn 21 = .ok (.goto 4, 3) := by decide +kernel
theorem dX4_holdsOn_24 : decode cX4_holdsOn 24 = .ok (.iconst 0, 1) := by decide +kernel
theorem dX4_holdsOn_25 : decode cX4_holdsOn 25 = .ok (.ireturn, 1) := by decide +kernel
theorem dX4_hasLostAll_0 : decode cX4_hasLostAll 0 = .ok (.aload_n 0, 1) := by decide +kernel
theorem dX4_hasLostAll_1 : decode cX4_hasLostAll 1 = .ok (.getfield 9, 3) := by decide +kernel
theorem dX4_hasLostAll_4 : decode cX4_hasLostAll 4 = .ok (.iload_n 2, 1) := by decide +kernel
theorem dX4_hasLostAll_5 : decode cX4_hasLostAll 5 = .ok (.iconst (-1), 1) := by decide +kernel
theorem dX4_hasLostAll_6 : decode cX4_hasLostAll 6 = .ok (.ixor, 1) := by decide +kernel
theorem dX4_hasLostAll_7 : decode cX4_hasLostAll 7 = .ok (.iand, 1) := by decide +kernel
theorem dX4_hasLostAll_8 : decode cX4_hasLostAll 8 = .ok (.ifCond .ne 18, 3) := by decide +kernel
theorem dX4_hasLostAll_11 : decode cX4_hasLostAll 11 = .ok (.aload_n 0, 1) := by decide +kernel
theorem dX4_hasLostAll_12 : decode cX4_hasLostAll 12 = .ok (.getfield 15, 3) := by decide +kernel
theorem dX4_hasLostAll_15 : decode cX4_hasLostAll 15 = .ok (.iload_n 1, 1) := by decide +kernel
theorem dX4_hasLostAll_16 : decode cX4_hasLostAll 16 = .ok (.iconst (-1), 1) := by decide +kernel
theorem dX4_hasLostAll_17 : decode cX4_hasLostAll 17 = .ok (.ixor, 1) := by decide +kernel
theorem dX4_hasLostAll_18 : decode cX4_hasLostAll 18 = .ok (.iand, 1) := by decide +kernel
theorem dX4_hasLostAll_19 : decode cX4_hasLostAll 19 = .ok (.ifCond .ne 7, 3) := by decide +kernel
theorem dX4_hasLostAll_22 : decode cX4_hasLostAll 22 = .ok (.iconst 1, 1) := by decide +kernel
theorem dX4_hasLostAll_23 : decode cX4_hasLostAll 23 = .ok (.goto 4, 3) := by decide +kernel
theorem dX4_hasLostAll_26 : decode cX4_hasLostAll 26 = .ok (.iconst 0, 1) := by decide +kernel
theorem dX4_hasLostAll_27 : decode cX4_hasLostAll 27 = .ok (.ireturn, 1) := by decide +kernel
theorem dX5_init_0 : decode cX5_init 0 = .ok (.aload_n 0, 1) := by decide +kernel
theorem dX5_init_1 : decode cX5_init 1 = .ok (.invokespecial 3, 3) := by decide +kernel
theorem dX5_init_4 : decode cX5_init 4 = .ok (.aload_n 0, 1) := by decide +kernel
theorem dX5_init_5 : decode cX5_init 5 = .ok (.sipush 1024, 3) := by decide +kernel
theorem dX5_init_8 : decode cX5_init 8 = .ok (.newarray .long, 2) := by decide +kernel
theorem dX5_init_10 : decode cX5_init 10 = .ok (.putfield 9, 3) := by decide +kernel
theorem dX5_init_13 : decode cX5_init 13 = .ok (.return_, 1) := by decide +kernel
theorem dX5_fill_0 : decode cX5_fill 0 = .ok (.aload_n 0, 1) := by decide +kernel
theorem dX5_fill_1 : decode cX5_fill 1 = .ok (.getfield 9, 3) := by decide +kernel
theorem dX5_fill_4 : decode cX5_fill 4 = .ok (.arraylength, 1) := by decide +kernel
theorem dX5_fill_5 : decode cX5_fill 5 = .ok (.ifCond .le 12, 3) := by decide +kernel
theorem dX5_fill_8 : decode cX5_fill 8 = .ok (.aload_n 0, 1) := by decide +kernel
theorem dX5_fill_9 : decode cX5_fill 9 = .ok (.getfield 9, 3) := by decide +kernel
theorem dX5_fill_12 : decode cX5_fill 12 = .ok (.iconst 0, 1) := by decide +kernel
theorem dX5_fill_13 : decode cX5_fill 13 = .ok (.ldc2_w 15, 3) := by decide +kernel
theorem dX5_fill_16 : decode cX5_fill 16 = .ok (.lastore, 1) := by decide +kernel
theorem dX5_fill_17 : decode cX5_fill 17 = .ok (.iconst 0, 1) := by decide +kernel
theorem dX5_fill_18 : decode cX5_fill 18 = .ok (.istore_n 2, 1) := by decide +kernel
theorem dX5_fill_19 : decode cX5_fill 19 = .ok (.iload_n 2, 1) := by decide +kernel
theorem dX5_fill_20 : decode cX5_fill 20 = .ok (.aload_n 1, 1) := by decide +kernel
theorem dX5_fill_21 : decode cX5_fill 21 = .ok (.getfield 17, 3) := by decide +kernel
theorem dX5_fill_24 : decode cX5_fill 24 = .ok (.if_icmp .ge 65, 3) := by decide +kernel
theorem dX5_fill_27 : decode cX5_fill 27 = .ok (.iconst 1, 1) := by decide +kernel
theorem dX5_fill_28 : decode cX5_fill 28 = .ok (.iload_n 2, 1) := by decide +kernel
theorem dX5_fill_29 : decode cX5_fill 29 = .ok (.ishl, 1) := by decide +kernel
theorem dX5_fill_30 : decode cX5_fill 30 = .ok (.istore_n 3, 1) := by decide +kernel
theorem dX5_fill_31 : decode cX5_fill 31 = .ok (.iconst 0, 1) := by decide +kernel
theorem dX5_fill_32 : decode cX5_fill 32 = .ok (.istore 4, 2) := by decide +kernel
theorem dX5_fill_34 : decode cX5_fill 34 = .ok (.iload 4, 2) := by decide +kernel
theorem dX5_fill_36 : decode cX5_fill 36 = .ok (.iload_n 3, 1) := by decide +kernel
theorem dX5_fill_37 : decode cX5_fill 37 = .ok (.if_icmp .ge 46, 3) := by decide +kernel
theorem dX5_fill_40 : decode cX5_fill 40 = .ok (.iload_n 3, 1) := by decide +kernel
theorem dX5_fill_41 : decode cX5_fill 41 = .ok (.iload 4, 2) := by decide +kernel
theorem dX5_fill_43 : decode cX5_fill 43 = .ok (.iadd, 1) := by decide +kernel
theorem dX5_fill_44 : decode cX5_fill 44 = .ok (.aload_n 0, 1) := by decide +kernel
theorem dX5_fill_45 : decode cX5_fill 45 = .ok (.getfield 9, 3) := by decide +kernel
theorem dX5_fill_48 : decode cX5_fill 48 = .ok (.arraylength, 1) := by decide +kernel
theorem dX5_fill_49 : decode cX5_fill 49 = .ok (.if_icmp .ge 34, 3) := by decide +kernel
theorem dX5_fill_52 : decode cX5_fill 52 = .ok (.aload_n 0, 1) := by decide +kernel
theorem dX5_fill_53 : decode cX5_fill 53 = .ok (.getfield 9, 3) := by decide +kernel
theorem dX5_fill_56 : decode cX5_fill 56 = .ok (.iload_n 3, 1) := by decide +kernel
theorem dX5_fill_57 : decode cX5_fill 57 = .ok (.iload 4, 2) := by decide +kernel
theorem dX5_fill_59 : decode cX5_fill 59 = .ok (.iadd, 1) := by decide +kernel
theorem dX5_fill_60 : decode cX5_fill 60 = .ok (.aload_n 0, 1) := by decide +kernel
theorem dX5_fill_61 : decode cX5_fill 61 = .ok (.getfield 9, 3) := by decide +kernel
theorem dX5_fill_64 : decode cX5_fill 64 = .ok (.iload 4, 2) := by decide +kernel
theorem dX5_fill_66 : decode cX5_fill 66 = .ok (.laload, 1) := by decide +kernel
theorem dX5_fill_67 : decode cX5_fill 67 = .ok (.aload_n 1, 1) := by decide +kernel
theorem dX5_fill_68 : decode cX5_fill 68 = .ok (.iload_n 2, 1) := by decide +kernel
theorem dX5_fill_69 : decode cX5_fill 69 = .ok (.invokevirtual 23, 3) := by decide +kernel
theorem dX5_fill_72 : decode cX5_fill 72 = .ok (.getfield 27, 3) := by decide +kernel
theorem dX5_fill_75 : decode cX5_fill 75 = .ok (.land, 1) := by decide +kernel
theorem dX5_fill_76 : decode cX5_fill 76 = .ok (.lastore, 1) := by decide +kernel
theorem dX5_fill_77 : decode cX5_fill 77 = .ok (.iinc 4 1, 3) := by decide +kernel
theorem dX5_fill_80 : decode cX5_fill 80 = .ok (.goto (-46), 3) := by decide +kernel
theorem dX5_fill_83 : decode cX5_fill 83 = .ok (.iinc 2 1, 3) := by decide +kernel
theorem dX5_fill_86 : decode cX5_fill 86 = .ok (.goto (-67), 3) := by decide +kernel
theorem dX5_fill_89 : decode cX5_fill 89 = .ok (.return_, 1) := by decide +kernel
theorem dX5_of_0 : decode cX5_of 0 = .ok (.iload_n 1, 1) := by decide +kernel
theorem dX5_of_1 : decode cX5_of 1 = .ok (.ifCond .lt 21, 3) := by decide +kernel
theorem dX5_of_4 : decode cX5_of 4 = .ok (.iload_n 1, 1) := by decide +kernel
theorem dX5_of_5 : decode cX5_of 5 = .ok (.aload_n 0, 1) := by decide +kernel
theorem dX5_of_6 : decode cX5_of 6 = .ok (.getfield 9, 3) := by decide +kernel
theorem dX5_of_9 : decode cX5_of 9 = .ok (.arraylength, 1) := by decide +kernel
theorem dX5_of_10 : decode cX5_of 10 = .ok (.if_icmp .ge 12, 3) := by decide +kernel
theorem dX5_of_13 : decode cX5_of 13 = .ok (.aload_n 0, 1) := by decide +kernel
theorem dX5_of_14 : decode cX5_of 14 = .ok (.getfield 9, 3) := by decide +kernel
theorem dX5_of_17 : decode cX5_of 17 = .ok (.iload_n 1, 1) := by decide +kernel
theorem dX5_of_18 : decode cX5_of 18 = .ok (.laload, 1) := by decide +kernel
theorem dX5_of_19 : decode cX5_of 19 = .ok (.goto 4, 3) := by decide +kernel
theorem dX5_of_22 : decode cX5_of 22 = .ok (.lconst 0, 1) := by decide +kernel
theorem dX5_of_23 : decode cX5_of 23 = .ok (.lreturn, 1) := by decide +kernel
theorem dX5_isNarrowClash_0 : decode cX5_isNarrowClash 0 = .ok (.aload_n 0, 1) := by decide +kernel
theorem dX5_isNarrowClash_1 : decode cX5_isNarrowClash 1 = .ok (.iload_n 1, 1) := by decide +kernel
theorem dX5_isNarrowClash_2 : decode cX5_isNarrowClash 2 = .ok (.invokevirtual 33, 3) := by decide +kernel
theorem dX5_isNarrowClash_5 : decode cX5_isNarrowClash 5 = .ok (.lconst 0, 1) := by decide +kernel
theorem dX5_isNarrowClash_6 : decode cX5_isNarrowClash 6 = .ok (.lcmp, 1) := by decide +kernel
theorem dX5_isNarrowClash_7 : decode cX5_isNarrowClash 7 = .ok (.ifCond .eq 5, 3) := by decide +kernel
theorem dX5_isNarrowClash_10 : decode cX5_isNarrowClash 10 = .ok (.iconst 0, 1) := by decide +kernel
theorem dX5_isNarrowClash_11 : decode cX5_isNarrowClash 11 = .ok (.ireturn, 1) := by decide +kernel
theorem dX5_isNarrowClash_12 : decode cX5_isNarrowClash 12 = .ok (.iconst 0, 1) := by decide +kernel
theorem dX5_isNarrowClash_13 : decode cX5_isNarrowClash 13 = .ok (.istore_n 2, 1) := by decide +kernel
theorem dX5_isNarrowClash_14 : decode cX5_isNarrowClash 14 = .ok (.iload_n 2, 1) := by decide +kernel
theorem dX5_isNarrowClash_15 : decode cX5_isNarrowClash 15 = .ok (.bipush 10, 2) := by decide +kernel
theorem dX5_isNarrowClash_17 : decode cX5_isNarrowClash 17 = .ok (.if_icmp .ge 35, 3) := by decide +kernel
theorem dX5_isNarrowClash_20 : decode cX5_isNarrowClash 20 = .ok (.iload_n 1, 1) := by decide +kernel
theorem dX5_isNarrowClash_21 : decode cX5_isNarrowClash 21 = .ok (.iload_n 2, 1) := by decide +kernel
theorem dX5_isNarrowClash_22 : decode cX5_isNarrowClash 22 = .ok (.ishr, 1) := by decide +kernel
theorem dX5_isNarrowClash_23 : decode cX5_isNarrowClash 23 = .ok (.iconst 1, 1) := by decide +kernel
theorem dX5_isNarrowClash_24 : decode cX5_isNarrowClash 24 = .ok (.iand, 1) := by decide +kernel
theorem dX5_isNarrowClash_25 : decode cX5_isNarrowClash 25 = .ok (.ifCond .eq 21, 3) := by decide +kernel
theorem dX5_isNarrowClash_28 : decode cX5_isNarrowClash 28 = .ok (.aload_n 0, 1) := by decide +kernel
theorem dX5_isNarrowClash_29 : decode cX5_isNarrowClash 29 = .ok (.iload_n 1, 1) := by decide +kernel
theorem dX5_isNarrowClash_30 : decode cX5_isNarrowClash 30 = .ok (.iconst 1, 1) := by decide +kernel
theorem dX5_isNarrowClash_31 : decode cX5_isNarrowClash 31 = .ok (.iload_n 2, 1) := by decide +kernel
theorem dX5_isNarrowClash_32 : decode cX5_isNarrowClash 32 = .ok (.ishl, 1) := by decide +kernel
theorem dX5_isNarrowClash_33 : decode cX5_isNarrowClash 33 = .ok (.iconst (-1), 1) := by decide +kernel
theorem dX5_isNarrowClash_34 : decode cX5_isNarrowClash 34 = .ok (.ixor, 1) := by decide +kernel
theorem dX5_isNarrowClash_35 : decode cX5_isNarrowClash 35 = .ok (.iand, 1) := by decide +kernel
theorem dX5_isNarrowClash_36 : decode cX5_isNarrowClash 36 = .ok (.invokevirtual 33, 3) := by decide +kernel
theorem dX5_isNarrowClash_39 : decode cX5_isNarrowClash 39 = .ok (.lconst 0, 1) := by decide +kernel
theorem dX5_isNarrowClash_40 : decode cX5_isNarrowClash 40 = .ok (.lcmp, 1) := by decide +kernel
theorem dX5_isNarrowClash_41 : decode cX5_isNarrowClash 41 = .ok (.ifCond .ne 5, 3) := by decide +kernel
theorem dX5_isNarrowClash_44 : decode cX5_isNarrowClash 44 = .ok (.iconst 0, 1) := by decide +kernel
theorem dX5_isNarrowClash_45 : decode cX5_isNarrowClash 45 = .ok (.ireturn, 1) := by decide +kernel
theorem dX5_isNarrowClash_46 : decode cX5_isNarrowClash 46 = .ok (.iinc 2 1, 3) := by decide +kernel
theorem dX5_isNarrowClash_49 : decode cX5_isNarrowClash 49 = .ok (.goto (-35), 3) := by decide +kernel
theorem dX5_isNarrowClash_52 : decode cX5_isNarrowClash 52 = .ok (.iconst 1, 1) := by decide +kernel
theorem dX5_isNarrowClash_53 : decode cX5_isNarrowClash 53 = .ok (.ireturn, 1) := by decide +kernel
theorem dX6_init_0 : decode cX6_init 0 = .ok (.aload_n 0, 1) := by decide +kernel
theorem dX6_init_1 : decode cX6_init 1 = .ok (.invokespecial 1, 3) := by decide +kernel
theorem dX6_init_4 : decode cX6_init 4 = .ok (.aload_n 0, 1) := by decide +kernel
theorem dX6_init_5 : decode cX6_init 5 = .ok (.new 7, 3) := by decide +kernel
theorem dX6_init_8 : decode cX6_init 8 = .ok (.dup, 1) := by decide +kernel
theorem dX6_init_9 : decode cX6_init 9 = .ok (.invokespecial 9, 3) := by decide +kernel
theorem dX6_init_12 : decode cX6_init 12 = .ok (.putfield 10, 3) := by decide +kernel
theorem dX6_init_15 : decode cX6_init 15 = .ok (.aload_n 0, 1) := by decide +kernel
theorem dX6_init_16 : decode cX6_init 16 = .ok (.new 7, 3) := by decide +kernel
theorem dX6_init_19 : decode cX6_init 19 = .ok (.dup, 1) := by decide +kernel
theorem dX6_init_20 : decode cX6_init 20 = .ok (.invokespecial 9, 3) := by decide +kernel
theorem dX6_init_23 : decode cX6_init 23 = .ok (.putfield 16, 3) := by decide +kernel
theorem dX6_init_26 : decode cX6_init 26 = .ok (.aload_n 0, 1) := by decide +kernel
theorem dX6_init_27 : decode cX6_init 27 = .ok (.iconst 0, 1) := by decide +kernel
theorem dX6_init_28 : decode cX6_init 28 = .ok (.putfield 19, 3) := by decide +kernel
theorem dX6_init_31 : decode cX6_init 31 = .ok (.aload_n 0, 1) := by decide +kernel
theorem dX6_init_32 : decode cX6_init 32 = .ok (.new 23, 3) := by decide +kernel
theorem dX6_init_35 : decode cX6_init 35 = .ok (.dup, 1) := by decide +kernel
theorem dX6_init_36 : decode cX6_init 36 = .ok (.invokespecial 25, 3) := by decide +kernel
theorem dX6_init_39 : decode cX6_init 39 = .ok (.putfield 26, 3) := by decide +kernel
theorem dX6_init_42 : decode cX6_init 42 = .ok (.aload_n 0, 1) := by decide +kernel
theorem dX6_init_43 : decode cX6_init 43 = .ok (.bipush 60, 2) := by decide +kernel
theorem dX6_init_45 : decode cX6_init 45 = .ok (.newarray .int, 2) := by decide +kernel
theorem dX6_init_47 : decode cX6_init 47 = .ok (.putfield 30, 3) := by decide +kernel
theorem dX6_init_50 : decode cX6_init 50 = .ok (.aload_n 0, 1) := by decide +kernel
theorem dX6_init_51 : decode cX6_init 51 = .ok (.iconst 0, 1) := by decide +kernel
theorem dX6_init_52 : decode cX6_init 52 = .ok (.putfield 34, 3) := by decide +kernel
theorem dX6_init_55 : decode cX6_init 55 = .ok (.aload_n 0, 1) := by decide +kernel
theorem dX6_init_56 : decode cX6_init 56 = .ok (.new 38, 3) := by decide +kernel
theorem dX6_init_59 : decode cX6_init 59 = .ok (.dup, 1) := by decide +kernel
theorem dX6_init_60 : decode cX6_init 60 = .ok (.invokespecial 40, 3) := by decide +kernel
theorem dX6_init_63 : decode cX6_init 63 = .ok (.putfield 41, 3) := by decide +kernel
theorem dX6_init_66 : decode cX6_init 66 = .ok (.aload_n 0, 1) := by decide +kernel
theorem dX6_init_67 : decode cX6_init 67 = .ok (.new 45, 3) := by decide +kernel
theorem dX6_init_70 : decode cX6_init 70 = .ok (.dup, 1) := by decide +kernel
theorem dX6_init_71 : decode cX6_init 71 = .ok (.invokespecial 47, 3) := by decide +kernel
theorem dX6_init_74 : decode cX6_init 74 = .ok (.putfield 48, 3) := by decide +kernel
theorem dX6_init_77 : decode cX6_init 77 = .ok (.aload_n 0, 1) := by decide +kernel
theorem dX6_init_78 : decode cX6_init 78 = .ok (.new 52, 3) := by decide +kernel
theorem dX6_init_81 : decode cX6_init 81 = .ok (.dup, 1) := by decide +kernel
theorem dX6_init_82 : decode cX6_init 82 = .ok (.invokespecial 54, 3) := by decide +kernel
theorem dX6_init_85 : decode cX6_init 85 = .ok (.putfield 55, 3) := by decide +kernel
theorem dX6_init_88 : decode cX6_init 88 = .ok (.return_, 1) := by decide +kernel
theorem dX6_make_0 : decode cX6_make 0 = .ok (.iload_n 1, 1) := by decide +kernel
theorem dX6_make_1 : decode cX6_make 1 = .ok (.iconst 1, 1) := by decide +kernel
theorem dX6_make_2 : decode cX6_make 2 = .ok (.if_icmp .lt 9, 3) := by decide +kernel
theorem dX6_make_5 : decode cX6_make 5 = .ok (.iload_n 1, 1) := by decide +kernel
theorem dX6_make_6 : decode cX6_make 6 = .ok (.bipush 9, 2) := by decide +kernel
theorem dX6_make_8 : decode cX6_make 8 = .ok (.if_icmp .le 13, 3) := by decide +kernel
theorem dX6_make_11 : decode cX6_make 11 = .ok (.new 59, 3) := by decide +kernel
theorem dX6_make_14 : decode cX6_make 14 = .ok (.dup, 1) := by decide +kernel
theorem dX6_make_15 : decode cX6_make 15 = .ok (.ldc 61, 2) := by decide +kernel
theorem dX6_make_17 : decode cX6_make 17 = .ok (.invokespecial 63, 3) := by decide +kernel
theorem dX6_make_20 : decode cX6_make 20 = .ok (.athrow, 1) := by decide +kernel
theorem dX6_make_21 : decode cX6_make 21 = .ok (.iload_n 2, 1) := by decide +kernel
theorem dX6_make_22 : decode cX6_make 22 = .ok (.ifCond .lt 19, 3) := by decide +kernel
theorem dX6_make_25 : decode cX6_make 25 = .ok (.iload_n 2, 1) := by decide +kernel
theorem dX6_make_26 : decode cX6_make 26 = .ok (.bipush 63, 2) := by decide +kernel
theorem dX6_make_28 : decode cX6_make 28 = .ok (.if_icmp .gt 13, 3) := by decide +kernel
theorem dX6_make_31 : decode cX6_make 31 = .ok (.iload_n 3, 1) := by decide +kernel
theorem dX6_make_32 : decode cX6_make 32 = .ok (.ifCond .lt 9, 3) := by decide +kernel
theorem dX6_make_35 : decode cX6_make 35 = .ok (.iload_n 3, 1) := by decide +kernel
theorem dX6_make_36 : decode cX6_make 36 = .ok (.bipush 63, 2) := by decide +kernel
theorem dX6_make_38 : decode cX6_make 38 = .ok (.if_icmp .le 13, 3) := by decide +kernel
theorem dX6_make_41 : decode cX6_make 41 = .ok (.new 59, 3) := by decide +kernel
theorem dX6_make_44 : decode cX6_make 44 = .ok (.dup, 1) := by decide +kernel
theorem dX6_make_45 : decode cX6_make 45 = .ok (.ldc 66, 2) := by decide +kernel
theorem dX6_make_47 : decode cX6_make 47 = .ok (.invokespecial 63, 3) := by decide +kernel
theorem dX6_make_50 : decode cX6_make 50 = .ok (.athrow, 1) := by decide +kernel
theorem dX6_make_51 : decode cX6_make 51 = .ok (.iload_n 2, 1) := by decide +kernel
theorem dX6_make_52 : decode cX6_make 52 = .ok (.iload_n 3, 1) := by decide +kernel
theorem dX6_make_53 : decode cX6_make 53 = .ok (.iand, 1) := by decide +kernel
theorem dX6_make_54 : decode cX6_make 54 = .ok (.ifCond .ne 9, 3) := by decide +kernel
theorem dX6_make_57 : decode cX6_make 57 = .ok (.iload_n 2, 1) := by decide +kernel
theorem dX6_make_58 : decode cX6_make 58 = .ok (.iload_n 3, 1) := by decide +kernel
theorem dX6_make_59 : decode cX6_make 59 = .ok (.ior, 1) := by decide +kernel
theorem dX6_make_60 : decode cX6_make 60 = .ok (.ifCond .ne 13, 3) := by decide +kernel
theorem dX6_make_63 : decode cX6_make 63 = .ok (.new 59, 3) := by decide +kernel
theorem dX6_make_66 : decode cX6_make 66 = .ok (.dup, 1) := by decide +kernel
theorem dX6_make_67 : decode cX6_make 67 = .ok (.ldc 68, 2) := by decide +kernel
theorem dX6_make_69 : decode cX6_make 69 = .ok (.invokespecial 63, 3) := by decide +kernel
theorem dX6_make_72 : decode cX6_make 72 = .ok (.athrow, 1) := by decide +kernel
theorem dX6_make_73 : decode cX6_make 73 = .ok (.aload_n 0, 1) := by decide +kernel
theorem dX6_make_74 : decode cX6_make 74 = .ok (.getfield 10, 3) := by decide +kernel
theorem dX6_make_77 : decode cX6_make 77 = .ok (.getfield 70, 3) := by decide +kernel
theorem dX6_make_80 : decode cX6_make 80 = .ok (.bipush 10, 2) := by decide +kernel
theorem dX6_make_82 : decode cX6_make 82 = .ok (.if_icmp .lt 13, 3) := by decide +kernel
theorem dX6_make_85 : decode cX6_make 85 = .ok (.new 73, 3) := by decide +kernel
theorem dX6_make_88 : decode cX6_make 88 = .ok (.dup, 1) := by decide +kernel
theorem dX6_make_89 : decode cX6_make 89 = .ok (.ldc 75, 2) := by decide +kernel
theorem dX6_make_91 : decode cX6_make 91 = .ok (.invokespecial 77, 3) := by decide +kernel
theorem dX6_make_94 : decode cX6_make 94 = .ok (.athrow, 1) := by decide +kernel
theorem dX6_make_95 : decode cX6_make 95 = .ok (.aload_n 0, 1) := by decide +kernel
theorem dX6_make_96 : decode cX6_make 96 = .ok (.getfield 26, 3) := by decide +kernel
theorem dX6_make_99 : decode cX6_make 99 = .ok (.aload_n 0, 1) := by decide +kernel
theorem dX6_make_100 : decode cX6_make 100 = .ok (.getfield 10, 3) := by decide +kernel
theorem dX6_make_103 : decode cX6_make 103 = .ok (.invokevirtual 78, 3) := by decide +kernel
theorem dX6_make_106 : decode cX6_make 106 = .ok (.aload_n 0, 1) := by decide +kernel
theorem dX6_make_107 : decode cX6_make 107 = .ok (.getfield 10, 3) := by decide +kernel
theorem dX6_make_110 : decode cX6_make 110 = .ok (.iload_n 1, 1) := by decide +kernel
theorem dX6_make_111 : decode cX6_make 111 = .ok (.iload_n 2, 1) := by decide +kernel
theorem dX6_make_112 : decode cX6_make 112 = .ok (.iload_n 3, 1) := by decide +kernel
theorem dX6_make_113 : decode cX6_make 113 = .ok (.invokevirtual 82, 3) := by decide +kernel
theorem dX6_make_116 : decode cX6_make 116 = .ok (.ireturn, 1) := by decide +kernel
theorem dX6_withdraw_0 : decode cX6_withdraw 0 = .ok (.aload_n 0, 1) := by decide +kernel
theorem dX6_withdraw_1 : decode cX6_withdraw 1 = .ok (.iload_n 1, 1) := by decide +kernel
theorem dX6_withdraw_2 : decode cX6_withdraw 2 = .ok (.invokevirtual 86, 3) := by decide +kernel
theorem dX6_withdraw_5 : decode cX6_withdraw 5 = .ok (.aload_n 0, 1) := by decide +kernel
theorem dX6_withdraw_6 : decode cX6_withdraw 6 = .ok (.getfield 26, 3) := by decide +kernel
theorem dX6_withdraw_9 : decode cX6_withdraw 9 = .ok (.aload_n 0, 1) := by decide +kernel
theorem dX6_withdraw_10 : decode cX6_withdraw 10 = .ok (.getfield 10, 3) := by decide +kernel
theorem dX6_withdraw_13 : decode cX6_withdraw 13 = .ok (.invokevirtual 78, 3) := by decide +kernel
theorem dX6_withdraw_16 : decode cX6_withdraw 16 = .ok (.aload_n 0, 1) := by decide +kernel
theorem dX6_withdraw_17 : decode cX6_withdraw 17 = .ok (.getfield 10, 3) := by decide +kernel
theorem dX6_withdraw_20 : decode cX6_withdraw 20 = .ok (.iload_n 1, 1) := by decide +kernel
theorem dX6_withdraw_21 : decode cX6_withdraw 21 = .ok (.invokevirtual 90, 3) := by decide +kernel
theorem dX6_withdraw_24 : decode cX6_withdraw 24 = .ok (.aload_n 0, 1) := by decide +kernel
theorem dX6_withdraw_25 : decode cX6_withdraw 25 = .ok (.getfield 10, 3) := by decide +kernel
theorem dX6_withdraw_28 : decode cX6_withdraw 28 = .ok (.getfield 70, 3) := by decide +kernel
theorem dX6_withdraw_31 : decode cX6_withdraw 31 = .ok (.ireturn, 1) := by decide +kernel
theorem dX6_setStrict_0 : decode cX6_setStrict 0 = .ok (.aload_n 0, 1) := by decide +kernel
theorem dX6_setStrict_1 : decode cX6_setStrict 1 = .ok (.iload_n 1, 1) := by decide +kernel
theorem dX6_setStrict_2 : decode cX6_setStrict 2 = .ok (.invokevirtual 86, 3) := by decide +kernel
theorem dX6_setStrict_5 : decode cX6_setStrict 5 = .ok (.aload_n 0, 1) := by decide +kernel
theorem dX6_setStrict_6 : decode cX6_setStrict 6 = .ok (.getfield 26, 3) := by decide +kernel
theorem dX6_setStrict_9 : decode cX6_setStrict 9 = .ok (.aload_n 0, 1) := by decide +kernel
theorem dX6_setStrict_10 : decode cX6_setStrict 10 = .ok (.getfield 10, 3) := by decide +kernel
theorem dX6_setStrict_13 : decode cX6_setStrict 13 = .ok (.invokevirtual 78, 3) := by decide +kernel
theorem dX6_setStrict_16 : decode cX6_setStrict 16 = .ok (.aload_n 0, 1) := by decide +kernel
theorem dX6_setStrict_17 : decode cX6_setStrict 17 = .ok (.getfield 10, 3) := by decide +kernel
theorem dX6_setStrict_20 : decode cX6_setStrict 20 = .ok (.iload_n 1, 1) := by decide +kernel
theorem dX6_setStrict_21 : decode cX6_setStrict 21 = .ok (.invokevirtual 93, 3) := by decide +kernel
theorem dX6_setStrict_24 : decode cX6_setStrict 24 = .ok (.getfield 97, 3) := by decide +kernel
theorem dX6_setStrict_27 : decode cX6_setStrict 27 = .ok (.istore_n 3, 1) := by decide +kernel
theorem dX6_setStrict_28 : decode cX6_setStrict 28 = .ok (.aload_n 0, 1) := by decide +kernel
theorem dX6_setStrict_29 : decode cX6_setStrict 29 = .ok (.getfield 10, 3) := by decide +kernel
theorem dX6_setStrict_32 : decode cX6_setStrict 32 = .ok (.iload_n 1, 1) := by decide +kernel
theorem dX6_setStrict_33 : decode cX6_setStrict 33 = .ok (.invokevirtual 93, 3) := by decide +kernel
theorem dX6_setStrict_36 : decode cX6_setStrict 36 = .ok (.iload_n 2, 1) := by decide +kernel
theorem dX6_setStrict_37 : decode cX6_setStrict 37 = .ok (.putfield 97, 3) := by decide +kernel
theorem dX6_setStrict_40 : decode cX6_setStrict 40 = .ok (.iload_n 3, 1) := by decide +kernel
theorem dX6_setStrict_41 : decode cX6_setStrict 41 = .ok (.ireturn, 1) := by decide +kernel
theorem dX6_waive_0 : decode cX6_waive 0 = .ok (.aload_n 0, 1) := by decide +kernel
theorem dX6_waive_1 : decode cX6_waive 1 = .ok (.iload_n 1, 1) := by decide +kernel
theorem dX6_waive_2 : decode cX6_waive 2 = .ok (.invokevirtual 86, 3) := by decide +kernel
theorem dX6_waive_5 : decode cX6_waive 5 = .ok (.iload_n 2, 1) := by decide +kernel
theorem dX6_waive_6 : decode cX6_waive 6 = .ok (.ifCond .lt 9, 3) := by decide +kernel
theorem dX6_waive_9 : decode cX6_waive 9 = .ok (.iload_n 2, 1) := by decide +kernel
theorem dX6_waive_10 : decode cX6_waive 10 = .ok (.bipush 30, 2) := by decide +kernel
theorem dX6_waive_12 : decode cX6_waive 12 = .ok (.if_icmp .le 13, 3) := by decide +kernel
theorem dX6_waive_15 : decode cX6_waive 15 = .ok (.new 59, 3) := by decide +kernel
theorem dX6_waive_18 : decode cX6_waive 18 = .ok (.dup, 1) := by decide +kernel
theorem dX6_waive_19 : decode cX6_waive 19 = .ok (.ldc 102, 2) := by decide +kernel
theorem dX6_waive_21 : decode cX6_waive 21 = .ok (.invokespecial 63, 3) := by decide +kernel
theorem dX6_waive_24 : decode cX6_waive 24 = .ok (.athrow, 1) := by decide +kernel
theorem dX6_waive_25 : decode cX6_waive 25 = .ok (.aload_n 0, 1) := by decide +kernel
theorem dX6_waive_26 : decode cX6_waive 26 = .ok (.getfield 26, 3) := by decide +kernel
theorem dX6_waive_29 : decode cX6_waive 29 = .ok (.aload_n 0, 1) := by decide +kernel
theorem dX6_waive_30 : decode cX6_waive 30 = .ok (.getfield 10, 3) := by decide +kernel
theorem dX6_waive_33 : decode cX6_waive 33 = .ok (.invokevirtual 78, 3) := by decide +kernel
theorem dX6_waive_36 : decode cX6_waive 36 = .ok (.aload_n 0, 1) := by decide +kernel
theorem dX6_waive_37 : decode cX6_waive 37 = .ok (.getfield 10, 3) := by decide +kernel
theorem dX6_waive_40 : decode cX6_waive 40 = .ok (.iload_n 1, 1) := by decide +kernel
theorem dX6_waive_41 : decode cX6_waive 41 = .ok (.iload_n 2, 1) := by decide +kernel
theorem dX6_waive_42 : decode cX6_waive 42 = .ok (.invokevirtual 104, 3) := by decide +kernel
theorem dX6_waive_45 : decode cX6_waive 45 = .ok (.ireturn, 1) := by decide +kernel
theorem dX6_come_0 : decode cX6_come 0 = .ok (.iload_n 1, 1) := by decide +kernel
theorem dX6_come_1 : decode cX6_come 1 = .ok (.invokestatic 108, 3) := by decide +kernel
theorem dX6_come_4 : decode cX6_come 4 = .ok (.aload_n 0, 1) := by decide +kernel
theorem dX6_come_5 : decode cX6_come 5 = .ok (.getfield 10, 3) := by decide +kernel
theorem dX6_come_8 : decode cX6_come 8 = .ok (.iload_n 1, 1) := by decide +kernel
theorem dX6_come_9 : decode cX6_come 9 = .ok (.iconst 0, 1) := by decide +kernel
theorem dX6_come_10 : decode cX6_come 10 = .ok (.invokevirtual 111, 3) := by decide +kernel
theorem dX6_come_13 : decode cX6_come 13 = .ok (.ifCond .ne 13, 3) := by decide +kernel
theorem dX6_come_16 : decode cX6_come 16 = .ok (.new 73, 3) := by decide +kernel
theorem dX6_come_19 : decode cX6_come 19 = .ok (.dup, 1) := by decide +kernel
theorem dX6_come_20 : decode cX6_come 20 = .ok (.ldc 115, 2) := by decide +kernel
theorem dX6_come_22 : decode cX6_come 22 = .ok (.invokespecial 77, 3) := by decide +kernel
theorem dX6_come_25 : decode cX6_come 25 = .ok (.athrow, 1) := by decide +kernel
theorem dX6_come_26 : decode cX6_come 26 = .ok (.aload_n 0, 1) := by decide +kernel
theorem dX6_come_27 : decode cX6_come 27 = .ok (.getfield 26, 3) := by decide +kernel
theorem dX6_come_30 : decode cX6_come 30 = .ok (.aload_n 0, 1) := by decide +kernel
theorem dX6_come_31 : decode cX6_come 31 = .ok (.getfield 10, 3) := by decide +kernel
theorem dX6_come_34 : decode cX6_come 34 = .ok (.invokevirtual 78, 3) := by decide +kernel
theorem dX6_come_37 : decode cX6_come 37 = .ok (.aload_n 0, 1) := by decide +kernel
theorem dX6_come_38 : decode cX6_come 38 = .ok (.getfield 10, 3) := by decide +kernel
theorem dX6_come_41 : decode cX6_come 41 = .ok (.iload_n 1, 1) := by decide +kernel
theorem dX6_come_42 : decode cX6_come 42 = .ok (.invokevirtual 117, 3) := by decide +kernel
theorem dX6_come_45 : decode cX6_come 45 = .ok (.ireturn, 1) := by decide +kernel
theorem dX6_go_0 : decode cX6_go 0 = .ok (.iload_n 1, 1) := by decide +kernel
theorem dX6_go_1 : decode cX6_go 1 = .ok (.invokestatic 108, 3) := by decide +kernel
theorem dX6_go_4 : decode cX6_go 4 = .ok (.aload_n 0, 1) := by decide +kernel
theorem dX6_go_5 : decode cX6_go 5 = .ok (.getfield 10, 3) := by decide +kernel
theorem dX6_go_8 : decode cX6_go 8 = .ok (.iload_n 1, 1) := by decide +kernel
theorem dX6_go_9 : decode cX6_go 9 = .ok (.iconst 1, 1) := by decide +kernel
theorem dX6_go_10 : decode cX6_go 10 = .ok (.invokevirtual 111, 3) := by decide +kernel
theorem dX6_go_13 : decode cX6_go 13 = .ok (.ifCond .ne 13, 3) := by decide +kernel
theorem dX6_go_16 : decode cX6_go 16 = .ok (.new 73, 3) := by decide +kernel
theorem dX6_go_19 : decode cX6_go 19 = .ok (.dup, 1) := by decide +kernel
theorem dX6_go_20 : decode cX6_go 20 = .ok (.ldc 121, 2) := by decide +kernel
theorem dX6_go_22 : decode cX6_go 22 = .ok (.invokespecial 77, 3) := by decide +kernel
theorem dX6_go_25 : decode cX6_go 25 = .ok (.athrow, 1) := by decide +kernel
theorem dX6_go_26 : decode cX6_go 26 = .ok (.aload_n 0, 1) := by decide +kernel
theorem dX6_go_27 : decode cX6_go 27 = .ok (.getfield 26, 3) := by decide +kernel
theorem dX6_go_30 : decode cX6_go 30 = .ok (.aload_n 0, 1) := by decide +kernel
theorem dX6_go_31 : decode cX6_go 31 = .ok (.getfield 10, 3) := by decide +kernel
theorem dX6_go_34 : decode cX6_go 34 = .ok (.invokevirtual 78, 3) := by decide +kernel
theorem dX6_go_37 : decode cX6_go 37 = .ok (.aload_n 0, 1) := by decide +kernel
theorem dX6_go_38 : decode cX6_go 38 = .ok (.getfield 10, 3) := by decide +kernel
theorem dX6_go_41 : decode cX6_go 41 = .ok (.iload_n 1, 1) := by decide +kernel
theorem dX6_go_42 : decode cX6_go 42 = .ok (.invokevirtual 117, 3) := by decide +kernel
theorem dX6_go_45 : decode cX6_go 45 = .ok (.ireturn, 1) := by decide +kernel
theorem dX6_pass_0 : decode cX6_pass 0 = .ok (.iload_n 1, 1) := by decide +kernel
theorem dX6_pass_1 : decode cX6_pass 1 = .ok (.invokestatic 123, 3) := by decide +kernel
theorem dX6_pass_4 : decode cX6_pass 4 = .ok (.aload_n 0, 1) := by decide +kernel
theorem dX6_pass_5 : decode cX6_pass 5 = .ok (.getfield 26, 3) := by decide +kernel
theorem dX6_pass_8 : decode cX6_pass 8 = .ok (.aload_n 0, 1) := by decide +kernel
theorem dX6_pass_9 : decode cX6_pass 9 = .ok (.getfield 10, 3) := by decide +kernel
theorem dX6_pass_12 : decode cX6_pass 12 = .ok (.invokevirtual 78, 3) := by decide +kernel
theorem dX6_pass_15 : decode cX6_pass 15 = .ok (.aload_n 0, 1) := by decide +kernel
theorem dX6_pass_16 : decode cX6_pass 16 = .ok (.getfield 10, 3) := by decide +kernel
theorem dX6_pass_19 : decode cX6_pass 19 = .ok (.iload_n 1, 1) := by decide +kernel
theorem dX6_pass_20 : decode cX6_pass 20 = .ok (.invokevirtual 126, 3) := by decide +kernel
theorem dX6_pass_23 : decode cX6_pass 23 = .ok (.ireturn, 1) := by decide +kernel
theorem dX6_append_0 : decode cX6_append 0 = .ok (.iload_n 1, 1) := by decide +kernel
theorem dX6_append_1 : decode cX6_append 1 = .ok (.bipush 33, 2) := by decide +kernel
theorem dX6_append_3 : decode cX6_append 3 = .ok (.if_icmp .lt 9, 3) := by decide +kernel
theorem dX6_append_6 : decode cX6_append 6 = .ok (.iload_n 1, 1) := by decide +kernel
theorem dX6_append_7 : decode cX6_append 7 = .ok (.bipush 126, 2) := by decide +kernel
theorem dX6_append_9 : decode cX6_append 9 = .ok (.if_icmp .le 13, 3) := by decide +kernel
theorem dX6_append_12 : decode cX6_append 12 = .ok (.new 59, 3) := by decide +kernel
theorem dX6_append_15 : decode cX6_append 15 = .ok (.dup, 1) := by decide +kernel
theorem dX6_append_16 : decode cX6_append 16 = .ok (.ldc 129, 2) := by decide +kernel
theorem dX6_append_18 : decode cX6_append 18 = .ok (.invokespecial 63, 3) := by decide +kernel
theorem dX6_append_21 : decode cX6_append 21 = .ok (.athrow, 1) := by decide +kernel
theorem dX6_append_22 : decode cX6_append 22 = .ok (.aload_n 0, 1) := by decide +kernel
theorem dX6_append_23 : decode cX6_append 23 = .ok (.getfield 34, 3) := by decide +kernel
theorem dX6_append_26 : decode cX6_append 26 = .ok (.ifCond .lt 15, 3) := by decide +kernel
theorem dX6_append_29 : decode cX6_append 29 = .ok (.aload_n 0, 1) := by decide +kernel
theorem dX6_append_30 : decode cX6_append 30 = .ok (.getfield 34, 3) := by decide +kernel
theorem dX6_append_33 : decode cX6_append 33 = .ok (.aload_n 0, 1) := by decide +kernel
theorem dX6_append_34 : decode cX6_append 34 = .ok (.getfield 30, 3) := by decide +kernel
theorem dX6_append_37 : decode cX6_append 37 = .ok (.arraylength, 1) := by decide +kernel
theorem dX6_append_38 : decode cX6_append 38 = .ok (.if_icmp .lt 13, 3) := by decide +kernel
theorem dX6_append_41 : decode cX6_append 41 = .ok (.new 73, 3) := by decide +kernel
theorem dX6_append_44 : decode cX6_append 44 = .ok (.dup, 1) := by decide +kernel
theorem dX6_append_45 : decode cX6_append 45 = .ok (.ldc 131, 2) := by decide +kernel
theorem dX6_append_47 : decode cX6_append 47 = .ok (.invokespecial 77, 3) := by decide +kernel
theorem dX6_append_50 : decode cX6_append 50 = .ok (.athrow, 1) := by decide +kernel
theorem dX6_append_51 : decode cX6_append 51 = .ok (.aload_n 0, 1) := by decide +kernel
theorem dX6_append_52 : decode cX6_append 52 = .ok (.getfield 30, 3) := by decide +kernel
theorem dX6_append_55 : decode cX6_append 55 = .ok (.aload_n 0, 1) := by decide +kernel
theorem dX6_append_56 : decode cX6_append 56 = .ok (.getfield 34, 3) := by decide +kernel
theorem dX6_append_59 : decode cX6_append 59 = .ok (.iload_n 1, 1) := by decide +kernel
theorem dX6_append_60 : decode cX6_append 60 = .ok (.iastore, 1) := by decide +kernel
theorem dX6_append_61 : decode cX6_append 61 = .ok (.aload_n 0, 1) := by decide +kernel
theorem dX6_append_62 : decode cX6_append 62 = .ok (.dup, 1) := by decide +kernel
theorem dX6_append_63 : decode cX6_append 63 = .ok (.getfield 34, 3) := by decide +kernel
theorem dX6_append_66 : decode cX6_append 66 = .ok (.iconst 1, 1) := by decide +kernel
theorem dX6_append_67 : decode cX6_append 67 = .ok (.iadd, 1) := by decide +kernel
theorem dX6_append_68 : decode cX6_append 68 = .ok (.putfield 34, 3) := by decide +kernel
theorem dX6_append_71 : decode cX6_append 71 = .ok (.aload_n 0, 1) := by decide +kernel
theorem dX6_append_72 : decode cX6_append 72 = .ok (.getfield 34, 3) := by decide +kernel
theorem dX6_append_75 : decode cX6_append 75 = .ok (.ireturn, 1) := by decide +kernel
theorem dX6_clearBuffer_0 : decode cX6_clearBuffer 0 = .ok (.aload_n 0, 1) := by decide +kernel
theorem dX6_clearBuffer_1 : decode cX6_clearBuffer 1 = .ok (.getfield 34, 3) := by decide +kernel
theorem dX6_clearBuffer_4 : decode cX6_clearBuffer 4 = .ok (.istore_n 1, 1) := by decide +kernel
theorem dX6_clearBuffer_5 : decode cX6_clearBuffer 5 = .ok (.aload_n 0, 1) := by decide +kernel
theorem dX6_clearBuffer_6 : decode cX6_clearBuffer 6 = .ok (.iconst 0, 1) := by decide +kernel
theorem dX6_clearBuffer_7 : decode cX6_clearBuffer 7 = .ok (.putfield 34, 3) := by decide +kernel
theorem dX6_clearBuffer_10 : decode cX6_clearBuffer 10 = .ok (.iload_n 1, 1) := by decide +kernel
theorem dX6_clearBuffer_11 : decode cX6_clearBuffer 11 = .ok (.ireturn, 1) := by decide +kernel
theorem dX6_firstError_0 : decode cX6_firstError 0 = .ok (.aload_n 0, 1) := by decide +kernel
theorem dX6_firstError_1 : decode cX6_firstError 1 = .ok (.invokevirtual 133, 3) := by decide +kernel
theorem dX6_firstError_4 : decode cX6_firstError 4 = .ok (.ireturn, 1) := by decide +kernel
theorem dX6_runLog_0 : decode cX6_runLog 0 = .ok (.aload_n 0, 1) := by decide +kernel
theorem dX6_runLog_1 : decode cX6_runLog 1 = .ok (.invokevirtual 133, 3) := by decide +kernel
theorem dX6_runLog_4 : decode cX6_runLog 4 = .ok (.aload_n 0, 1) := by decide +kernel
theorem dX6_runLog_5 : decode cX6_runLog 5 = .ok (.getfield 34, 3) := by decide +kernel
theorem dX6_runLog_8 : decode cX6_runLog 8 = .ok (.if_icmp .lt 13, 3) := by decide +kernel
theorem dX6_runLog_11 : decode cX6_runLog 11 = .ok (.aload_n 0, 1) := by decide +kernel
theorem dX6_runLog_12 : decode cX6_runLog 12 = .ok (.getfield 41, 3) := by decide +kernel
theorem dX6_runLog_15 : decode cX6_runLog 15 = .ok (.invokevirtual 137, 3) := by decide +kernel
theorem dX6_runLog_18 : decode cX6_runLog 18 = .ok (.ifCond .ne 13, 3) := by decide +kernel
theorem dX6_runLog_21 : decode cX6_runLog 21 = .ok (.new 59, 3) := by decide +kernel
theorem dX6_runLog_24 : decode cX6_runLog 24 = .ok (.dup, 1) := by decide +kernel
theorem dX6_runLog_25 : decode cX6_runLog 25 = .ok (.ldc 141, 2) := by decide +kernel
theorem dX6_runLog_27 : decode cX6_runLog 27 = .ok (.invokespecial 63, 3) := by decide +kernel
theorem dX6_runLog_30 : decode cX6_runLog 30 = .ok (.athrow, 1) := by decide +kernel
theorem dX6_runLog_31 : decode cX6_runLog 31 = .ok (.aload_n 0, 1) := by decide +kernel
theorem dX6_runLog_32 : decode cX6_runLog 32 = .ok (.getfield 26, 3) := by decide +kernel
theorem dX6_runLog_35 : decode cX6_runLog 35 = .ok (.aload_n 0, 1) := by decide +kernel
theorem dX6_runLog_36 : decode cX6_runLog 36 = .ok (.getfield 10, 3) := by decide +kernel
theorem dX6_runLog_39 : decode cX6_runLog 39 = .ok (.invokevirtual 78, 3) := by decide +kernel
theorem dX6_runLog_42 : decode cX6_runLog 42 = .ok (.aload_n 0, 1) := by decide +kernel
theorem dX6_runLog_43 : decode cX6_runLog 43 = .ok (.invokevirtual 143, 3) := by decide +kernel
theorem dX6_runLog_46 : decode cX6_runLog 46 = .ok (.istore_n 1, 1) := by decide +kernel
theorem dX6_runLog_47 : decode cX6_runLog 47 = .ok (.aload_n 0, 1) := by decide +kernel
theorem dX6_runLog_48 : decode cX6_runLog 48 = .ok (.iconst 0, 1) := by decide +kernel
theorem dX6_runLog_49 : decode cX6_runLog 49 = .ok (.putfield 34, 3) := by decide +kernel
theorem dX6_runLog_52 : decode cX6_runLog 52 = .ok (.iload_n 1, 1) := by decide +kernel
theorem dX6_runLog_53 : decode cX6_runLog 53 = .ok (.ireturn, 1) := by decide +kernel
theorem dX6_keep_0 : decode cX6_keep 0 = .ok (.aload_n 0, 1) := by decide +kernel
theorem dX6_keep_1 : decode cX6_keep 1 = .ok (.getfield 16, 3) := by decide +kernel
theorem dX6_keep_4 : decode cX6_keep 4 = .ok (.aload_n 0, 1) := by decide +kernel
theorem dX6_keep_5 : decode cX6_keep 5 = .ok (.getfield 10, 3) := by decide +kernel
theorem dX6_keep_8 : decode cX6_keep 8 = .ok (.invokevirtual 146, 3) := by decide +kernel
theorem dX6_keep_11 : decode cX6_keep 11 = .ok (.aload_n 0, 1) := by decide +kernel
theorem dX6_keep_12 : decode cX6_keep 12 = .ok (.iconst 1, 1) := by decide +kernel
theorem dX6_keep_13 : decode cX6_keep 13 = .ok (.putfield 19, 3) := by decide +kernel
theorem dX6_keep_16 : decode cX6_keep 16 = .ok (.aload_n 0, 1) := by decide +kernel
theorem dX6_keep_17 : decode cX6_keep 17 = .ok (.getfield 10, 3) := by decide +kernel
theorem dX6_keep_20 : decode cX6_keep 20 = .ok (.getfield 149, 3) := by decide +kernel
theorem dX6_keep_23 : decode cX6_keep 23 = .ok (.ireturn, 1) := by decide +kernel
theorem dX6_goBack_0 : decode cX6_goBack 0 = .ok (.aload_n 0, 1) := by decide +kernel
theorem dX6_goBack_1 : decode cX6_goBack 1 = .ok (.getfield 19, 3) := by decide +kernel
theorem dX6_goBack_4 : decode cX6_goBack 4 = .ok (.ifCond .ne 13, 3) := by decide +kernel
theorem dX6_goBack_7 : decode cX6_goBack 7 = .ok (.new 73, 3) := by decide +kernel
theorem dX6_goBack_10 : decode cX6_goBack 10 = .ok (.dup, 1) := by decide +kernel
theorem dX6_goBack_11 : decode cX6_goBack 11 = .ok (.ldc 152, 2) := by decide +kernel
theorem dX6_goBack_13 : decode cX6_goBack 13 = .ok (.invokespecial 77, 3) := by decide +kernel
theorem dX6_goBack_16 : decode cX6_goBack 16 = .ok (.athrow, 1) := by decide +kernel
theorem dX6_goBack_17 : decode cX6_goBack 17 = .ok (.aload_n 0, 1) := by decide +kernel
theorem dX6_goBack_18 : decode cX6_goBack 18 = .ok (.getfield 26, 3) := by decide +kernel
theorem dX6_goBack_21 : decode cX6_goBack 21 = .ok (.aload_n 0, 1) := by decide +kernel
theorem dX6_goBack_22 : decode cX6_goBack 22 = .ok (.getfield 10, 3) := by decide +kernel
theorem dX6_goBack_25 : decode cX6_goBack 25 = .ok (.invokevirtual 78, 3) := by decide +kernel
theorem dX6_goBack_28 : decode cX6_goBack 28 = .ok (.aload_n 0, 1) := by decide +kernel
theorem dX6_goBack_29 : decode cX6_goBack 29 = .ok (.getfield 10, 3) := by decide +kernel
theorem dX6_goBack_32 : decode cX6_goBack 32 = .ok (.aload_n 0, 1) := by decide +kernel
theorem dX6_goBack_33 : decode cX6_goBack 33 = .ok (.getfield 16, 3) := by decide +kernel
theorem dX6_goBack_36 : decode cX6_goBack 36 = .ok (.invokevirtual 146, 3) := by decide +kernel
theorem dX6_goBack_39 : decode cX6_goBack 39 = .ok (.aload_n 0, 1) := by decide +kernel
theorem dX6_goBack_40 : decode cX6_goBack 40 = .ok (.getfield 10, 3) := by decide +kernel
theorem dX6_goBack_43 : decode cX6_goBack 43 = .ok (.getfield 149, 3) := by decide +kernel
theorem dX6_goBack_46 : decode cX6_goBack 46 = .ok (.ireturn, 1) := by decide +kernel
theorem dX6_undo_0 : decode cX6_undo 0 = .ok (.aload_n 0, 1) := by decide +kernel
theorem dX6_undo_1 : decode cX6_undo 1 = .ok (.getfield 26, 3) := by decide +kernel
theorem dX6_undo_4 : decode cX6_undo 4 = .ok (.getfield 154, 3) := by decide +kernel
theorem dX6_undo_7 : decode cX6_undo 7 = .ok (.ifCond .gt 13, 3) := by decide +kernel
theorem dX6_undo_10 : decode cX6_undo 10 = .ok (.new 73, 3) := by decide +kernel
theorem dX6_undo_13 : decode cX6_undo 13 = .ok (.dup, 1) := by decide +kernel
theorem dX6_undo_14 : decode cX6_undo 14 = .ok (.ldc 155, 2) := by decide +kernel
theorem dX6_undo_16 : decode cX6_undo 16 = .ok (.invokespecial 77, 3) := by decide +kernel
theorem dX6_undo_19 : decode cX6_undo 19 = .ok (.athrow, 1) := by decide +kernel
theorem dX6_undo_20 : decode cX6_undo 20 = .ok (.aload_n 0, 1) := by decide +kernel
theorem dX6_undo_21 : decode cX6_undo 21 = .ok (.getfield 26, 3) := by decide +kernel
theorem dX6_undo_24 : decode cX6_undo 24 = .ok (.aload_n 0, 1) := by decide +kernel
theorem dX6_undo_25 : decode cX6_undo 25 = .ok (.getfield 10, 3) := by decide +kernel
theorem dX6_undo_28 : decode cX6_undo 28 = .ok (.invokevirtual 157, 3) := by decide +kernel
theorem dX6_undo_31 : decode cX6_undo 31 = .ok (.aload_n 0, 1) := by decide +kernel
theorem dX6_undo_32 : decode cX6_undo 32 = .ok (.getfield 26, 3) := by decide +kernel
theorem dX6_undo_35 : decode cX6_undo 35 = .ok (.getfield 154, 3) := by decide +kernel
theorem dX6_undo_38 : decode cX6_undo 38 = .ok (.ireturn, 1) := by decide +kernel
theorem dX6_rules_0 : decode cX6_rules 0 = .ok (.aload_n 0, 1) := by decide +kernel
theorem dX6_rules_1 : decode cX6_rules 1 = .ok (.getfield 10, 3) := by decide +kernel
theorem dX6_rules_4 : decode cX6_rules 4 = .ok (.getfield 70, 3) := by decide +kernel
theorem dX6_rules_7 : decode cX6_rules 7 = .ok (.ireturn, 1) := by decide +kernel
theorem dX6_shouldBeLet_0 : decode cX6_shouldBeLet 0 = .ok (.aload_n 0, 1) := by decide +kernel
theorem dX6_shouldBeLet_1 : decode cX6_shouldBeLet 1 = .ok (.iload_n 1, 1) := by decide +kernel
theorem dX6_shouldBeLet_2 : decode cX6_shouldBeLet 2 = .ok (.invokevirtual 86, 3) := by decide +kernel
theorem dX6_shouldBeLet_5 : decode cX6_shouldBeLet 5 = .ok (.aload_n 0, 1) := by decide +kernel
theorem dX6_shouldBeLet_6 : decode cX6_shouldBeLet 6 = .ok (.getfield 10, 3) := by decide +kernel
theorem dX6_shouldBeLet_9 : decode cX6_shouldBeLet 9 = .ok (.iload_n 1, 1) := by decide +kernel
theorem dX6_shouldBeLet_10 : decode cX6_shouldBeLet 10 = .ok (.invokevirtual 93, 3) := by decide +kernel
theorem dX6_shouldBeLet_13 : decode cX6_shouldBeLet 13 = .ok (.getfield 160, 3) := by decide +kernel
theorem dX6_shouldBeLet_16 : decode cX6_shouldBeLet 16 = .ok (.ireturn, 1) := by decide +kernel
theorem dX6_shouldBeEmpty_0 : decode cX6_shouldBeEmpty 0 = .ok (.aload_n 0, 1) := by decide +kernel
theorem dX6_shouldBeEmpty_1 : decode cX6_shouldBeEmpty 1 = .ok (.iload_n 1, 1) := by decide +kernel
theorem dX6_shouldBeEmpty_2 : decode cX6_shouldBeEmpty 2 = .ok (.invokevirtual 86, 3) := by decide +kernel
theorem dX6_shouldBeEmpty_5 : decode cX6_shouldBeEmpty 5 = .ok (.aload_n 0, 1) := by decide +kernel
theorem dX6_shouldBeEmpty_6 : decode cX6_shouldBeEmpty 6 = .ok (.getfield 10, 3) := by decide +kernel
theorem dX6_shouldBeEmpty_9 : decode cX6_shouldBeEmpty 9 = .ok (.iload_n 1, 1) := by decide +kernel
theorem dX6_shouldBeEmpty_10 : decode cX6_shouldBeEmpty 10 = .ok (.invokevirtual 93, 3) := by decide +kernel
theorem dX6_shouldBeEmpty_13 : decode cX6_shouldBeEmpty 13 = .ok (.getfield 163, 3) := by decide +kernel
theorem dX6_shouldBeEmpty_16 : decode cX6_shouldBeEmpty 16 = .ok (.ireturn, 1) := by decide +kernel
theorem dX6_fine_0 : decode cX6_fine 0 = .ok (.aload_n 0, 1) := by decide +kernel
theorem dX6_fine_1 : decode cX6_fine 1 = .ok (.iload_n 1, 1) := by decide +kernel
theorem dX6_fine_2 : decode cX6_fine 2 = .ok (.invokevirtual 86, 3) := by decide +kernel
theorem dX6_fine_5 : decode cX6_fine 5 = .ok (.aload_n 0, 1) := by decide +kernel
theorem dX6_fine_6 : decode cX6_fine 6 = .ok (.getfield 10, 3) := by decide +kernel
theorem dX6_fine_9 : decode cX6_fine 9 = .ok (.iload_n 1, 1) := by decide +kernel
theorem dX6_fine_10 : decode cX6_fine 10 = .ok (.invokevirtual 93, 3) := by decide +kernel
theorem dX6_fine_13 : decode cX6_fine 13 = .ok (.getfield 166, 3) := by decide +kernel
theorem dX6_fine_16 : decode cX6_fine 16 = .ok (.ireturn, 1) := by decide +kernel
theorem dX6_isStrict_0 : decode cX6_isStrict 0 = .ok (.aload_n 0, 1) := by decide +kernel
theorem dX6_isStrict_1 : decode cX6_isStrict 1 = .ok (.iload_n 1, 1) := by decide +kernel
theorem dX6_isStrict_2 : decode cX6_isStrict 2 = .ok (.invokevirtual 86, 3) := by decide +kernel
theorem dX6_isStrict_5 : decode cX6_isStrict 5 = .ok (.aload_n 0, 1) := by decide +kernel
theorem dX6_isStrict_6 : decode cX6_isStrict 6 = .ok (.getfield 10, 3) := by decide +kernel
theorem dX6_isStrict_9 : decode cX6_isStrict 9 = .ok (.iload_n 1, 1) := by decide +kernel
theorem dX6_isStrict_10 : decode cX6_isStrict 10 = .ok (.invokevirtual 93, 3) := by decide +kernel
theorem dX6_isStrict_13 : decode cX6_isStrict 13 = .ok (.getfield 97, 3) := by decide +kernel
theorem dX6_isStrict_16 : decode cX6_isStrict 16 = .ok (.ireturn, 1) := by decide +kernel
theorem dX6_waivedFor_0 : decode cX6_waivedFor 0 = .ok (.aload_n 0, 1) := by decide +kernel
theorem dX6_waivedFor_1 : decode cX6_waivedFor 1 = .ok (.iload_n 1, 1) := by decide +kernel
theorem dX6_waivedFor_2 : decode cX6_waivedFor 2 = .ok (.invokevirtual 86, 3) := by decide +kernel
theorem dX6_waivedFor_5 : decode cX6_waivedFor 5 = .ok (.aload_n 0, 1) := by decide +kernel
theorem dX6_waivedFor_6 : decode cX6_waivedFor 6 = .ok (.getfield 10, 3) := by decide +kernel
theorem dX6_waivedFor_9 : decode cX6_waivedFor 9 = .ok (.iload_n 1, 1) := by decide +kernel
theorem dX6_waivedFor_10 : decode cX6_waivedFor 10 = .ok (.invokevirtual 169, 3) := by decide +kernel
theorem dX6_waivedFor_13 : decode cX6_waivedFor 13 = .ok (.ireturn, 1) := by decide +kernel
theorem dX6_holdsIn_0 : decode cX6_holdsIn 0 = .ok (.aload_n 0, 1) := by decide +kernel
theorem dX6_holdsIn_1 : decode cX6_holdsIn 1 = .ok (.iload_n 1, 1) := by decide +kernel
theorem dX6_holdsIn_2 : decode cX6_holdsIn 2 = .ok (.invokevirtual 86, 3) := by decide +kernel
theorem dX6_holdsIn_5 : decode cX6_holdsIn 5 = .ok (.iload_n 2, 1) := by decide +kernel
theorem dX6_holdsIn_6 : decode cX6_holdsIn 6 = .ok (.ifCond .lt 9, 3) := by decide +kernel
theorem dX6_holdsIn_9 : decode cX6_holdsIn 9 = .ok (.iload_n 2, 1) := by decide +kernel
theorem dX6_holdsIn_10 : decode cX6_holdsIn 10 = .ok (.bipush 64, 2) := by decide +kernel
theorem dX6_holdsIn_12 : decode cX6_holdsIn 12 = .ok (.if_icmp .lt 13, 3) := by decide +kernel
theorem dX6_holdsIn_15 : decode cX6_holdsIn 15 = .ok (.new 59, 3) := by decide +kernel
theorem dX6_holdsIn_18 : decode cX6_holdsIn 18 = .ok (.dup, 1) := by decide +kernel
theorem dX6_holdsIn_19 : decode cX6_holdsIn 19 = .ok (.ldc 172, 2) := by decide +kernel
theorem dX6_holdsIn_21 : decode cX6_holdsIn 21 = .ok (.invokespecial 63, 3) := by decide +kernel
theorem dX6_holdsIn_24 : decode cX6_holdsIn 24 = .ok (.athrow, 1) := by decide +kernel
theorem dX6_holdsIn_25 : decode cX6_holdsIn 25 = .ok (.aload_n 0, 1) := by decide +kernel
theorem dX6_holdsIn_26 : decode cX6_holdsIn 26 = .ok (.getfield 10, 3) := by decide +kernel
theorem dX6_holdsIn_29 : decode cX6_holdsIn 29 = .ok (.iload_n 1, 1) := by decide +kernel
theorem dX6_holdsIn_30 : decode cX6_holdsIn 30 = .ok (.invokevirtual 93, 3) := by decide +kernel
theorem dX6_holdsIn_33 : decode cX6_holdsIn 33 = .ok (.iload_n 2, 1) := by decide +kernel
theorem dX6_holdsIn_34 : decode cX6_holdsIn 34 = .ok (.invokevirtual 174, 3) := by decide +kernel
theorem dX6_holdsIn_37 : decode cX6_holdsIn 37 = .ok (.ireturn, 1) := by decide +kernel
theorem dX6_way_0 : decode cX6_way 0 = .ok (.aload_n 0, 1) := by decide +kernel
theorem dX6_way_1 : decode cX6_way 1 = .ok (.getfield 10, 3) := by decide +kernel
theorem dX6_way_4 : decode cX6_way 4 = .ok (.getfield 178, 3) := by decide +kernel
theorem dX6_way_7 : decode cX6_way 7 = .ok (.ireturn, 1) := by decide +kernel
theorem dX6_day_0 : decode cX6_day 0 = .ok (.aload_n 0, 1) := by decide +kernel
theorem dX6_day_1 : decode cX6_day 1 = .ok (.getfield 10, 3) := by decide +kernel
theorem dX6_day_4 : decode cX6_day 4 = .ok (.getfield 149, 3) := by decide +kernel
theorem dX6_day_7 : decode cX6_day 7 = .ok (.ireturn, 1) := by decide +kernel
theorem dX6_inForce_0 : decode cX6_inForce 0 = .ok (.aload_n 0, 1) := by decide +kernel
theorem dX6_inForce_1 : decode cX6_inForce 1 = .ok (.getfield 10, 3) := by decide +kernel
theorem dX6_inForce_4 : decode cX6_inForce 4 = .ok (.aload_n 0, 1) := by decide +kernel
theorem dX6_inForce_5 : decode cX6_inForce 5 = .ok (.getfield 10, 3) := by decide +kernel
theorem dX6_inForce_8 : decode cX6_inForce 8 = .ok (.getfield 149, 3) := by decide +kernel
theorem dX6_inForce_11 : decode cX6_inForce 11 = .ok (.invokevirtual 181, 3) := by decide +kernel
theorem dX6_inForce_14 : decode cX6_inForce 14 = .ok (.ireturn, 1) := by decide +kernel
theorem dX6_broken_0 : decode cX6_broken 0 = .ok (.aload_n 0, 1) := by decide +kernel
theorem dX6_broken_1 : decode cX6_broken 1 = .ok (.getfield 10, 3) := by decide +kernel
theorem dX6_broken_4 : decode cX6_broken 4 = .ok (.aload_n 0, 1) := by decide +kernel
theorem dX6_broken_5 : decode cX6_broken 5 = .ok (.getfield 10, 3) := by decide +kernel
theorem dX6_broken_8 : decode cX6_broken 8 = .ok (.getfield 178, 3) := by decide +kernel
theorem dX6_broken_11 : decode cX6_broken 11 = .ok (.aload_n 0, 1) := by decide +kernel
theorem dX6_broken_12 : decode cX6_broken 12 = .ok (.getfield 10, 3) := by decide +kernel
theorem dX6_broken_15 : decode cX6_broken 15 = .ok (.getfield 149, 3) := by decide +kernel
theorem dX6_broken_18 : decode cX6_broken 18 = .ok (.invokevirtual 184, 3) := by decide +kernel
theorem dX6_broken_21 : decode cX6_broken 21 = .ok (.ireturn, 1) := by decide +kernel
theorem dX6_refusedBy_0 : decode cX6_refusedBy 0 = .ok (.iload_n 1, 1) := by decide +kernel
theorem dX6_refusedBy_1 : decode cX6_refusedBy 1 = .ok (.invokestatic 108, 3) := by decide +kernel
theorem dX6_refusedBy_4 : decode cX6_refusedBy 4 = .ok (.aload_n 0, 1) := by decide +kernel
theorem dX6_refusedBy_5 : decode cX6_refusedBy 5 = .ok (.getfield 10, 3) := by decide +kernel
theorem dX6_refusedBy_8 : decode cX6_refusedBy 8 = .ok (.iload_n 1, 1) := by decide +kernel
theorem dX6_refusedBy_9 : decode cX6_refusedBy 9 = .ok (.invokevirtual 187, 3) := by decide +kernel
theorem dX6_refusedBy_12 : decode cX6_refusedBy 12 = .ok (.ireturn, 1) := by decide +kernel
theorem dX6_finesOf_0 : decode cX6_finesOf 0 = .ok (.aload_n 0, 1) := by decide +kernel
theorem dX6_finesOf_1 : decode cX6_finesOf 1 = .ok (.iload_n 1, 1) := by decide +kernel
theorem dX6_finesOf_2 : decode cX6_finesOf 2 = .ok (.invokevirtual 86, 3) := by decide +kernel
theorem dX6_finesOf_5 : decode cX6_finesOf 5 = .ok (.aload_n 0, 1) := by decide +kernel
theorem dX6_finesOf_6 : decode cX6_finesOf 6 = .ok (.getfield 10, 3) := by decide +kernel
theorem dX6_finesOf_9 : decode cX6_finesOf 9 = .ok (.iload_n 1, 1) := by decide +kernel
theorem dX6_finesOf_10 : decode cX6_finesOf 10 = .ok (.invokevirtual 93, 3) := by decide +kernel
theorem dX6_finesOf_13 : decode cX6_finesOf 13 = .ok (.getfield 190, 3) := by decide +kernel
theorem dX6_finesOf_16 : decode cX6_finesOf 16 = .ok (.ireturn, 1) := by decide +kernel
theorem dX6_fines_0 : decode cX6_fines 0 = .ok (.aload_n 0, 1) := by decide +kernel
theorem dX6_fines_1 : decode cX6_fines 1 = .ok (.getfield 10, 3) := by decide +kernel
theorem dX6_fines_4 : decode cX6_fines 4 = .ok (.getfield 193, 3) := by decide +kernel
theorem dX6_fines_7 : decode cX6_fines 7 = .ok (.ireturn, 1) := by decide +kernel
theorem dX6_finesByRules_0 : decode cX6_finesByRules 0 = .ok (.aload_n 0, 1) := by decide +kernel
theorem dX6_finesByRules_1 : decode cX6_finesByRules 1 = .ok (.getfield 10, 3) := by decide +kernel
theorem dX6_finesByRules_4 : decode cX6_finesByRules 4 = .ok (.invokevirtual 196, 3) := by decide +kernel
theorem dX6_finesByRules_7 : decode cX6_finesByRules 7 = .ok (.ireturn, 1) := by decide +kernel
theorem dX6_canStand_0 : decode cX6_canStand 0 = .ok (.aload_n 0, 1) := by decide +kernel
theorem dX6_canStand_1 : decode cX6_canStand 1 = .ok (.iload_n 1, 1) := by decide +kernel
theorem dX6_canStand_2 : decode cX6_canStand 2 = .ok (.invokevirtual 199, 3) := by decide +kernel
theorem dX6_canStand_5 : decode cX6_canStand 5 = .ok (.aload_n 0, 1) := by decide +kernel
theorem dX6_canStand_6 : decode cX6_canStand 6 = .ok (.getfield 10, 3) := by decide +kernel
theorem dX6_canStand_9 : decode cX6_canStand 9 = .ok (.iload_n 1, 1) := by decide +kernel
theorem dX6_canStand_10 : decode cX6_canStand 10 = .ok (.invokevirtual 202, 3) := by decide +kernel
theorem dX6_canStand_13 : decode cX6_canStand 13 = .ok (.lconst 0, 1) := by decide +kernel
theorem dX6_canStand_14 : decode cX6_canStand 14 = .ok (.lcmp, 1) := by decide +kernel
theorem dX6_canStand_15 : decode cX6_canStand 15 = .ok (.ifCond .eq 7, 3) := by decide +kernel
theorem dX6_canStand_18 : decode cX6_canStand 18 = .ok (.iconst 1, 1) := by decide +kernel
theorem dX6_canStand_19 : decode cX6_canStand 19 = .ok (.goto 4, 3) := by decide +kernel
theorem dX6_canStand_22 : decode cX6_canStand 22 = .ok (.iconst 0, 1) := by decide +kernel
theorem dX6_canStand_23 : decode cX6_canStand 23 = .ok (.ireturn, 1) := by decide +kernel
theorem dX6_canStandBySplitting_0 : decode cX6_canStandBySplitting 0 = .ok (.aload_n 0, 1) := by decide +kernel
theorem dX6_canStandBySplitting_1 : decode cX6_canStandBySplitting 1 = .ok (.iload_n 1, 1) := by decide +kernel
theorem dX6_canStandBySplitting_2 : decode cX6_canStandBySplitting 2 = .ok (.invokevirtual 199, 3) := by decide +kernel
theorem dX6_canStandBySplitting_5 : decode cX6_canStandBySplitting 5 = .ok (.aload_n 0, 1) := by decide +kernel
theorem dX6_canStandBySplitting_6 : decode cX6_canStandBySplitting 6 = .ok (.getfield 10, 3) := by decide +kernel
theorem dX6_canStandBySplitting_9 : decode cX6_canStandBySplitting 9 = .ok (.iload_n 1, 1) := by decide +kernel
theorem dX6_canStandBySplitting_10 : decode cX6_canStandBySplitting 10 = .ok (.iconst 0, 1) := by decide +kernel
theorem dX6_canStandBySplitting_11 : decode cX6_canStandBySplitting 11 = .ok (.iconst 0, 1) := by decide +kernel
theorem dX6_canStandBySplitting_12 : decode cX6_canStandBySplitting 12 = .ok (.iconst 0, 1) := by decide +kernel
theorem dX6_canStandBySplitting_13 : decode cX6_canStandBySplitting 13 = .ok (.invokestatic 206, 3) := by decide +kernel
theorem dX6_canStandBySplitting_16 : decode cX6_canStandBySplitting 16 = .ok (.ifCond .le 7, 3) := by decide +kernel
theorem dX6_canStandBySplitting_19 : decode cX6_canStandBySplitting 19 = .ok (.iconst 1, 1) := by decide +kernel
theorem dX6_canStandBySplitting_20 : decode cX6_canStandBySplitting 20 = .ok (.goto 4, 3) := by decide +kernel
theorem dX6_canStandBySplitting_23 : decode cX6_canStandBySplitting 23 = .ok (.iconst 0, 1) := by decide +kernel
theorem dX6_canStandBySplitting_24 : decode cX6_canStandBySplitting 24 = .ok (.ireturn, 1) := by decide +kernel
theorem dX6_canStandByJoining_0 : decode cX6_canStandByJoining 0 = .ok (.aload_n 0, 1) := by decide +kernel
theorem dX6_canStandByJoining_1 : decode cX6_canStandByJoining 1 = .ok (.iload_n 1, 1) := by decide +kernel
theorem dX6_canStandByJoining_2 : decode cX6_canStandByJoining 2 = .ok (.invokevirtual 199, 3) := by decide +kernel
theorem dX6_canStandByJoining_5 : decode cX6_canStandByJoining 5 = .ok (.aload_n 0, 1) := by decide +kernel
theorem dX6_canStandByJoining_6 : decode cX6_canStandByJoining 6 = .ok (.getfield 48, 3) := by decide +kernel
theorem dX6_canStandByJoining_9 : decode cX6_canStandByJoining 9 = .ok (.aload_n 0, 1) := by decide +kernel
theorem dX6_canStandByJoining_10 : decode cX6_canStandByJoining 10 = .ok (.getfield 10, 3) := by decide +kernel
theorem dX6_canStandByJoining_13 : decode cX6_canStandByJoining 13 = .ok (.iload_n 1, 1) := by decide +kernel
theorem dX6_canStandByJoining_14 : decode cX6_canStandByJoining 14 = .ok (.invokevirtual 210, 3) := by decide +kernel
theorem dX6_canStandByJoining_17 : decode cX6_canStandByJoining 17 = .ok (.aload_n 0, 1) := by decide +kernel
theorem dX6_canStandByJoining_18 : decode cX6_canStandByJoining 18 = .ok (.getfield 48, 3) := by decide +kernel
theorem dX6_canStandByJoining_21 : decode cX6_canStandByJoining 21 = .ok (.invokevirtual 214, 3) := by decide +kernel
theorem dX6_canStandByJoining_24 : decode cX6_canStandByJoining 24 = .ok (.ifCond .ne 7, 3) := by decide +kernel
theorem dX6_canStandByJoining_27 : decode cX6_canStandByJoining 27 = .ok (.iconst 1, 1) := by decide +kernel
theorem dX6_canStandByJoining_28 : decode cX6_canStandByJoining 28 = .ok (.goto 4, 3) := by decide +kernel
theorem dX6_canStandByJoining_31 : decode cX6_canStandByJoining 31 = .ok (.iconst 0, 1) := by decide +kernel
theorem dX6_canStandByJoining_32 : decode cX6_canStandByJoining 32 = .ok (.ireturn, 1) := by decide +kernel
theorem dX6_joined_0 : decode cX6_joined 0 = .ok (.aload_n 0, 1) := by decide +kernel
theorem dX6_joined_1 : decode cX6_joined 1 = .ok (.iload_n 1, 1) := by decide +kernel
theorem dX6_joined_2 : decode cX6_joined 2 = .ok (.invokevirtual 199, 3) := by decide +kernel
theorem dX6_joined_5 : decode cX6_joined 5 = .ok (.aload_n 0, 1) := by decide +kernel
theorem dX6_joined_6 : decode cX6_joined 6 = .ok (.getfield 48, 3) := by decide +kernel
theorem dX6_joined_9 : decode cX6_joined 9 = .ok (.aload_n 0, 1) := by decide +kernel
theorem dX6_joined_10 : decode cX6_joined 10 = .ok (.getfield 10, 3) := by decide +kernel
theorem dX6_joined_13 : decode cX6_joined 13 = .ok (.iload_n 1, 1) := by decide +kernel
theorem dX6_joined_14 : decode cX6_joined 14 = .ok (.invokevirtual 210, 3) := by decide +kernel
theorem dX6_joined_17 : decode cX6_joined 17 = .ok (.aload_n 0, 1) := by decide +kernel
theorem dX6_joined_18 : decode cX6_joined 18 = .ok (.getfield 48, 3) := by decide +kernel
theorem dX6_joined_21 : decode cX6_joined 21 = .ok (.getfield 217, 3) := by decide +kernel
theorem dX6_joined_24 : decode cX6_joined 24 = .ok (.ireturn, 1) := by decide +kernel
theorem dX6_ways_0 : decode cX6_ways 0 = .ok (.aload_n 0, 1) := by decide +kernel
theorem dX6_ways_1 : decode cX6_ways 1 = .ok (.invokevirtual 218, 3) := by decide +kernel
theorem dX6_ways_4 : decode cX6_ways 4 = .ok (.ireturn, 1) := by decide +kernel
theorem dX6_waysBySplitting_0 : decode cX6_waysBySplitting 0 = .ok (.aload_n 0, 1) := by decide +kernel
theorem dX6_waysBySplitting_1 : decode cX6_waysBySplitting 1 = .ok (.getfield 10, 3) := by decide +kernel
theorem dX6_waysBySplitting_4 : decode cX6_waysBySplitting 4 = .ok (.aload_n 0, 1) := by decide +kernel
theorem dX6_waysBySplitting_5 : decode cX6_waysBySplitting 5 = .ok (.getfield 10, 3) := by decide +kernel
theorem dX6_waysBySplitting_8 : decode cX6_waysBySplitting 8 = .ok (.aload_n 0, 1) := by decide +kernel
theorem dX6_waysBySplitting_9 : decode cX6_waysBySplitting 9 = .ok (.getfield 10, 3) := by decide +kernel
theorem dX6_waysBySplitting_12 : decode cX6_waysBySplitting 12 = .ok (.getfield 149, 3) := by decide +kernel
theorem dX6_waysBySplitting_15 : decode cX6_waysBySplitting 15 = .ok (.invokevirtual 181, 3) := by decide +kernel
theorem dX6_waysBySplitting_18 : decode cX6_waysBySplitting 18 = .ok (.iconst 0, 1) := by decide +kernel
theorem dX6_waysBySplitting_19 : decode cX6_waysBySplitting 19 = .ok (.iconst 0, 1) := by decide +kernel
theorem dX6_waysBySplitting_20 : decode cX6_waysBySplitting 20 = .ok (.iconst 0, 1) := by decide +kernel
theorem dX6_waysBySplitting_21 : decode cX6_waysBySplitting 21 = .ok (.invokestatic 206, 3) := by decide +kernel
theorem dX6_waysBySplitting_24 : decode cX6_waysBySplitting 24 = .ok (.ireturn, 1) := by decide +kernel
theorem dX6_firstWay_0 : decode cX6_firstWay 0 = .ok (.aload_n 0, 1) := by decide +kernel
theorem dX6_firstWay_1 : decode cX6_firstWay 1 = .ok (.getfield 10, 3) := by decide +kernel
theorem dX6_firstWay_4 : decode cX6_firstWay 4 = .ok (.invokevirtual 221, 3) := by decide +kernel
theorem dX6_firstWay_7 : decode cX6_firstWay 7 = .ok (.lstore_n 1, 1) := by decide +kernel
theorem dX6_firstWay_8 : decode cX6_firstWay 8 = .ok (.iconst 0, 1) := by decide +kernel
theorem dX6_firstWay_9 : decode cX6_firstWay 9 = .ok (.istore_n 3, 1) := by decide +kernel
theorem dX6_firstWay_10 : decode cX6_firstWay 10 = .ok (.iload_n 3, 1) := by decide +kernel
theorem dX6_firstWay_11 : decode cX6_firstWay 11 = .ok (.bipush 64, 2) := by decide +kernel
theorem dX6_firstWay_13 : decode cX6_firstWay 13 = .ok (.if_icmp .ge 19, 3) := by decide +kernel
theorem dX6_firstWay_16 : decode cX6_firstWay 16 = .ok (.lload_n 1, 1) := by decide +kernel
theorem dX6_firstWay_17 : decode cX6_firstWay 17 = .ok (.iload_n 3, 1) := by decide +kernel
theorem dX6_firstWay_18 : decode cX6_firstWay 18 = .ok (.invokestatic 225, 3) := by decide +kernel
theorem dX6_firstWay_21 : decode cX6_firstWay 21 = .ok (.ifCond .eq 5, 3) := by decide +kernel
theorem dX6_firstWay_24 : decode cX6_firstWay 24 = .ok (.iload_n 3, 1) := by decide +kernel
theorem dX6_firstWay_25 : decode cX6_firstWay 25 = .ok (.ireturn, 1) := by decide +kernel
theorem dX6_firstWay_26 : decode cX6_firstWay 26 = .ok (.iinc 3 1, 3) := by decide +kernel
theorem dX6_firstWay_29 : decode cX6_firstWay 29 = .ok (.goto (-19), 3) := by decide +kernel
theorem dX6_firstWay_32 : decode cX6_firstWay 32 = .ok (.iconst (-1), 1) := by decide +kernel
theorem dX6_firstWay_33 : decode cX6_firstWay 33 = .ok (.ireturn, 1) := by decide +kernel
theorem dX6_forced_0 : decode cX6_forced 0 = .ok (.iload_n 1, 1) := by decide +kernel
theorem dX6_forced_1 : decode cX6_forced 1 = .ok (.invokestatic 108, 3) := by decide +kernel
theorem dX6_forced_4 : decode cX6_forced 4 = .ok (.aload_n 0, 1) := by decide +kernel
theorem dX6_forced_5 : decode cX6_forced 5 = .ok (.iload_n 1, 1) := by decide +kernel
theorem dX6_forced_6 : decode cX6_forced 6 = .ok (.invokevirtual 229, 3) := by decide +kernel
theorem dX6_forced_9 : decode cX6_forced 9 = .ok (.ireturn, 1) := by decide +kernel
theorem dX6_follows_0 : decode cX6_follows 0 = .ok (.aload_n 0, 1) := by decide +kernel
theorem dX6_follows_1 : decode cX6_follows 1 = .ok (.iload_n 1, 1) := by decide +kernel
theorem dX6_follows_2 : decode cX6_follows 2 = .ok (.invokevirtual 86, 3) := by decide +kernel
theorem dX6_follows_5 : decode cX6_follows 5 = .ok (.aload_n 0, 1) := by decide +kernel
theorem dX6_follows_6 : decode cX6_follows 6 = .ok (.iload_n 1, 1) := by decide +kernel
theorem dX6_follows_7 : decode cX6_follows 7 = .ok (.invokevirtual 232, 3) := by decide +kernel
theorem dX6_follows_10 : decode cX6_follows 10 = .ok (.ireturn, 1) := by decide +kernel
theorem dX6_followsBySplitting_0 : decode cX6_followsBySplitting 0 = .ok (.aload_n 0, 1) := by decide +kernel
theorem dX6_followsBySplitting_1 : decode cX6_followsBySplitting 1 = .ok (.iload_n 1, 1) := by decide +kernel
theorem dX6_followsBySplitting_2 : decode cX6_followsBySplitting 2 = .ok (.invokevirtual 86, 3) := by decide +kernel
theorem dX6_followsBySplitting_5 : decode cX6_followsBySplitting 5 = .ok (.aload_n 0, 1) := by decide +kernel
theorem dX6_followsBySplitting_6 : decode cX6_followsBySplitting 6 = .ok (.iload_n 1, 1) := by decide +kernel
theorem dX6_followsBySplitting_7 : decode cX6_followsBySplitting 7 = .ok (.invokevirtual 235, 3) := by decide +kernel
theorem dX6_followsBySplitting_10 : decode cX6_followsBySplitting 10 = .ok (.ireturn, 1) := by decide +kernel
theorem dX6_smallestClash_0 : decode cX6_smallestClash 0 = .ok (.aload_n 0, 1) := by decide +kernel
theorem dX6_smallestClash_1 : decode cX6_smallestClash 1 = .ok (.getfield 10, 3) := by decide +kernel
theorem dX6_smallestClash_4 : decode cX6_smallestClash 4 = .ok (.aload_n 0, 1) := by decide +kernel
theorem dX6_smallestClash_5 : decode cX6_smallestClash 5 = .ok (.getfield 10, 3) := by decide +kernel
theorem dX6_smallestClash_8 : decode cX6_smallestClash 8 = .ok (.getfield 149, 3) := by decide +kernel
theorem dX6_smallestClash_11 : decode cX6_smallestClash 11 = .ok (.invokevirtual 181, 3) := by decide +kernel
theorem dX6_smallestClash_14 : decode cX6_smallestClash 14 = .ok (.istore_n 1, 1) := by decide +kernel
theorem dX6_smallestClash_15 : decode cX6_smallestClash 15 = .ok (.aload_n 0, 1) := by decide +kernel
theorem dX6_smallestClash_16 : decode cX6_smallestClash 16 = .ok (.getfield 55, 3) := by decide +kernel
theorem dX6_smallestClash_19 : decode cX6_smallestClash 19 = .ok (.aload_n 0, 1) := by decide +kernel
theorem dX6_smallestClash_20 : decode cX6_smallestClash 20 = .ok (.getfield 10, 3) := by decide +kernel
theorem dX6_smallestClash_23 : decode cX6_smallestClash 23 = .ok (.invokevirtual 238, 3) := by decide +kernel
theorem dX6_smallestClash_26 : decode cX6_smallestClash 26 = .ok (.iconst (-1), 1) := by decide +kernel
theorem dX6_smallestClash_27 : decode cX6_smallestClash 27 = .ok (.istore_n 2, 1) := by decide +kernel
theorem dX6_smallestClash_28 : decode cX6_smallestClash 28 = .ok (.iconst 1, 1) := by decide +kernel
theorem dX6_smallestClash_29 : decode cX6_smallestClash 29 = .ok (.istore_n 3, 1) := by decide +kernel
theorem dX6_smallestClash_30 : decode cX6_smallestClash 30 = .ok (.iload_n 3, 1) := by decide +kernel
theorem dX6_smallestClash_31 : decode cX6_smallestClash 31 = .ok (.iload_n 1, 1) := by decide +kernel
theorem dX6_smallestClash_32 : decode cX6_smallestClash 32 = .ok (.if_icmp .gt 60, 3) := by decide +kernel
theorem dX6_smallestClash_35 : decode cX6_smallestClash 35 = .ok (.iload_n 3, 1) := by decide +kernel
theorem dX6_smallestClash_36 : decode cX6_smallestClash 36 = .ok (.iload_n 1, 1) := by decide +kernel
theorem dX6_smallestClash_37 : decode cX6_smallestClash 37 = .ok (.invokestatic 241, 3) := by decide +kernel
theorem dX6_smallestClash_40 : decode cX6_smallestClash 40 = .ok (.ifCond .eq 20, 3) := by decide +kernel
theorem dX6_smallestClash_43 : decode cX6_smallestClash 43 = .ok (.aload_n 0, 1) := by decide +kernel
theorem dX6_smallestClash_44 : decode cX6_smallestClash 44 = .ok (.getfield 55, 3) := by decide +kernel
theorem dX6_smallestClash_47 : decode cX6_smallestClash 47 = .ok (.iload_n 3, 1) := by decide +kernel
theorem dX6_smallestClash_48 : decode cX6_smallestClash 48 = .ok (.invokevirtual 245, 3) := by decide +kernel
theorem dX6_smallestClash_51 : decode cX6_smallestClash 51 = .ok (.lconst 0, 1) := by decide +kernel
theorem dX6_smallestClash_52 : decode cX6_smallestClash 52 = .ok (.lcmp, 1) := by decide +kernel
theorem dX6_smallestClash_53 : decode cX6_smallestClash 53 = .ok (.ifCond .ne 7, 3) := by decide +kernel
theorem dX6_smallestClash_56 : decode cX6_smallestClash 56 = .ok (.iconst 1, 1) := by decide +kernel
theorem dX6_smallestClash_57 : decode cX6_smallestClash 57 = .ok (.goto 4, 3) := by decide +kernel
theorem dX6_smallestClash_60 : decode cX6_smallestClash 60 = .ok (.iconst 0, 1) := by decide +kernel
theorem dX6_smallestClash_61 : decode cX6_smallestClash 61 = .ok (.istore 4, 2) := by decide +kernel
theorem dX6_smallestClash_63 : decode cX6_smallestClash 63 = .ok (.iload 4, 2) := by decide +kernel
theorem dX6_smallestClash_65 : decode cX6_smallestClash 65 = .ok (.ifCond .eq 21, 3) := by decide +kernel
theorem dX6_smallestClash_68 : decode cX6_smallestClash 68 = .ok (.iload_n 2, 1) := by decide +kernel
theorem dX6_smallestClash_69 : decode cX6_smallestClash 69 = .ok (.iconst (-1), 1) := by decide +kernel
theorem dX6_smallestClash_70 : decode cX6_smallestClash 70 = .ok (.if_icmp .eq 14, 3) := by decide +kernel
theorem dX6_smallestClash_73 : decode cX6_smallestClash 73 = .ok (.iload_n 3, 1) := by decide +kernel
theorem dX6_smallestClash_74 : decode cX6_smallestClash 74 = .ok (.invokestatic 248, 3) := by decide +kernel
theorem dX6_smallestClash_77 : decode cX6_smallestClash 77 = .ok (.iload_n 2, 1) := by decide +kernel
theorem dX6_smallestClash_78 : decode cX6_smallestClash 78 = .ok (.invokestatic 248, 3) := by decide +kernel
theorem dX6_smallestClash_81 : decode cX6_smallestClash 81 = .ok (.if_icmp .ge 5, 3) := by decide +kernel
theorem dX6_smallestClash_84 : decode cX6_smallestClash 84 = .ok (.iload_n 3, 1) := by decide +kernel
theorem dX6_smallestClash_85 : decode cX6_smallestClash 85 = .ok (.istore_n 2, 1) := by decide +kernel
theorem dX6_smallestClash_86 : decode cX6_smallestClash 86 = .ok (.iinc 3 1, 3) := by decide +kernel
theorem dX6_smallestClash_89 : decode cX6_smallestClash 89 = .ok (.goto (-59), 3) := by decide +kernel
theorem dX6_smallestClash_92 : decode cX6_smallestClash 92 = .ok (.iload_n 2, 1) := by decide +kernel
theorem dX6_smallestClash_93 : decode cX6_smallestClash 93 = .ok (.ireturn, 1) := by decide +kernel
theorem dX6_smallestClashByWays_0 : decode cX6_smallestClashByWays 0 = .ok (.aload_n 0, 1) := by decide +kernel
theorem dX6_smallestClashByWays_1 : decode cX6_smallestClashByWays 1 = .ok (.getfield 10, 3) := by decide +kernel
theorem dX6_smallestClashByWays_4 : decode cX6_smallestClashByWays 4 = .ok (.aload_n 0, 1) := by decide +kernel
theorem dX6_smallestClashByWays_5 : decode cX6_smallestClashByWays 5 = .ok (.getfield 10, 3) := by decide +kernel
theorem dX6_smallestClashByWays_8 : decode cX6_smallestClashByWays 8 = .ok (.getfield 149, 3) := by decide +kernel
theorem dX6_smallestClashByWays_11 : decode cX6_smallestClashByWays 11 = .ok (.invokevirtual 181, 3) := by decide +kernel
theorem dX6_smallestClashByWays_14 : decode cX6_smallestClashByWays 14 = .ok (.istore_n 1, 1) := by decide +kernel
theorem dX6_smallestClashByWays_15 : decode cX6_smallestClashByWays 15 = .ok (.iconst 1, 1) := by decide +kernel
theorem dX6_smallestClashByWays_16 : decode cX6_smallestClashByWays 16 = .ok (.istore_n 2, 1) := by decide +kernel
theorem dX6_smallestClashByWays_17 : decode cX6_smallestClashByWays 17 = .ok (.iload_n 2, 1) := by decide +kernel
theorem dX6_smallestClashByWays_18 : decode cX6_smallestClashByWays 18 = .ok (.bipush 10, 2) := by decide +kernel
theorem dX6_smallestClashByWays_20 : decode cX6_smallestClashByWays 20 = .ok (.if_icmp .gt 31, 3) := by decide +kernel
theorem dX6_smallestClashByWays_23 : decode cX6_smallestClashByWays 23 = .ok (.aload_n 0, 1) := by decide +kernel
theorem dX6_smallestClashByWays_24 : decode cX6_smallestClashByWays 24 = .ok (.getfield 10, 3) := by decide +kernel
theorem dX6_smallestClashByWays_27 : decode cX6_smallestClashByWays 27 = .ok (.iload_n 1, 1) := by decide +kernel
theorem dX6_smallestClashByWays_28 : decode cX6_smallestClashByWays 28 = .ok (.bipush 9, 2) := by decide +kernel
theorem dX6_smallestClashByWays_30 : decode cX6_smallestClashByWays 30 = .ok (.iload_n 2, 1) := by decide +kernel
theorem dX6_smallestClashByWays_31 : decode cX6_smallestClashByWays 31 = .ok (.ldc2_w 253, 3) := by decide +kernel
theorem dX6_smallestClashByWays_34 : decode cX6_smallestClashByWays 34 = .ok (.invokestatic 255, 3) := by decide +kernel
theorem dX6_smallestClashByWays_37 : decode cX6_smallestClashByWays 37 = .ok (.istore_n 3, 1) := by decide +kernel
theorem dX6_smallestClashByWays_38 : decode cX6_smallestClashByWays 38 = .ok (.iload_n 3, 1) := by decide +kernel
theorem dX6_smallestClashByWays_39 : decode cX6_smallestClashByWays 39 = .ok (.iconst (-1), 1) := by decide +kernel
theorem dX6_smallestClashByWays_40 : decode cX6_smallestClashByWays 40 = .ok (.if_icmp .eq 5, 3) := by decide +kernel
theorem dX6_smallestClashByWays_43 : decode cX6_smallestClashByWays 43 = .ok (.iload_n 3, 1) := by decide +kernel
theorem dX6_smallestClashByWays_44 : decode cX6_smallestClashByWays 44 = .ok (.ireturn, 1) := by decide +kernel
theorem dX6_smallestClashByWays_45 : decode cX6_smallestClashByWays 45 = .ok (.iinc 2 1, 3) := by decide +kernel
theorem dX6_smallestClashByWays_48 : decode cX6_smallestClashByWays 48 = .ok (.goto (-31), 3) := by decide +kernel
theorem dX6_smallestClashByWays_51 : decode cX6_smallestClashByWays 51 = .ok (.iconst (-1), 1) := by decide +kernel
theorem dX6_smallestClashByWays_52 : decode cX6_smallestClashByWays 52 = .ok (.ireturn, 1) := by decide +kernel
theorem dX6_narrowedClash_0 : decode cX6_narrowedClash 0 = .ok (.aload_n 0, 1) := by decide +kernel
theorem dX6_narrowedClash_1 : decode cX6_narrowedClash 1 = .ok (.getfield 10, 3) := by decide +kernel
theorem dX6_narrowedClash_4 : decode cX6_narrowedClash 4 = .ok (.aload_n 0, 1) := by decide +kernel
theorem dX6_narrowedClash_5 : decode cX6_narrowedClash 5 = .ok (.getfield 10, 3) := by decide +kernel
theorem dX6_narrowedClash_8 : decode cX6_narrowedClash 8 = .ok (.getfield 149, 3) := by decide +kernel
theorem dX6_narrowedClash_11 : decode cX6_narrowedClash 11 = .ok (.invokevirtual 181, 3) := by decide +kernel
theorem dX6_narrowedClash_14 : decode cX6_narrowedClash 14 = .ok (.istore_n 1, 1) := by decide +kernel
theorem dX6_narrowedClash_15 : decode cX6_narrowedClash 15 = .ok (.aload_n 0, 1) := by decide +kernel
theorem dX6_narrowedClash_16 : decode cX6_narrowedClash 16 = .ok (.getfield 10, 3) := by decide +kernel
theorem dX6_narrowedClash_19 : decode cX6_narrowedClash 19 = .ok (.iload_n 1, 1) := by decide +kernel
theorem dX6_narrowedClash_20 : decode cX6_narrowedClash 20 = .ok (.invokevirtual 202, 3) := by decide +kernel
theorem dX6_narrowedClash_23 : decode cX6_narrowedClash 23 = .ok (.lconst 0, 1) := by decide +kernel
theorem dX6_narrowedClash_24 : decode cX6_narrowedClash 24 = .ok (.lcmp, 1) := by decide +kernel
theorem dX6_narrowedClash_25 : decode cX6_narrowedClash 25 = .ok (.ifCond .eq 5, 3) := by decide +kernel
theorem dX6_narrowedClash_28 : decode cX6_narrowedClash 28 = .ok (.iconst (-1), 1) := by decide +kernel
theorem dX6_narrowedClash_29 : decode cX6_narrowedClash 29 = .ok (.ireturn, 1) := by decide +kernel
theorem dX6_narrowedClash_30 : decode cX6_narrowedClash 30 = .ok (.bipush 9, 2) := by decide +kernel
theorem dX6_narrowedClash_32 : decode cX6_narrowedClash 32 = .ok (.istore_n 2, 1) := by decide +kernel
theorem dX6_narrowedClash_33 : decode cX6_narrowedClash 33 = .ok (.iload_n 2, 1) := by decide +kernel
theorem dX6_narrowedClash_34 : decode cX6_narrowedClash 34 = .ok (.ifCond .lt 32, 3) := by decide +kernel
theorem dX6_narrowedClash_37 : decode cX6_narrowedClash 37 = .ok (.iload_n 1, 1) := by decide +kernel
theorem dX6_narrowedClash_38 : decode cX6_narrowedClash 38 = .ok (.iconst 1, 1) := by decide +kernel
theorem dX6_narrowedClash_39 : decode cX6_narrowedClash 39 = .ok (.iload_n 2, 1) := by decide +kernel
theorem dX6_narrowedClash_40 : decode cX6_narrowedClash 40 = .ok (.ishl, 1) := by decide +kernel
theorem dX6_narrowedClash_41 : decode cX6_narrowedClash 41 = .ok (.iconst (-1), 1) := by decide +kernel
theorem dX6_narrowedClash_42 : decode cX6_narrowedClash 42 = .ok (.ixor, 1) := by decide +kernel
theorem dX6_narrowedClash_43 : decode cX6_narrowedClash 43 = .ok (.iand, 1) := by decide +kernel
theorem dX6_narrowedClash_44 : decode cX6_narrowedClash 44 = .ok (.istore_n 3, 1) := by decide +kernel
theorem dX6_narrowedClash_45 : decode cX6_narrowedClash 45 = .ok (.aload_n 0, 1) := by decide +kernel
theorem dX6_narrowedClash_46 : decode cX6_narrowedClash 46 = .ok (.getfield 10, 3) := by decide +kernel
theorem dX6_narrowedClash_49 : decode cX6_narrowedClash 49 = .ok (.iload_n 3, 1) := by decide +kernel
theorem dX6_narrowedClash_50 : decode cX6_narrowedClash 50 = .ok (.invokevirtual 202, 3) := by decide +kernel
theorem dX6_narrowedClash_53 : decode cX6_narrowedClash 53 = .ok (.lconst 0, 1) := by decide +kernel
theorem dX6_narrowedClash_54 : decode cX6_narrowedClash 54 = .ok (.lcmp, 1) := by decide +kernel
theorem dX6_narrowedClash_55 : decode cX6_narrowedClash 55 = .ok (.ifCond .ne 5, 3) := by decide +kernel
theorem dX6_narrowedClash_58 : decode cX6_narrowedClash 58 = .ok (.iload_n 3, 1) := by decide +kernel
theorem dX6_narrowedClash_59 : decode cX6_narrowedClash 59 = .ok (.istore_n 1, 1) := by decide +kernel
theorem dX6_narrowedClash_60 : decode cX6_narrowedClash 60 = .ok (.iinc 2 (-1), 3) := by decide +kernel
theorem dX6_narrowedClash_63 : decode cX6_narrowedClash 63 = .ok (.goto (-30), 3) := by decide +kernel
theorem dX6_narrowedClash_66 : decode cX6_narrowedClash 66 = .ok (.iload_n 1, 1) := by decide +kernel
theorem dX6_narrowedClash_67 : decode cX6_narrowedClash 67 = .ok (.ireturn, 1) := by decide +kernel
theorem dX6_narrowClashes_0 : decode cX6_narrowClashes 0 = .ok (.aload_n 0, 1) := by decide +kernel
theorem dX6_narrowClashes_1 : decode cX6_narrowClashes 1 = .ok (.getfield 10, 3) := by decide +kernel
theorem dX6_narrowClashes_4 : decode cX6_narrowClashes 4 = .ok (.aload_n 0, 1) := by decide +kernel
theorem dX6_narrowClashes_5 : decode cX6_narrowClashes 5 = .ok (.getfield 10, 3) := by decide +kernel
theorem dX6_narrowClashes_8 : decode cX6_narrowClashes 8 = .ok (.getfield 149, 3) := by decide +kernel
theorem dX6_narrowClashes_11 : decode cX6_narrowClashes 11 = .ok (.invokevirtual 181, 3) := by decide +kernel
theorem dX6_narrowClashes_14 : decode cX6_narrowClashes 14 = .ok (.istore_n 1, 1) := by decide +kernel
theorem dX6_narrowClashes_15 : decode cX6_narrowClashes 15 = .ok (.aload_n 0, 1) := by decide +kernel
theorem dX6_narrowClashes_16 : decode cX6_narrowClashes 16 = .ok (.getfield 55, 3) := by decide +kernel
theorem dX6_narrowClashes_19 : decode cX6_narrowClashes 19 = .ok (.aload_n 0, 1) := by decide +kernel
theorem dX6_narrowClashes_20 : decode cX6_narrowClashes 20 = .ok (.getfield 10, 3) := by decide +kernel
theorem dX6_narrowClashes_23 : decode cX6_narrowClashes 23 = .ok (.invokevirtual 238, 3) := by decide +kernel
theorem dX6_narrowClashes_26 : decode cX6_narrowClashes 26 = .ok (.iconst 0, 1) := by decide +kernel
theorem dX6_narrowClashes_27 : decode cX6_narrowClashes 27 = .ok (.istore_n 2, 1) := by decide +kernel
theorem dX6_narrowClashes_28 : decode cX6_narrowClashes 28 = .ok (.iconst 1, 1) := by decide +kernel
theorem dX6_narrowClashes_29 : decode cX6_narrowClashes 29 = .ok (.istore_n 3, 1) := by decide +kernel
theorem dX6_narrowClashes_30 : decode cX6_narrowClashes 30 = .ok (.iload_n 3, 1) := by decide +kernel
theorem dX6_narrowClashes_31 : decode cX6_narrowClashes 31 = .ok (.iload_n 1, 1) := by decide +kernel
theorem dX6_narrowClashes_32 : decode cX6_narrowClashes 32 = .ok (.if_icmp .gt 31, 3) := by decide +kernel
theorem dX6_narrowClashes_35 : decode cX6_narrowClashes 35 = .ok (.iload_n 3, 1) := by decide +kernel
theorem dX6_narrowClashes_36 : decode cX6_narrowClashes 36 = .ok (.iload_n 1, 1) := by decide +kernel
theorem dX6_narrowClashes_37 : decode cX6_narrowClashes 37 = .ok (.invokestatic 241, 3) := by decide +kernel
theorem dX6_narrowClashes_40 : decode cX6_narrowClashes 40 = .ok (.ifCond .eq 17, 3) := by decide +kernel
theorem dX6_narrowClashes_43 : decode cX6_narrowClashes 43 = .ok (.aload_n 0, 1) := by decide +kernel
theorem dX6_narrowClashes_44 : decode cX6_narrowClashes 44 = .ok (.getfield 55, 3) := by decide +kernel
theorem dX6_narrowClashes_47 : decode cX6_narrowClashes 47 = .ok (.iload_n 3, 1) := by decide +kernel
theorem dX6_narrowClashes_48 : decode cX6_narrowClashes 48 = .ok (.invokevirtual 259, 3) := by decide +kernel
theorem dX6_narrowClashes_51 : decode cX6_narrowClashes 51 = .ok (.ifCond .eq 6, 3) := by decide +kernel
theorem dX6_narrowClashes_54 : decode cX6_narrowClashes 54 = .ok (.iinc 2 1, 3) := by decide +kernel
theorem dX6_narrowClashes_57 : decode cX6_narrowClashes 57 = .ok (.iinc 3 1, 3) := by decide +kernel
theorem dX6_narrowClashes_60 : decode cX6_narrowClashes 60 = .ok (.goto (-30), 3) := by decide +kernel
theorem dX6_narrowClashes_63 : decode cX6_narrowClashes 63 = .ok (.iload_n 2, 1) := by decide +kernel
theorem dX6_narrowClashes_64 : decode cX6_narrowClashes 64 = .ok (.ireturn, 1) := by decide +kernel
theorem dX6_fewestWaivers_0 : decode cX6_fewestWaivers 0 = .ok (.aload_n 0, 1) := by decide +kernel
theorem dX6_fewestWaivers_1 : decode cX6_fewestWaivers 1 = .ok (.getfield 10, 3) := by decide +kernel
theorem dX6_fewestWaivers_4 : decode cX6_fewestWaivers 4 = .ok (.iconst 0, 1) := by decide +kernel
theorem dX6_fewestWaivers_5 : decode cX6_fewestWaivers 5 = .ok (.aload_n 0, 1) := by decide +kernel
theorem dX6_fewestWaivers_6 : decode cX6_fewestWaivers 6 = .ok (.getfield 10, 3) := by decide +kernel
theorem dX6_fewestWaivers_9 : decode cX6_fewestWaivers 9 = .ok (.getfield 149, 3) := by decide +kernel
theorem dX6_fewestWaivers_12 : decode cX6_fewestWaivers 12 = .ok (.invokevirtual 184, 3) := by decide +kernel
theorem dX6_fewestWaivers_15 : decode cX6_fewestWaivers 15 = .ok (.istore_n 1, 1) := by decide +kernel
theorem dX6_fewestWaivers_16 : decode cX6_fewestWaivers 16 = .ok (.iconst 1, 1) := by decide +kernel
theorem dX6_fewestWaivers_17 : decode cX6_fewestWaivers 17 = .ok (.istore_n 2, 1) := by decide +kernel
theorem dX6_fewestWaivers_18 : decode cX6_fewestWaivers 18 = .ok (.iload_n 2, 1) := by decide +kernel
theorem dX6_fewestWaivers_19 : decode cX6_fewestWaivers 19 = .ok (.bipush 64, 2) := by decide +kernel
theorem dX6_fewestWaivers_21 : decode cX6_fewestWaivers 21 = .ok (.if_icmp .ge 55, 3) := by decide +kernel
theorem dX6_fewestWaivers_24 : decode cX6_fewestWaivers 24 = .ok (.aload_n 0, 1) := by decide +kernel
theorem dX6_fewestWaivers_25 : decode cX6_fewestWaivers 25 = .ok (.getfield 10, 3) := by decide +kernel
theorem dX6_fewestWaivers_28 : decode cX6_fewestWaivers 28 = .ok (.iload_n 2, 1) := by decide +kernel
theorem dX6_fewestWaivers_29 : decode cX6_fewestWaivers 29 = .ok (.aload_n 0, 1) := by decide +kernel
theorem dX6_fewestWaivers_30 : decode cX6_fewestWaivers 30 = .ok (.getfield 10, 3) := by decide +kernel
theorem dX6_fewestWaivers_33 : decode cX6_fewestWaivers 33 = .ok (.getfield 149, 3) := by decide +kernel
theorem dX6_fewestWaivers_36 : decode cX6_fewestWaivers 36 = .ok (.invokevirtual 184, 3) := by decide +kernel
theorem dX6_fewestWaivers_39 : decode cX6_fewestWaivers 39 = .ok (.istore_n 3, 1) := by decide +kernel
theorem dX6_fewestWaivers_40 : decode cX6_fewestWaivers 40 = .ok (.iload_n 3, 1) := by decide +kernel
theorem dX6_fewestWaivers_41 : decode cX6_fewestWaivers 41 = .ok (.invokestatic 248, 3) := by decide +kernel
theorem dX6_fewestWaivers_44 : decode cX6_fewestWaivers 44 = .ok (.iload_n 1, 1) := by decide +kernel
theorem dX6_fewestWaivers_45 : decode cX6_fewestWaivers 45 = .ok (.invokestatic 248, 3) := by decide +kernel
theorem dX6_fewestWaivers_48 : decode cX6_fewestWaivers 48 = .ok (.invokestatic 262, 3) := by decide +kernel
theorem dX6_fewestWaivers_51 : decode cX6_fewestWaivers 51 = .ok (.istore 4, 2) := by decide +kernel
theorem dX6_fewestWaivers_53 : decode cX6_fewestWaivers 53 = .ok (.iload 4, 2) := by decide +kernel
theorem dX6_fewestWaivers_55 : decode cX6_fewestWaivers 55 = .ok (.ifCond .lt 13, 3) := by decide +kernel
theorem dX6_fewestWaivers_58 : decode cX6_fewestWaivers 58 = .ok (.iload 4, 2) := by decide +kernel
theorem dX6_fewestWaivers_60 : decode cX6_fewestWaivers 60 = .ok (.ifCond .ne 10, 3) := by decide +kernel
theorem dX6_fewestWaivers_63 : decode cX6_fewestWaivers 63 = .ok (.iload_n 3, 1) := by decide +kernel
theorem dX6_fewestWaivers_64 : decode cX6_fewestWaivers 64 = .ok (.iload_n 1, 1) := by decide +kernel
theorem dX6_fewestWaivers_65 : decode cX6_fewestWaivers 65 = .ok (.if_icmp .ge 5, 3) := by decide +kernel
theorem dX6_fewestWaivers_68 : decode cX6_fewestWaivers 68 = .ok (.iload_n 3, 1) := by decide +kernel
theorem dX6_fewestWaivers_69 : decode cX6_fewestWaivers 69 = .ok (.istore_n 1, 1) := by decide +kernel
theorem dX6_fewestWaivers_70 : decode cX6_fewestWaivers 70 = .ok (.iinc 2 1, 3) := by decide +kernel
theorem dX6_fewestWaivers_73 : decode cX6_fewestWaivers 73 = .ok (.goto (-55), 3) := by decide +kernel
theorem dX6_fewestWaivers_76 : decode cX6_fewestWaivers 76 = .ok (.iload_n 1, 1) := by decide +kernel
theorem dX6_fewestWaivers_77 : decode cX6_fewestWaivers 77 = .ok (.ireturn, 1) := by decide +kernel
theorem dX6_fewestWaiversBySets_0 : decode cX6_fewestWaiversBySets 0 = .ok (.aload_n 0, 1) := by decide +kernel
theorem dX6_fewestWaiversBySets_1 : decode cX6_fewestWaiversBySets 1 = .ok (.getfield 10, 3) := by decide +kernel
theorem dX6_fewestWaiversBySets_4 : decode cX6_fewestWaiversBySets 4 = .ok (.aload_n 0, 1) := by decide +kernel
theorem dX6_fewestWaiversBySets_5 : decode cX6_fewestWaiversBySets 5 = .ok (.getfield 10, 3) := by decide +kernel
theorem dX6_fewestWaiversBySets_8 : decode cX6_fewestWaiversBySets 8 = .ok (.getfield 149, 3) := by decide +kernel
theorem dX6_fewestWaiversBySets_11 : decode cX6_fewestWaiversBySets 11 = .ok (.invokevirtual 181, 3) := by decide +kernel
theorem dX6_fewestWaiversBySets_14 : decode cX6_fewestWaiversBySets 14 = .ok (.istore_n 1, 1) := by decide +kernel
theorem dX6_fewestWaiversBySets_15 : decode cX6_fewestWaiversBySets 15 = .ok (.aload_n 0, 1) := by decide +kernel
theorem dX6_fewestWaiversBySets_16 : decode cX6_fewestWaiversBySets 16 = .ok (.getfield 55, 3) := by decide +kernel
theorem dX6_fewestWaiversBySets_19 : decode cX6_fewestWaiversBySets 19 = .ok (.aload_n 0, 1) := by decide +kernel
theorem dX6_fewestWaiversBySets_20 : decode cX6_fewestWaiversBySets 20 = .ok (.getfield 10, 3) := by decide +kernel
theorem dX6_fewestWaiversBySets_23 : decode cX6_fewestWaiversBySets 23 = .ok (.invokevirtual 238, 3) := by decide +kernel
theorem dX6_fewestWaiversBySets_26 : decode cX6_fewestWaiversBySets 26 = .ok (.iload_n 1, 1) := by decide +kernel
theorem dX6_fewestWaiversBySets_27 : decode cX6_fewestWaiversBySets 27 = .ok (.istore_n 2, 1) := by decide +kernel
theorem dX6_fewestWaiversBySets_28 : decode cX6_fewestWaiversBySets 28 = .ok (.iconst 0, 1) := by decide +kernel
theorem dX6_fewestWaiversBySets_29 : decode cX6_fewestWaiversBySets 29 = .ok (.istore_n 3, 1) := by decide +kernel
theorem dX6_fewestWaiversBySets_30 : decode cX6_fewestWaiversBySets 30 = .ok (.iload_n 3, 1) := by decide +kernel
theorem dX6_fewestWaiversBySets_31 : decode cX6_fewestWaiversBySets 31 = .ok (.iload_n 1, 1) := by decide +kernel
theorem dX6_fewestWaiversBySets_32 : decode cX6_fewestWaiversBySets 32 = .ok (.if_icmp .gt 59, 3) := by decide +kernel
theorem dX6_fewestWaiversBySets_35 : decode cX6_fewestWaiversBySets 35 = .ok (.iload_n 3, 1) := by decide +kernel
theorem dX6_fewestWaiversBySets_36 : decode cX6_fewestWaiversBySets 36 = .ok (.iload_n 1, 1) := by decide +kernel
theorem dX6_fewestWaiversBySets_37 : decode cX6_fewestWaiversBySets 37 = .ok (.invokestatic 241, 3) := by decide +kernel
theorem dX6_fewestWaiversBySets_40 : decode cX6_fewestWaiversBySets 40 = .ok (.ifCond .eq 24, 3) := by decide +kernel
theorem dX6_fewestWaiversBySets_43 : decode cX6_fewestWaiversBySets 43 = .ok (.aload_n 0, 1) := by decide +kernel
theorem dX6_fewestWaiversBySets_44 : decode cX6_fewestWaiversBySets 44 = .ok (.getfield 55, 3) := by decide +kernel
theorem dX6_fewestWaiversBySets_47 : decode cX6_fewestWaiversBySets 47 = .ok (.iload_n 1, 1) := by decide +kernel
theorem dX6_fewestWaiversBySets_48 : decode cX6_fewestWaiversBySets 48 = .ok (.iload_n 3, 1) := by decide +kernel
theorem dX6_fewestWaiversBySets_49 : decode cX6_fewestWaiversBySets 49 = .ok (.iconst (-1), 1) := by decide +kernel
theorem dX6_fewestWaiversBySets_50 : decode cX6_fewestWaiversBySets 50 = .ok (.ixor, 1) := by decide +kernel
theorem dX6_fewestWaiversBySets_51 : decode cX6_fewestWaiversBySets 51 = .ok (.iand, 1) := by decide +kernel
theorem dX6_fewestWaiversBySets_52 : decode cX6_fewestWaiversBySets 52 = .ok (.invokevirtual 245, 3) := by decide +kernel
theorem dX6_fewestWaiversBySets_55 : decode cX6_fewestWaiversBySets 55 = .ok (.lconst 0, 1) := by decide +kernel
theorem dX6_fewestWaiversBySets_56 : decode cX6_fewestWaiversBySets 56 = .ok (.lcmp, 1) := by decide +kernel
theorem dX6_fewestWaiversBySets_57 : decode cX6_fewestWaiversBySets 57 = .ok (.ifCond .eq 7, 3) := by decide +kernel
theorem dX6_fewestWaiversBySets_60 : decode cX6_fewestWaiversBySets 60 = .ok (.iconst 1, 1) := by decide +kernel
theorem dX6_fewestWaiversBySets_61 : decode cX6_fewestWaiversBySets 61 = .ok (.goto 4, 3) := by decide +kernel
theorem dX6_fewestWaiversBySets_64 : decode cX6_fewestWaiversBySets 64 = .ok (.iconst 0, 1) := by decide +kernel
theorem dX6_fewestWaiversBySets_65 : decode cX6_fewestWaiversBySets 65 = .ok (.istore 4, 2) := by decide +kernel
theorem dX6_fewestWaiversBySets_67 : decode cX6_fewestWaiversBySets 67 = .ok (.iload 4, 2) := by decide +kernel
theorem dX6_fewestWaiversBySets_69 : decode cX6_fewestWaiversBySets 69 = .ok (.ifCond .eq 16, 3) := by decide +kernel
theorem dX6_fewestWaiversBySets_72 : decode cX6_fewestWaiversBySets 72 = .ok (.iload_n 3, 1) := by decide +kernel
theorem dX6_fewestWaiversBySets_73 : decode cX6_fewestWaiversBySets 73 = .ok (.invokestatic 248, 3) := by decide +kernel
theorem dX6_fewestWaiversBySets_76 : decode cX6_fewestWaiversBySets 76 = .ok (.iload_n 2, 1) := by decide +kernel
theorem dX6_fewestWaiversBySets_77 : decode cX6_fewestWaiversBySets 77 = .ok (.invokestatic 248, 3) := by decide +kernel
theorem dX6_fewestWaiversBySets_80 : decode cX6_fewestWaiversBySets 80 = .ok (.if_icmp .ge 5, 3) := by decide +kernel
theorem dX6_fewestWaiversBySets_83 : decode cX6_fewestWaiversBySets 83 = .ok (.iload_n 3, 1) := by decide +kernel
theorem dX6_fewestWaiversBySets_84 : decode cX6_fewestWaiversBySets 84 = .ok (.istore_n 2, 1) := by decide +kernel
theorem dX6_fewestWaiversBySets_85 : decode cX6_fewestWaiversBySets 85 = .ok (.iinc 3 1, 3) := by decide +kernel
theorem dX6_fewestWaiversBySets_88 : decode cX6_fewestWaiversBySets 88 = .ok (.goto (-58), 3) := by decide +kernel
theorem dX6_fewestWaiversBySets_91 : decode cX6_fewestWaiversBySets 91 = .ok (.iload_n 2, 1) := by decide +kernel
theorem dX6_fewestWaiversBySets_92 : decode cX6_fewestWaiversBySets 92 = .ok (.ireturn, 1) := by decide +kernel
theorem dX6_turnsToPeace_0 : decode cX6_turnsToPeace 0 = .ok (.aload_n 0, 1) := by decide +kernel
theorem dX6_turnsToPeace_1 : decode cX6_turnsToPeace 1 = .ok (.getfield 10, 3) := by decide +kernel
theorem dX6_turnsToPeace_4 : decode cX6_turnsToPeace 4 = .ok (.invokevirtual 221, 3) := by decide +kernel
theorem dX6_turnsToPeace_7 : decode cX6_turnsToPeace 7 = .ok (.lstore_n 1, 1) := by decide +kernel
theorem dX6_turnsToPeace_8 : decode cX6_turnsToPeace 8 = .ok (.iconst (-1), 1) := by decide +kernel
theorem dX6_turnsToPeace_9 : decode cX6_turnsToPeace 9 = .ok (.istore_n 3, 1) := by decide +kernel
theorem dX6_turnsToPeace_10 : decode cX6_turnsToPeace 10 = .ok (.iconst 0, 1) := by decide +kernel
theorem dX6_turnsToPeace_11 : decode cX6_turnsToPeace 11 = .ok (.istore 4, 2) := by decide +kernel
theorem dX6_turnsToPeace_13 : decode cX6_turnsToPeace 13 = .ok (.iload 4, 2) := by decide +kernel
theorem dX6_turnsToPeace_15 : decode cX6_turnsToPeace 15 = .ok (.bipush 64, 2) := by decide +kernel
theorem dX6_turnsToPeace_17 : decode cX6_turnsToPeace 17 = .ok (.if_icmp .ge 47, 3) := by decide +kernel
theorem dX6_turnsToPeace_20 : decode cX6_turnsToPeace 20 = .ok (.iload 4, 2) := by decide +kernel
theorem dX6_turnsToPeace_22 : decode cX6_turnsToPeace 22 = .ok (.aload_n 0, 1) := by decide +kernel
theorem dX6_turnsToPeace_23 : decode cX6_turnsToPeace 23 = .ok (.getfield 10, 3) := by decide +kernel
theorem dX6_turnsToPeace_26 : decode cX6_turnsToPeace 26 = .ok (.getfield 178, 3) := by decide +kernel
theorem dX6_turnsToPeace_29 : decode cX6_turnsToPeace 29 = .ok (.ixor, 1) := by decide +kernel
theorem dX6_turnsToPeace_30 : decode cX6_turnsToPeace 30 = .ok (.invokestatic 248, 3) := by decide +kernel
theorem dX6_turnsToPeace_33 : decode cX6_turnsToPeace 33 = .ok (.istore 5, 2) := by decide +kernel
theorem dX6_turnsToPeace_35 : decode cX6_turnsToPeace 35 = .ok (.lload_n 1, 1) := by decide +kernel
theorem dX6_turnsToPeace_36 : decode cX6_turnsToPeace 36 = .ok (.iload 4, 2) := by decide +kernel
theorem dX6_turnsToPeace_38 : decode cX6_turnsToPeace 38 = .ok (.invokestatic 225, 3) := by decide +kernel
theorem dX6_turnsToPeace_41 : decode cX6_turnsToPeace 41 = .ok (.ifCond .eq 17, 3) := by decide +kernel
theorem dX6_turnsToPeace_44 : decode cX6_turnsToPeace 44 = .ok (.iload_n 3, 1) := by decide +kernel
theorem dX6_turnsToPeace_45 : decode cX6_turnsToPeace 45 = .ok (.iconst (-1), 1) := by decide +kernel
theorem dX6_turnsToPeace_46 : decode cX6_turnsToPeace 46 = .ok (.if_icmp .eq 9, 3) := by decide +kernel
theorem dX6_turnsToPeace_49 : decode cX6_turnsToPeace 49 = .ok (.iload 5, 2) := by decide +kernel
theorem dX6_turnsToPeace_51 : decode cX6_turnsToPeace 51 = .ok (.iload_n 3, 1) := by decide +kernel
theorem dX6_turnsToPeace_52 : decode cX6_turnsToPeace 52 = .ok (.if_icmp .ge 6, 3) := by decide +kernel
theorem dX6_turnsToPeace_55 : decode cX6_turnsToPeace 55 = .ok (.iload 5, 2) := by decide +kernel
theorem dX6_turnsToPeace_57 : decode cX6_turnsToPeace 57 = .ok (.istore_n 3, 1) := by decide +kernel
theorem dX6_turnsToPeace_58 : decode cX6_turnsToPeace 58 = .ok (.iinc 4 1, 3) := by decide +kernel
theorem dX6_turnsToPeace_61 : decode cX6_turnsToPeace 61 = .ok (.goto (-48), 3) := by decide +kernel
theorem dX6_turnsToPeace_64 : decode cX6_turnsToPeace 64 = .ok (.iload_n 3, 1) := by decide +kernel
theorem dX6_turnsToPeace_65 : decode cX6_turnsToPeace 65 = .ok (.ireturn, 1) := by decide +kernel
theorem dX6_turnsToPeaceByGoing_0 : decode cX6_turnsToPeaceByGoing 0 = .ok (.aload_n 0, 1) := by decide +kernel
theorem dX6_turnsToPeaceByGoing_1 : decode cX6_turnsToPeaceByGoing 1 = .ok (.getfield 10, 3) := by decide +kernel
theorem dX6_turnsToPeaceByGoing_4 : decode cX6_turnsToPeaceByGoing 4 = .ok (.invokevirtual 221, 3) := by decide +kernel
theorem dX6_turnsToPeaceByGoing_7 : decode cX6_turnsToPeaceByGoing 7 = .ok (.lstore_n 1, 1) := by decide +kernel
theorem dX6_turnsToPeaceByGoing_8 : decode cX6_turnsToPeaceByGoing 8 = .ok (.lconst 1, 1) := by decide +kernel
theorem dX6_turnsToPeaceByGoing_9 : decode cX6_turnsToPeaceByGoing 9 = .ok (.aload_n 0, 1) := by decide +kernel
theorem dX6_turnsToPeaceByGoing_10 : decode cX6_turnsToPeaceByGoing 10 = .ok (.getfield 10, 3) := by decide +kernel
theorem dX6_turnsToPeaceByGoing_13 : decode cX6_turnsToPeaceByGoing 13 = .ok (.getfield 178, 3) := by decide +kernel
theorem dX6_turnsToPeaceByGoing_16 : decode cX6_turnsToPeaceByGoing 16 = .ok (.lshl, 1) := by decide +kernel
theorem dX6_turnsToPeaceByGoing_17 : decode cX6_turnsToPeaceByGoing 17 = .ok (.lstore_n 3, 1) := by decide +kernel
theorem dX6_turnsToPeaceByGoing_18 : decode cX6_turnsToPeaceByGoing 18 = .ok (.iconst 0, 1) := by decide +kernel
theorem dX6_turnsToPeaceByGoing_19 : decode cX6_turnsToPeaceByGoing 19 = .ok (.istore 5, 2) := by decide +kernel
theorem dX6_turnsToPeaceByGoing_21 : decode cX6_turnsToPeaceByGoing 21 = .ok (.iload 5, 2) := by decide +kernel
theorem dX6_turnsToPeaceByGoing_23 : decode cX6_turnsToPeaceByGoing 23 = .ok (.bipush 6, 2) := by decide +kernel
theorem dX6_turnsToPeaceByGoing_25 : decode cX6_turnsToPeaceByGoing 25 = .ok (.if_icmp .gt 25, 3) := by decide +kernel
theorem dX6_turnsToPeaceByGoing_28 : decode cX6_turnsToPeaceByGoing 28 = .ok (.lload_n 3, 1) := by decide +kernel
theorem dX6_turnsToPeaceByGoing_29 : decode cX6_turnsToPeaceByGoing 29 = .ok (.lload_n 1, 1) := by decide +kernel
theorem dX6_turnsToPeaceByGoing_30 : decode cX6_turnsToPeaceByGoing 30 = .ok (.land, 1) := by decide +kernel
theorem dX6_turnsToPeaceByGoing_31 : decode cX6_turnsToPeaceByGoing 31 = .ok (.lconst 0, 1) := by decide +kernel
theorem dX6_turnsToPeaceByGoing_32 : decode cX6_turnsToPeaceByGoing 32 = .ok (.lcmp, 1) := by decide +kernel
theorem dX6_turnsToPeaceByGoing_33 : decode cX6_turnsToPeaceByGoing 33 = .ok (.ifCond .eq 6, 3) := by decide +kernel
theorem dX6_turnsToPeaceByGoing_36 : decode cX6_turnsToPeaceByGoing 36 = .ok (.iload 5, 2) := by decide +kernel
theorem dX6_turnsToPeaceByGoing_38 : decode cX6_turnsToPeaceByGoing 38 = .ok (.ireturn, 1) := by decide +kernel
theorem dX6_turnsToPeaceByGoing_39 : decode cX6_turnsToPeaceByGoing 39 = .ok (.lload_n 3, 1) := by decide +kernel
theorem dX6_turnsToPeaceByGoing_40 : decode cX6_turnsToPeaceByGoing 40 = .ok (.invokestatic 265, 3) := by decide +kernel
theorem dX6_turnsToPeaceByGoing_43 : decode cX6_turnsToPeaceByGoing 43 = .ok (.lstore_n 3, 1) := by decide +kernel
theorem dX6_turnsToPeaceByGoing_44 : decode cX6_turnsToPeaceByGoing 44 = .ok (.iinc 5 1, 3) := by decide +kernel
theorem dX6_turnsToPeaceByGoing_47 : decode cX6_turnsToPeaceByGoing 47 = .ok (.goto (-26), 3) := by decide +kernel
theorem dX6_turnsToPeaceByGoing_50 : decode cX6_turnsToPeaceByGoing 50 = .ok (.iconst (-1), 1) := by decide +kernel
theorem dX6_turnsToPeaceByGoing_51 : decode cX6_turnsToPeaceByGoing 51 = .ok (.ireturn, 1) := by decide +kernel
theorem dX6_nightNow_0 : decode cX6_nightNow 0 = .ok (.aload_n 0, 1) := by decide +kernel
theorem dX6_nightNow_1 : decode cX6_nightNow 1 = .ok (.getfield 10, 3) := by decide +kernel
theorem dX6_nightNow_4 : decode cX6_nightNow 4 = .ok (.aload_n 0, 1) := by decide +kernel
theorem dX6_nightNow_5 : decode cX6_nightNow 5 = .ok (.getfield 10, 3) := by decide +kernel
theorem dX6_nightNow_8 : decode cX6_nightNow 8 = .ok (.getfield 178, 3) := by decide +kernel
theorem dX6_nightNow_11 : decode cX6_nightNow 11 = .ok (.aload_n 0, 1) := by decide +kernel
theorem dX6_nightNow_12 : decode cX6_nightNow 12 = .ok (.getfield 10, 3) := by decide +kernel
theorem dX6_nightNow_15 : decode cX6_nightNow 15 = .ok (.getfield 149, 3) := by decide +kernel
theorem dX6_nightNow_18 : decode cX6_nightNow 18 = .ok (.invokevirtual 269, 3) := by decide +kernel
theorem dX6_nightNow_21 : decode cX6_nightNow 21 = .ok (.ireturn, 1) := by decide +kernel
theorem dX6_cheapestWay_0 : decode cX6_cheapestWay 0 = .ok (.iconst 0, 1) := by decide +kernel
theorem dX6_cheapestWay_1 : decode cX6_cheapestWay 1 = .ok (.istore_n 1, 1) := by decide +kernel
theorem dX6_cheapestWay_2 : decode cX6_cheapestWay 2 = .ok (.aload_n 0, 1) := by decide +kernel
theorem dX6_cheapestWay_3 : decode cX6_cheapestWay 3 = .ok (.getfield 10, 3) := by decide +kernel
theorem dX6_cheapestWay_6 : decode cX6_cheapestWay 6 = .ok (.iconst 0, 1) := by decide +kernel
theorem dX6_cheapestWay_7 : decode cX6_cheapestWay 7 = .ok (.aload_n 0, 1) := by decide +kernel
theorem dX6_cheapestWay_8 : decode cX6_cheapestWay 8 = .ok (.getfield 10, 3) := by decide +kernel
theorem dX6_cheapestWay_11 : decode cX6_cheapestWay 11 = .ok (.getfield 149, 3) := by decide +kernel
theorem dX6_cheapestWay_14 : decode cX6_cheapestWay 14 = .ok (.invokevirtual 269, 3) := by decide +kernel
theorem dX6_cheapestWay_17 : decode cX6_cheapestWay 17 = .ok (.istore_n 2, 1) := by decide +kernel
theorem dX6_cheapestWay_18 : decode cX6_cheapestWay 18 = .ok (.iconst 1, 1) := by decide +kernel
theorem dX6_cheapestWay_19 : decode cX6_cheapestWay 19 = .ok (.istore_n 3, 1) := by decide +kernel
theorem dX6_cheapestWay_20 : decode cX6_cheapestWay 20 = .ok (.iload_n 3, 1) := by decide +kernel
theorem dX6_cheapestWay_21 : decode cX6_cheapestWay 21 = .ok (.bipush 64, 2) := by decide +kernel
theorem dX6_cheapestWay_23 : decode cX6_cheapestWay 23 = .ok (.if_icmp .ge 37, 3) := by decide +kernel
theorem dX6_cheapestWay_26 : decode cX6_cheapestWay 26 = .ok (.aload_n 0, 1) := by decide +kernel
theorem dX6_cheapestWay_27 : decode cX6_cheapestWay 27 = .ok (.getfield 10, 3) := by decide +kernel
theorem dX6_cheapestWay_30 : decode cX6_cheapestWay 30 = .ok (.iload_n 3, 1) := by decide +kernel
theorem dX6_cheapestWay_31 : decode cX6_cheapestWay 31 = .ok (.aload_n 0, 1) := by decide +kernel
theorem dX6_cheapestWay_32 : decode cX6_cheapestWay 32 = .ok (.getfield 10, 3) := by decide +kernel
theorem dX6_cheapestWay_35 : decode cX6_cheapestWay 35 = .ok (.getfield 149, 3) := by decide +kernel
theorem dX6_cheapestWay_38 : decode cX6_cheapestWay 38 = .ok (.invokevirtual 269, 3) := by decide +kernel
theorem dX6_cheapestWay_41 : decode cX6_cheapestWay 41 = .ok (.istore 4, 2) := by decide +kernel
theorem dX6_cheapestWay_43 : decode cX6_cheapestWay 43 = .ok (.iload 4, 2) := by decide +kernel
theorem dX6_cheapestWay_45 : decode cX6_cheapestWay 45 = .ok (.iload_n 2, 1) := by decide +kernel
theorem dX6_cheapestWay_46 : decode cX6_cheapestWay 46 = .ok (.if_icmp .ge 8, 3) := by decide +kernel
theorem dX6_cheapestWay_49 : decode cX6_cheapestWay 49 = .ok (.iload_n 3, 1) := by decide +kernel
theorem dX6_cheapestWay_50 : decode cX6_cheapestWay 50 = .ok (.istore_n 1, 1) := by decide +kernel
theorem dX6_cheapestWay_51 : decode cX6_cheapestWay 51 = .ok (.iload 4, 2) := by decide +kernel
theorem dX6_cheapestWay_53 : decode cX6_cheapestWay 53 = .ok (.istore_n 2, 1) := by decide +kernel
theorem dX6_cheapestWay_54 : decode cX6_cheapestWay 54 = .ok (.iinc 3 1, 3) := by decide +kernel
theorem dX6_cheapestWay_57 : decode cX6_cheapestWay 57 = .ok (.goto (-37), 3) := by decide +kernel
theorem dX6_cheapestWay_60 : decode cX6_cheapestWay 60 = .ok (.iload_n 1, 1) := by decide +kernel
theorem dX6_cheapestWay_61 : decode cX6_cheapestWay 61 = .ok (.ireturn, 1) := by decide +kernel
theorem dX6_cheapestNight_0 : decode cX6_cheapestNight 0 = .ok (.aload_n 0, 1) := by decide +kernel
theorem dX6_cheapestNight_1 : decode cX6_cheapestNight 1 = .ok (.getfield 10, 3) := by decide +kernel
theorem dX6_cheapestNight_4 : decode cX6_cheapestNight 4 = .ok (.aload_n 0, 1) := by decide +kernel
theorem dX6_cheapestNight_5 : decode cX6_cheapestNight 5 = .ok (.getfield 10, 3) := by decide +kernel
theorem dX6_cheapestNight_8 : decode cX6_cheapestNight 8 = .ok (.getfield 149, 3) := by decide +kernel
theorem dX6_cheapestNight_11 : decode cX6_cheapestNight 11 = .ok (.invokevirtual 181, 3) := by decide +kernel
theorem dX6_cheapestNight_14 : decode cX6_cheapestNight 14 = .ok (.istore_n 1, 1) := by decide +kernel
theorem dX6_cheapestNight_15 : decode cX6_cheapestNight 15 = .ok (.aload_n 0, 1) := by decide +kernel
theorem dX6_cheapestNight_16 : decode cX6_cheapestNight 16 = .ok (.getfield 10, 3) := by decide +kernel
theorem dX6_cheapestNight_19 : decode cX6_cheapestNight 19 = .ok (.iload_n 1, 1) := by decide +kernel
theorem dX6_cheapestNight_20 : decode cX6_cheapestNight 20 = .ok (.iconst 0, 1) := by decide +kernel
theorem dX6_cheapestNight_21 : decode cX6_cheapestNight 21 = .ok (.iconst 0, 1) := by decide +kernel
theorem dX6_cheapestNight_22 : decode cX6_cheapestNight 22 = .ok (.iconst 0, 1) := by decide +kernel
theorem dX6_cheapestNight_23 : decode cX6_cheapestNight 23 = .ok (.aload_n 0, 1) := by decide +kernel
theorem dX6_cheapestNight_24 : decode cX6_cheapestNight 24 = .ok (.getfield 10, 3) := by decide +kernel
theorem dX6_cheapestNight_27 : decode cX6_cheapestNight 27 = .ok (.iload_n 1, 1) := by decide +kernel
theorem dX6_cheapestNight_28 : decode cX6_cheapestNight 28 = .ok (.invokevirtual 272, 3) := by decide +kernel
theorem dX6_cheapestNight_31 : decode cX6_cheapestNight 31 = .ok (.invokestatic 275, 3) := by decide +kernel
theorem dX6_cheapestNight_34 : decode cX6_cheapestNight 34 = .ok (.ireturn, 1) := by decide +kernel
theorem dX6_bestTurn_0 : decode cX6_bestTurn 0 = .ok (.iconst (-1), 1) := by decide +kernel
theorem dX6_bestTurn_1 : decode cX6_bestTurn 1 = .ok (.istore_n 1, 1) := by decide +kernel
theorem dX6_bestTurn_2 : decode cX6_bestTurn 2 = .ok (.aload_n 0, 1) := by decide +kernel
theorem dX6_bestTurn_3 : decode cX6_bestTurn 3 = .ok (.getfield 10, 3) := by decide +kernel
theorem dX6_bestTurn_6 : decode cX6_bestTurn 6 = .ok (.aload_n 0, 1) := by decide +kernel
theorem dX6_bestTurn_7 : decode cX6_bestTurn 7 = .ok (.getfield 10, 3) := by decide +kernel
theorem dX6_bestTurn_10 : decode cX6_bestTurn 10 = .ok (.getfield 178, 3) := by decide +kernel
theorem dX6_bestTurn_13 : decode cX6_bestTurn 13 = .ok (.aload_n 0, 1) := by decide +kernel
theorem dX6_bestTurn_14 : decode cX6_bestTurn 14 = .ok (.getfield 10, 3) := by decide +kernel
theorem dX6_bestTurn_17 : decode cX6_bestTurn 17 = .ok (.getfield 149, 3) := by decide +kernel
theorem dX6_bestTurn_20 : decode cX6_bestTurn 20 = .ok (.invokevirtual 269, 3) := by decide +kernel
theorem dX6_bestTurn_23 : decode cX6_bestTurn 23 = .ok (.istore_n 2, 1) := by decide +kernel
theorem dX6_bestTurn_24 : decode cX6_bestTurn 24 = .ok (.iconst 0, 1) := by decide +kernel
theorem dX6_bestTurn_25 : decode cX6_bestTurn 25 = .ok (.istore_n 3, 1) := by decide +kernel
theorem dX6_bestTurn_26 : decode cX6_bestTurn 26 = .ok (.iload_n 3, 1) := by decide +kernel
theorem dX6_bestTurn_27 : decode cX6_bestTurn 27 = .ok (.bipush 6, 2) := by decide +kernel
theorem dX6_bestTurn_29 : decode cX6_bestTurn 29 = .ok (.if_icmp .ge 59, 3) := by decide +kernel
theorem dX6_bestTurn_32 : decode cX6_bestTurn 32 = .ok (.aload_n 0, 1) := by decide +kernel
theorem dX6_bestTurn_33 : decode cX6_bestTurn 33 = .ok (.getfield 10, 3) := by decide +kernel
theorem dX6_bestTurn_36 : decode cX6_bestTurn 36 = .ok (.aload_n 0, 1) := by decide +kernel
theorem dX6_bestTurn_37 : decode cX6_bestTurn 37 = .ok (.getfield 10, 3) := by decide +kernel
theorem dX6_bestTurn_40 : decode cX6_bestTurn 40 = .ok (.getfield 178, 3) := by decide +kernel
theorem dX6_bestTurn_43 : decode cX6_bestTurn 43 = .ok (.iconst 1, 1) := by decide +kernel
theorem dX6_bestTurn_44 : decode cX6_bestTurn 44 = .ok (.iload_n 3, 1) := by decide +kernel
theorem dX6_bestTurn_45 : decode cX6_bestTurn 45 = .ok (.ishl, 1) := by decide +kernel
theorem dX6_bestTurn_46 : decode cX6_bestTurn 46 = .ok (.ixor, 1) := by decide +kernel
theorem dX6_bestTurn_47 : decode cX6_bestTurn 47 = .ok (.aload_n 0, 1) := by decide +kernel
theorem dX6_bestTurn_48 : decode cX6_bestTurn 48 = .ok (.getfield 10, 3) := by decide +kernel
theorem dX6_bestTurn_51 : decode cX6_bestTurn 51 = .ok (.getfield 149, 3) := by decide +kernel
theorem dX6_bestTurn_54 : decode cX6_bestTurn 54 = .ok (.invokevirtual 269, 3) := by decide +kernel
theorem dX6_bestTurn_57 : decode cX6_bestTurn 57 = .ok (.istore 4, 2) := by decide +kernel
theorem dX6_bestTurn_59 : decode cX6_bestTurn 59 = .ok (.iload 4, 2) := by decide +kernel
theorem dX6_bestTurn_61 : decode cX6_bestTurn 61 = .ok (.iload_n 2, 1) := by decide +kernel
theorem dX6_bestTurn_62 : decode cX6_bestTurn 62 = .ok (.if_icmp .ge 20, 3) := by decide +kernel
theorem dX6_bestTurn_65 : decode cX6_bestTurn 65 = .ok (.aload_n 0, 1) := by decide +kernel
theorem dX6_bestTurn_66 : decode cX6_bestTurn 66 = .ok (.getfield 10, 3) := by decide +kernel
theorem dX6_bestTurn_69 : decode cX6_bestTurn 69 = .ok (.iload_n 3, 1) := by decide +kernel
theorem dX6_bestTurn_70 : decode cX6_bestTurn 70 = .ok (.invokevirtual 187, 3) := by decide +kernel
theorem dX6_bestTurn_73 : decode cX6_bestTurn 73 = .ok (.iconst (-1), 1) := by decide +kernel
theorem dX6_bestTurn_74 : decode cX6_bestTurn 74 = .ok (.if_icmp .ne 8, 3) := by decide +kernel
theorem dX6_bestTurn_77 : decode cX6_bestTurn 77 = .ok (.iload_n 3, 1) := by decide +kernel
theorem dX6_bestTurn_78 : decode cX6_bestTurn 78 = .ok (.istore_n 1, 1) := by decide +kernel
theorem dX6_bestTurn_79 : decode cX6_bestTurn 79 = .ok (.iload 4, 2) := by decide +kernel
theorem dX6_bestTurn_81 : decode cX6_bestTurn 81 = .ok (.istore_n 2, 1) := by decide +kernel
theorem dX6_bestTurn_82 : decode cX6_bestTurn 82 = .ok (.iinc 3 1, 3) := by decide +kernel
theorem dX6_bestTurn_85 : decode cX6_bestTurn 85 = .ok (.goto (-59), 3) := by decide +kernel
theorem dX6_bestTurn_88 : decode cX6_bestTurn 88 = .ok (.iload_n 1, 1) := by decide +kernel
theorem dX6_bestTurn_89 : decode cX6_bestTurn 89 = .ok (.ireturn, 1) := by decide +kernel
theorem dX6_finesIn_0 : decode cX6_finesIn 0 = .ok (.iload_n 1, 1) := by decide +kernel
theorem dX6_finesIn_1 : decode cX6_finesIn 1 = .ok (.invokestatic 123, 3) := by decide +kernel
theorem dX6_finesIn_4 : decode cX6_finesIn 4 = .ok (.aload_n 0, 1) := by decide +kernel
theorem dX6_finesIn_5 : decode cX6_finesIn 5 = .ok (.getfield 10, 3) := by decide +kernel
theorem dX6_finesIn_8 : decode cX6_finesIn 8 = .ok (.iload_n 1, 1) := by decide +kernel
theorem dX6_finesIn_9 : decode cX6_finesIn 9 = .ok (.invokevirtual 279, 3) := by decide +kernel
theorem dX6_finesIn_12 : decode cX6_finesIn 12 = .ok (.ireturn, 1) := by decide +kernel
theorem dX6_peaceShare_0 : decode cX6_peaceShare 0 = .ok (.aload_n 0, 1) := by decide +kernel
theorem dX6_peaceShare_1 : decode cX6_peaceShare 1 = .ok (.invokevirtual 218, 3) := by decide +kernel
theorem dX6_peaceShare_4 : decode cX6_peaceShare 4 = .ok (.i2d, 1) := by decide +kernel
theorem dX6_peaceShare_5 : decode cX6_peaceShare 5 = .ok (.ldc2_w 282, 3) := by decide +kernel
theorem dX6_peaceShare_8 : decode cX6_peaceShare 8 = .ok (.ddiv, 1) := by decide +kernel
theorem dX6_peaceShare_9 : decode cX6_peaceShare 9 = .ok (.dreturn, 1) := by decide +kernel
theorem dX6_meanFine_0 : decode cX6_meanFine 0 = .ok (.aload_n 0, 1) := by decide +kernel
theorem dX6_meanFine_1 : decode cX6_meanFine 1 = .ok (.getfield 10, 3) := by decide +kernel
theorem dX6_meanFine_4 : decode cX6_meanFine 4 = .ok (.getfield 70, 3) := by decide +kernel
theorem dX6_meanFine_7 : decode cX6_meanFine 7 = .ok (.istore_n 1, 1) := by decide +kernel
theorem dX6_meanFine_8 : decode cX6_meanFine 8 = .ok (.iload_n 1, 1) := by decide +kernel
theorem dX6_meanFine_9 : decode cX6_meanFine 9 = .ok (.ifCond .gt 5, 3) := by decide +kernel
theorem dX6_meanFine_12 : decode cX6_meanFine 12 = .ok (.fconst 0, 1) := by decide +kernel
theorem dX6_meanFine_13 : decode cX6_meanFine 13 = .ok (.freturn, 1) := by decide +kernel
theorem dX6_meanFine_14 : decode cX6_meanFine 14 = .ok (.aload_n 0, 1) := by decide +kernel
theorem dX6_meanFine_15 : decode cX6_meanFine 15 = .ok (.getfield 10, 3) := by decide +kernel
theorem dX6_meanFine_18 : decode cX6_meanFine 18 = .ok (.iconst 1, 1) := by decide +kernel
theorem dX6_meanFine_19 : decode cX6_meanFine 19 = .ok (.iload_n 1, 1) := by decide +kernel
theorem dX6_meanFine_20 : decode cX6_meanFine 20 = .ok (.ishl, 1) := by decide +kernel
theorem dX6_meanFine_21 : decode cX6_meanFine 21 = .ok (.iconst 1, 1) := by decide +kernel
theorem dX6_meanFine_22 : decode cX6_meanFine 22 = .ok (.isub, 1) := by decide +kernel
theorem dX6_meanFine_23 : decode cX6_meanFine 23 = .ok (.invokevirtual 272, 3) := by decide +kernel
theorem dX6_meanFine_26 : decode cX6_meanFine 26 = .ok (.i2f, 1) := by decide +kernel
theorem dX6_meanFine_27 : decode cX6_meanFine 27 = .ok (.iload_n 1, 1) := by decide +kernel
theorem dX6_meanFine_28 : decode cX6_meanFine 28 = .ok (.i2f, 1) := by decide +kernel
theorem dX6_meanFine_29 : decode cX6_meanFine 29 = .ok (.fdiv, 1) := by decide +kernel
theorem dX6_meanFine_30 : decode cX6_meanFine 30 = .ok (.freturn, 1) := by decide +kernel
theorem dX6_digest_0 : decode cX6_digest 0 = .ok (.ldc2_w 284, 3) := by decide +kernel
theorem dX6_digest_3 : decode cX6_digest 3 = .ok (.lstore_n 1, 1) := by decide +kernel
theorem dX6_digest_4 : decode cX6_digest 4 = .ok (.aload_n 0, 1) := by decide +kernel
theorem dX6_digest_5 : decode cX6_digest 5 = .ok (.lload_n 1, 1) := by decide +kernel
theorem dX6_digest_6 : decode cX6_digest 6 = .ok (.invokevirtual 286, 3) := by decide +kernel
theorem dX6_digest_9 : decode cX6_digest 9 = .ok (.lstore_n 1, 1) := by decide +kernel
theorem dX6_digest_10 : decode cX6_digest 10 = .ok (.aload_n 0, 1) := by decide +kernel
theorem dX6_digest_11 : decode cX6_digest 11 = .ok (.lload_n 1, 1) := by decide +kernel
theorem dX6_digest_12 : decode cX6_digest 12 = .ok (.invokevirtual 289, 3) := by decide +kernel
theorem dX6_digest_15 : decode cX6_digest 15 = .ok (.lstore_n 1, 1) := by decide +kernel
theorem dX6_digest_16 : decode cX6_digest 16 = .ok (.aload_n 0, 1) := by decide +kernel
theorem dX6_digest_17 : decode cX6_digest 17 = .ok (.lload_n 1, 1) := by decide +kernel
theorem dX6_digest_18 : decode cX6_digest 18 = .ok (.invokevirtual 292, 3) := by decide +kernel
theorem dX6_digest_21 : decode cX6_digest 21 = .ok (.lstore_n 1, 1) := by decide +kernel
theorem dX6_digest_22 : decode cX6_digest 22 = .ok (.aload_n 0, 1) := by decide +kernel
theorem dX6_digest_23 : decode cX6_digest 23 = .ok (.lload_n 1, 1) := by decide +kernel
theorem dX6_digest_24 : decode cX6_digest 24 = .ok (.invokevirtual 295, 3) := by decide +kernel
theorem dX6_digest_27 : decode cX6_digest 27 = .ok (.lstore_n 1, 1) := by decide +kernel
theorem dX6_digest_28 : decode cX6_digest 28 = .ok (.aload_n 0, 1) := by decide +kernel
theorem dX6_digest_29 : decode cX6_digest 29 = .ok (.lload_n 1, 1) := by decide +kernel
theorem dX6_digest_30 : decode cX6_digest 30 = .ok (.invokevirtual 298, 3) := by decide +kernel
theorem dX6_digest_33 : decode cX6_digest 33 = .ok (.lstore_n 1, 1) := by decide +kernel
theorem dX6_digest_34 : decode cX6_digest 34 = .ok (.aload_n 0, 1) := by decide +kernel
theorem dX6_digest_35 : decode cX6_digest 35 = .ok (.lload_n 1, 1) := by decide +kernel
theorem dX6_digest_36 : decode cX6_digest 36 = .ok (.invokevirtual 301, 3) := by decide +kernel
theorem dX6_digest_39 : decode cX6_digest 39 = .ok (.lreturn, 1) := by decide +kernel
theorem dX6_requireRule_0 : decode cX6_requireRule 0 = .ok (.iload_n 1, 1) := by decide +kernel
theorem dX6_requireRule_1 : decode cX6_requireRule 1 = .ok (.ifCond .lt 14, 3) := by decide +kernel
theorem dX6_requireRule_4 : decode cX6_requireRule 4 = .ok (.iload_n 1, 1) := by decide +kernel
theorem dX6_requireRule_5 : decode cX6_requireRule 5 = .ok (.aload_n 0, 1) := by decide +kernel
theorem dX6_requireRule_6 : decode cX6_requireRule 6 = .ok (.getfield 10, 3) := by decide +kernel
theorem dX6_requireRule_9 : decode cX6_requireRule 9 = .ok (.getfield 70, 3) := by decide +kernel
theorem dX6_requireRule_12 : decode cX6_requireRule 12 = .ok (.if_icmp .lt 14, 3) := by decide +kernel
theorem dX6_requireRule_15 : decode cX6_requireRule 15 = .ok (.new 304, 3) := by decide +kernel
theorem dX6_requireRule_18 : decode cX6_requireRule 18 = .ok (.dup, 1) := by decide +kernel
theorem dX6_requireRule_19 : decode cX6_requireRule 19 = .ok (.ldc_w 306, 3) := by decide +kernel
theorem dX6_requireRule_22 : decode cX6_requireRule 22 = .ok (.invokespecial 308, 3) := by decide +kernel
theorem dX6_requireRule_25 : decode cX6_requireRule 25 = .ok (.athrow, 1) := by decide +kernel
theorem dX6_requireRule_26 : decode cX6_requireRule 26 = .ok (.return_, 1) := by decide +kernel
theorem dX6_requireRoom_0 : decode cX6_requireRoom 0 = .ok (.iload_n 0, 1) := by decide +kernel
theorem dX6_requireRoom_1 : decode cX6_requireRoom 1 = .ok (.ifCond .lt 9, 3) := by decide +kernel
theorem dX6_requireRoom_4 : decode cX6_requireRoom 4 = .ok (.iload_n 0, 1) := by decide +kernel
theorem dX6_requireRoom_5 : decode cX6_requireRoom 5 = .ok (.bipush 6, 2) := by decide +kernel
theorem dX6_requireRoom_7 : decode cX6_requireRoom 7 = .ok (.if_icmp .lt 14, 3) := by decide +kernel
theorem dX6_requireRoom_10 : decode cX6_requireRoom 10 = .ok (.new 304, 3) := by decide +kernel
theorem dX6_requireRoom_13 : decode cX6_requireRoom 13 = .ok (.dup, 1) := by decide +kernel
theorem dX6_requireRoom_14 : decode cX6_requireRoom 14 = .ok (.ldc_w 309, 3) := by decide +kernel
theorem dX6_requireRoom_17 : decode cX6_requireRoom 17 = .ok (.invokespecial 308, 3) := by decide +kernel
theorem dX6_requireRoom_20 : decode cX6_requireRoom 20 = .ok (.athrow, 1) := by decide +kernel
theorem dX6_requireRoom_21 : decode cX6_requireRoom 21 = .ok (.return_, 1) := by decide +kernel
theorem dX6_requireNights_0 : decode cX6_requireNights 0 = .ok (.iload_n 0, 1) := by decide +kernel
theorem dX6_requireNights_1 : decode cX6_requireNights 1 = .ok (.iconst 1, 1) := by decide +kernel
theorem dX6_requireNights_2 : decode cX6_requireNights 2 = .ok (.if_icmp .lt 9, 3) := by decide +kernel
theorem dX6_requireNights_5 : decode cX6_requireNights 5 = .ok (.iload_n 0, 1) := by decide +kernel
theorem dX6_requireNights_6 : decode cX6_requireNights 6 = .ok (.bipush 30, 2) := by decide +kernel
theorem dX6_requireNights_8 : decode cX6_requireNights 8 = .ok (.if_icmp .le 14, 3) := by decide +kernel
theorem dX6_requireNights_11 : decode cX6_requireNights 11 = .ok (.new 59, 3) := by decide +kernel
theorem dX6_requireNights_14 : decode cX6_requireNights 14 = .ok (.dup, 1) := by decide +kernel
theorem dX6_requireNights_15 : decode cX6_requireNights 15 = .ok (.ldc_w 311, 3) := by decide +kernel
theorem dX6_requireNights_18 : decode cX6_requireNights 18 = .ok (.invokespecial 63, 3) := by decide +kernel
theorem dX6_requireNights_21 : decode cX6_requireNights 21 = .ok (.athrow, 1) := by decide +kernel
theorem dX6_requireNights_22 : decode cX6_requireNights 22 = .ok (.return_, 1) := by decide +kernel
theorem dX6_requireSet_0 : decode cX6_requireSet 0 = .ok (.iload_n 1, 1) := by decide +kernel
theorem dX6_requireSet_1 : decode cX6_requireSet 1 = .ok (.ifCond .lt 16, 3) := by decide +kernel
theorem dX6_requireSet_4 : decode cX6_requireSet 4 = .ok (.iload_n 1, 1) := by decide +kernel
theorem dX6_requireSet_5 : decode cX6_requireSet 5 = .ok (.iconst 1, 1) := by decide +kernel
theorem dX6_requireSet_6 : decode cX6_requireSet 6 = .ok (.aload_n 0, 1) := by decide +kernel
theorem dX6_requireSet_7 : decode cX6_requireSet 7 = .ok (.getfield 10, 3) := by decide +kernel
theorem dX6_requireSet_10 : decode cX6_requireSet 10 = .ok (.getfield 70, 3) := by decide +kernel
theorem dX6_requireSet_13 : decode cX6_requireSet 13 = .ok (.ishl, 1) := by decide +kernel
theorem dX6_requireSet_14 : decode cX6_requireSet 14 = .ok (.if_icmp .lt 14, 3) := by decide +kernel
theorem dX6_requireSet_17 : decode cX6_requireSet 17 = .ok (.new 59, 3) := by decide +kernel
theorem dX6_requireSet_20 : decode cX6_requireSet 20 = .ok (.dup, 1) := by decide +kernel
theorem dX6_requireSet_21 : decode cX6_requireSet 21 = .ok (.ldc_w 313, 3) := by decide +kernel
theorem dX6_requireSet_24 : decode cX6_requireSet 24 = .ok (.invokespecial 63, 3) := by decide +kernel
theorem dX6_requireSet_27 : decode cX6_requireSet 27 = .ok (.athrow, 1) := by decide +kernel
theorem dX6_requireSet_28 : decode cX6_requireSet 28 = .ok (.return_, 1) := by decide +kernel
theorem dX6_isPartOf_0 : decode cX6_isPartOf 0 = .ok (.iload_n 0, 1) := by decide +kernel
theorem dX6_isPartOf_1 : decode cX6_isPartOf 1 = .ok (.iload_n 1, 1) := by decide +kernel
theorem dX6_isPartOf_2 : decode cX6_isPartOf 2 = .ok (.iconst (-1), 1) := by decide +kernel
theorem dX6_isPartOf_3 : decode cX6_isPartOf 3 = .ok (.ixor, 1) := by decide +kernel
theorem dX6_isPartOf_4 : decode cX6_isPartOf 4 = .ok (.iand, 1) := by decide +kernel
theorem dX6_isPartOf_5 : decode cX6_isPartOf 5 = .ok (.ifCond .ne 7, 3) := by decide +kernel
theorem dX6_isPartOf_8 : decode cX6_isPartOf 8 = .ok (.iconst 1, 1) := by decide +kernel
theorem dX6_isPartOf_9 : decode cX6_isPartOf 9 = .ok (.goto 4, 3) := by decide +kernel
theorem dX6_isPartOf_12 : decode cX6_isPartOf 12 = .ok (.iconst 0, 1) := by decide +kernel
theorem dX6_isPartOf_13 : decode cX6_isPartOf 13 = .ok (.ireturn, 1) := by decide +kernel
theorem dX6_hasWay_0 : decode cX6_hasWay 0 = .ok (.lload_n 0, 1) := by decide +kernel
theorem dX6_hasWay_1 : decode cX6_hasWay 1 = .ok (.iload_n 2, 1) := by decide +kernel
theorem dX6_hasWay_2 : decode cX6_hasWay 2 = .ok (.lushr, 1) := by decide +kernel
theorem dX6_hasWay_3 : decode cX6_hasWay 3 = .ok (.lconst 1, 1) := by decide +kernel
theorem dX6_hasWay_4 : decode cX6_hasWay 4 = .ok (.land, 1) := by decide +kernel
theorem dX6_hasWay_5 : decode cX6_hasWay 5 = .ok (.lconst 0, 1) := by decide +kernel
theorem dX6_hasWay_6 : decode cX6_hasWay 6 = .ok (.lcmp, 1) := by decide +kernel
theorem dX6_hasWay_7 : decode cX6_hasWay 7 = .ok (.ifCond .eq 7, 3) := by decide +kernel
theorem dX6_hasWay_10 : decode cX6_hasWay 10 = .ok (.iconst 1, 1) := by decide +kernel
theorem dX6_hasWay_11 : decode cX6_hasWay 11 = .ok (.goto 4, 3) := by decide +kernel
theorem dX6_hasWay_14 : decode cX6_hasWay 14 = .ok (.iconst 0, 1) := by decide +kernel
theorem dX6_hasWay_15 : decode cX6_hasWay 15 = .ok (.ireturn, 1) := by decide +kernel
theorem dX6_countWays_0 : decode cX6_countWays 0 = .ok (.aload_n 0, 1) := by decide +kernel
theorem dX6_countWays_1 : decode cX6_countWays 1 = .ok (.getfield 10, 3) := by decide +kernel
theorem dX6_countWays_4 : decode cX6_countWays 4 = .ok (.invokevirtual 221, 3) := by decide +kernel
theorem dX6_countWays_7 : decode cX6_countWays 7 = .ok (.invokestatic 315, 3) := by decide +kernel
theorem dX6_countWays_10 : decode cX6_countWays 10 = .ok (.ireturn, 1) := by decide +kernel
theorem dX6_commonIn_0 : decode cX6_commonIn 0 = .ok (.aload_n 0, 1) := by decide +kernel
theorem dX6_commonIn_1 : decode cX6_commonIn 1 = .ok (.getfield 10, 3) := by decide +kernel
theorem dX6_commonIn_4 : decode cX6_commonIn 4 = .ok (.invokevirtual 221, 3) := by decide +kernel
theorem dX6_commonIn_7 : decode cX6_commonIn 7 = .ok (.lstore_n 2, 1) := by decide +kernel
theorem dX6_commonIn_8 : decode cX6_commonIn 8 = .ok (.iconst 0, 1) := by decide +kernel
theorem dX6_commonIn_9 : decode cX6_commonIn 9 = .ok (.istore 4, 2) := by decide +kernel
theorem dX6_commonIn_11 : decode cX6_commonIn 11 = .ok (.iconst 0, 1) := by decide +kernel
theorem dX6_commonIn_12 : decode cX6_commonIn 12 = .ok (.istore 5, 2) := by decide +kernel
theorem dX6_commonIn_14 : decode cX6_commonIn 14 = .ok (.iconst 0, 1) := by decide +kernel
theorem dX6_commonIn_15 : decode cX6_commonIn 15 = .ok (.istore 6, 2) := by decide +kernel
theorem dX6_commonIn_17 : decode cX6_commonIn 17 = .ok (.iload 6, 2) := by decide +kernel
theorem dX6_commonIn_19 : decode cX6_commonIn 19 = .ok (.bipush 64, 2) := by decide +kernel
theorem dX6_commonIn_21 : decode cX6_commonIn 21 = .ok (.if_icmp .ge 68, 3) := by decide +kernel
theorem dX6_commonIn_24 : decode cX6_commonIn 24 = .ok (.lload_n 2, 1) := by decide +kernel
theorem dX6_commonIn_25 : decode cX6_commonIn 25 = .ok (.iload 6, 2) := by decide +kernel
theorem dX6_commonIn_27 : decode cX6_commonIn 27 = .ok (.invokestatic 225, 3) := by decide +kernel
theorem dX6_commonIn_30 : decode cX6_commonIn 30 = .ok (.ifCond .eq 53, 3) := by decide +kernel
theorem dX6_commonIn_33 : decode cX6_commonIn 33 = .ok (.iload 6, 2) := by decide +kernel
theorem dX6_commonIn_35 : decode cX6_commonIn 35 = .ok (.iload_n 1, 1) := by decide +kernel
theorem dX6_commonIn_36 : decode cX6_commonIn 36 = .ok (.ishr, 1) := by decide +kernel
theorem dX6_commonIn_37 : decode cX6_commonIn 37 = .ok (.iconst 1, 1) := by decide +kernel
theorem dX6_commonIn_38 : decode cX6_commonIn 38 = .ok (.iand, 1) := by decide +kernel
theorem dX6_commonIn_39 : decode cX6_commonIn 39 = .ok (.ifCond .eq 7, 3) := by decide +kernel
theorem dX6_commonIn_42 : decode cX6_commonIn 42 = .ok (.iconst 1, 1) := by decide +kernel
theorem dX6_commonIn_43 : decode cX6_commonIn 43 = .ok (.goto 4, 3) := by decide +kernel
theorem dX6_commonIn_46 : decode cX6_commonIn 46 = .ok (.iconst 0, 1) := by decide +kernel
theorem dX6_commonIn_47 : decode cX6_commonIn 47 = .ok (.istore 7, 2) := by decide +kernel
theorem dX6_commonIn_49 : decode cX6_commonIn 49 = .ok (.iload 4, 2) := by decide +kernel
theorem dX6_commonIn_51 : decode cX6_commonIn 51 = .ok (.ifCond .ne 8, 3) := by decide +kernel
theorem dX6_commonIn_54 : decode cX6_commonIn 54 = .ok (.iload 7, 2) := by decide +kernel
theorem dX6_commonIn_56 : decode cX6_commonIn 56 = .ok (.ifCond .eq 7, 3) := by decide +kernel
theorem dX6_commonIn_59 : decode cX6_commonIn 59 = .ok (.iconst 1, 1) := by decide +kernel
theorem dX6_commonIn_60 : decode cX6_commonIn 60 = .ok (.goto 4, 3) := by decide +kernel
theorem dX6_commonIn_63 : decode cX6_commonIn 63 = .ok (.iconst 0, 1) := by decide +kernel
theorem dX6_commonIn_64 : decode cX6_commonIn 64 = .ok (.istore 4, 2) := by decide +kernel
theorem dX6_commonIn_66 : decode cX6_commonIn 66 = .ok (.iload 5, 2) := by decide +kernel
theorem dX6_commonIn_68 : decode cX6_commonIn 68 = .ok (.ifCond .ne 8, 3) := by decide +kernel
theorem dX6_commonIn_71 : decode cX6_commonIn 71 = .ok (.iload 7, 2) := by decide +kernel
theorem dX6_commonIn_73 : decode cX6_commonIn 73 = .ok (.ifCond .ne 7, 3) := by decide +kernel
theorem dX6_commonIn_76 : decode cX6_commonIn 76 = .ok (.iconst 1, 1) := by decide +kernel
theorem dX6_commonIn_77 : decode cX6_commonIn 77 = .ok (.goto 4, 3) := by decide +kernel
theorem dX6_commonIn_80 : decode cX6_commonIn 80 = .ok (.iconst 0, 1) := by decide +kernel
theorem dX6_commonIn_81 : decode cX6_commonIn 81 = .ok (.istore 5, 2) := by decide +kernel
theorem dX6_commonIn_83 : decode cX6_commonIn 83 = .ok (.iinc 6 1, 3) := by decide +kernel
theorem dX6_commonIn_86 : decode cX6_commonIn 86 = .ok (.goto (-69), 3) := by decide +kernel
theorem dX6_commonIn_89 : decode cX6_commonIn 89 = .ok (.iload 4, 2) := by decide +kernel
theorem dX6_commonIn_91 : decode cX6_commonIn 91 = .ok (.ifCond .eq 14, 3) := by decide +kernel
theorem dX6_commonIn_94 : decode cX6_commonIn 94 = .ok (.iload 5, 2) := by decide +kernel
theorem dX6_commonIn_96 : decode cX6_commonIn 96 = .ok (.ifCond .eq 7, 3) := by decide +kernel
theorem dX6_commonIn_99 : decode cX6_commonIn 99 = .ok (.iconst 2, 1) := by decide +kernel
theorem dX6_commonIn_100 : decode cX6_commonIn 100 = .ok (.goto 4, 3) := by decide +kernel
theorem dX6_commonIn_103 : decode cX6_commonIn 103 = .ok (.iconst 1, 1) := by decide +kernel
theorem dX6_commonIn_104 : decode cX6_commonIn 104 = .ok (.ireturn, 1) := by decide +kernel
theorem dX6_commonIn_105 : decode cX6_commonIn 105 = .ok (.iload 5, 2) := by decide +kernel
theorem dX6_commonIn_107 : decode cX6_commonIn 107 = .ok (.ifCond .eq 7, 3) := by decide +kernel
theorem dX6_commonIn_110 : decode cX6_commonIn 110 = .ok (.iconst 0, 1) := by decide +kernel
theorem dX6_commonIn_111 : decode cX6_commonIn 111 = .ok (.goto 4, 3) := by decide +kernel
theorem dX6_commonIn_114 : decode cX6_commonIn 114 = .ok (.iconst (-1), 1) := by decide +kernel
theorem dX6_commonIn_115 : decode cX6_commonIn 115 = .ok (.ireturn, 1) := by decide +kernel
theorem dX6_oneTurnFurther_0 : decode cX6_oneTurnFurther 0 = .ok (.lload_n 0, 1) := by decide +kernel
theorem dX6_oneTurnFurther_1 : decode cX6_oneTurnFurther 1 = .ok (.lstore_n 2, 1) := by decide +kernel
theorem dX6_oneTurnFurther_2 : decode cX6_oneTurnFurther 2 = .ok (.iconst 0, 1) := by decide +kernel
theorem dX6_oneTurnFurther_3 : decode cX6_oneTurnFurther 3 = .ok (.istore 4, 2) := by decide +kernel
theorem dX6_oneTurnFurther_5 : decode cX6_oneTurnFurther 5 = .ok (.iload 4, 2) := by decide +kernel
theorem dX6_oneTurnFurther_7 : decode cX6_oneTurnFurther 7 = .ok (.bipush 64, 2) := by decide +kernel
theorem dX6_oneTurnFurther_9 : decode cX6_oneTurnFurther 9 = .ok (.if_icmp .ge 46, 3) := by decide +kernel
theorem dX6_oneTurnFurther_12 : decode cX6_oneTurnFurther 12 = .ok (.iconst 0, 1) := by decide +kernel
theorem dX6_oneTurnFurther_13 : decode cX6_oneTurnFurther 13 = .ok (.istore 5, 2) := by decide +kernel
theorem dX6_oneTurnFurther_15 : decode cX6_oneTurnFurther 15 = .ok (.iload 5, 2) := by decide +kernel
theorem dX6_oneTurnFurther_17 : decode cX6_oneTurnFurther 17 = .ok (.bipush 6, 2) := by decide +kernel
theorem dX6_oneTurnFurther_19 : decode cX6_oneTurnFurther 19 = .ok (.if_icmp .ge 30, 3) := by decide +kernel
theorem dX6_oneTurnFurther_22 : decode cX6_oneTurnFurther 22 = .ok (.lload_n 0, 1) := by decide +kernel
theorem dX6_oneTurnFurther_23 : decode cX6_oneTurnFurther 23 = .ok (.iload 4, 2) := by decide +kernel
theorem dX6_oneTurnFurther_25 : decode cX6_oneTurnFurther 25 = .ok (.invokestatic 225, 3) := by decide +kernel
theorem dX6_oneTurnFurther_28 : decode cX6_oneTurnFurther 28 = .ok (.ifCond .eq 21, 3) := by decide +kernel
theorem dX6_oneTurnFurther_31 : decode cX6_oneTurnFurther 31 = .ok (.lload_n 2, 1) := by decide +kernel
theorem dX6_oneTurnFurther_32 : decode cX6_oneTurnFurther 32 = .ok (.lconst 1, 1) := by decide +kernel
theorem dX6_oneTurnFurther_33 : decode cX6_oneTurnFurther 33 = .ok (.iload 4, 2) := by decide +kernel
theorem dX6_oneTurnFurther_35 : decode cX6_oneTurnFurther 35 = .ok (.iconst 1, 1) := by decide +kernel
theorem dX6_oneTurnFurther_36 : decode cX6_oneTurnFurther 36 = .ok (.iload 5, 2) := by decide +kernel
theorem dX6_oneTurnFurther_38 : decode cX6_oneTurnFurther 38 = .ok (.ishl, 1) := by decide +kernel
theorem dX6_oneTurnFurther_39 : decode cX6_oneTurnFurther 39 = .ok (.ixor, 1) := by decide +kernel
theorem dX6_oneTurnFurther_40 : decode cX6_oneTurnFurther 40 = .ok (.lshl, 1) := by decide +kernel
theorem dX6_oneTurnFurther_41 : decode cX6_oneTurnFurther 41 = .ok (.lor, 1) := by decide +kernel
theorem dX6_oneTurnFurther_42 : decode cX6_oneTurnFurther 42 = .ok (.lstore_n 2, 1) := by decide +kernel
theorem dX6_oneTurnFurther_43 : decode cX6_oneTurnFurther 43 = .ok (.iinc 5 1, 3) := by decide +kernel
theorem dX6_oneTurnFurther_46 : decode cX6_oneTurnFurther 46 = .ok (.goto (-31), 3) := by decide +kernel
theorem dX6_oneTurnFurther_49 : decode cX6_oneTurnFurther 49 = .ok (.iinc 4 1, 3) := by decide +kernel
theorem dX6_oneTurnFurther_52 : decode cX6_oneTurnFurther 52 = .ok (.goto (-47), 3) := by decide +kernel
theorem dX6_oneTurnFurther_55 : decode cX6_oneTurnFurther 55 = .ok (.lload_n 2, 1) := by decide +kernel
theorem dX6_oneTurnFurther_56 : decode cX6_oneTurnFurther 56 = .ok (.lreturn, 1) := by decide +kernel
theorem dX6_followsFromOthers_0 : decode cX6_followsFromOthers 0 = .ok (.aload_n 0, 1) := by decide +kernel
theorem dX6_followsFromOthers_1 : decode cX6_followsFromOthers 1 = .ok (.getfield 10, 3) := by decide +kernel
theorem dX6_followsFromOthers_4 : decode cX6_followsFromOthers 4 = .ok (.aload_n 0, 1) := by decide +kernel
theorem dX6_followsFromOthers_5 : decode cX6_followsFromOthers 5 = .ok (.getfield 10, 3) := by decide +kernel
theorem dX6_followsFromOthers_8 : decode cX6_followsFromOthers 8 = .ok (.getfield 149, 3) := by decide +kernel
theorem dX6_followsFromOthers_11 : decode cX6_followsFromOthers 11 = .ok (.invokevirtual 181, 3) := by decide +kernel
theorem dX6_followsFromOthers_14 : decode cX6_followsFromOthers 14 = .ok (.istore_n 2, 1) := by decide +kernel
theorem dX6_followsFromOthers_15 : decode cX6_followsFromOthers 15 = .ok (.iload_n 2, 1) := by decide +kernel
theorem dX6_followsFromOthers_16 : decode cX6_followsFromOthers 16 = .ok (.iload_n 1, 1) := by decide +kernel
theorem dX6_followsFromOthers_17 : decode cX6_followsFromOthers 17 = .ok (.ishr, 1) := by decide +kernel
theorem dX6_followsFromOthers_18 : decode cX6_followsFromOthers 18 = .ok (.iconst 1, 1) := by decide +kernel
theorem dX6_followsFromOthers_19 : decode cX6_followsFromOthers 19 = .ok (.iand, 1) := by decide +kernel
theorem dX6_followsFromOthers_20 : decode cX6_followsFromOthers 20 = .ok (.ifCond .ne 5, 3) := by decide +kernel
theorem dX6_followsFromOthers_23 : decode cX6_followsFromOthers 23 = .ok (.iconst 0, 1) := by decide +kernel
theorem dX6_followsFromOthers_24 : decode cX6_followsFromOthers 24 = .ok (.ireturn, 1) := by decide +kernel
theorem dX6_followsFromOthers_25 : decode cX6_followsFromOthers 25 = .ok (.aload_n 0, 1) := by decide +kernel
theorem dX6_followsFromOthers_26 : decode cX6_followsFromOthers 26 = .ok (.getfield 10, 3) := by decide +kernel
theorem dX6_followsFromOthers_29 : decode cX6_followsFromOthers 29 = .ok (.iload_n 2, 1) := by decide +kernel
theorem dX6_followsFromOthers_30 : decode cX6_followsFromOthers 30 = .ok (.iconst 1, 1) := by decide +kernel
theorem dX6_followsFromOthers_31 : decode cX6_followsFromOthers 31 = .ok (.iload_n 1, 1) := by decide +kernel
theorem dX6_followsFromOthers_32 : decode cX6_followsFromOthers 32 = .ok (.ishl, 1) := by decide +kernel
theorem dX6_followsFromOthers_33 : decode cX6_followsFromOthers 33 = .ok (.iconst (-1), 1) := by decide +kernel
theorem dX6_followsFromOthers_34 : decode cX6_followsFromOthers 34 = .ok (.ixor, 1) := by decide +kernel
theorem dX6_followsFromOthers_35 : decode cX6_followsFromOthers 35 = .ok (.iand, 1) := by decide +kernel
theorem dX6_followsFromOthers_36 : decode cX6_followsFromOthers 36 = .ok (.invokevirtual 202, 3) := by decide +kernel
theorem dX6_followsFromOthers_39 : decode cX6_followsFromOthers 39 = .ok (.lstore_n 3, 1) := by decide +kernel
theorem dX6_followsFromOthers_40 : decode cX6_followsFromOthers 40 = .ok (.lload_n 3, 1) := by decide +kernel
theorem dX6_followsFromOthers_41 : decode cX6_followsFromOthers 41 = .ok (.aload_n 0, 1) := by decide +kernel
theorem dX6_followsFromOthers_42 : decode cX6_followsFromOthers 42 = .ok (.getfield 10, 3) := by decide +kernel
theorem dX6_followsFromOthers_45 : decode cX6_followsFromOthers 45 = .ok (.iload_n 1, 1) := by decide +kernel
theorem dX6_followsFromOthers_46 : decode cX6_followsFromOthers 46 = .ok (.invokevirtual 93, 3) := by decide +kernel
theorem dX6_followsFromOthers_49 : decode cX6_followsFromOthers 49 = .ok (.getfield 320, 3) := by decide +kernel
theorem dX6_followsFromOthers_52 : decode cX6_followsFromOthers 52 = .ok (.ldc2_w 253, 3) := by decide +kernel
theorem dX6_followsFromOthers_55 : decode cX6_followsFromOthers 55 = .ok (.lxor, 1) := by decide +kernel
theorem dX6_followsFromOthers_56 : decode cX6_followsFromOthers 56 = .ok (.land, 1) := by decide +kernel
theorem dX6_followsFromOthers_57 : decode cX6_followsFromOthers 57 = .ok (.lconst 0, 1) := by decide +kernel
theorem dX6_followsFromOthers_58 : decode cX6_followsFromOthers 58 = .ok (.lcmp, 1) := by decide +kernel
theorem dX6_followsFromOthers_59 : decode cX6_followsFromOthers 59 = .ok (.ifCond .ne 7, 3) := by decide +kernel
theorem dX6_followsFromOthers_62 : decode cX6_followsFromOthers 62 = .ok (.iconst 1, 1) := by decide +kernel
theorem dX6_followsFromOthers_63 : decode cX6_followsFromOthers 63 = .ok (.goto 4, 3) := by decide +kernel
theorem dX6_followsFromOthers_66 : decode cX6_followsFromOthers 66 = .ok (.iconst 0, 1) := by decide +kernel
theorem dX6_followsFromOthers_67 : decode cX6_followsFromOthers 67 = .ok (.ireturn, 1) := by decide +kernel
theorem dX6_followsWhenSplit_0 : decode cX6_followsWhenSplit 0 = .ok (.aload_n 0, 1) := by decide +kernel
theorem dX6_followsWhenSplit_1 : decode cX6_followsWhenSplit 1 = .ok (.getfield 10, 3) := by decide +kernel
theorem dX6_followsWhenSplit_4 : decode cX6_followsWhenSplit 4 = .ok (.aload_n 0, 1) := by decide +kernel
theorem dX6_followsWhenSplit_5 : decode cX6_followsWhenSplit 5 = .ok (.getfield 10, 3) := by decide +kernel
theorem dX6_followsWhenSplit_8 : decode cX6_followsWhenSplit 8 = .ok (.getfield 149, 3) := by decide +kernel
theorem dX6_followsWhenSplit_11 : decode cX6_followsWhenSplit 11 = .ok (.invokevirtual 181, 3) := by decide +kernel
theorem dX6_followsWhenSplit_14 : decode cX6_followsWhenSplit 14 = .ok (.istore_n 2, 1) := by decide +kernel
theorem dX6_followsWhenSplit_15 : decode cX6_followsWhenSplit 15 = .ok (.iload_n 2, 1) := by decide +kernel
theorem dX6_followsWhenSplit_16 : decode cX6_followsWhenSplit 16 = .ok (.iload_n 1, 1) := by decide +kernel
theorem dX6_followsWhenSplit_17 : decode cX6_followsWhenSplit 17 = .ok (.ishr, 1) := by decide +kernel
theorem dX6_followsWhenSplit_18 : decode cX6_followsWhenSplit 18 = .ok (.iconst 1, 1) := by decide +kernel
theorem dX6_followsWhenSplit_19 : decode cX6_followsWhenSplit 19 = .ok (.iand, 1) := by decide +kernel
theorem dX6_followsWhenSplit_20 : decode cX6_followsWhenSplit 20 = .ok (.ifCond .ne 5, 3) := by decide +kernel
theorem dX6_followsWhenSplit_23 : decode cX6_followsWhenSplit 23 = .ok (.iconst 0, 1) := by decide +kernel
theorem dX6_followsWhenSplit_24 : decode cX6_followsWhenSplit 24 = .ok (.ireturn, 1) := by decide +kernel
theorem dX6_followsWhenSplit_25 : decode cX6_followsWhenSplit 25 = .ok (.aload_n 0, 1) := by decide +kernel
theorem dX6_followsWhenSplit_26 : decode cX6_followsWhenSplit 26 = .ok (.getfield 10, 3) := by decide +kernel
theorem dX6_followsWhenSplit_29 : decode cX6_followsWhenSplit 29 = .ok (.iload_n 1, 1) := by decide +kernel
theorem dX6_followsWhenSplit_30 : decode cX6_followsWhenSplit 30 = .ok (.invokevirtual 93, 3) := by decide +kernel
theorem dX6_followsWhenSplit_33 : decode cX6_followsWhenSplit 33 = .ok (.astore_n 3, 1) := by decide +kernel
theorem dX6_followsWhenSplit_34 : decode cX6_followsWhenSplit 34 = .ok (.aload_n 0, 1) := by decide +kernel
theorem dX6_followsWhenSplit_35 : decode cX6_followsWhenSplit 35 = .ok (.getfield 10, 3) := by decide +kernel
theorem dX6_followsWhenSplit_38 : decode cX6_followsWhenSplit 38 = .ok (.iload_n 2, 1) := by decide +kernel
theorem dX6_followsWhenSplit_39 : decode cX6_followsWhenSplit 39 = .ok (.iconst 1, 1) := by decide +kernel
theorem dX6_followsWhenSplit_40 : decode cX6_followsWhenSplit 40 = .ok (.iload_n 1, 1) := by decide +kernel
theorem dX6_followsWhenSplit_41 : decode cX6_followsWhenSplit 41 = .ok (.ishl, 1) := by decide +kernel
theorem dX6_followsWhenSplit_42 : decode cX6_followsWhenSplit 42 = .ok (.iconst (-1), 1) := by decide +kernel
theorem dX6_followsWhenSplit_43 : decode cX6_followsWhenSplit 43 = .ok (.ixor, 1) := by decide +kernel
theorem dX6_followsWhenSplit_44 : decode cX6_followsWhenSplit 44 = .ok (.iand, 1) := by decide +kernel
theorem dX6_followsWhenSplit_45 : decode cX6_followsWhenSplit 45 = .ok (.iconst 0, 1) := by decide +kernel
theorem dX6_followsWhenSplit_46 : decode cX6_followsWhenSplit 46 = .ok (.aload_n 3, 1) := by decide +kernel
theorem dX6_followsWhenSplit_47 : decode cX6_followsWhenSplit 47 = .ok (.getfield 163, 3) := by decide +kernel
theorem dX6_followsWhenSplit_50 : decode cX6_followsWhenSplit 50 = .ok (.aload_n 3, 1) := by decide +kernel
theorem dX6_followsWhenSplit_51 : decode cX6_followsWhenSplit 51 = .ok (.getfield 160, 3) := by decide +kernel
theorem dX6_followsWhenSplit_54 : decode cX6_followsWhenSplit 54 = .ok (.invokestatic 206, 3) := by decide +kernel
theorem dX6_followsWhenSplit_57 : decode cX6_followsWhenSplit 57 = .ok (.ifCond .ne 7, 3) := by decide +kernel
theorem dX6_followsWhenSplit_60 : decode cX6_followsWhenSplit 60 = .ok (.iconst 1, 1) := by decide +kernel
theorem dX6_followsWhenSplit_61 : decode cX6_followsWhenSplit 61 = .ok (.goto 4, 3) := by decide +kernel
theorem dX6_followsWhenSplit_64 : decode cX6_followsWhenSplit 64 = .ok (.iconst 0, 1) := by decide +kernel
theorem dX6_followsWhenSplit_65 : decode cX6_followsWhenSplit 65 = .ok (.ireturn, 1) := by decide +kernel
theorem dX6_splitWays_0 : decode cX6_splitWays 0 = .ok (.aload_n 0, 1) := by decide +kernel
theorem dX6_splitWays_1 : decode cX6_splitWays 1 = .ok (.iload_n 1, 1) := by decide +kernel
theorem dX6_splitWays_2 : decode cX6_splitWays 2 = .ok (.iload_n 3, 1) := by decide +kernel
theorem dX6_splitWays_3 : decode cX6_splitWays 3 = .ok (.iload 4, 2) := by decide +kernel
theorem dX6_splitWays_5 : decode cX6_splitWays 5 = .ok (.invokevirtual 324, 3) := by decide +kernel
theorem dX6_splitWays_8 : decode cX6_splitWays 8 = .ok (.ifCond .eq 5, 3) := by decide +kernel
theorem dX6_splitWays_11 : decode cX6_splitWays 11 = .ok (.iconst 0, 1) := by decide +kernel
theorem dX6_splitWays_12 : decode cX6_splitWays 12 = .ok (.ireturn, 1) := by decide +kernel
theorem dX6_splitWays_13 : decode cX6_splitWays 13 = .ok (.iload_n 2, 1) := by decide +kernel
theorem dX6_splitWays_14 : decode cX6_splitWays 14 = .ok (.bipush 6, 2) := by decide +kernel
theorem dX6_splitWays_16 : decode cX6_splitWays 16 = .ok (.if_icmp .lt 5, 3) := by decide +kernel
theorem dX6_splitWays_19 : decode cX6_splitWays 19 = .ok (.iconst 1, 1) := by decide +kernel
theorem dX6_splitWays_20 : decode cX6_splitWays 20 = .ok (.ireturn, 1) := by decide +kernel
theorem dX6_splitWays_21 : decode cX6_splitWays 21 = .ok (.iconst 1, 1) := by decide +kernel
theorem dX6_splitWays_22 : decode cX6_splitWays 22 = .ok (.iload_n 2, 1) := by decide +kernel
theorem dX6_splitWays_23 : decode cX6_splitWays 23 = .ok (.ishl, 1) := by decide +kernel
theorem dX6_splitWays_24 : decode cX6_splitWays 24 = .ok (.istore 5, 2) := by decide +kernel
theorem dX6_splitWays_26 : decode cX6_splitWays 26 = .ok (.iload_n 3, 1) := by decide +kernel
theorem dX6_splitWays_27 : decode cX6_splitWays 27 = .ok (.iload 4, 2) := by decide +kernel
theorem dX6_splitWays_29 : decode cX6_splitWays 29 = .ok (.ior, 1) := by decide +kernel
theorem dX6_splitWays_30 : decode cX6_splitWays 30 = .ok (.iload 5, 2) := by decide +kernel
theorem dX6_splitWays_32 : decode cX6_splitWays 32 = .ok (.iand, 1) := by decide +kernel
theorem dX6_splitWays_33 : decode cX6_splitWays 33 = .ok (.ifCond .eq 15, 3) := by decide +kernel
theorem dX6_splitWays_36 : decode cX6_splitWays 36 = .ok (.aload_n 0, 1) := by decide +kernel
theorem dX6_splitWays_37 : decode cX6_splitWays 37 = .ok (.iload_n 1, 1) := by decide +kernel
theorem dX6_splitWays_38 : decode cX6_splitWays 38 = .ok (.iload_n 2, 1) := by decide +kernel
theorem dX6_splitWays_39 : decode cX6_splitWays 39 = .ok (.iconst 1, 1) := by decide +kernel
theorem dX6_splitWays_40 : decode cX6_splitWays 40 = .ok (.iadd, 1) := by decide +kernel
theorem dX6_splitWays_41 : decode cX6_splitWays 41 = .ok (.iload_n 3, 1) := by decide +kernel
theorem dX6_splitWays_42 : decode cX6_splitWays 42 = .ok (.iload 4, 2) := by decide +kernel
theorem dX6_splitWays_44 : decode cX6_splitWays 44 = .ok (.invokestatic 206, 3) := by decide +kernel
theorem dX6_splitWays_47 : decode cX6_splitWays 47 = .ok (.ireturn, 1) := by decide +kernel
theorem dX6_splitWays_48 : decode cX6_splitWays 48 = .ok (.aload_n 0, 1) := by decide +kernel
theorem dX6_splitWays_49 : decode cX6_splitWays 49 = .ok (.iload_n 1, 1) := by decide +kernel
theorem dX6_splitWays_50 : decode cX6_splitWays 50 = .ok (.iload_n 2, 1) := by decide +kernel
theorem dX6_splitWays_51 : decode cX6_splitWays 51 = .ok (.iconst 1, 1) := by decide +kernel
theorem dX6_splitWays_52 : decode cX6_splitWays 52 = .ok (.iadd, 1) := by decide +kernel
theorem dX6_splitWays_53 : decode cX6_splitWays 53 = .ok (.iload_n 3, 1) := by decide +kernel
theorem dX6_splitWays_54 : decode cX6_splitWays 54 = .ok (.iload 4, 2) := by decide +kernel
theorem dX6_splitWays_56 : decode cX6_splitWays 56 = .ok (.iload 5, 2) := by decide +kernel
theorem dX6_splitWays_58 : decode cX6_splitWays 58 = .ok (.ior, 1) := by decide +kernel
theorem dX6_splitWays_59 : decode cX6_splitWays 59 = .ok (.invokestatic 206, 3) := by decide +kernel
theorem dX6_splitWays_62 : decode cX6_splitWays 62 = .ok (.aload_n 0, 1) := by decide +kernel
theorem dX6_splitWays_63 : decode cX6_splitWays 63 = .ok (.iload_n 1, 1) := by decide +kernel
theorem dX6_splitWays_64 : decode cX6_splitWays 64 = .ok (.iload_n 2, 1) := by decide +kernel
theorem dX6_splitWays_65 : decode cX6_splitWays 65 = .ok (.iconst 1, 1) := by decide +kernel
theorem dX6_splitWays_66 : decode cX6_splitWays 66 = .ok (.iadd, 1) := by decide +kernel
theorem dX6_splitWays_67 : decode cX6_splitWays 67 = .ok (.iload_n 3, 1) := by decide +kernel
theorem dX6_splitWays_68 : decode cX6_splitWays 68 = .ok (.iload 5, 2) := by decide +kernel
theorem dX6_splitWays_70 : decode cX6_splitWays 70 = .ok (.ior, 1) := by decide +kernel
theorem dX6_splitWays_71 : decode cX6_splitWays 71 = .ok (.iload 4, 2) := by decide +kernel
theorem dX6_splitWays_73 : decode cX6_splitWays 73 = .ok (.invokestatic 206, 3) := by decide +kernel
theorem dX6_splitWays_76 : decode cX6_splitWays 76 = .ok (.iadd, 1) := by decide +kernel
theorem dX6_splitWays_77 : decode cX6_splitWays 77 = .ok (.ireturn, 1) := by decide +kernel
theorem dX6_splitCheapest_0 : decode cX6_splitCheapest 0 = .ok (.aload_n 0, 1) := by decide +kernel
theorem dX6_splitCheapest_1 : decode cX6_splitCheapest 1 = .ok (.aload_n 0, 1) := by decide +kernel
theorem dX6_splitCheapest_2 : decode cX6_splitCheapest 2 = .ok (.iload_n 1, 1) := by decide +kernel
theorem dX6_splitCheapest_3 : decode cX6_splitCheapest 3 = .ok (.iload_n 3, 1) := by decide +kernel
theorem dX6_splitCheapest_4 : decode cX6_splitCheapest 4 = .ok (.iload 4, 2) := by decide +kernel
theorem dX6_splitCheapest_6 : decode cX6_splitCheapest 6 = .ok (.invokevirtual 324, 3) := by decide +kernel
theorem dX6_splitCheapest_9 : decode cX6_splitCheapest 9 = .ok (.invokevirtual 272, 3) := by decide +kernel
theorem dX6_splitCheapest_12 : decode cX6_splitCheapest 12 = .ok (.istore 6, 2) := by decide +kernel
theorem dX6_splitCheapest_14 : decode cX6_splitCheapest 14 = .ok (.iload_n 2, 1) := by decide +kernel
theorem dX6_splitCheapest_15 : decode cX6_splitCheapest 15 = .ok (.bipush 6, 2) := by decide +kernel
theorem dX6_splitCheapest_17 : decode cX6_splitCheapest 17 = .ok (.if_icmp .ge 10, 3) := by decide +kernel
theorem dX6_splitCheapest_20 : decode cX6_splitCheapest 20 = .ok (.iload 6, 2) := by decide +kernel
theorem dX6_splitCheapest_22 : decode cX6_splitCheapest 22 = .ok (.iload 5, 2) := by decide +kernel
theorem dX6_splitCheapest_24 : decode cX6_splitCheapest 24 = .ok (.if_icmp .lt 11, 3) := by decide +kernel
theorem dX6_splitCheapest_27 : decode cX6_splitCheapest 27 = .ok (.iload 6, 2) := by decide +kernel
theorem dX6_splitCheapest_29 : decode cX6_splitCheapest 29 = .ok (.iload 5, 2) := by decide +kernel
theorem dX6_splitCheapest_31 : decode cX6_splitCheapest 31 = .ok (.invokestatic 327, 3) := by decide +kernel
theorem dX6_splitCheapest_34 : decode cX6_splitCheapest 34 = .ok (.ireturn, 1) := by decide +kernel
theorem dX6_splitCheapest_35 : decode cX6_splitCheapest 35 = .ok (.iconst 1, 1) := by decide +kernel
theorem dX6_splitCheapest_36 : decode cX6_splitCheapest 36 = .ok (.iload_n 2, 1) := by decide +kernel
theorem dX6_splitCheapest_37 : decode cX6_splitCheapest 37 = .ok (.ishl, 1) := by decide +kernel
theorem dX6_splitCheapest_38 : decode cX6_splitCheapest 38 = .ok (.istore 7, 2) := by decide +kernel
theorem dX6_splitCheapest_40 : decode cX6_splitCheapest 40 = .ok (.aload_n 0, 1) := by decide +kernel
theorem dX6_splitCheapest_41 : decode cX6_splitCheapest 41 = .ok (.iload_n 1, 1) := by decide +kernel
theorem dX6_splitCheapest_42 : decode cX6_splitCheapest 42 = .ok (.iload_n 2, 1) := by decide +kernel
theorem dX6_splitCheapest_43 : decode cX6_splitCheapest 43 = .ok (.iconst 1, 1) := by decide +kernel
theorem dX6_splitCheapest_44 : decode cX6_splitCheapest 44 = .ok (.iadd, 1) := by decide +kernel
theorem dX6_splitCheapest_45 : decode cX6_splitCheapest 45 = .ok (.iload_n 3, 1) := by decide +kernel
theorem dX6_splitCheapest_46 : decode cX6_splitCheapest 46 = .ok (.iload 4, 2) := by decide +kernel
theorem dX6_splitCheapest_48 : decode cX6_splitCheapest 48 = .ok (.iload 7, 2) := by decide +kernel
theorem dX6_splitCheapest_50 : decode cX6_splitCheapest 50 = .ok (.ior, 1) := by decide +kernel
theorem dX6_splitCheapest_51 : decode cX6_splitCheapest 51 = .ok (.iload 5, 2) := by decide +kernel
theorem dX6_splitCheapest_53 : decode cX6_splitCheapest 53 = .ok (.invokestatic 275, 3) := by decide +kernel
theorem dX6_splitCheapest_56 : decode cX6_splitCheapest 56 = .ok (.istore 8, 2) := by decide +kernel
theorem dX6_splitCheapest_58 : decode cX6_splitCheapest 58 = .ok (.aload_n 0, 1) := by decide +kernel
theorem dX6_splitCheapest_59 : decode cX6_splitCheapest 59 = .ok (.iload_n 1, 1) := by decide +kernel
theorem dX6_splitCheapest_60 : decode cX6_splitCheapest 60 = .ok (.iload_n 2, 1) := by decide +kernel
theorem dX6_splitCheapest_61 : decode cX6_splitCheapest 61 = .ok (.iconst 1, 1) := by decide +kernel
theorem dX6_splitCheapest_62 : decode cX6_splitCheapest 62 = .ok (.iadd, 1) := by decide +kernel
theorem dX6_splitCheapest_63 : decode cX6_splitCheapest 63 = .ok (.iload_n 3, 1) := by decide +kernel
theorem dX6_splitCheapest_64 : decode cX6_splitCheapest 64 = .ok (.iload 7, 2) := by decide +kernel
theorem dX6_splitCheapest_66 : decode cX6_splitCheapest 66 = .ok (.ior, 1) := by decide +kernel
theorem dX6_splitCheapest_67 : decode cX6_splitCheapest 67 = .ok (.iload 4, 2) := by decide +kernel
theorem dX6_splitCheapest_69 : decode cX6_splitCheapest 69 = .ok (.iload 8, 2) := by decide +kernel
theorem dX6_splitCheapest_71 : decode cX6_splitCheapest 71 = .ok (.invokestatic 275, 3) := by decide +kernel
theorem dX6_splitCheapest_74 : decode cX6_splitCheapest 74 = .ok (.ireturn, 1) := by decide +kernel
theorem dX6_leastClash_0 : decode cX6_leastClash 0 = .ok (.iload_n 3, 1) := by decide +kernel
theorem dX6_leastClash_1 : decode cX6_leastClash 1 = .ok (.ifCond .gt 16, 3) := by decide +kernel
theorem dX6_leastClash_4 : decode cX6_leastClash 4 = .ok (.lload 4, 2) := by decide +kernel
theorem dX6_leastClash_6 : decode cX6_leastClash 6 = .ok (.lconst 0, 1) := by decide +kernel
theorem dX6_leastClash_7 : decode cX6_leastClash 7 = .ok (.lcmp, 1) := by decide +kernel
theorem dX6_leastClash_8 : decode cX6_leastClash 8 = .ok (.ifCond .ne 7, 3) := by decide +kernel
theorem dX6_leastClash_11 : decode cX6_leastClash 11 = .ok (.iconst 0, 1) := by decide +kernel
theorem dX6_leastClash_12 : decode cX6_leastClash 12 = .ok (.goto 4, 3) := by decide +kernel
theorem dX6_leastClash_15 : decode cX6_leastClash 15 = .ok (.iconst (-1), 1) := by decide +kernel
theorem dX6_leastClash_16 : decode cX6_leastClash 16 = .ok (.ireturn, 1) := by decide +kernel
theorem dX6_leastClash_17 : decode cX6_leastClash 17 = .ok (.iload_n 2, 1) := by decide +kernel
theorem dX6_leastClash_18 : decode cX6_leastClash 18 = .ok (.iconst 1, 1) := by decide +kernel
theorem dX6_leastClash_19 : decode cX6_leastClash 19 = .ok (.iadd, 1) := by decide +kernel
theorem dX6_leastClash_20 : decode cX6_leastClash 20 = .ok (.iload_n 3, 1) := by decide +kernel
theorem dX6_leastClash_21 : decode cX6_leastClash 21 = .ok (.if_icmp .ge 5, 3) := by decide +kernel
theorem dX6_leastClash_24 : decode cX6_leastClash 24 = .ok (.iconst (-1), 1) := by decide +kernel
theorem dX6_leastClash_25 : decode cX6_leastClash 25 = .ok (.ireturn, 1) := by decide +kernel
theorem dX6_leastClash_26 : decode cX6_leastClash 26 = .ok (.aload_n 0, 1) := by decide +kernel
theorem dX6_leastClash_27 : decode cX6_leastClash 27 = .ok (.iload_n 1, 1) := by decide +kernel
theorem dX6_leastClash_28 : decode cX6_leastClash 28 = .ok (.iload_n 2, 1) := by decide +kernel
theorem dX6_leastClash_29 : decode cX6_leastClash 29 = .ok (.iconst 1, 1) := by decide +kernel
theorem dX6_leastClash_30 : decode cX6_leastClash 30 = .ok (.isub, 1) := by decide +kernel
theorem dX6_leastClash_31 : decode cX6_leastClash 31 = .ok (.iload_n 3, 1) := by decide +kernel
theorem dX6_leastClash_32 : decode cX6_leastClash 32 = .ok (.lload 4, 2) := by decide +kernel
theorem dX6_leastClash_34 : decode cX6_leastClash 34 = .ok (.invokestatic 255, 3) := by decide +kernel
theorem dX6_leastClash_37 : decode cX6_leastClash 37 = .ok (.istore 6, 2) := by decide +kernel
theorem dX6_leastClash_39 : decode cX6_leastClash 39 = .ok (.iload 6, 2) := by decide +kernel
theorem dX6_leastClash_41 : decode cX6_leastClash 41 = .ok (.iconst (-1), 1) := by decide +kernel
theorem dX6_leastClash_42 : decode cX6_leastClash 42 = .ok (.if_icmp .ne 11, 3) := by decide +kernel
theorem dX6_leastClash_45 : decode cX6_leastClash 45 = .ok (.iload_n 1, 1) := by decide +kernel
theorem dX6_leastClash_46 : decode cX6_leastClash 46 = .ok (.iload_n 2, 1) := by decide +kernel
theorem dX6_leastClash_47 : decode cX6_leastClash 47 = .ok (.ishr, 1) := by decide +kernel
theorem dX6_leastClash_48 : decode cX6_leastClash 48 = .ok (.iconst 1, 1) := by decide +kernel
theorem dX6_leastClash_49 : decode cX6_leastClash 49 = .ok (.iand, 1) := by decide +kernel
theorem dX6_leastClash_50 : decode cX6_leastClash 50 = .ok (.ifCond .ne 6, 3) := by decide +kernel
theorem dX6_leastClash_53 : decode cX6_leastClash 53 = .ok (.iload 6, 2) := by decide +kernel
theorem dX6_leastClash_55 : decode cX6_leastClash 55 = .ok (.ireturn, 1) := by decide +kernel
theorem dX6_leastClash_56 : decode cX6_leastClash 56 = .ok (.aload_n 0, 1) := by decide +kernel
theorem dX6_leastClash_57 : decode cX6_leastClash 57 = .ok (.iload_n 1, 1) := by decide +kernel
theorem dX6_leastClash_58 : decode cX6_leastClash 58 = .ok (.iload_n 2, 1) := by decide +kernel
theorem dX6_leastClash_59 : decode cX6_leastClash 59 = .ok (.iconst 1, 1) := by decide +kernel
theorem dX6_leastClash_60 : decode cX6_leastClash 60 = .ok (.isub, 1) := by decide +kernel
theorem dX6_leastClash_61 : decode cX6_leastClash 61 = .ok (.iload_n 3, 1) := by decide +kernel
theorem dX6_leastClash_62 : decode cX6_leastClash 62 = .ok (.iconst 1, 1) := by decide +kernel
theorem dX6_leastClash_63 : decode cX6_leastClash 63 = .ok (.isub, 1) := by decide +kernel
theorem dX6_leastClash_64 : decode cX6_leastClash 64 = .ok (.lload 4, 2) := by decide +kernel
theorem dX6_leastClash_66 : decode cX6_leastClash 66 = .ok (.aload_n 0, 1) := by decide +kernel
theorem dX6_leastClash_67 : decode cX6_leastClash 67 = .ok (.iload_n 2, 1) := by decide +kernel
theorem dX6_leastClash_68 : decode cX6_leastClash 68 = .ok (.invokevirtual 93, 3) := by decide +kernel
theorem dX6_leastClash_71 : decode cX6_leastClash 71 = .ok (.getfield 320, 3) := by decide +kernel
theorem dX6_leastClash_74 : decode cX6_leastClash 74 = .ok (.land, 1) := by decide +kernel
theorem dX6_leastClash_75 : decode cX6_leastClash 75 = .ok (.invokestatic 255, 3) := by decide +kernel
theorem dX6_leastClash_78 : decode cX6_leastClash 78 = .ok (.istore 7, 2) := by decide +kernel
theorem dX6_leastClash_80 : decode cX6_leastClash 80 = .ok (.iload 7, 2) := by decide +kernel
theorem dX6_leastClash_82 : decode cX6_leastClash 82 = .ok (.iconst (-1), 1) := by decide +kernel
theorem dX6_leastClash_83 : decode cX6_leastClash 83 = .ok (.if_icmp .ne 7, 3) := by decide +kernel
theorem dX6_leastClash_86 : decode cX6_leastClash 86 = .ok (.iconst (-1), 1) := by decide +kernel
theorem dX6_leastClash_87 : decode cX6_leastClash 87 = .ok (.goto 9, 3) := by decide +kernel
theorem dX6_leastClash_90 : decode cX6_leastClash 90 = .ok (.iload 7, 2) := by decide +kernel
theorem dX6_leastClash_92 : decode cX6_leastClash 92 = .ok (.iconst 1, 1) := by decide +kernel
theorem dX6_leastClash_93 : decode cX6_leastClash 93 = .ok (.iload_n 2, 1) := by decide +kernel
theorem dX6_leastClash_94 : decode cX6_leastClash 94 = .ok (.ishl, 1) := by decide +kernel
theorem dX6_leastClash_95 : decode cX6_leastClash 95 = .ok (.ior, 1) := by decide +kernel
theorem dX6_leastClash_96 : decode cX6_leastClash 96 = .ok (.ireturn, 1) := by decide +kernel
theorem dX6_readLog_0 : decode cX6_readLog 0 = .ok (.aload_n 0, 1) := by decide +kernel
theorem dX6_readLog_1 : decode cX6_readLog 1 = .ok (.getfield 41, 3) := by decide +kernel
theorem dX6_readLog_4 : decode cX6_readLog 4 = .ok (.invokevirtual 332, 3) := by decide +kernel
theorem dX6_readLog_7 : decode cX6_readLog 7 = .ok (.iconst 0, 1) := by decide +kernel
theorem dX6_readLog_8 : decode cX6_readLog 8 = .ok (.istore_n 1, 1) := by decide +kernel
theorem dX6_readLog_9 : decode cX6_readLog 9 = .ok (.iload_n 1, 1) := by decide +kernel
theorem dX6_readLog_10 : decode cX6_readLog 10 = .ok (.aload_n 0, 1) := by decide +kernel
theorem dX6_readLog_11 : decode cX6_readLog 11 = .ok (.getfield 34, 3) := by decide +kernel
theorem dX6_readLog_14 : decode cX6_readLog 14 = .ok (.if_icmp .ge 36, 3) := by decide +kernel
theorem dX6_readLog_17 : decode cX6_readLog 17 = .ok (.iload_n 1, 1) := by decide +kernel
theorem dX6_readLog_18 : decode cX6_readLog 18 = .ok (.aload_n 0, 1) := by decide +kernel
theorem dX6_readLog_19 : decode cX6_readLog 19 = .ok (.getfield 30, 3) := by decide +kernel
theorem dX6_readLog_22 : decode cX6_readLog 22 = .ok (.arraylength, 1) := by decide +kernel
theorem dX6_readLog_23 : decode cX6_readLog 23 = .ok (.if_icmp .ge 27, 3) := by decide +kernel
theorem dX6_readLog_26 : decode cX6_readLog 26 = .ok (.aload_n 0, 1) := by decide +kernel
theorem dX6_readLog_27 : decode cX6_readLog 27 = .ok (.getfield 41, 3) := by decide +kernel
theorem dX6_readLog_30 : decode cX6_readLog 30 = .ok (.aload_n 0, 1) := by decide +kernel
theorem dX6_readLog_31 : decode cX6_readLog 31 = .ok (.getfield 30, 3) := by decide +kernel
theorem dX6_readLog_34 : decode cX6_readLog 34 = .ok (.iload_n 1, 1) := by decide +kernel
theorem dX6_readLog_35 : decode cX6_readLog 35 = .ok (.iaload, 1) := by decide +kernel
theorem dX6_readLog_36 : decode cX6_readLog 36 = .ok (.invokevirtual 335, 3) := by decide +kernel
theorem dX6_readLog_39 : decode cX6_readLog 39 = .ok (.ifCond .ne 5, 3) := by decide +kernel
theorem dX6_readLog_42 : decode cX6_readLog 42 = .ok (.iload_n 1, 1) := by decide +kernel
theorem dX6_readLog_43 : decode cX6_readLog 43 = .ok (.ireturn, 1) := by decide +kernel
theorem dX6_readLog_44 : decode cX6_readLog 44 = .ok (.iinc 1 1, 3) := by decide +kernel
theorem dX6_readLog_47 : decode cX6_readLog 47 = .ok (.goto (-38), 3) := by decide +kernel
theorem dX6_readLog_50 : decode cX6_readLog 50 = .ok (.aload_n 0, 1) := by decide +kernel
theorem dX6_readLog_51 : decode cX6_readLog 51 = .ok (.getfield 34, 3) := by decide +kernel
theorem dX6_readLog_54 : decode cX6_readLog 54 = .ok (.ireturn, 1) := by decide +kernel
theorem dX6_doLog_0 : decode cX6_doLog 0 = .ok (.iconst 0, 1) := by decide +kernel
theorem dX6_doLog_1 : decode cX6_doLog 1 = .ok (.istore_n 1, 1) := by decide +kernel
theorem dX6_doLog_2 : decode cX6_doLog 2 = .ok (.aload_n 0, 1) := by decide +kernel
theorem dX6_doLog_3 : decode cX6_doLog 3 = .ok (.getfield 41, 3) := by decide +kernel
theorem dX6_doLog_6 : decode cX6_doLog 6 = .ok (.invokevirtual 332, 3) := by decide +kernel
theorem dX6_doLog_9 : decode cX6_doLog 9 = .ok (.iconst 0, 1) := by decide +kernel
theorem dX6_doLog_10 : decode cX6_doLog 10 = .ok (.istore_n 2, 1) := by decide +kernel
theorem dX6_doLog_11 : decode cX6_doLog 11 = .ok (.iload_n 2, 1) := by decide +kernel
theorem dX6_doLog_12 : decode cX6_doLog 12 = .ok (.aload_n 0, 1) := by decide +kernel
theorem dX6_doLog_13 : decode cX6_doLog 13 = .ok (.getfield 34, 3) := by decide +kernel
theorem dX6_doLog_16 : decode cX6_doLog 16 = .ok (.if_icmp .ge 55, 3) := by decide +kernel
theorem dX6_doLog_19 : decode cX6_doLog 19 = .ok (.iload_n 2, 1) := by decide +kernel
theorem dX6_doLog_20 : decode cX6_doLog 20 = .ok (.aload_n 0, 1) := by decide +kernel
theorem dX6_doLog_21 : decode cX6_doLog 21 = .ok (.getfield 30, 3) := by decide +kernel
theorem dX6_doLog_24 : decode cX6_doLog 24 = .ok (.arraylength, 1) := by decide +kernel
theorem dX6_doLog_25 : decode cX6_doLog 25 = .ok (.if_icmp .ge 46, 3) := by decide +kernel
theorem dX6_doLog_28 : decode cX6_doLog 28 = .ok (.aload_n 0, 1) := by decide +kernel
theorem dX6_doLog_29 : decode cX6_doLog 29 = .ok (.getfield 30, 3) := by decide +kernel
theorem dX6_doLog_32 : decode cX6_doLog 32 = .ok (.iload_n 2, 1) := by decide +kernel
theorem dX6_doLog_33 : decode cX6_doLog 33 = .ok (.iaload, 1) := by decide +kernel
theorem dX6_doLog_34 : decode cX6_doLog 34 = .ok (.bipush 59, 2) := by decide +kernel
theorem dX6_doLog_36 : decode cX6_doLog 36 = .ok (.if_icmp .ne 15, 3) := by decide +kernel
theorem dX6_doLog_39 : decode cX6_doLog 39 = .ok (.aload_n 0, 1) := by decide +kernel
theorem dX6_doLog_40 : decode cX6_doLog 40 = .ok (.invokevirtual 338, 3) := by decide +kernel
theorem dX6_doLog_43 : decode cX6_doLog 43 = .ok (.ifCond .ne 5, 3) := by decide +kernel
theorem dX6_doLog_46 : decode cX6_doLog 46 = .ok (.iload_n 1, 1) := by decide +kernel
theorem dX6_doLog_47 : decode cX6_doLog 47 = .ok (.ireturn, 1) := by decide +kernel
theorem dX6_doLog_48 : decode cX6_doLog 48 = .ok (.iinc 1 1, 3) := by decide +kernel
theorem dX6_doLog_51 : decode cX6_doLog 51 = .ok (.aload_n 0, 1) := by decide +kernel
theorem dX6_doLog_52 : decode cX6_doLog 52 = .ok (.getfield 41, 3) := by decide +kernel
theorem dX6_doLog_55 : decode cX6_doLog 55 = .ok (.aload_n 0, 1) := by decide +kernel
theorem dX6_doLog_56 : decode cX6_doLog 56 = .ok (.getfield 30, 3) := by decide +kernel
theorem dX6_doLog_59 : decode cX6_doLog 59 = .ok (.iload_n 2, 1) := by decide +kernel
theorem dX6_doLog_60 : decode cX6_doLog 60 = .ok (.iaload, 1) := by decide +kernel
theorem dX6_doLog_61 : decode cX6_doLog 61 = .ok (.invokevirtual 335, 3) := by decide +kernel
theorem dX6_doLog_64 : decode cX6_doLog 64 = .ok (.pop, 1) := by decide +kernel
theorem dX6_doLog_65 : decode cX6_doLog 65 = .ok (.iinc 2 1, 3) := by decide +kernel
theorem dX6_doLog_68 : decode cX6_doLog 68 = .ok (.goto (-57), 3) := by decide +kernel
theorem dX6_doLog_71 : decode cX6_doLog 71 = .ok (.aload_n 0, 1) := by decide +kernel
theorem dX6_doLog_72 : decode cX6_doLog 72 = .ok (.invokevirtual 338, 3) := by decide +kernel
theorem dX6_doLog_75 : decode cX6_doLog 75 = .ok (.ifCond .eq 9, 3) := by decide +kernel
theorem dX6_doLog_78 : decode cX6_doLog 78 = .ok (.iload_n 1, 1) := by decide +kernel
theorem dX6_doLog_79 : decode cX6_doLog 79 = .ok (.iconst 1, 1) := by decide +kernel
theorem dX6_doLog_80 : decode cX6_doLog 80 = .ok (.iadd, 1) := by decide +kernel
theorem dX6_doLog_81 : decode cX6_doLog 81 = .ok (.goto 4, 3) := by decide +kernel
theorem dX6_doLog_84 : decode cX6_doLog 84 = .ok (.iload_n 1, 1) := by decide +kernel
theorem dX6_doLog_85 : decode cX6_doLog 85 = .ok (.ireturn, 1) := by decide +kernel
theorem dX6_doPart_0 : decode cX6_doPart 0 = .ok (.aload_n 0, 1) := by decide +kernel
theorem dX6_doPart_1 : decode cX6_doPart 1 = .ok (.getfield 41, 3) := by decide +kernel
theorem dX6_doPart_4 : decode cX6_doPart 4 = .ok (.getfield 341, 3) := by decide +kernel
theorem dX6_doPart_7 : decode cX6_doPart 7 = .ok (.lookupswitch 207 #[(99, 94), (103, 94), (110, 147), (114, 49), (118, 164)], 49) := by decide +kernel
theorem dX6_doPart_56 : decode cX6_doPart 56 = .ok (.aload_n 0, 1) := by decide +kernel
theorem dX6_doPart_57 : decode cX6_doPart 57 = .ok (.getfield 10, 3) := by decide +kernel
theorem dX6_doPart_60 : decode cX6_doPart 60 = .ok (.getfield 70, 3) := by decide +kernel
theorem dX6_doPart_63 : decode cX6_doPart 63 = .ok (.bipush 10, 2) := by decide +kernel
theorem dX6_doPart_65 : decode cX6_doPart 65 = .ok (.if_icmp .lt 5, 3) := by decide +kernel
theorem dX6_doPart_68 : decode cX6_doPart 68 = .ok (.iconst 0, 1) := by decide +kernel
theorem dX6_doPart_69 : decode cX6_doPart 69 = .ok (.ireturn, 1) := by decide +kernel
theorem dX6_doPart_70 : decode cX6_doPart 70 = .ok (.aload_n 0, 1) := by decide +kernel
theorem dX6_doPart_71 : decode cX6_doPart 71 = .ok (.getfield 10, 3) := by decide +kernel
theorem dX6_doPart_74 : decode cX6_doPart 74 = .ok (.aload_n 0, 1) := by decide +kernel
theorem dX6_doPart_75 : decode cX6_doPart 75 = .ok (.getfield 41, 3) := by decide +kernel
theorem dX6_doPart_78 : decode cX6_doPart 78 = .ok (.getfield 344, 3) := by decide +kernel
theorem dX6_doPart_81 : decode cX6_doPart 81 = .ok (.aload_n 0, 1) := by decide +kernel
theorem dX6_doPart_82 : decode cX6_doPart 82 = .ok (.getfield 41, 3) := by decide +kernel
theorem dX6_doPart_85 : decode cX6_doPart 85 = .ok (.getfield 347, 3) := by decide +kernel
theorem dX6_doPart_88 : decode cX6_doPart 88 = .ok (.aload_n 0, 1) := by decide +kernel
theorem dX6_doPart_89 : decode cX6_doPart 89 = .ok (.getfield 41, 3) := by decide +kernel
theorem dX6_doPart_92 : decode cX6_doPart 92 = .ok (.getfield 348, 3) := by decide +kernel
theorem dX6_doPart_95 : decode cX6_doPart 95 = .ok (.invokevirtual 82, 3) := by decide +kernel
theorem dX6_doPart_98 : decode cX6_doPart 98 = .ok (.pop, 1) := by decide +kernel
theorem dX6_doPart_99 : decode cX6_doPart 99 = .ok (.iconst 1, 1) := by decide +kernel
theorem dX6_doPart_100 : decode cX6_doPart 100 = .ok (.ireturn, 1) := by decide +kernel
theorem dX6_doPart_101 : decode cX6_doPart 101 = .ok (.aload_n 0, 1) := by decide +kernel
theorem dX6_doPart_102 : decode cX6_doPart 102 = .ok (.getfield 10, 3) := by decide +kernel
theorem dX6_doPart_105 : decode cX6_doPart 105 = .ok (.aload_n 0, 1) := by decide +kernel
theorem dX6_doPart_106 : decode cX6_doPart 106 = .ok (.getfield 41, 3) := by decide +kernel
theorem dX6_doPart_109 : decode cX6_doPart 109 = .ok (.getfield 349, 3) := by decide +kernel
theorem dX6_doPart_112 : decode cX6_doPart 112 = .ok (.aload_n 0, 1) := by decide +kernel
theorem dX6_doPart_113 : decode cX6_doPart 113 = .ok (.getfield 41, 3) := by decide +kernel
theorem dX6_doPart_116 : decode cX6_doPart 116 = .ok (.getfield 341, 3) := by decide +kernel
theorem dX6_doPart_119 : decode cX6_doPart 119 = .ok (.bipush 103, 2) := by decide +kernel
theorem dX6_doPart_121 : decode cX6_doPart 121 = .ok (.if_icmp .ne 7, 3) := by decide +kernel
theorem dX6_doPart_124 : decode cX6_doPart 124 = .ok (.iconst 1, 1) := by decide +kernel
theorem dX6_doPart_125 : decode cX6_doPart 125 = .ok (.goto 4, 3) := by decide +kernel
theorem dX6_doPart_128 : decode cX6_doPart 128 = .ok (.iconst 0, 1) := by decide +kernel
theorem dX6_doPart_129 : decode cX6_doPart 129 = .ok (.invokevirtual 111, 3) := by decide +kernel
theorem dX6_doPart_132 : decode cX6_doPart 132 = .ok (.ifCond .ne 5, 3) := by decide +kernel
theorem dX6_doPart_135 : decode cX6_doPart 135 = .ok (.iconst 0, 1) := by decide +kernel
theorem dX6_doPart_136 : decode cX6_doPart 136 = .ok (.ireturn, 1) := by decide +kernel
theorem dX6_doPart_137 : decode cX6_doPart 137 = .ok (.aload_n 0, 1) := by decide +kernel
theorem dX6_doPart_138 : decode cX6_doPart 138 = .ok (.getfield 10, 3) := by decide +kernel
theorem dX6_doPart_141 : decode cX6_doPart 141 = .ok (.aload_n 0, 1) := by decide +kernel
theorem dX6_doPart_142 : decode cX6_doPart 142 = .ok (.getfield 41, 3) := by decide +kernel
theorem dX6_doPart_145 : decode cX6_doPart 145 = .ok (.getfield 349, 3) := by decide +kernel
theorem dX6_doPart_148 : decode cX6_doPart 148 = .ok (.invokevirtual 117, 3) := by decide +kernel
theorem dX6_doPart_151 : decode cX6_doPart 151 = .ok (.pop, 1) := by decide +kernel
theorem dX6_doPart_152 : decode cX6_doPart 152 = .ok (.iconst 1, 1) := by decide +kernel
theorem dX6_doPart_153 : decode cX6_doPart 153 = .ok (.ireturn, 1) := by decide +kernel
theorem dX6_doPart_154 : decode cX6_doPart 154 = .ok (.aload_n 0, 1) := by decide +kernel
theorem dX6_doPart_155 : decode cX6_doPart 155 = .ok (.getfield 10, 3) := by decide +kernel
theorem dX6_doPart_158 : decode cX6_doPart 158 = .ok (.aload_n 0, 1) := by decide +kernel
theorem dX6_doPart_159 : decode cX6_doPart 159 = .ok (.getfield 41, 3) := by decide +kernel
theorem dX6_doPart_162 : decode cX6_doPart 162 = .ok (.getfield 344, 3) := by decide +kernel
theorem dX6_doPart_165 : decode cX6_doPart 165 = .ok (.invokevirtual 126, 3) := by decide +kernel
theorem dX6_doPart_168 : decode cX6_doPart 168 = .ok (.pop, 1) := by decide +kernel
theorem dX6_doPart_169 : decode cX6_doPart 169 = .ok (.iconst 1, 1) := by decide +kernel
theorem dX6_doPart_170 : decode cX6_doPart 170 = .ok (.ireturn, 1) := by decide +kernel
theorem dX6_doPart_171 : decode cX6_doPart 171 = .ok (.aload_n 0, 1) := by decide +kernel
theorem dX6_doPart_172 : decode cX6_doPart 172 = .ok (.getfield 41, 3) := by decide +kernel
theorem dX6_doPart_175 : decode cX6_doPart 175 = .ok (.getfield 344, 3) := by decide +kernel
theorem dX6_doPart_178 : decode cX6_doPart 178 = .ok (.aload_n 0, 1) := by decide +kernel
theorem dX6_doPart_179 : decode cX6_doPart 179 = .ok (.getfield 10, 3) := by decide +kernel
theorem dX6_doPart_182 : decode cX6_doPart 182 = .ok (.getfield 70, 3) := by decide +kernel
theorem dX6_doPart_185 : decode cX6_doPart 185 = .ok (.if_icmp .lt 5, 3) := by decide +kernel
theorem dX6_doPart_188 : decode cX6_doPart 188 = .ok (.iconst 0, 1) := by decide +kernel
theorem dX6_doPart_189 : decode cX6_doPart 189 = .ok (.ireturn, 1) := by decide +kernel
theorem dX6_doPart_190 : decode cX6_doPart 190 = .ok (.aload_n 0, 1) := by decide +kernel
theorem dX6_doPart_191 : decode cX6_doPart 191 = .ok (.getfield 10, 3) := by decide +kernel
theorem dX6_doPart_194 : decode cX6_doPart 194 = .ok (.aload_n 0, 1) := by decide +kernel
theorem dX6_doPart_195 : decode cX6_doPart 195 = .ok (.getfield 41, 3) := by decide +kernel
theorem dX6_doPart_198 : decode cX6_doPart 198 = .ok (.getfield 344, 3) := by decide +kernel
theorem dX6_doPart_201 : decode cX6_doPart 201 = .ok (.aload_n 0, 1) := by decide +kernel
theorem dX6_doPart_202 : decode cX6_doPart 202 = .ok (.getfield 41, 3) := by decide +kernel
theorem dX6_doPart_205 : decode cX6_doPart 205 = .ok (.getfield 352, 3) := by decide +kernel
theorem dX6_doPart_208 : decode cX6_doPart 208 = .ok (.invokevirtual 104, 3) := by decide +kernel
theorem dX6_doPart_211 : decode cX6_doPart 211 = .ok (.pop, 1) := by decide +kernel
theorem dX6_doPart_212 : decode cX6_doPart 212 = .ok (.iconst 1, 1) := by decide +kernel
theorem dX6_doPart_213 : decode cX6_doPart 213 = .ok (.ireturn, 1) := by decide +kernel
theorem dX6_doPart_214 : decode cX6_doPart 214 = .ok (.iconst 0, 1) := by decide +kernel
theorem dX6_doPart_215 : decode cX6_doPart 215 = .ok (.ireturn, 1) := by decide +kernel
theorem dX6_mix_0 : decode cX6_mix 0 = .ok (.ldc2_w 355, 3) := by decide +kernel
theorem dX6_mix_3 : decode cX6_mix 3 = .ok (.lload_n 0, 1) := by decide +kernel
theorem dX6_mix_4 : decode cX6_mix 4 = .ok (.lmul, 1) := by decide +kernel
theorem dX6_mix_5 : decode cX6_mix 5 = .ok (.lload_n 2, 1) := by decide +kernel
theorem dX6_mix_6 : decode cX6_mix 6 = .ok (.ladd, 1) := by decide +kernel
theorem dX6_mix_7 : decode cX6_mix 7 = .ok (.lreturn, 1) := by decide +kernel
theorem dX6_mix__0 : decode cX6_mix_ 0 = .ok (.ldc2_w 355, 3) := by decide +kernel
theorem dX6_mix__3 : decode cX6_mix_ 3 = .ok (.lload_n 0, 1) := by decide +kernel
theorem dX6_mix__4 : decode cX6_mix_ 4 = .ok (.lmul, 1) := by decide +kernel
theorem dX6_mix__5 : decode cX6_mix_ 5 = .ok (.iload_n 2, 1) := by decide +kernel
theorem dX6_mix__6 : decode cX6_mix_ 6 = .ok (.ifCond .eq 7, 3) := by decide +kernel
theorem dX6_mix__9 : decode cX6_mix_ 9 = .ok (.lconst 1, 1) := by decide +kernel
theorem dX6_mix__10 : decode cX6_mix_ 10 = .ok (.goto 4, 3) := by decide +kernel
theorem dX6_mix__13 : decode cX6_mix_ 13 = .ok (.lconst 0, 1) := by decide +kernel
theorem dX6_mix__14 : decode cX6_mix_ 14 = .ok (.ladd, 1) := by decide +kernel
theorem dX6_mix__15 : decode cX6_mix_ 15 = .ok (.lreturn, 1) := by decide +kernel
theorem dX6_digestRules_0 : decode cX6_digestRules 0 = .ok (.lload_n 1, 1) := by decide +kernel
theorem dX6_digestRules_1 : decode cX6_digestRules 1 = .ok (.aload_n 0, 1) := by decide +kernel
theorem dX6_digestRules_2 : decode cX6_digestRules 2 = .ok (.getfield 10, 3) := by decide +kernel
theorem dX6_digestRules_5 : decode cX6_digestRules 5 = .ok (.getfield 70, 3) := by decide +kernel
theorem dX6_digestRules_8 : decode cX6_digestRules 8 = .ok (.i2l, 1) := by decide +kernel
theorem dX6_digestRules_9 : decode cX6_digestRules 9 = .ok (.invokestatic 357, 3) := by decide +kernel
theorem dX6_digestRules_12 : decode cX6_digestRules 12 = .ok (.lstore_n 3, 1) := by decide +kernel
theorem dX6_digestRules_13 : decode cX6_digestRules 13 = .ok (.iconst 0, 1) := by decide +kernel
theorem dX6_digestRules_14 : decode cX6_digestRules 14 = .ok (.istore 5, 2) := by decide +kernel
theorem dX6_digestRules_16 : decode cX6_digestRules 16 = .ok (.iload 5, 2) := by decide +kernel
theorem dX6_digestRules_18 : decode cX6_digestRules 18 = .ok (.aload_n 0, 1) := by decide +kernel
theorem dX6_digestRules_19 : decode cX6_digestRules 19 = .ok (.getfield 10, 3) := by decide +kernel
theorem dX6_digestRules_22 : decode cX6_digestRules 22 = .ok (.getfield 70, 3) := by decide +kernel
theorem dX6_digestRules_25 : decode cX6_digestRules 25 = .ok (.if_icmp .ge 111, 3) := by decide +kernel
theorem dX6_digestRules_28 : decode cX6_digestRules 28 = .ok (.aload_n 0, 1) := by decide +kernel
theorem dX6_digestRules_29 : decode cX6_digestRules 29 = .ok (.getfield 10, 3) := by decide +kernel
theorem dX6_digestRules_32 : decode cX6_digestRules 32 = .ok (.iload 5, 2) := by decide +kernel
theorem dX6_digestRules_34 : decode cX6_digestRules 34 = .ok (.invokevirtual 93, 3) := by decide +kernel
theorem dX6_digestRules_37 : decode cX6_digestRules 37 = .ok (.astore 6, 2) := by decide +kernel
theorem dX6_digestRules_39 : decode cX6_digestRules 39 = .ok (.lload_n 3, 1) := by decide +kernel
theorem dX6_digestRules_40 : decode cX6_digestRules 40 = .ok (.aload 6, 2) := by decide +kernel
theorem dX6_digestRules_42 : decode cX6_digestRules 42 = .ok (.getfield 160, 3) := by decide +kernel
theorem dX6_digestRules_45 : decode cX6_digestRules 45 = .ok (.i2l, 1) := by decide +kernel
theorem dX6_digestRules_46 : decode cX6_digestRules 46 = .ok (.invokestatic 357, 3) := by decide +kernel
theorem dX6_digestRules_49 : decode cX6_digestRules 49 = .ok (.lstore_n 3, 1) := by decide +kernel
theorem dX6_digestRules_50 : decode cX6_digestRules 50 = .ok (.lload_n 3, 1) := by decide +kernel
theorem dX6_digestRules_51 : decode cX6_digestRules 51 = .ok (.aload 6, 2) := by decide +kernel
theorem dX6_digestRules_53 : decode cX6_digestRules 53 = .ok (.getfield 163, 3) := by decide +kernel
theorem dX6_digestRules_56 : decode cX6_digestRules 56 = .ok (.i2l, 1) := by decide +kernel
theorem dX6_digestRules_57 : decode cX6_digestRules 57 = .ok (.invokestatic 357, 3) := by decide +kernel
theorem dX6_digestRules_60 : decode cX6_digestRules 60 = .ok (.lstore_n 3, 1) := by decide +kernel
theorem dX6_digestRules_61 : decode cX6_digestRules 61 = .ok (.lload_n 3, 1) := by decide +kernel
theorem dX6_digestRules_62 : decode cX6_digestRules 62 = .ok (.aload 6, 2) := by decide +kernel
theorem dX6_digestRules_64 : decode cX6_digestRules 64 = .ok (.getfield 166, 3) := by decide +kernel
theorem dX6_digestRules_67 : decode cX6_digestRules 67 = .ok (.i2l, 1) := by decide +kernel
theorem dX6_digestRules_68 : decode cX6_digestRules 68 = .ok (.invokestatic 357, 3) := by decide +kernel
theorem dX6_digestRules_71 : decode cX6_digestRules 71 = .ok (.lstore_n 3, 1) := by decide +kernel
theorem dX6_digestRules_72 : decode cX6_digestRules 72 = .ok (.lload_n 3, 1) := by decide +kernel
theorem dX6_digestRules_73 : decode cX6_digestRules 73 = .ok (.aload 6, 2) := by decide +kernel
theorem dX6_digestRules_75 : decode cX6_digestRules 75 = .ok (.getfield 97, 3) := by decide +kernel
theorem dX6_digestRules_78 : decode cX6_digestRules 78 = .ok (.invokestatic 361, 3) := by decide +kernel
theorem dX6_digestRules_81 : decode cX6_digestRules 81 = .ok (.lstore_n 3, 1) := by decide +kernel
theorem dX6_digestRules_82 : decode cX6_digestRules 82 = .ok (.lload_n 3, 1) := by decide +kernel
theorem dX6_digestRules_83 : decode cX6_digestRules 83 = .ok (.aload_n 0, 1) := by decide +kernel
theorem dX6_digestRules_84 : decode cX6_digestRules 84 = .ok (.getfield 10, 3) := by decide +kernel
theorem dX6_digestRules_87 : decode cX6_digestRules 87 = .ok (.iload 5, 2) := by decide +kernel
theorem dX6_digestRules_89 : decode cX6_digestRules 89 = .ok (.invokevirtual 169, 3) := by decide +kernel
theorem dX6_digestRules_92 : decode cX6_digestRules 92 = .ok (.i2l, 1) := by decide +kernel
theorem dX6_digestRules_93 : decode cX6_digestRules 93 = .ok (.invokestatic 357, 3) := by decide +kernel
theorem dX6_digestRules_96 : decode cX6_digestRules 96 = .ok (.lstore_n 3, 1) := by decide +kernel
theorem dX6_digestRules_97 : decode cX6_digestRules 97 = .ok (.lload_n 3, 1) := by decide +kernel
theorem dX6_digestRules_98 : decode cX6_digestRules 98 = .ok (.aload 6, 2) := by decide +kernel
theorem dX6_digestRules_100 : decode cX6_digestRules 100 = .ok (.getfield 190, 3) := by decide +kernel
theorem dX6_digestRules_103 : decode cX6_digestRules 103 = .ok (.i2l, 1) := by decide +kernel
theorem dX6_digestRules_104 : decode cX6_digestRules 104 = .ok (.invokestatic 357, 3) := by decide +kernel
theorem dX6_digestRules_107 : decode cX6_digestRules 107 = .ok (.lstore_n 3, 1) := by decide +kernel
theorem dX6_digestRules_108 : decode cX6_digestRules 108 = .ok (.lload_n 3, 1) := by decide +kernel
theorem dX6_digestRules_109 : decode cX6_digestRules 109 = .ok (.aload_n 0, 1) := by decide +kernel
theorem dX6_digestRules_110 : decode cX6_digestRules 110 = .ok (.iload 5, 2) := by decide +kernel
theorem dX6_digestRules_112 : decode cX6_digestRules 112 = .ok (.invokevirtual 232, 3) := by decide +kernel
theorem dX6_digestRules_115 : decode cX6_digestRules 115 = .ok (.invokestatic 361, 3) := by decide +kernel
theorem dX6_digestRules_118 : decode cX6_digestRules 118 = .ok (.lstore_n 3, 1) := by decide +kernel
theorem dX6_digestRules_119 : decode cX6_digestRules 119 = .ok (.lload_n 3, 1) := by decide +kernel
theorem dX6_digestRules_120 : decode cX6_digestRules 120 = .ok (.aload_n 0, 1) := by decide +kernel
theorem dX6_digestRules_121 : decode cX6_digestRules 121 = .ok (.iload 5, 2) := by decide +kernel
theorem dX6_digestRules_123 : decode cX6_digestRules 123 = .ok (.invokevirtual 235, 3) := by decide +kernel
theorem dX6_digestRules_126 : decode cX6_digestRules 126 = .ok (.invokestatic 361, 3) := by decide +kernel
end
section
theorem dX6_digestRules_129 : decode cX6_digestRules 129 = .ok (.lstore_n 3, 1) := by decide +kernel
theorem dX6_digestRules_130 : decode cX6_digestRules 130 = .ok (.iinc 5 1, 3) := by decide +kernel
theorem dX6_digestRules_133 : decode cX6_digestRules 133 = .ok (.goto (-117), 3) := by decide +kernel
theorem dX6_digestRules_136 : decode cX6_digestRules 136 = .ok (.lload_n 3, 1) := by decide +kernel
theorem dX6_digestRules_137 : decode cX6_digestRules 137 = .ok (.lreturn, 1) := by decide +kernel
theorem dX6_digestHouse_0 : decode cX6_digestHouse 0 = .ok (.lload_n 1, 1) := by decide +kernel
theorem dX6_digestHouse_1 : decode cX6_digestHouse 1 = .ok (.aload_n 0, 1) := by decide +kernel
theorem dX6_digestHouse_2 : decode cX6_digestHouse 2 = .ok (.getfield 10, 3) := by decide +kernel
theorem dX6_digestHouse_5 : decode cX6_digestHouse 5 = .ok (.getfield 178, 3) := by decide +kernel
theorem dX6_digestHouse_8 : decode cX6_digestHouse 8 = .ok (.i2l, 1) := by decide +kernel
theorem dX6_digestHouse_9 : decode cX6_digestHouse 9 = .ok (.invokestatic 357, 3) := by decide +kernel
theorem dX6_digestHouse_12 : decode cX6_digestHouse 12 = .ok (.lstore_n 3, 1) := by decide +kernel
theorem dX6_digestHouse_13 : decode cX6_digestHouse 13 = .ok (.lload_n 3, 1) := by decide +kernel
theorem dX6_digestHouse_14 : decode cX6_digestHouse 14 = .ok (.aload_n 0, 1) := by decide +kernel
theorem dX6_digestHouse_15 : decode cX6_digestHouse 15 = .ok (.getfield 10, 3) := by decide +kernel
theorem dX6_digestHouse_18 : decode cX6_digestHouse 18 = .ok (.getfield 149, 3) := by decide +kernel
theorem dX6_digestHouse_21 : decode cX6_digestHouse 21 = .ok (.i2l, 1) := by decide +kernel
theorem dX6_digestHouse_22 : decode cX6_digestHouse 22 = .ok (.invokestatic 357, 3) := by decide +kernel
theorem dX6_digestHouse_25 : decode cX6_digestHouse 25 = .ok (.lstore_n 3, 1) := by decide +kernel
theorem dX6_digestHouse_26 : decode cX6_digestHouse 26 = .ok (.lload_n 3, 1) := by decide +kernel
theorem dX6_digestHouse_27 : decode cX6_digestHouse 27 = .ok (.aload_n 0, 1) := by decide +kernel
theorem dX6_digestHouse_28 : decode cX6_digestHouse 28 = .ok (.getfield 10, 3) := by decide +kernel
theorem dX6_digestHouse_31 : decode cX6_digestHouse 31 = .ok (.aload_n 0, 1) := by decide +kernel
theorem dX6_digestHouse_32 : decode cX6_digestHouse 32 = .ok (.getfield 10, 3) := by decide +kernel
theorem dX6_digestHouse_35 : decode cX6_digestHouse 35 = .ok (.getfield 149, 3) := by decide +kernel
theorem dX6_digestHouse_38 : decode cX6_digestHouse 38 = .ok (.invokevirtual 181, 3) := by decide +kernel
theorem dX6_digestHouse_41 : decode cX6_digestHouse 41 = .ok (.i2l, 1) := by decide +kernel
theorem dX6_digestHouse_42 : decode cX6_digestHouse 42 = .ok (.invokestatic 357, 3) := by decide +kernel
theorem dX6_digestHouse_45 : decode cX6_digestHouse 45 = .ok (.lstore_n 3, 1) := by decide +kernel
theorem dX6_digestHouse_46 : decode cX6_digestHouse 46 = .ok (.lload_n 3, 1) := by decide +kernel
theorem dX6_digestHouse_47 : decode cX6_digestHouse 47 = .ok (.aload_n 0, 1) := by decide +kernel
theorem dX6_digestHouse_48 : decode cX6_digestHouse 48 = .ok (.getfield 10, 3) := by decide +kernel
theorem dX6_digestHouse_51 : decode cX6_digestHouse 51 = .ok (.aload_n 0, 1) := by decide +kernel
theorem dX6_digestHouse_52 : decode cX6_digestHouse 52 = .ok (.getfield 10, 3) := by decide +kernel
theorem dX6_digestHouse_55 : decode cX6_digestHouse 55 = .ok (.getfield 178, 3) := by decide +kernel
theorem dX6_digestHouse_58 : decode cX6_digestHouse 58 = .ok (.aload_n 0, 1) := by decide +kernel
theorem dX6_digestHouse_59 : decode cX6_digestHouse 59 = .ok (.getfield 10, 3) := by decide +kernel
theorem dX6_digestHouse_62 : decode cX6_digestHouse 62 = .ok (.getfield 149, 3) := by decide +kernel
theorem dX6_digestHouse_65 : decode cX6_digestHouse 65 = .ok (.invokevirtual 184, 3) := by decide +kernel
theorem dX6_digestHouse_68 : decode cX6_digestHouse 68 = .ok (.i2l, 1) := by decide +kernel
theorem dX6_digestHouse_69 : decode cX6_digestHouse 69 = .ok (.invokestatic 357, 3) := by decide +kernel
theorem dX6_digestHouse_72 : decode cX6_digestHouse 72 = .ok (.lstore_n 3, 1) := by decide +kernel
theorem dX6_digestHouse_73 : decode cX6_digestHouse 73 = .ok (.iconst 0, 1) := by decide +kernel
theorem dX6_digestHouse_74 : decode cX6_digestHouse 74 = .ok (.istore 5, 2) := by decide +kernel
theorem dX6_digestHouse_76 : decode cX6_digestHouse 76 = .ok (.iload 5, 2) := by decide +kernel
theorem dX6_digestHouse_78 : decode cX6_digestHouse 78 = .ok (.bipush 6, 2) := by decide +kernel
theorem dX6_digestHouse_80 : decode cX6_digestHouse 80 = .ok (.if_icmp .ge 36, 3) := by decide +kernel
theorem dX6_digestHouse_83 : decode cX6_digestHouse 83 = .ok (.lload_n 3, 1) := by decide +kernel
theorem dX6_digestHouse_84 : decode cX6_digestHouse 84 = .ok (.aload_n 0, 1) := by decide +kernel
theorem dX6_digestHouse_85 : decode cX6_digestHouse 85 = .ok (.getfield 10, 3) := by decide +kernel
theorem dX6_digestHouse_88 : decode cX6_digestHouse 88 = .ok (.iload 5, 2) := by decide +kernel
theorem dX6_digestHouse_90 : decode cX6_digestHouse 90 = .ok (.invokevirtual 187, 3) := by decide +kernel
theorem dX6_digestHouse_93 : decode cX6_digestHouse 93 = .ok (.i2l, 1) := by decide +kernel
theorem dX6_digestHouse_94 : decode cX6_digestHouse 94 = .ok (.invokestatic 357, 3) := by decide +kernel
theorem dX6_digestHouse_97 : decode cX6_digestHouse 97 = .ok (.lstore_n 3, 1) := by decide +kernel
theorem dX6_digestHouse_98 : decode cX6_digestHouse 98 = .ok (.lload_n 3, 1) := by decide +kernel
theorem dX6_digestHouse_99 : decode cX6_digestHouse 99 = .ok (.aload_n 0, 1) := by decide +kernel
theorem dX6_digestHouse_100 : decode cX6_digestHouse 100 = .ok (.iload 5, 2) := by decide +kernel
theorem dX6_digestHouse_102 : decode cX6_digestHouse 102 = .ok (.invokevirtual 229, 3) := by decide +kernel
theorem dX6_digestHouse_105 : decode cX6_digestHouse 105 = .ok (.i2l, 1) := by decide +kernel
theorem dX6_digestHouse_106 : decode cX6_digestHouse 106 = .ok (.invokestatic 357, 3) := by decide +kernel
theorem dX6_digestHouse_109 : decode cX6_digestHouse 109 = .ok (.lstore_n 3, 1) := by decide +kernel
theorem dX6_digestHouse_110 : decode cX6_digestHouse 110 = .ok (.iinc 5 1, 3) := by decide +kernel
theorem dX6_digestHouse_113 : decode cX6_digestHouse 113 = .ok (.goto (-37), 3) := by decide +kernel
theorem dX6_digestHouse_116 : decode cX6_digestHouse 116 = .ok (.lload_n 3, 1) := by decide +kernel
theorem dX6_digestHouse_117 : decode cX6_digestHouse 117 = .ok (.aload_n 0, 1) := by decide +kernel
theorem dX6_digestHouse_118 : decode cX6_digestHouse 118 = .ok (.getfield 10, 3) := by decide +kernel
theorem dX6_digestHouse_121 : decode cX6_digestHouse 121 = .ok (.getfield 193, 3) := by decide +kernel
theorem dX6_digestHouse_124 : decode cX6_digestHouse 124 = .ok (.i2l, 1) := by decide +kernel
theorem dX6_digestHouse_125 : decode cX6_digestHouse 125 = .ok (.invokestatic 357, 3) := by decide +kernel
theorem dX6_digestHouse_128 : decode cX6_digestHouse 128 = .ok (.lstore_n 3, 1) := by decide +kernel
theorem dX6_digestHouse_129 : decode cX6_digestHouse 129 = .ok (.lload_n 3, 1) := by decide +kernel
theorem dX6_digestHouse_130 : decode cX6_digestHouse 130 = .ok (.aload_n 0, 1) := by decide +kernel
theorem dX6_digestHouse_131 : decode cX6_digestHouse 131 = .ok (.getfield 10, 3) := by decide +kernel
theorem dX6_digestHouse_134 : decode cX6_digestHouse 134 = .ok (.invokevirtual 196, 3) := by decide +kernel
theorem dX6_digestHouse_137 : decode cX6_digestHouse 137 = .ok (.i2l, 1) := by decide +kernel
theorem dX6_digestHouse_138 : decode cX6_digestHouse 138 = .ok (.invokestatic 357, 3) := by decide +kernel
theorem dX6_digestHouse_141 : decode cX6_digestHouse 141 = .ok (.lreturn, 1) := by decide +kernel
theorem dX6_digestStanding_0 : decode cX6_digestStanding 0 = .ok (.aload_n 0, 1) := by decide +kernel
theorem dX6_digestStanding_1 : decode cX6_digestStanding 1 = .ok (.getfield 10, 3) := by decide +kernel
theorem dX6_digestStanding_4 : decode cX6_digestStanding 4 = .ok (.aload_n 0, 1) := by decide +kernel
theorem dX6_digestStanding_5 : decode cX6_digestStanding 5 = .ok (.getfield 10, 3) := by decide +kernel
theorem dX6_digestStanding_8 : decode cX6_digestStanding 8 = .ok (.getfield 149, 3) := by decide +kernel
theorem dX6_digestStanding_11 : decode cX6_digestStanding 11 = .ok (.invokevirtual 181, 3) := by decide +kernel
theorem dX6_digestStanding_14 : decode cX6_digestStanding 14 = .ok (.istore_n 3, 1) := by decide +kernel
theorem dX6_digestStanding_15 : decode cX6_digestStanding 15 = .ok (.lload_n 1, 1) := by decide +kernel
theorem dX6_digestStanding_16 : decode cX6_digestStanding 16 = .ok (.aload_n 0, 1) := by decide +kernel
theorem dX6_digestStanding_17 : decode cX6_digestStanding 17 = .ok (.getfield 10, 3) := by decide +kernel
theorem dX6_digestStanding_20 : decode cX6_digestStanding 20 = .ok (.iload_n 3, 1) := by decide +kernel
theorem dX6_digestStanding_21 : decode cX6_digestStanding 21 = .ok (.invokevirtual 202, 3) := by decide +kernel
theorem dX6_digestStanding_24 : decode cX6_digestStanding 24 = .ok (.lconst 0, 1) := by decide +kernel
theorem dX6_digestStanding_25 : decode cX6_digestStanding 25 = .ok (.lcmp, 1) := by decide +kernel
theorem dX6_digestStanding_26 : decode cX6_digestStanding 26 = .ok (.ifCond .eq 7, 3) := by decide +kernel
theorem dX6_digestStanding_29 : decode cX6_digestStanding 29 = .ok (.iconst 1, 1) := by decide +kernel
theorem dX6_digestStanding_30 : decode cX6_digestStanding 30 = .ok (.goto 4, 3) := by decide +kernel
theorem dX6_digestStanding_33 : decode cX6_digestStanding 33 = .ok (.iconst 0, 1) := by decide +kernel
theorem dX6_digestStanding_34 : decode cX6_digestStanding 34 = .ok (.invokestatic 361, 3) := by decide +kernel
theorem dX6_digestStanding_37 : decode cX6_digestStanding 37 = .ok (.lstore 4, 2) := by decide +kernel
theorem dX6_digestStanding_39 : decode cX6_digestStanding 39 = .ok (.lload 4, 2) := by decide +kernel
theorem dX6_digestStanding_41 : decode cX6_digestStanding 41 = .ok (.aload_n 0, 1) := by decide +kernel
theorem dX6_digestStanding_42 : decode cX6_digestStanding 42 = .ok (.getfield 10, 3) := by decide +kernel
theorem dX6_digestStanding_45 : decode cX6_digestStanding 45 = .ok (.iload_n 3, 1) := by decide +kernel
theorem dX6_digestStanding_46 : decode cX6_digestStanding 46 = .ok (.iconst 0, 1) := by decide +kernel
theorem dX6_digestStanding_47 : decode cX6_digestStanding 47 = .ok (.iconst 0, 1) := by decide +kernel
theorem dX6_digestStanding_48 : decode cX6_digestStanding 48 = .ok (.iconst 0, 1) := by decide +kernel
theorem dX6_digestStanding_49 : decode cX6_digestStanding 49 = .ok (.invokestatic 206, 3) := by decide +kernel
theorem dX6_digestStanding_52 : decode cX6_digestStanding 52 = .ok (.ifCond .le 7, 3) := by decide +kernel
theorem dX6_digestStanding_55 : decode cX6_digestStanding 55 = .ok (.iconst 1, 1) := by decide +kernel
theorem dX6_digestStanding_56 : decode cX6_digestStanding 56 = .ok (.goto 4, 3) := by decide +kernel
theorem dX6_digestStanding_59 : decode cX6_digestStanding 59 = .ok (.iconst 0, 1) := by decide +kernel
theorem dX6_digestStanding_60 : decode cX6_digestStanding 60 = .ok (.invokestatic 361, 3) := by decide +kernel
theorem dX6_digestStanding_63 : decode cX6_digestStanding 63 = .ok (.lstore 4, 2) := by decide +kernel
theorem dX6_digestStanding_65 : decode cX6_digestStanding 65 = .ok (.aload_n 0, 1) := by decide +kernel
theorem dX6_digestStanding_66 : decode cX6_digestStanding 66 = .ok (.getfield 48, 3) := by decide +kernel
theorem dX6_digestStanding_69 : decode cX6_digestStanding 69 = .ok (.aload_n 0, 1) := by decide +kernel
theorem dX6_digestStanding_70 : decode cX6_digestStanding 70 = .ok (.getfield 10, 3) := by decide +kernel
theorem dX6_digestStanding_73 : decode cX6_digestStanding 73 = .ok (.iload_n 3, 1) := by decide +kernel
theorem dX6_digestStanding_74 : decode cX6_digestStanding 74 = .ok (.invokevirtual 210, 3) := by decide +kernel
theorem dX6_digestStanding_77 : decode cX6_digestStanding 77 = .ok (.lload 4, 2) := by decide +kernel
theorem dX6_digestStanding_79 : decode cX6_digestStanding 79 = .ok (.aload_n 0, 1) := by decide +kernel
theorem dX6_digestStanding_80 : decode cX6_digestStanding 80 = .ok (.getfield 48, 3) := by decide +kernel
theorem dX6_digestStanding_83 : decode cX6_digestStanding 83 = .ok (.invokevirtual 214, 3) := by decide +kernel
theorem dX6_digestStanding_86 : decode cX6_digestStanding 86 = .ok (.ifCond .ne 7, 3) := by decide +kernel
theorem dX6_digestStanding_89 : decode cX6_digestStanding 89 = .ok (.iconst 1, 1) := by decide +kernel
theorem dX6_digestStanding_90 : decode cX6_digestStanding 90 = .ok (.goto 4, 3) := by decide +kernel
theorem dX6_digestStanding_93 : decode cX6_digestStanding 93 = .ok (.iconst 0, 1) := by decide +kernel
theorem dX6_digestStanding_94 : decode cX6_digestStanding 94 = .ok (.invokestatic 361, 3) := by decide +kernel
theorem dX6_digestStanding_97 : decode cX6_digestStanding 97 = .ok (.lstore 4, 2) := by decide +kernel
theorem dX6_digestStanding_99 : decode cX6_digestStanding 99 = .ok (.lload 4, 2) := by decide +kernel
theorem dX6_digestStanding_101 : decode cX6_digestStanding 101 = .ok (.aload_n 0, 1) := by decide +kernel
theorem dX6_digestStanding_102 : decode cX6_digestStanding 102 = .ok (.getfield 48, 3) := by decide +kernel
theorem dX6_digestStanding_105 : decode cX6_digestStanding 105 = .ok (.getfield 217, 3) := by decide +kernel
theorem dX6_digestStanding_108 : decode cX6_digestStanding 108 = .ok (.i2l, 1) := by decide +kernel
theorem dX6_digestStanding_109 : decode cX6_digestStanding 109 = .ok (.invokestatic 357, 3) := by decide +kernel
theorem dX6_digestStanding_112 : decode cX6_digestStanding 112 = .ok (.lstore 4, 2) := by decide +kernel
theorem dX6_digestStanding_114 : decode cX6_digestStanding 114 = .ok (.lload 4, 2) := by decide +kernel
theorem dX6_digestStanding_116 : decode cX6_digestStanding 116 = .ok (.aload_n 0, 1) := by decide +kernel
theorem dX6_digestStanding_117 : decode cX6_digestStanding 117 = .ok (.invokevirtual 218, 3) := by decide +kernel
theorem dX6_digestStanding_120 : decode cX6_digestStanding 120 = .ok (.i2l, 1) := by decide +kernel
theorem dX6_digestStanding_121 : decode cX6_digestStanding 121 = .ok (.invokestatic 357, 3) := by decide +kernel
theorem dX6_digestStanding_124 : decode cX6_digestStanding 124 = .ok (.lstore 4, 2) := by decide +kernel
theorem dX6_digestStanding_126 : decode cX6_digestStanding 126 = .ok (.lload 4, 2) := by decide +kernel
theorem dX6_digestStanding_128 : decode cX6_digestStanding 128 = .ok (.aload_n 0, 1) := by decide +kernel
theorem dX6_digestStanding_129 : decode cX6_digestStanding 129 = .ok (.invokevirtual 364, 3) := by decide +kernel
theorem dX6_digestStanding_132 : decode cX6_digestStanding 132 = .ok (.i2l, 1) := by decide +kernel
theorem dX6_digestStanding_133 : decode cX6_digestStanding 133 = .ok (.invokestatic 357, 3) := by decide +kernel
theorem dX6_digestStanding_136 : decode cX6_digestStanding 136 = .ok (.lstore 4, 2) := by decide +kernel
theorem dX6_digestStanding_138 : decode cX6_digestStanding 138 = .ok (.lload 4, 2) := by decide +kernel
theorem dX6_digestStanding_140 : decode cX6_digestStanding 140 = .ok (.aload_n 0, 1) := by decide +kernel
theorem dX6_digestStanding_141 : decode cX6_digestStanding 141 = .ok (.invokevirtual 367, 3) := by decide +kernel
theorem dX6_digestStanding_144 : decode cX6_digestStanding 144 = .ok (.i2l, 1) := by decide +kernel
theorem dX6_digestStanding_145 : decode cX6_digestStanding 145 = .ok (.invokestatic 357, 3) := by decide +kernel
theorem dX6_digestStanding_148 : decode cX6_digestStanding 148 = .ok (.lreturn, 1) := by decide +kernel
theorem dX6_digestClashes_0 : decode cX6_digestClashes 0 = .ok (.lload_n 1, 1) := by decide +kernel
theorem dX6_digestClashes_1 : decode cX6_digestClashes 1 = .ok (.aload_n 0, 1) := by decide +kernel
theorem dX6_digestClashes_2 : decode cX6_digestClashes 2 = .ok (.invokevirtual 370, 3) := by decide +kernel
theorem dX6_digestClashes_5 : decode cX6_digestClashes 5 = .ok (.i2l, 1) := by decide +kernel
theorem dX6_digestClashes_6 : decode cX6_digestClashes 6 = .ok (.invokestatic 357, 3) := by decide +kernel
theorem dX6_digestClashes_9 : decode cX6_digestClashes 9 = .ok (.lstore_n 3, 1) := by decide +kernel
theorem dX6_digestClashes_10 : decode cX6_digestClashes 10 = .ok (.lload_n 3, 1) := by decide +kernel
theorem dX6_digestClashes_11 : decode cX6_digestClashes 11 = .ok (.aload_n 0, 1) := by decide +kernel
theorem dX6_digestClashes_12 : decode cX6_digestClashes 12 = .ok (.invokevirtual 373, 3) := by decide +kernel
theorem dX6_digestClashes_15 : decode cX6_digestClashes 15 = .ok (.i2l, 1) := by decide +kernel
theorem dX6_digestClashes_16 : decode cX6_digestClashes 16 = .ok (.invokestatic 357, 3) := by decide +kernel
theorem dX6_digestClashes_19 : decode cX6_digestClashes 19 = .ok (.lstore_n 3, 1) := by decide +kernel
theorem dX6_digestClashes_20 : decode cX6_digestClashes 20 = .ok (.lload_n 3, 1) := by decide +kernel
theorem dX6_digestClashes_21 : decode cX6_digestClashes 21 = .ok (.aload_n 0, 1) := by decide +kernel
theorem dX6_digestClashes_22 : decode cX6_digestClashes 22 = .ok (.invokevirtual 376, 3) := by decide +kernel
theorem dX6_digestClashes_25 : decode cX6_digestClashes 25 = .ok (.i2l, 1) := by decide +kernel
theorem dX6_digestClashes_26 : decode cX6_digestClashes 26 = .ok (.invokestatic 357, 3) := by decide +kernel
theorem dX6_digestClashes_29 : decode cX6_digestClashes 29 = .ok (.lstore_n 3, 1) := by decide +kernel
theorem dX6_digestClashes_30 : decode cX6_digestClashes 30 = .ok (.lload_n 3, 1) := by decide +kernel
theorem dX6_digestClashes_31 : decode cX6_digestClashes 31 = .ok (.aload_n 0, 1) := by decide +kernel
theorem dX6_digestClashes_32 : decode cX6_digestClashes 32 = .ok (.invokevirtual 379, 3) := by decide +kernel
theorem dX6_digestClashes_35 : decode cX6_digestClashes 35 = .ok (.i2l, 1) := by decide +kernel
theorem dX6_digestClashes_36 : decode cX6_digestClashes 36 = .ok (.invokestatic 357, 3) := by decide +kernel
theorem dX6_digestClashes_39 : decode cX6_digestClashes 39 = .ok (.lstore_n 3, 1) := by decide +kernel
theorem dX6_digestClashes_40 : decode cX6_digestClashes 40 = .ok (.lload_n 3, 1) := by decide +kernel
theorem dX6_digestClashes_41 : decode cX6_digestClashes 41 = .ok (.aload_n 0, 1) := by decide +kernel
theorem dX6_digestClashes_42 : decode cX6_digestClashes 42 = .ok (.invokevirtual 382, 3) := by decide +kernel
theorem dX6_digestClashes_45 : decode cX6_digestClashes 45 = .ok (.i2l, 1) := by decide +kernel
theorem dX6_digestClashes_46 : decode cX6_digestClashes 46 = .ok (.invokestatic 357, 3) := by decide +kernel
theorem dX6_digestClashes_49 : decode cX6_digestClashes 49 = .ok (.lstore_n 3, 1) := by decide +kernel
theorem dX6_digestClashes_50 : decode cX6_digestClashes 50 = .ok (.lload_n 3, 1) := by decide +kernel
theorem dX6_digestClashes_51 : decode cX6_digestClashes 51 = .ok (.aload_n 0, 1) := by decide +kernel
theorem dX6_digestClashes_52 : decode cX6_digestClashes 52 = .ok (.invokevirtual 385, 3) := by decide +kernel
theorem dX6_digestClashes_55 : decode cX6_digestClashes 55 = .ok (.i2l, 1) := by decide +kernel
theorem dX6_digestClashes_56 : decode cX6_digestClashes 56 = .ok (.invokestatic 357, 3) := by decide +kernel
theorem dX6_digestClashes_59 : decode cX6_digestClashes 59 = .ok (.lreturn, 1) := by decide +kernel
theorem dX6_digestPeace_0 : decode cX6_digestPeace 0 = .ok (.lload_n 1, 1) := by decide +kernel
theorem dX6_digestPeace_1 : decode cX6_digestPeace 1 = .ok (.aload_n 0, 1) := by decide +kernel
theorem dX6_digestPeace_2 : decode cX6_digestPeace 2 = .ok (.invokevirtual 388, 3) := by decide +kernel
theorem dX6_digestPeace_5 : decode cX6_digestPeace 5 = .ok (.i2l, 1) := by decide +kernel
theorem dX6_digestPeace_6 : decode cX6_digestPeace 6 = .ok (.invokestatic 357, 3) := by decide +kernel
theorem dX6_digestPeace_9 : decode cX6_digestPeace 9 = .ok (.lstore_n 3, 1) := by decide +kernel
theorem dX6_digestPeace_10 : decode cX6_digestPeace 10 = .ok (.lload_n 3, 1) := by decide +kernel
theorem dX6_digestPeace_11 : decode cX6_digestPeace 11 = .ok (.aload_n 0, 1) := by decide +kernel
theorem dX6_digestPeace_12 : decode cX6_digestPeace 12 = .ok (.invokevirtual 391, 3) := by decide +kernel
theorem dX6_digestPeace_15 : decode cX6_digestPeace 15 = .ok (.i2l, 1) := by decide +kernel
theorem dX6_digestPeace_16 : decode cX6_digestPeace 16 = .ok (.invokestatic 357, 3) := by decide +kernel
theorem dX6_digestPeace_19 : decode cX6_digestPeace 19 = .ok (.lstore_n 3, 1) := by decide +kernel
theorem dX6_digestPeace_20 : decode cX6_digestPeace 20 = .ok (.lload_n 3, 1) := by decide +kernel
theorem dX6_digestPeace_21 : decode cX6_digestPeace 21 = .ok (.aload_n 0, 1) := by decide +kernel
theorem dX6_digestPeace_22 : decode cX6_digestPeace 22 = .ok (.invokevirtual 394, 3) := by decide +kernel
theorem dX6_digestPeace_25 : decode cX6_digestPeace 25 = .ok (.i2l, 1) := by decide +kernel
theorem dX6_digestPeace_26 : decode cX6_digestPeace 26 = .ok (.invokestatic 357, 3) := by decide +kernel
theorem dX6_digestPeace_29 : decode cX6_digestPeace 29 = .ok (.lstore_n 3, 1) := by decide +kernel
theorem dX6_digestPeace_30 : decode cX6_digestPeace 30 = .ok (.lload_n 3, 1) := by decide +kernel
theorem dX6_digestPeace_31 : decode cX6_digestPeace 31 = .ok (.aload_n 0, 1) := by decide +kernel
theorem dX6_digestPeace_32 : decode cX6_digestPeace 32 = .ok (.invokevirtual 397, 3) := by decide +kernel
theorem dX6_digestPeace_35 : decode cX6_digestPeace 35 = .ok (.i2l, 1) := by decide +kernel
theorem dX6_digestPeace_36 : decode cX6_digestPeace 36 = .ok (.invokestatic 357, 3) := by decide +kernel
theorem dX6_digestPeace_39 : decode cX6_digestPeace 39 = .ok (.lstore_n 3, 1) := by decide +kernel
theorem dX6_digestPeace_40 : decode cX6_digestPeace 40 = .ok (.lload_n 3, 1) := by decide +kernel
theorem dX6_digestPeace_41 : decode cX6_digestPeace 41 = .ok (.aload_n 0, 1) := by decide +kernel
theorem dX6_digestPeace_42 : decode cX6_digestPeace 42 = .ok (.invokevirtual 400, 3) := by decide +kernel
theorem dX6_digestPeace_45 : decode cX6_digestPeace 45 = .ok (.i2l, 1) := by decide +kernel
theorem dX6_digestPeace_46 : decode cX6_digestPeace 46 = .ok (.invokestatic 357, 3) := by decide +kernel
theorem dX6_digestPeace_49 : decode cX6_digestPeace 49 = .ok (.lstore_n 3, 1) := by decide +kernel
theorem dX6_digestPeace_50 : decode cX6_digestPeace 50 = .ok (.lload_n 3, 1) := by decide +kernel
theorem dX6_digestPeace_51 : decode cX6_digestPeace 51 = .ok (.aload_n 0, 1) := by decide +kernel
theorem dX6_digestPeace_52 : decode cX6_digestPeace 52 = .ok (.invokevirtual 403, 3) := by decide +kernel
theorem dX6_digestPeace_55 : decode cX6_digestPeace 55 = .ok (.i2l, 1) := by decide +kernel
theorem dX6_digestPeace_56 : decode cX6_digestPeace 56 = .ok (.invokestatic 357, 3) := by decide +kernel
theorem dX6_digestPeace_59 : decode cX6_digestPeace 59 = .ok (.lstore_n 3, 1) := by decide +kernel
theorem dX6_digestPeace_60 : decode cX6_digestPeace 60 = .ok (.lload_n 3, 1) := by decide +kernel
theorem dX6_digestPeace_61 : decode cX6_digestPeace 61 = .ok (.aload_n 0, 1) := by decide +kernel
theorem dX6_digestPeace_62 : decode cX6_digestPeace 62 = .ok (.getfield 10, 3) := by decide +kernel
theorem dX6_digestPeace_65 : decode cX6_digestPeace 65 = .ok (.bipush 9, 2) := by decide +kernel
theorem dX6_digestPeace_67 : decode cX6_digestPeace 67 = .ok (.invokevirtual 279, 3) := by decide +kernel
theorem dX6_digestPeace_70 : decode cX6_digestPeace 70 = .ok (.i2l, 1) := by decide +kernel
theorem dX6_digestPeace_71 : decode cX6_digestPeace 71 = .ok (.invokestatic 357, 3) := by decide +kernel
theorem dX6_digestPeace_74 : decode cX6_digestPeace 74 = .ok (.lreturn, 1) := by decide +kernel
theorem dX6_digestRest_0 : decode cX6_digestRest 0 = .ok (.lload_n 1, 1) := by decide +kernel
theorem dX6_digestRest_1 : decode cX6_digestRest 1 = .ok (.aload_n 0, 1) := by decide +kernel
theorem dX6_digestRest_2 : decode cX6_digestRest 2 = .ok (.getfield 26, 3) := by decide +kernel
theorem dX6_digestRest_5 : decode cX6_digestRest 5 = .ok (.getfield 154, 3) := by decide +kernel
theorem dX6_digestRest_8 : decode cX6_digestRest 8 = .ok (.i2l, 1) := by decide +kernel
theorem dX6_digestRest_9 : decode cX6_digestRest 9 = .ok (.invokestatic 357, 3) := by decide +kernel
theorem dX6_digestRest_12 : decode cX6_digestRest 12 = .ok (.lstore_n 3, 1) := by decide +kernel
theorem dX6_digestRest_13 : decode cX6_digestRest 13 = .ok (.lload_n 3, 1) := by decide +kernel
theorem dX6_digestRest_14 : decode cX6_digestRest 14 = .ok (.aload_n 0, 1) := by decide +kernel
theorem dX6_digestRest_15 : decode cX6_digestRest 15 = .ok (.invokevirtual 406, 3) := by decide +kernel
theorem dX6_digestRest_18 : decode cX6_digestRest 18 = .ok (.invokestatic 410, 3) := by decide +kernel
theorem dX6_digestRest_21 : decode cX6_digestRest 21 = .ok (.invokestatic 357, 3) := by decide +kernel
theorem dX6_digestRest_24 : decode cX6_digestRest 24 = .ok (.lstore_n 3, 1) := by decide +kernel
theorem dX6_digestRest_25 : decode cX6_digestRest 25 = .ok (.lload_n 3, 1) := by decide +kernel
theorem dX6_digestRest_26 : decode cX6_digestRest 26 = .ok (.aload_n 0, 1) := by decide +kernel
theorem dX6_digestRest_27 : decode cX6_digestRest 27 = .ok (.invokevirtual 414, 3) := by decide +kernel
theorem dX6_digestRest_30 : decode cX6_digestRest 30 = .ok (.invokestatic 418, 3) := by decide +kernel
theorem dX6_digestRest_33 : decode cX6_digestRest 33 = .ok (.i2l, 1) := by decide +kernel
theorem dX6_digestRest_34 : decode cX6_digestRest 34 = .ok (.invokestatic 357, 3) := by decide +kernel
theorem dX6_digestRest_37 : decode cX6_digestRest 37 = .ok (.lstore_n 3, 1) := by decide +kernel
theorem dX6_digestRest_38 : decode cX6_digestRest 38 = .ok (.lload_n 3, 1) := by decide +kernel
theorem dX6_digestRest_39 : decode cX6_digestRest 39 = .ok (.aload_n 0, 1) := by decide +kernel
theorem dX6_digestRest_40 : decode cX6_digestRest 40 = .ok (.getfield 19, 3) := by decide +kernel
theorem dX6_digestRest_43 : decode cX6_digestRest 43 = .ok (.invokestatic 361, 3) := by decide +kernel
theorem dX6_digestRest_46 : decode cX6_digestRest 46 = .ok (.lstore_n 3, 1) := by decide +kernel
theorem dX6_digestRest_47 : decode cX6_digestRest 47 = .ok (.lload_n 3, 1) := by decide +kernel
theorem dX6_digestRest_48 : decode cX6_digestRest 48 = .ok (.aload_n 0, 1) := by decide +kernel
theorem dX6_digestRest_49 : decode cX6_digestRest 49 = .ok (.getfield 34, 3) := by decide +kernel
theorem dX6_digestRest_52 : decode cX6_digestRest 52 = .ok (.i2l, 1) := by decide +kernel
theorem dX6_digestRest_53 : decode cX6_digestRest 53 = .ok (.invokestatic 357, 3) := by decide +kernel
theorem dX6_digestRest_56 : decode cX6_digestRest 56 = .ok (.lstore_n 3, 1) := by decide +kernel
theorem dX6_digestRest_57 : decode cX6_digestRest 57 = .ok (.iconst 0, 1) := by decide +kernel
theorem dX6_digestRest_58 : decode cX6_digestRest 58 = .ok (.istore 5, 2) := by decide +kernel
theorem dX6_digestRest_60 : decode cX6_digestRest 60 = .ok (.iload 5, 2) := by decide +kernel
theorem dX6_digestRest_62 : decode cX6_digestRest 62 = .ok (.aload_n 0, 1) := by decide +kernel
theorem dX6_digestRest_63 : decode cX6_digestRest 63 = .ok (.getfield 34, 3) := by decide +kernel
theorem dX6_digestRest_66 : decode cX6_digestRest 66 = .ok (.if_icmp .ge 32, 3) := by decide +kernel
theorem dX6_digestRest_69 : decode cX6_digestRest 69 = .ok (.iload 5, 2) := by decide +kernel
theorem dX6_digestRest_71 : decode cX6_digestRest 71 = .ok (.aload_n 0, 1) := by decide +kernel
theorem dX6_digestRest_72 : decode cX6_digestRest 72 = .ok (.getfield 30, 3) := by decide +kernel
theorem dX6_digestRest_75 : decode cX6_digestRest 75 = .ok (.arraylength, 1) := by decide +kernel
theorem dX6_digestRest_76 : decode cX6_digestRest 76 = .ok (.if_icmp .ge 22, 3) := by decide +kernel
theorem dX6_digestRest_79 : decode cX6_digestRest 79 = .ok (.lload_n 3, 1) := by decide +kernel
theorem dX6_digestRest_80 : decode cX6_digestRest 80 = .ok (.aload_n 0, 1) := by decide +kernel
theorem dX6_digestRest_81 : decode cX6_digestRest 81 = .ok (.getfield 30, 3) := by decide +kernel
theorem dX6_digestRest_84 : decode cX6_digestRest 84 = .ok (.iload 5, 2) := by decide +kernel
theorem dX6_digestRest_86 : decode cX6_digestRest 86 = .ok (.iaload, 1) := by decide +kernel
theorem dX6_digestRest_87 : decode cX6_digestRest 87 = .ok (.i2l, 1) := by decide +kernel
theorem dX6_digestRest_88 : decode cX6_digestRest 88 = .ok (.invokestatic 357, 3) := by decide +kernel
theorem dX6_digestRest_91 : decode cX6_digestRest 91 = .ok (.lstore_n 3, 1) := by decide +kernel
theorem dX6_digestRest_92 : decode cX6_digestRest 92 = .ok (.iinc 5 1, 3) := by decide +kernel
theorem dX6_digestRest_95 : decode cX6_digestRest 95 = .ok (.goto (-35), 3) := by decide +kernel
theorem dX6_digestRest_98 : decode cX6_digestRest 98 = .ok (.lload_n 3, 1) := by decide +kernel
theorem dX6_digestRest_99 : decode cX6_digestRest 99 = .ok (.lreturn, 1) := by decide +kernel
theorem dX6_bitsOfShare_0 : decode cX6_bitsOfShare 0 = .ok (.dload_n 0, 1) := by decide +kernel
theorem dX6_bitsOfShare_1 : decode cX6_bitsOfShare 1 = .ok (.dconst 0, 1) := by decide +kernel
theorem dX6_bitsOfShare_2 : decode cX6_bitsOfShare 2 = .ok (.dcmp .g, 1) := by decide +kernel
theorem dX6_bitsOfShare_3 : decode cX6_bitsOfShare 3 = .ok (.ifCond .gt 5, 3) := by decide +kernel
theorem dX6_bitsOfShare_6 : decode cX6_bitsOfShare 6 = .ok (.lconst 0, 1) := by decide +kernel
theorem dX6_bitsOfShare_7 : decode cX6_bitsOfShare 7 = .ok (.lreturn, 1) := by decide +kernel
theorem dX6_bitsOfShare_8 : decode cX6_bitsOfShare 8 = .ok (.dload_n 0, 1) := by decide +kernel
theorem dX6_bitsOfShare_9 : decode cX6_bitsOfShare 9 = .ok (.dstore_n 2, 1) := by decide +kernel
theorem dX6_bitsOfShare_10 : decode cX6_bitsOfShare 10 = .ok (.ldc2_w 422, 3) := by decide +kernel
theorem dX6_bitsOfShare_13 : decode cX6_bitsOfShare 13 = .ok (.lstore 4, 2) := by decide +kernel
theorem dX6_bitsOfShare_15 : decode cX6_bitsOfShare 15 = .ok (.dload_n 2, 1) := by decide +kernel
theorem dX6_bitsOfShare_16 : decode cX6_bitsOfShare 16 = .ok (.dconst 1, 1) := by decide +kernel
theorem dX6_bitsOfShare_17 : decode cX6_bitsOfShare 17 = .ok (.dcmp .g, 1) := by decide +kernel
theorem dX6_bitsOfShare_18 : decode cX6_bitsOfShare 18 = .ok (.ifCond .ge 25, 3) := by decide +kernel
theorem dX6_bitsOfShare_21 : decode cX6_bitsOfShare 21 = .ok (.lload 4, 2) := by decide +kernel
theorem dX6_bitsOfShare_23 : decode cX6_bitsOfShare 23 = .ok (.lconst 1, 1) := by decide +kernel
theorem dX6_bitsOfShare_24 : decode cX6_bitsOfShare 24 = .ok (.lcmp, 1) := by decide +kernel
theorem dX6_bitsOfShare_25 : decode cX6_bitsOfShare 25 = .ok (.ifCond .le 18, 3) := by decide +kernel
theorem dX6_bitsOfShare_28 : decode cX6_bitsOfShare 28 = .ok (.dload_n 2, 1) := by decide +kernel
theorem dX6_bitsOfShare_29 : decode cX6_bitsOfShare 29 = .ok (.ldc2_w 424, 3) := by decide +kernel
theorem dX6_bitsOfShare_32 : decode cX6_bitsOfShare 32 = .ok (.dmul, 1) := by decide +kernel
theorem dX6_bitsOfShare_33 : decode cX6_bitsOfShare 33 = .ok (.dstore_n 2, 1) := by decide +kernel
theorem dX6_bitsOfShare_34 : decode cX6_bitsOfShare 34 = .ok (.lload 4, 2) := by decide +kernel
theorem dX6_bitsOfShare_36 : decode cX6_bitsOfShare 36 = .ok (.lconst 1, 1) := by decide +kernel
theorem dX6_bitsOfShare_37 : decode cX6_bitsOfShare 37 = .ok (.lsub, 1) := by decide +kernel
theorem dX6_bitsOfShare_38 : decode cX6_bitsOfShare 38 = .ok (.lstore 4, 2) := by decide +kernel
theorem dX6_bitsOfShare_40 : decode cX6_bitsOfShare 40 = .ok (.goto (-25), 3) := by decide +kernel
theorem dX6_bitsOfShare_43 : decode cX6_bitsOfShare 43 = .ok (.lload 4, 2) := by decide +kernel
theorem dX6_bitsOfShare_45 : decode cX6_bitsOfShare 45 = .ok (.bipush 52, 2) := by decide +kernel
theorem dX6_bitsOfShare_47 : decode cX6_bitsOfShare 47 = .ok (.lshl, 1) := by decide +kernel
theorem dX6_bitsOfShare_48 : decode cX6_bitsOfShare 48 = .ok (.dload_n 2, 1) := by decide +kernel
theorem dX6_bitsOfShare_49 : decode cX6_bitsOfShare 49 = .ok (.dconst 1, 1) := by decide +kernel
theorem dX6_bitsOfShare_50 : decode cX6_bitsOfShare 50 = .ok (.dsub, 1) := by decide +kernel
theorem dX6_bitsOfShare_51 : decode cX6_bitsOfShare 51 = .ok (.ldc2_w 426, 3) := by decide +kernel
theorem dX6_bitsOfShare_54 : decode cX6_bitsOfShare 54 = .ok (.dmul, 1) := by decide +kernel
theorem dX6_bitsOfShare_55 : decode cX6_bitsOfShare 55 = .ok (.d2l, 1) := by decide +kernel
theorem dX6_bitsOfShare_56 : decode cX6_bitsOfShare 56 = .ok (.ladd, 1) := by decide +kernel
theorem dX6_bitsOfShare_57 : decode cX6_bitsOfShare 57 = .ok (.lreturn, 1) := by decide +kernel
theorem dX6_bitsOfMean_0 : decode cX6_bitsOfMean 0 = .ok (.fload_n 0, 1) := by decide +kernel
theorem dX6_bitsOfMean_1 : decode cX6_bitsOfMean 1 = .ok (.fconst 0, 1) := by decide +kernel
theorem dX6_bitsOfMean_2 : decode cX6_bitsOfMean 2 = .ok (.fcmp .g, 1) := by decide +kernel
theorem dX6_bitsOfMean_3 : decode cX6_bitsOfMean 3 = .ok (.ifCond .gt 5, 3) := by decide +kernel
theorem dX6_bitsOfMean_6 : decode cX6_bitsOfMean 6 = .ok (.iconst 0, 1) := by decide +kernel
theorem dX6_bitsOfMean_7 : decode cX6_bitsOfMean 7 = .ok (.ireturn, 1) := by decide +kernel
theorem dX6_bitsOfMean_8 : decode cX6_bitsOfMean 8 = .ok (.fload_n 0, 1) := by decide +kernel
theorem dX6_bitsOfMean_9 : decode cX6_bitsOfMean 9 = .ok (.fstore_n 1, 1) := by decide +kernel
theorem dX6_bitsOfMean_10 : decode cX6_bitsOfMean 10 = .ok (.bipush 127, 2) := by decide +kernel
theorem dX6_bitsOfMean_12 : decode cX6_bitsOfMean 12 = .ok (.istore_n 2, 1) := by decide +kernel
theorem dX6_bitsOfMean_13 : decode cX6_bitsOfMean 13 = .ok (.fload_n 1, 1) := by decide +kernel
theorem dX6_bitsOfMean_14 : decode cX6_bitsOfMean 14 = .ok (.fconst 2, 1) := by decide +kernel
theorem dX6_bitsOfMean_15 : decode cX6_bitsOfMean 15 = .ok (.fcmp .l, 1) := by decide +kernel
theorem dX6_bitsOfMean_16 : decode cX6_bitsOfMean 16 = .ok (.ifCond .lt 20, 3) := by decide +kernel
theorem dX6_bitsOfMean_19 : decode cX6_bitsOfMean 19 = .ok (.iload_n 2, 1) := by decide +kernel
theorem dX6_bitsOfMean_20 : decode cX6_bitsOfMean 20 = .ok (.sipush 254, 3) := by decide +kernel
theorem dX6_bitsOfMean_23 : decode cX6_bitsOfMean 23 = .ok (.if_icmp .ge 13, 3) := by decide +kernel
theorem dX6_bitsOfMean_26 : decode cX6_bitsOfMean 26 = .ok (.fload_n 1, 1) := by decide +kernel
theorem dX6_bitsOfMean_27 : decode cX6_bitsOfMean 27 = .ok (.fconst 2, 1) := by decide +kernel
theorem dX6_bitsOfMean_28 : decode cX6_bitsOfMean 28 = .ok (.fdiv, 1) := by decide +kernel
theorem dX6_bitsOfMean_29 : decode cX6_bitsOfMean 29 = .ok (.fstore_n 1, 1) := by decide +kernel
theorem dX6_bitsOfMean_30 : decode cX6_bitsOfMean 30 = .ok (.iinc 2 1, 3) := by decide +kernel
theorem dX6_bitsOfMean_33 : decode cX6_bitsOfMean 33 = .ok (.goto (-20), 3) := by decide +kernel
theorem dX6_bitsOfMean_36 : decode cX6_bitsOfMean 36 = .ok (.iload_n 2, 1) := by decide +kernel
theorem dX6_bitsOfMean_37 : decode cX6_bitsOfMean 37 = .ok (.bipush 23, 2) := by decide +kernel
theorem dX6_bitsOfMean_39 : decode cX6_bitsOfMean 39 = .ok (.ishl, 1) := by decide +kernel
theorem dX6_bitsOfMean_40 : decode cX6_bitsOfMean 40 = .ok (.fload_n 1, 1) := by decide +kernel
theorem dX6_bitsOfMean_41 : decode cX6_bitsOfMean 41 = .ok (.fconst 1, 1) := by decide +kernel
theorem dX6_bitsOfMean_42 : decode cX6_bitsOfMean 42 = .ok (.fsub, 1) := by decide +kernel
theorem dX6_bitsOfMean_43 : decode cX6_bitsOfMean 43 = .ok (.ldc_w 428, 3) := by decide +kernel
theorem dX6_bitsOfMean_46 : decode cX6_bitsOfMean 46 = .ok (.fmul, 1) := by decide +kernel
theorem dX6_bitsOfMean_47 : decode cX6_bitsOfMean 47 = .ok (.f2i, 1) := by decide +kernel
theorem dX6_bitsOfMean_48 : decode cX6_bitsOfMean 48 = .ok (.iadd, 1) := by decide +kernel
theorem dX6_bitsOfMean_49 : decode cX6_bitsOfMean 49 = .ok (.ireturn, 1) := by decide +kernel
theorem dX7_init_0 : decode cX7_init 0 = .ok (.aload_n 0, 1) := by decide +kernel
theorem dX7_init_1 : decode cX7_init 1 = .ok (.invokespecial 1, 3) := by decide +kernel
theorem dX7_init_4 : decode cX7_init 4 = .ok (.aload_n 0, 1) := by decide +kernel
theorem dX7_init_5 : decode cX7_init 5 = .ok (.sipush 520, 3) := by decide +kernel
theorem dX7_init_8 : decode cX7_init 8 = .ok (.newarray .int, 2) := by decide +kernel
theorem dX7_init_10 : decode cX7_init 10 = .ok (.putfield 7, 3) := by decide +kernel
theorem dX7_init_13 : decode cX7_init 13 = .ok (.aload_n 0, 1) := by decide +kernel
theorem dX7_init_14 : decode cX7_init 14 = .ok (.bipush 60, 2) := by decide +kernel
theorem dX7_init_16 : decode cX7_init 16 = .ok (.newarray .char, 2) := by decide +kernel
theorem dX7_init_18 : decode cX7_init 18 = .ok (.putfield 13, 3) := by decide +kernel
theorem dX7_init_21 : decode cX7_init 21 = .ok (.aload_n 0, 1) := by decide +kernel
theorem dX7_init_22 : decode cX7_init 22 = .ok (.bipush 6, 2) := by decide +kernel
theorem dX7_init_24 : decode cX7_init 24 = .ok (.newarray .long, 2) := by decide +kernel
theorem dX7_init_26 : decode cX7_init 26 = .ok (.putfield 17, 3) := by decide +kernel
theorem dX7_init_29 : decode cX7_init 29 = .ok (.aload_n 0, 1) := by decide +kernel
theorem dX7_init_30 : decode cX7_init 30 = .ok (.bipush 10, 2) := by decide +kernel
theorem dX7_init_32 : decode cX7_init 32 = .ok (.newarray .long, 2) := by decide +kernel
theorem dX7_init_34 : decode cX7_init 34 = .ok (.putfield 21, 3) := by decide +kernel
theorem dX7_init_37 : decode cX7_init 37 = .ok (.aload_n 0, 1) := by decide +kernel
theorem dX7_init_38 : decode cX7_init 38 = .ok (.sipush 4096, 3) := by decide +kernel
theorem dX7_init_41 : decode cX7_init 41 = .ok (.newarray .boolean, 2) := by decide +kernel
theorem dX7_init_43 : decode cX7_init 43 = .ok (.putfield 24, 3) := by decide +kernel
theorem dX7_init_46 : decode cX7_init 46 = .ok (.aload_n 0, 1) := by decide +kernel
theorem dX7_init_47 : decode cX7_init 47 = .ok (.sipush 729, 3) := by decide +kernel
theorem dX7_init_50 : decode cX7_init 50 = .ok (.newarray .int, 2) := by decide +kernel
theorem dX7_init_52 : decode cX7_init 52 = .ok (.putfield 28, 3) := by decide +kernel
theorem dX7_init_55 : decode cX7_init 55 = .ok (.iconst 0, 1) := by decide +kernel
theorem dX7_init_56 : decode cX7_init 56 = .ok (.istore_n 1, 1) := by decide +kernel
theorem dX7_init_57 : decode cX7_init 57 = .ok (.iload_n 1, 1) := by decide +kernel
theorem dX7_init_58 : decode cX7_init 58 = .ok (.bipush 64, 2) := by decide +kernel
theorem dX7_init_60 : decode cX7_init 60 = .ok (.if_icmp .ge 48, 3) := by decide +kernel
theorem dX7_init_63 : decode cX7_init 63 = .ok (.iconst 0, 1) := by decide +kernel
theorem dX7_init_64 : decode cX7_init 64 = .ok (.istore_n 2, 1) := by decide +kernel
theorem dX7_init_65 : decode cX7_init 65 = .ok (.iload_n 2, 1) := by decide +kernel
theorem dX7_init_66 : decode cX7_init 66 = .ok (.bipush 6, 2) := by decide +kernel
theorem dX7_init_68 : decode cX7_init 68 = .ok (.if_icmp .ge 34, 3) := by decide +kernel
theorem dX7_init_71 : decode cX7_init 71 = .ok (.aload_n 0, 1) := by decide +kernel
theorem dX7_init_72 : decode cX7_init 72 = .ok (.getfield 17, 3) := by decide +kernel
theorem dX7_init_75 : decode cX7_init 75 = .ok (.iload_n 2, 1) := by decide +kernel
theorem dX7_init_76 : decode cX7_init 76 = .ok (.dup2, 1) := by decide +kernel
theorem dX7_init_77 : decode cX7_init 77 = .ok (.laload, 1) := by decide +kernel
theorem dX7_init_78 : decode cX7_init 78 = .ok (.iload_n 1, 1) := by decide +kernel
theorem dX7_init_79 : decode cX7_init 79 = .ok (.iload_n 2, 1) := by decide +kernel
theorem dX7_init_80 : decode cX7_init 80 = .ok (.ishr, 1) := by decide +kernel
theorem dX7_init_81 : decode cX7_init 81 = .ok (.iconst 1, 1) := by decide +kernel
theorem dX7_init_82 : decode cX7_init 82 = .ok (.iand, 1) := by decide +kernel
theorem dX7_init_83 : decode cX7_init 83 = .ok (.iconst 1, 1) := by decide +kernel
theorem dX7_init_84 : decode cX7_init 84 = .ok (.if_icmp .ne 9, 3) := by decide +kernel
theorem dX7_init_87 : decode cX7_init 87 = .ok (.lconst 1, 1) := by decide +kernel
theorem dX7_init_88 : decode cX7_init 88 = .ok (.iload_n 1, 1) := by decide +kernel
theorem dX7_init_89 : decode cX7_init 89 = .ok (.lshl, 1) := by decide +kernel
theorem dX7_init_90 : decode cX7_init 90 = .ok (.goto 4, 3) := by decide +kernel
theorem dX7_init_93 : decode cX7_init 93 = .ok (.lconst 0, 1) := by decide +kernel
theorem dX7_init_94 : decode cX7_init 94 = .ok (.lor, 1) := by decide +kernel
theorem dX7_init_95 : decode cX7_init 95 = .ok (.lastore, 1) := by decide +kernel
theorem dX7_init_96 : decode cX7_init 96 = .ok (.iinc 2 1, 3) := by decide +kernel
theorem dX7_init_99 : decode cX7_init 99 = .ok (.goto (-34), 3) := by decide +kernel
theorem dX7_init_102 : decode cX7_init 102 = .ok (.iinc 1 1, 3) := by decide +kernel
theorem dX7_init_105 : decode cX7_init 105 = .ok (.goto (-48), 3) := by decide +kernel
theorem dX7_init_108 : decode cX7_init 108 = .ok (.return_, 1) := by decide +kernel
theorem dX7_thrown_0 : decode cX7_thrown 0 = .ok (.aload_n 0, 1) := by decide +kernel
theorem dX7_thrown_1 : decode cX7_thrown 1 = .ok (.getfield 31, 3) := by decide +kernel
theorem dX7_thrown_4 : decode cX7_thrown 4 = .ok (.ireturn, 1) := by decide +kernel
theorem dX7_in_0 : decode cX7_in 0 = .ok (.iload_n 0, 1) := by decide +kernel
theorem dX7_in_1 : decode cX7_in 1 = .ok (.iload_n 1, 1) := by decide +kernel
theorem dX7_in_2 : decode cX7_in 2 = .ok (.if_icmp .lt 12, 3) := by decide +kernel
theorem dX7_in_5 : decode cX7_in 5 = .ok (.iload_n 0, 1) := by decide +kernel
theorem dX7_in_6 : decode cX7_in 6 = .ok (.iload_n 2, 1) := by decide +kernel
theorem dX7_in_7 : decode cX7_in 7 = .ok (.if_icmp .gt 7, 3) := by decide +kernel
theorem dX7_in_10 : decode cX7_in 10 = .ok (.iconst 1, 1) := by decide +kernel
theorem dX7_in_11 : decode cX7_in 11 = .ok (.goto 4, 3) := by decide +kernel
theorem dX7_in_14 : decode cX7_in 14 = .ok (.iconst 0, 1) := by decide +kernel
theorem dX7_in_15 : decode cX7_in 15 = .ok (.ireturn, 1) := by decide +kernel
theorem dX7_goes_0 : decode cX7_goes 0 = .ok (.aload_n 0, 1) := by decide +kernel
theorem dX7_goes_1 : decode cX7_goes 1 = .ok (.iload_n 1, 1) := by decide +kernel
theorem dX7_goes_2 : decode cX7_goes 2 = .ok (.ifCond .ne 7, 3) := by decide +kernel
theorem dX7_goes_5 : decode cX7_goes 5 = .ok (.iconst 1, 1) := by decide +kernel
theorem dX7_goes_6 : decode cX7_goes 6 = .ok (.goto 20, 3) := by decide +kernel
theorem dX7_goes_9 : decode cX7_goes 9 = .ok (.iload_n 2, 1) := by decide +kernel
theorem dX7_goes_10 : decode cX7_goes 10 = .ok (.ifCond .ne 7, 3) := by decide +kernel
theorem dX7_goes_13 : decode cX7_goes 13 = .ok (.iconst 2, 1) := by decide +kernel
theorem dX7_goes_14 : decode cX7_goes 14 = .ok (.goto 12, 3) := by decide +kernel
theorem dX7_goes_17 : decode cX7_goes 17 = .ok (.iload_n 3, 1) := by decide +kernel
theorem dX7_goes_18 : decode cX7_goes 18 = .ok (.ifCond .ne 7, 3) := by decide +kernel
theorem dX7_goes_21 : decode cX7_goes 21 = .ok (.iconst 3, 1) := by decide +kernel
theorem dX7_goes_22 : decode cX7_goes 22 = .ok (.goto 4, 3) := by decide +kernel
theorem dX7_goes_25 : decode cX7_goes 25 = .ok (.iconst 0, 1) := by decide +kernel
theorem dX7_goes_26 : decode cX7_goes 26 = .ok (.putfield 31, 3) := by decide +kernel
theorem dX7_goes_29 : decode cX7_goes 29 = .ok (.aload_n 0, 1) := by decide +kernel
theorem dX7_goes_30 : decode cX7_goes 30 = .ok (.getfield 31, 3) := by decide +kernel
theorem dX7_goes_33 : decode cX7_goes 33 = .ok (.ifCond .ne 7, 3) := by decide +kernel
theorem dX7_goes_36 : decode cX7_goes 36 = .ok (.iconst 1, 1) := by decide +kernel
theorem dX7_goes_37 : decode cX7_goes 37 = .ok (.goto 4, 3) := by decide +kernel
theorem dX7_goes_40 : decode cX7_goes 40 = .ok (.iconst 0, 1) := by decide +kernel
theorem dX7_goes_41 : decode cX7_goes 41 = .ok (.ireturn, 1) := by decide +kernel
theorem dX7_isIn_0 : decode cX7_isIn 0 = .ok (.iload_n 0, 1) := by decide +kernel
theorem dX7_isIn_1 : decode cX7_isIn 1 = .ok (.iload_n 1, 1) := by decide +kernel
theorem dX7_isIn_2 : decode cX7_isIn 2 = .ok (.ishr, 1) := by decide +kernel
theorem dX7_isIn_3 : decode cX7_isIn 3 = .ok (.iconst 1, 1) := by decide +kernel
theorem dX7_isIn_4 : decode cX7_isIn 4 = .ok (.iand, 1) := by decide +kernel
theorem dX7_isIn_5 : decode cX7_isIn 5 = .ok (.iconst 1, 1) := by decide +kernel
theorem dX7_isIn_6 : decode cX7_isIn 6 = .ok (.if_icmp .ne 7, 3) := by decide +kernel
theorem dX7_isIn_9 : decode cX7_isIn 9 = .ok (.iconst 1, 1) := by decide +kernel
theorem dX7_isIn_10 : decode cX7_isIn 10 = .ok (.goto 4, 3) := by decide +kernel
theorem dX7_isIn_13 : decode cX7_isIn 13 = .ok (.iconst 0, 1) := by decide +kernel
theorem dX7_isIn_14 : decode cX7_isIn 14 = .ok (.ireturn, 1) := by decide +kernel
theorem dX7_count_0 : decode cX7_count 0 = .ok (.iconst 0, 1) := by decide +kernel
theorem dX7_count_1 : decode cX7_count 1 = .ok (.istore_n 1, 1) := by decide +kernel
theorem dX7_count_2 : decode cX7_count 2 = .ok (.iload_n 0, 1) := by decide +kernel
theorem dX7_count_3 : decode cX7_count 3 = .ok (.istore_n 2, 1) := by decide +kernel
theorem dX7_count_4 : decode cX7_count 4 = .ok (.iload_n 2, 1) := by decide +kernel
theorem dX7_count_5 : decode cX7_count 5 = .ok (.ifCond .le 16, 3) := by decide +kernel
theorem dX7_count_8 : decode cX7_count 8 = .ok (.iload_n 1, 1) := by decide +kernel
theorem dX7_count_9 : decode cX7_count 9 = .ok (.iload_n 2, 1) := by decide +kernel
theorem dX7_count_10 : decode cX7_count 10 = .ok (.iconst 1, 1) := by decide +kernel
theorem dX7_count_11 : decode cX7_count 11 = .ok (.iand, 1) := by decide +kernel
theorem dX7_count_12 : decode cX7_count 12 = .ok (.iadd, 1) := by decide +kernel
theorem dX7_count_13 : decode cX7_count 13 = .ok (.istore_n 1, 1) := by decide +kernel
theorem dX7_count_14 : decode cX7_count 14 = .ok (.iload_n 2, 1) := by decide +kernel
theorem dX7_count_15 : decode cX7_count 15 = .ok (.iconst 1, 1) := by decide +kernel
theorem dX7_count_16 : decode cX7_count 16 = .ok (.ishr, 1) := by decide +kernel
theorem dX7_count_17 : decode cX7_count 17 = .ok (.istore_n 2, 1) := by decide +kernel
theorem dX7_count_18 : decode cX7_count 18 = .ok (.goto (-14), 3) := by decide +kernel
theorem dX7_count_21 : decode cX7_count 21 = .ok (.iload_n 1, 1) := by decide +kernel
theorem dX7_count_22 : decode cX7_count 22 = .ok (.ireturn, 1) := by decide +kernel
theorem dX7_countWays_0 : decode cX7_countWays 0 = .ok (.iconst 0, 1) := by decide +kernel
theorem dX7_countWays_1 : decode cX7_countWays 1 = .ok (.istore_n 2, 1) := by decide +kernel
theorem dX7_countWays_2 : decode cX7_countWays 2 = .ok (.iconst 0, 1) := by decide +kernel
theorem dX7_countWays_3 : decode cX7_countWays 3 = .ok (.istore_n 3, 1) := by decide +kernel
theorem dX7_countWays_4 : decode cX7_countWays 4 = .ok (.iload_n 3, 1) := by decide +kernel
theorem dX7_countWays_5 : decode cX7_countWays 5 = .ok (.bipush 64, 2) := by decide +kernel
theorem dX7_countWays_7 : decode cX7_countWays 7 = .ok (.if_icmp .ge 27, 3) := by decide +kernel
theorem dX7_countWays_10 : decode cX7_countWays 10 = .ok (.iload_n 2, 1) := by decide +kernel
theorem dX7_countWays_11 : decode cX7_countWays 11 = .ok (.lload_n 0, 1) := by decide +kernel
theorem dX7_countWays_12 : decode cX7_countWays 12 = .ok (.iload_n 3, 1) := by decide +kernel
theorem dX7_countWays_13 : decode cX7_countWays 13 = .ok (.lushr, 1) := by decide +kernel
theorem dX7_countWays_14 : decode cX7_countWays 14 = .ok (.lconst 1, 1) := by decide +kernel
theorem dX7_countWays_15 : decode cX7_countWays 15 = .ok (.land, 1) := by decide +kernel
theorem dX7_countWays_16 : decode cX7_countWays 16 = .ok (.lconst 1, 1) := by decide +kernel
theorem dX7_countWays_17 : decode cX7_countWays 17 = .ok (.lcmp, 1) := by decide +kernel
theorem dX7_countWays_18 : decode cX7_countWays 18 = .ok (.ifCond .ne 7, 3) := by decide +kernel
theorem dX7_countWays_21 : decode cX7_countWays 21 = .ok (.iconst 1, 1) := by decide +kernel
theorem dX7_countWays_22 : decode cX7_countWays 22 = .ok (.goto 4, 3) := by decide +kernel
theorem dX7_countWays_25 : decode cX7_countWays 25 = .ok (.iconst 0, 1) := by decide +kernel
theorem dX7_countWays_26 : decode cX7_countWays 26 = .ok (.iadd, 1) := by decide +kernel
theorem dX7_countWays_27 : decode cX7_countWays 27 = .ok (.istore_n 2, 1) := by decide +kernel
theorem dX7_countWays_28 : decode cX7_countWays 28 = .ok (.iinc 3 1, 3) := by decide +kernel
theorem dX7_countWays_31 : decode cX7_countWays 31 = .ok (.goto (-27), 3) := by decide +kernel
theorem dX7_countWays_34 : decode cX7_countWays 34 = .ok (.iload_n 2, 1) := by decide +kernel
theorem dX7_countWays_35 : decode cX7_countWays 35 = .ok (.ireturn, 1) := by decide +kernel
theorem dX7_copies_0 : decode cX7_copies 0 = .ok (.iconst 0, 1) := by decide +kernel
theorem dX7_copies_1 : decode cX7_copies 1 = .ok (.istore_n 3, 1) := by decide +kernel
theorem dX7_copies_2 : decode cX7_copies 2 = .ok (.iload_n 3, 1) := by decide +kernel
theorem dX7_copies_3 : decode cX7_copies 3 = .ok (.bipush 65, 2) := by decide +kernel
theorem dX7_copies_5 : decode cX7_copies 5 = .ok (.if_icmp .ge 31, 3) := by decide +kernel
theorem dX7_copies_8 : decode cX7_copies 8 = .ok (.aload_n 0, 1) := by decide +kernel
theorem dX7_copies_9 : decode cX7_copies 9 = .ok (.getfield 7, 3) := by decide +kernel
theorem dX7_copies_12 : decode cX7_copies 12 = .ok (.bipush 65, 2) := by decide +kernel
theorem dX7_copies_14 : decode cX7_copies 14 = .ok (.iload_n 2, 1) := by decide +kernel
theorem dX7_copies_15 : decode cX7_copies 15 = .ok (.imul, 1) := by decide +kernel
theorem dX7_copies_16 : decode cX7_copies 16 = .ok (.iload_n 3, 1) := by decide +kernel
theorem dX7_copies_17 : decode cX7_copies 17 = .ok (.iadd, 1) := by decide +kernel
theorem dX7_copies_18 : decode cX7_copies 18 = .ok (.aload_n 0, 1) := by decide +kernel
theorem dX7_copies_19 : decode cX7_copies 19 = .ok (.getfield 7, 3) := by decide +kernel
theorem dX7_copies_22 : decode cX7_copies 22 = .ok (.bipush 65, 2) := by decide +kernel
theorem dX7_copies_24 : decode cX7_copies 24 = .ok (.iload_n 1, 1) := by decide +kernel
theorem dX7_copies_25 : decode cX7_copies 25 = .ok (.imul, 1) := by decide +kernel
theorem dX7_copies_26 : decode cX7_copies 26 = .ok (.iload_n 3, 1) := by decide +kernel
theorem dX7_copies_27 : decode cX7_copies 27 = .ok (.iadd, 1) := by decide +kernel
theorem dX7_copies_28 : decode cX7_copies 28 = .ok (.iaload, 1) := by decide +kernel
theorem dX7_copies_29 : decode cX7_copies 29 = .ok (.iastore, 1) := by decide +kernel
theorem dX7_copies_30 : decode cX7_copies 30 = .ok (.iinc 3 1, 3) := by decide +kernel
theorem dX7_copies_33 : decode cX7_copies 33 = .ok (.goto (-31), 3) := by decide +kernel
theorem dX7_copies_36 : decode cX7_copies 36 = .ok (.return_, 1) := by decide +kernel
theorem dX7_saves_0 : decode cX7_saves 0 = .ok (.aload_n 0, 1) := by decide +kernel
theorem dX7_saves_1 : decode cX7_saves 1 = .ok (.getfield 35, 3) := by decide +kernel
theorem dX7_saves_4 : decode cX7_saves 4 = .ok (.bipush 6, 2) := by decide +kernel
theorem dX7_saves_6 : decode cX7_saves 6 = .ok (.if_icmp .ne 35, 3) := by decide +kernel
theorem dX7_saves_9 : decode cX7_saves 9 = .ok (.iconst 1, 1) := by decide +kernel
theorem dX7_saves_10 : decode cX7_saves 10 = .ok (.istore_n 1, 1) := by decide +kernel
theorem dX7_saves_11 : decode cX7_saves 11 = .ok (.iload_n 1, 1) := by decide +kernel
theorem dX7_saves_12 : decode cX7_saves 12 = .ok (.bipush 6, 2) := by decide +kernel
theorem dX7_saves_14 : decode cX7_saves 14 = .ok (.if_icmp .ge 17, 3) := by decide +kernel
theorem dX7_saves_17 : decode cX7_saves 17 = .ok (.aload_n 0, 1) := by decide +kernel
theorem dX7_saves_18 : decode cX7_saves 18 = .ok (.iload_n 1, 1) := by decide +kernel
theorem dX7_saves_19 : decode cX7_saves 19 = .ok (.iconst 1, 1) := by decide +kernel
theorem dX7_saves_20 : decode cX7_saves 20 = .ok (.iadd, 1) := by decide +kernel
theorem dX7_saves_21 : decode cX7_saves 21 = .ok (.iload_n 1, 1) := by decide +kernel
theorem dX7_saves_22 : decode cX7_saves 22 = .ok (.invokevirtual 38, 3) := by decide +kernel
theorem dX7_saves_25 : decode cX7_saves 25 = .ok (.iinc 1 1, 3) := by decide +kernel
theorem dX7_saves_28 : decode cX7_saves 28 = .ok (.goto (-17), 3) := by decide +kernel
theorem dX7_saves_31 : decode cX7_saves 31 = .ok (.aload_n 0, 1) := by decide +kernel
theorem dX7_saves_32 : decode cX7_saves 32 = .ok (.dup, 1) := by decide +kernel
theorem dX7_saves_33 : decode cX7_saves 33 = .ok (.getfield 35, 3) := by decide +kernel
theorem dX7_saves_36 : decode cX7_saves 36 = .ok (.iconst 1, 1) := by decide +kernel
theorem dX7_saves_37 : decode cX7_saves 37 = .ok (.isub, 1) := by decide +kernel
theorem dX7_saves_38 : decode cX7_saves 38 = .ok (.putfield 35, 3) := by decide +kernel
theorem dX7_saves_41 : decode cX7_saves 41 = .ok (.aload_n 0, 1) := by decide +kernel
theorem dX7_saves_42 : decode cX7_saves 42 = .ok (.dup, 1) := by decide +kernel
theorem dX7_saves_43 : decode cX7_saves 43 = .ok (.getfield 35, 3) := by decide +kernel
theorem dX7_saves_46 : decode cX7_saves 46 = .ok (.iconst 1, 1) := by decide +kernel
theorem dX7_saves_47 : decode cX7_saves 47 = .ok (.iadd, 1) := by decide +kernel
theorem dX7_saves_48 : decode cX7_saves 48 = .ok (.putfield 35, 3) := by decide +kernel
theorem dX7_saves_51 : decode cX7_saves 51 = .ok (.aload_n 0, 1) := by decide +kernel
theorem dX7_saves_52 : decode cX7_saves 52 = .ok (.iconst 0, 1) := by decide +kernel
theorem dX7_saves_53 : decode cX7_saves 53 = .ok (.aload_n 0, 1) := by decide +kernel
theorem dX7_saves_54 : decode cX7_saves 54 = .ok (.getfield 35, 3) := by decide +kernel
theorem dX7_saves_57 : decode cX7_saves 57 = .ok (.invokevirtual 38, 3) := by decide +kernel
theorem dX7_saves_60 : decode cX7_saves 60 = .ok (.return_, 1) := by decide +kernel
theorem dX7_isRule_0 : decode cX7_isRule 0 = .ok (.iload_n 1, 1) := by decide +kernel
theorem dX7_isRule_1 : decode cX7_isRule 1 = .ok (.iconst 0, 1) := by decide +kernel
theorem dX7_isRule_2 : decode cX7_isRule 2 = .ok (.aload_n 0, 1) := by decide +kernel
theorem dX7_isRule_3 : decode cX7_isRule 3 = .ok (.getfield 7, 3) := by decide +kernel
theorem dX7_isRule_6 : decode cX7_isRule 6 = .ok (.iconst 0, 1) := by decide +kernel
theorem dX7_isRule_7 : decode cX7_isRule 7 = .ok (.iaload, 1) := by decide +kernel
theorem dX7_isRule_8 : decode cX7_isRule 8 = .ok (.iconst 1, 1) := by decide +kernel
theorem dX7_isRule_9 : decode cX7_isRule 9 = .ok (.isub, 1) := by decide +kernel
theorem dX7_isRule_10 : decode cX7_isRule 10 = .ok (.invokestatic 42, 3) := by decide +kernel
theorem dX7_isRule_13 : decode cX7_isRule 13 = .ok (.ireturn, 1) := by decide +kernel
theorem dX7_at_0 : decode cX7_at 0 = .ok (.iconst 5, 1) := by decide +kernel
theorem dX7_at_1 : decode cX7_at 1 = .ok (.bipush 6, 2) := by decide +kernel
theorem dX7_at_3 : decode cX7_at 3 = .ok (.iload_n 0, 1) := by decide +kernel
theorem dX7_at_4 : decode cX7_at 4 = .ok (.imul, 1) := by decide +kernel
theorem dX7_at_5 : decode cX7_at 5 = .ok (.iadd, 1) := by decide +kernel
theorem dX7_at_6 : decode cX7_at 6 = .ok (.ireturn, 1) := by decide +kernel
theorem dX7_waysOf_0 : decode cX7_waysOf 0 = .ok (.lconst 0, 1) := by decide +kernel
theorem dX7_waysOf_1 : decode cX7_waysOf 1 = .ok (.lstore_n 3, 1) := by decide +kernel
theorem dX7_waysOf_2 : decode cX7_waysOf 2 = .ok (.iconst 0, 1) := by decide +kernel
theorem dX7_waysOf_3 : decode cX7_waysOf 3 = .ok (.istore 5, 2) := by decide +kernel
theorem dX7_waysOf_5 : decode cX7_waysOf 5 = .ok (.iload 5, 2) := by decide +kernel
theorem dX7_waysOf_7 : decode cX7_waysOf 7 = .ok (.bipush 6, 2) := by decide +kernel
theorem dX7_waysOf_9 : decode cX7_waysOf 9 = .ok (.if_icmp .ge 59, 3) := by decide +kernel
theorem dX7_waysOf_12 : decode cX7_waysOf 12 = .ok (.lload_n 3, 1) := by decide +kernel
theorem dX7_waysOf_13 : decode cX7_waysOf 13 = .ok (.iload_n 1, 1) := by decide +kernel
theorem dX7_waysOf_14 : decode cX7_waysOf 14 = .ok (.iload 5, 2) := by decide +kernel
theorem dX7_waysOf_16 : decode cX7_waysOf 16 = .ok (.invokestatic 46, 3) := by decide +kernel
theorem dX7_waysOf_19 : decode cX7_waysOf 19 = .ok (.ifCond .eq 13, 3) := by decide +kernel
theorem dX7_waysOf_22 : decode cX7_waysOf 22 = .ok (.aload_n 0, 1) := by decide +kernel
theorem dX7_waysOf_23 : decode cX7_waysOf 23 = .ok (.getfield 17, 3) := by decide +kernel
theorem dX7_waysOf_26 : decode cX7_waysOf 26 = .ok (.iload 5, 2) := by decide +kernel
theorem dX7_waysOf_28 : decode cX7_waysOf 28 = .ok (.laload, 1) := by decide +kernel
theorem dX7_waysOf_29 : decode cX7_waysOf 29 = .ok (.goto 4, 3) := by decide +kernel
theorem dX7_waysOf_32 : decode cX7_waysOf 32 = .ok (.lconst 0, 1) := by decide +kernel
theorem dX7_waysOf_33 : decode cX7_waysOf 33 = .ok (.lor, 1) := by decide +kernel
theorem dX7_waysOf_34 : decode cX7_waysOf 34 = .ok (.lstore_n 3, 1) := by decide +kernel
theorem dX7_waysOf_35 : decode cX7_waysOf 35 = .ok (.lload_n 3, 1) := by decide +kernel
theorem dX7_waysOf_36 : decode cX7_waysOf 36 = .ok (.iload_n 2, 1) := by decide +kernel
theorem dX7_waysOf_37 : decode cX7_waysOf 37 = .ok (.iload 5, 2) := by decide +kernel
theorem dX7_waysOf_39 : decode cX7_waysOf 39 = .ok (.invokestatic 46, 3) := by decide +kernel
theorem dX7_waysOf_42 : decode cX7_waysOf 42 = .ok (.ifCond .eq 17, 3) := by decide +kernel
theorem dX7_waysOf_45 : decode cX7_waysOf 45 = .ok (.aload_n 0, 1) := by decide +kernel
theorem dX7_waysOf_46 : decode cX7_waysOf 46 = .ok (.getfield 17, 3) := by decide +kernel
theorem dX7_waysOf_49 : decode cX7_waysOf 49 = .ok (.iload 5, 2) := by decide +kernel
theorem dX7_waysOf_51 : decode cX7_waysOf 51 = .ok (.laload, 1) := by decide +kernel
theorem dX7_waysOf_52 : decode cX7_waysOf 52 = .ok (.ldc2_w 50, 3) := by decide +kernel
theorem dX7_waysOf_55 : decode cX7_waysOf 55 = .ok (.lxor, 1) := by decide +kernel
theorem dX7_waysOf_56 : decode cX7_waysOf 56 = .ok (.goto 4, 3) := by decide +kernel
theorem dX7_waysOf_59 : decode cX7_waysOf 59 = .ok (.lconst 0, 1) := by decide +kernel
theorem dX7_waysOf_60 : decode cX7_waysOf 60 = .ok (.lor, 1) := by decide +kernel
theorem dX7_waysOf_61 : decode cX7_waysOf 61 = .ok (.lstore_n 3, 1) := by decide +kernel
theorem dX7_waysOf_62 : decode cX7_waysOf 62 = .ok (.iinc 5 1, 3) := by decide +kernel
theorem dX7_waysOf_65 : decode cX7_waysOf 65 = .ok (.goto (-60), 3) := by decide +kernel
theorem dX7_waysOf_68 : decode cX7_waysOf 68 = .ok (.lload_n 3, 1) := by decide +kernel
theorem dX7_waysOf_69 : decode cX7_waysOf 69 = .ok (.lreturn, 1) := by decide +kernel
theorem dX7_looks_0 : decode cX7_looks 0 = .ok (.iconst 0, 1) := by decide +kernel
theorem dX7_looks_1 : decode cX7_looks 1 = .ok (.istore_n 1, 1) := by decide +kernel
theorem dX7_looks_2 : decode cX7_looks 2 = .ok (.iload_n 1, 1) := by decide +kernel
theorem dX7_looks_3 : decode cX7_looks 3 = .ok (.aload_n 0, 1) := by decide +kernel
theorem dX7_looks_4 : decode cX7_looks 4 = .ok (.getfield 7, 3) := by decide +kernel
theorem dX7_looks_7 : decode cX7_looks 7 = .ok (.iconst 0, 1) := by decide +kernel
theorem dX7_looks_8 : decode cX7_looks 8 = .ok (.iaload, 1) := by decide +kernel
theorem dX7_looks_9 : decode cX7_looks 9 = .ok (.if_icmp .ge 39, 3) := by decide +kernel
theorem dX7_looks_12 : decode cX7_looks 12 = .ok (.aload_n 0, 1) := by decide +kernel
theorem dX7_looks_13 : decode cX7_looks 13 = .ok (.getfield 21, 3) := by decide +kernel
theorem dX7_looks_16 : decode cX7_looks 16 = .ok (.iload_n 1, 1) := by decide +kernel
theorem dX7_looks_17 : decode cX7_looks 17 = .ok (.aload_n 0, 1) := by decide +kernel
theorem dX7_looks_18 : decode cX7_looks 18 = .ok (.aload_n 0, 1) := by decide +kernel
theorem dX7_looks_19 : decode cX7_looks 19 = .ok (.getfield 7, 3) := by decide +kernel
theorem dX7_looks_22 : decode cX7_looks 22 = .ok (.iload_n 1, 1) := by decide +kernel
theorem dX7_looks_23 : decode cX7_looks 23 = .ok (.invokestatic 52, 3) := by decide +kernel
theorem dX7_looks_26 : decode cX7_looks 26 = .ok (.iaload, 1) := by decide +kernel
theorem dX7_looks_27 : decode cX7_looks 27 = .ok (.aload_n 0, 1) := by decide +kernel
theorem dX7_looks_28 : decode cX7_looks 28 = .ok (.getfield 7, 3) := by decide +kernel
theorem dX7_looks_31 : decode cX7_looks 31 = .ok (.iload_n 1, 1) := by decide +kernel
theorem dX7_looks_32 : decode cX7_looks 32 = .ok (.invokestatic 52, 3) := by decide +kernel
theorem dX7_looks_35 : decode cX7_looks 35 = .ok (.iconst 1, 1) := by decide +kernel
theorem dX7_looks_36 : decode cX7_looks 36 = .ok (.iadd, 1) := by decide +kernel
theorem dX7_looks_37 : decode cX7_looks 37 = .ok (.iaload, 1) := by decide +kernel
theorem dX7_looks_38 : decode cX7_looks 38 = .ok (.invokevirtual 56, 3) := by decide +kernel
theorem dX7_looks_41 : decode cX7_looks 41 = .ok (.lastore, 1) := by decide +kernel
theorem dX7_looks_42 : decode cX7_looks 42 = .ok (.iinc 1 1, 3) := by decide +kernel
theorem dX7_looks_45 : decode cX7_looks 45 = .ok (.goto (-43), 3) := by decide +kernel
theorem dX7_looks_48 : decode cX7_looks 48 = .ok (.return_, 1) := by decide +kernel
theorem dX7_waysOfAll_0 : decode cX7_waysOfAll 0 = .ok (.ldc2_w 50, 3) := by decide +kernel
theorem dX7_waysOfAll_3 : decode cX7_waysOfAll 3 = .ok (.lstore_n 2, 1) := by decide +kernel
theorem dX7_waysOfAll_4 : decode cX7_waysOfAll 4 = .ok (.iconst 0, 1) := by decide +kernel
theorem dX7_waysOfAll_5 : decode cX7_waysOfAll 5 = .ok (.istore 4, 2) := by decide +kernel
theorem dX7_waysOfAll_7 : decode cX7_waysOfAll 7 = .ok (.iload 4, 2) := by decide +kernel
theorem dX7_waysOfAll_9 : decode cX7_waysOfAll 9 = .ok (.aload_n 0, 1) := by decide +kernel
theorem dX7_waysOfAll_10 : decode cX7_waysOfAll 10 = .ok (.getfield 7, 3) := by decide +kernel
theorem dX7_waysOfAll_13 : decode cX7_waysOfAll 13 = .ok (.iconst 0, 1) := by decide +kernel
theorem dX7_waysOfAll_14 : decode cX7_waysOfAll 14 = .ok (.iaload, 1) := by decide +kernel
theorem dX7_waysOfAll_15 : decode cX7_waysOfAll 15 = .ok (.if_icmp .ge 34, 3) := by decide +kernel
theorem dX7_waysOfAll_18 : decode cX7_waysOfAll 18 = .ok (.lload_n 2, 1) := by decide +kernel
theorem dX7_waysOfAll_19 : decode cX7_waysOfAll 19 = .ok (.iload_n 1, 1) := by decide +kernel
theorem dX7_waysOfAll_20 : decode cX7_waysOfAll 20 = .ok (.iload 4, 2) := by decide +kernel
theorem dX7_waysOfAll_22 : decode cX7_waysOfAll 22 = .ok (.invokestatic 46, 3) := by decide +kernel
theorem dX7_waysOfAll_25 : decode cX7_waysOfAll 25 = .ok (.ifCond .eq 13, 3) := by decide +kernel
theorem dX7_waysOfAll_28 : decode cX7_waysOfAll 28 = .ok (.aload_n 0, 1) := by decide +kernel
theorem dX7_waysOfAll_29 : decode cX7_waysOfAll 29 = .ok (.getfield 21, 3) := by decide +kernel
theorem dX7_waysOfAll_32 : decode cX7_waysOfAll 32 = .ok (.iload 4, 2) := by decide +kernel
theorem dX7_waysOfAll_34 : decode cX7_waysOfAll 34 = .ok (.laload, 1) := by decide +kernel
theorem dX7_waysOfAll_35 : decode cX7_waysOfAll 35 = .ok (.goto 6, 3) := by decide +kernel
theorem dX7_waysOfAll_38 : decode cX7_waysOfAll 38 = .ok (.ldc2_w 50, 3) := by decide +kernel
theorem dX7_waysOfAll_41 : decode cX7_waysOfAll 41 = .ok (.land, 1) := by decide +kernel
theorem dX7_waysOfAll_42 : decode cX7_waysOfAll 42 = .ok (.lstore_n 2, 1) := by decide +kernel
theorem dX7_waysOfAll_43 : decode cX7_waysOfAll 43 = .ok (.iinc 4 1, 3) := by decide +kernel
theorem dX7_waysOfAll_46 : decode cX7_waysOfAll 46 = .ok (.goto (-39), 3) := by decide +kernel
theorem dX7_waysOfAll_49 : decode cX7_waysOfAll 49 = .ok (.lload_n 2, 1) := by decide +kernel
theorem dX7_waysOfAll_50 : decode cX7_waysOfAll 50 = .ok (.lreturn, 1) := by decide +kernel
theorem dX7_holdsNow_0 : decode cX7_holdsNow 0 = .ok (.aload_n 0, 1) := by decide +kernel
theorem dX7_holdsNow_1 : decode cX7_holdsNow 1 = .ok (.getfield 7, 3) := by decide +kernel
theorem dX7_holdsNow_4 : decode cX7_holdsNow 4 = .ok (.iload_n 1, 1) := by decide +kernel
theorem dX7_holdsNow_5 : decode cX7_holdsNow 5 = .ok (.invokestatic 52, 3) := by decide +kernel
theorem dX7_holdsNow_8 : decode cX7_holdsNow 8 = .ok (.iaload, 1) := by decide +kernel
theorem dX7_holdsNow_9 : decode cX7_holdsNow 9 = .ok (.istore_n 3, 1) := by decide +kernel
theorem dX7_holdsNow_10 : decode cX7_holdsNow 10 = .ok (.aload_n 0, 1) := by decide +kernel
theorem dX7_holdsNow_11 : decode cX7_holdsNow 11 = .ok (.getfield 7, 3) := by decide +kernel
theorem dX7_holdsNow_14 : decode cX7_holdsNow 14 = .ok (.iload_n 1, 1) := by decide +kernel
theorem dX7_holdsNow_15 : decode cX7_holdsNow 15 = .ok (.invokestatic 52, 3) := by decide +kernel
theorem dX7_holdsNow_18 : decode cX7_holdsNow 18 = .ok (.iconst 1, 1) := by decide +kernel
theorem dX7_holdsNow_19 : decode cX7_holdsNow 19 = .ok (.iadd, 1) := by decide +kernel
theorem dX7_holdsNow_20 : decode cX7_holdsNow 20 = .ok (.iaload, 1) := by decide +kernel
theorem dX7_holdsNow_21 : decode cX7_holdsNow 21 = .ok (.istore 4, 2) := by decide +kernel
theorem dX7_holdsNow_23 : decode cX7_holdsNow 23 = .ok (.iload_n 3, 1) := by decide +kernel
theorem dX7_holdsNow_24 : decode cX7_holdsNow 24 = .ok (.iload_n 2, 1) := by decide +kernel
theorem dX7_holdsNow_25 : decode cX7_holdsNow 25 = .ok (.iand, 1) := by decide +kernel
theorem dX7_holdsNow_26 : decode cX7_holdsNow 26 = .ok (.ifCond .ne 12, 3) := by decide +kernel
theorem dX7_holdsNow_29 : decode cX7_holdsNow 29 = .ok (.iload 4, 2) := by decide +kernel
theorem dX7_holdsNow_31 : decode cX7_holdsNow 31 = .ok (.iload_n 2, 1) := by decide +kernel
theorem dX7_holdsNow_32 : decode cX7_holdsNow 32 = .ok (.iconst (-1), 1) := by decide +kernel
theorem dX7_holdsNow_33 : decode cX7_holdsNow 33 = .ok (.ixor, 1) := by decide +kernel
theorem dX7_holdsNow_34 : decode cX7_holdsNow 34 = .ok (.iand, 1) := by decide +kernel
theorem dX7_holdsNow_35 : decode cX7_holdsNow 35 = .ok (.ifCond .eq 7, 3) := by decide +kernel
theorem dX7_holdsNow_38 : decode cX7_holdsNow 38 = .ok (.iconst 1, 1) := by decide +kernel
theorem dX7_holdsNow_39 : decode cX7_holdsNow 39 = .ok (.goto 4, 3) := by decide +kernel
theorem dX7_holdsNow_42 : decode cX7_holdsNow 42 = .ok (.iconst 0, 1) := by decide +kernel
theorem dX7_holdsNow_43 : decode cX7_holdsNow 43 = .ok (.ireturn, 1) := by decide +kernel
theorem dX7_isForce_0 : decode cX7_isForce 0 = .ok (.iload_n 2, 1) := by decide +kernel
theorem dX7_isForce_1 : decode cX7_isForce 1 = .ok (.aload_n 0, 1) := by decide +kernel
theorem dX7_isForce_2 : decode cX7_isForce 2 = .ok (.getfield 7, 3) := by decide +kernel
theorem dX7_isForce_5 : decode cX7_isForce 5 = .ok (.iload_n 1, 1) := by decide +kernel
theorem dX7_isForce_6 : decode cX7_isForce 6 = .ok (.invokestatic 52, 3) := by decide +kernel
theorem dX7_isForce_9 : decode cX7_isForce 9 = .ok (.iconst 4, 1) := by decide +kernel
theorem dX7_isForce_10 : decode cX7_isForce 10 = .ok (.iadd, 1) := by decide +kernel
theorem dX7_isForce_11 : decode cX7_isForce 11 = .ok (.iaload, 1) := by decide +kernel
theorem dX7_isForce_12 : decode cX7_isForce 12 = .ok (.if_icmp .lt 7, 3) := by decide +kernel
theorem dX7_isForce_15 : decode cX7_isForce 15 = .ok (.iconst 1, 1) := by decide +kernel
theorem dX7_isForce_16 : decode cX7_isForce 16 = .ok (.goto 4, 3) := by decide +kernel
theorem dX7_isForce_19 : decode cX7_isForce 19 = .ok (.iconst 0, 1) := by decide +kernel
theorem dX7_isForce_20 : decode cX7_isForce 20 = .ok (.ireturn, 1) := by decide +kernel
theorem dX7_force_0 : decode cX7_force 0 = .ok (.iconst 0, 1) := by decide +kernel
theorem dX7_force_1 : decode cX7_force 1 = .ok (.istore_n 1, 1) := by decide +kernel
theorem dX7_force_2 : decode cX7_force 2 = .ok (.iconst 0, 1) := by decide +kernel
theorem dX7_force_3 : decode cX7_force 3 = .ok (.istore_n 2, 1) := by decide +kernel
theorem dX7_force_4 : decode cX7_force 4 = .ok (.iload_n 2, 1) := by decide +kernel
theorem dX7_force_5 : decode cX7_force 5 = .ok (.aload_n 0, 1) := by decide +kernel
theorem dX7_force_6 : decode cX7_force 6 = .ok (.getfield 7, 3) := by decide +kernel
theorem dX7_force_9 : decode cX7_force 9 = .ok (.iconst 0, 1) := by decide +kernel
theorem dX7_force_10 : decode cX7_force 10 = .ok (.iaload, 1) := by decide +kernel
theorem dX7_force_11 : decode cX7_force 11 = .ok (.if_icmp .ge 33, 3) := by decide +kernel
theorem dX7_force_14 : decode cX7_force 14 = .ok (.iload_n 1, 1) := by decide +kernel
theorem dX7_force_15 : decode cX7_force 15 = .ok (.aload_n 0, 1) := by decide +kernel
theorem dX7_force_16 : decode cX7_force 16 = .ok (.iload_n 2, 1) := by decide +kernel
theorem dX7_force_17 : decode cX7_force 17 = .ok (.aload_n 0, 1) := by decide +kernel
theorem dX7_force_18 : decode cX7_force 18 = .ok (.getfield 7, 3) := by decide +kernel
theorem dX7_force_21 : decode cX7_force 21 = .ok (.iconst 2, 1) := by decide +kernel
theorem dX7_force_22 : decode cX7_force 22 = .ok (.iaload, 1) := by decide +kernel
theorem dX7_force_23 : decode cX7_force 23 = .ok (.invokevirtual 60, 3) := by decide +kernel
theorem dX7_force_26 : decode cX7_force 26 = .ok (.ifCond .eq 9, 3) := by decide +kernel
theorem dX7_force_29 : decode cX7_force 29 = .ok (.iconst 1, 1) := by decide +kernel
theorem dX7_force_30 : decode cX7_force 30 = .ok (.iload_n 2, 1) := by decide +kernel
theorem dX7_force_31 : decode cX7_force 31 = .ok (.ishl, 1) := by decide +kernel
theorem dX7_force_32 : decode cX7_force 32 = .ok (.goto 4, 3) := by decide +kernel
theorem dX7_force_35 : decode cX7_force 35 = .ok (.iconst 0, 1) := by decide +kernel
theorem dX7_force_36 : decode cX7_force 36 = .ok (.ior, 1) := by decide +kernel
theorem dX7_force_37 : decode cX7_force 37 = .ok (.istore_n 1, 1) := by decide +kernel
theorem dX7_force_38 : decode cX7_force 38 = .ok (.iinc 2 1, 3) := by decide +kernel
theorem dX7_force_41 : decode cX7_force 41 = .ok (.goto (-37), 3) := by decide +kernel
theorem dX7_force_44 : decode cX7_force 44 = .ok (.iload_n 1, 1) := by decide +kernel
theorem dX7_force_45 : decode cX7_force 45 = .ok (.ireturn, 1) := by decide +kernel
theorem dX7_brokenIn_0 : decode cX7_brokenIn 0 = .ok (.iconst 0, 1) := by decide +kernel
theorem dX7_brokenIn_1 : decode cX7_brokenIn 1 = .ok (.istore_n 2, 1) := by decide +kernel
theorem dX7_brokenIn_2 : decode cX7_brokenIn 2 = .ok (.iconst 0, 1) := by decide +kernel
theorem dX7_brokenIn_3 : decode cX7_brokenIn 3 = .ok (.istore_n 3, 1) := by decide +kernel
theorem dX7_brokenIn_4 : decode cX7_brokenIn 4 = .ok (.iload_n 3, 1) := by decide +kernel
theorem dX7_brokenIn_5 : decode cX7_brokenIn 5 = .ok (.aload_n 0, 1) := by decide +kernel
theorem dX7_brokenIn_6 : decode cX7_brokenIn 6 = .ok (.getfield 7, 3) := by decide +kernel
theorem dX7_brokenIn_9 : decode cX7_brokenIn 9 = .ok (.iconst 0, 1) := by decide +kernel
theorem dX7_brokenIn_10 : decode cX7_brokenIn 10 = .ok (.iaload, 1) := by decide +kernel
theorem dX7_brokenIn_11 : decode cX7_brokenIn 11 = .ok (.if_icmp .ge 42, 3) := by decide +kernel
theorem dX7_brokenIn_14 : decode cX7_brokenIn 14 = .ok (.iload_n 2, 1) := by decide +kernel
theorem dX7_brokenIn_15 : decode cX7_brokenIn 15 = .ok (.aload_n 0, 1) := by decide +kernel
theorem dX7_brokenIn_16 : decode cX7_brokenIn 16 = .ok (.iload_n 3, 1) := by decide +kernel
theorem dX7_brokenIn_17 : decode cX7_brokenIn 17 = .ok (.aload_n 0, 1) := by decide +kernel
theorem dX7_brokenIn_18 : decode cX7_brokenIn 18 = .ok (.getfield 7, 3) := by decide +kernel
theorem dX7_brokenIn_21 : decode cX7_brokenIn 21 = .ok (.iconst 2, 1) := by decide +kernel
theorem dX7_brokenIn_22 : decode cX7_brokenIn 22 = .ok (.iaload, 1) := by decide +kernel
theorem dX7_brokenIn_23 : decode cX7_brokenIn 23 = .ok (.invokevirtual 60, 3) := by decide +kernel
theorem dX7_brokenIn_26 : decode cX7_brokenIn 26 = .ok (.ifCond .eq 18, 3) := by decide +kernel
theorem dX7_brokenIn_29 : decode cX7_brokenIn 29 = .ok (.aload_n 0, 1) := by decide +kernel
theorem dX7_brokenIn_30 : decode cX7_brokenIn 30 = .ok (.iload_n 3, 1) := by decide +kernel
theorem dX7_brokenIn_31 : decode cX7_brokenIn 31 = .ok (.iload_n 1, 1) := by decide +kernel
theorem dX7_brokenIn_32 : decode cX7_brokenIn 32 = .ok (.invokevirtual 63, 3) := by decide +kernel
theorem dX7_brokenIn_35 : decode cX7_brokenIn 35 = .ok (.ifCond .ne 9, 3) := by decide +kernel
theorem dX7_brokenIn_38 : decode cX7_brokenIn 38 = .ok (.iconst 1, 1) := by decide +kernel
theorem dX7_brokenIn_39 : decode cX7_brokenIn 39 = .ok (.iload_n 3, 1) := by decide +kernel
theorem dX7_brokenIn_40 : decode cX7_brokenIn 40 = .ok (.ishl, 1) := by decide +kernel
theorem dX7_brokenIn_41 : decode cX7_brokenIn 41 = .ok (.goto 4, 3) := by decide +kernel
theorem dX7_brokenIn_44 : decode cX7_brokenIn 44 = .ok (.iconst 0, 1) := by decide +kernel
theorem dX7_brokenIn_45 : decode cX7_brokenIn 45 = .ok (.ior, 1) := by decide +kernel
theorem dX7_brokenIn_46 : decode cX7_brokenIn 46 = .ok (.istore_n 2, 1) := by decide +kernel
theorem dX7_brokenIn_47 : decode cX7_brokenIn 47 = .ok (.iinc 3 1, 3) := by decide +kernel
theorem dX7_brokenIn_50 : decode cX7_brokenIn 50 = .ok (.goto (-46), 3) := by decide +kernel
theorem dX7_brokenIn_53 : decode cX7_brokenIn 53 = .ok (.iload_n 2, 1) := by decide +kernel
theorem dX7_brokenIn_54 : decode cX7_brokenIn 54 = .ok (.ireturn, 1) := by decide +kernel
theorem dX7_finesOfSet_0 : decode cX7_finesOfSet 0 = .ok (.iconst 0, 1) := by decide +kernel
theorem dX7_finesOfSet_1 : decode cX7_finesOfSet 1 = .ok (.istore_n 2, 1) := by decide +kernel
theorem dX7_finesOfSet_2 : decode cX7_finesOfSet 2 = .ok (.iconst 0, 1) := by decide +kernel
theorem dX7_finesOfSet_3 : decode cX7_finesOfSet 3 = .ok (.istore_n 3, 1) := by decide +kernel
theorem dX7_finesOfSet_4 : decode cX7_finesOfSet 4 = .ok (.iload_n 3, 1) := by decide +kernel
theorem dX7_finesOfSet_5 : decode cX7_finesOfSet 5 = .ok (.aload_n 0, 1) := by decide +kernel
theorem dX7_finesOfSet_6 : decode cX7_finesOfSet 6 = .ok (.getfield 7, 3) := by decide +kernel
theorem dX7_finesOfSet_9 : decode cX7_finesOfSet 9 = .ok (.iconst 0, 1) := by decide +kernel
theorem dX7_finesOfSet_10 : decode cX7_finesOfSet 10 = .ok (.iaload, 1) := by decide +kernel
theorem dX7_finesOfSet_11 : decode cX7_finesOfSet 11 = .ok (.if_icmp .ge 35, 3) := by decide +kernel
theorem dX7_finesOfSet_14 : decode cX7_finesOfSet 14 = .ok (.iload_n 2, 1) := by decide +kernel
theorem dX7_finesOfSet_15 : decode cX7_finesOfSet 15 = .ok (.iload_n 1, 1) := by decide +kernel
theorem dX7_finesOfSet_16 : decode cX7_finesOfSet 16 = .ok (.iload_n 3, 1) := by decide +kernel
theorem dX7_finesOfSet_17 : decode cX7_finesOfSet 17 = .ok (.invokestatic 46, 3) := by decide +kernel
theorem dX7_finesOfSet_20 : decode cX7_finesOfSet 20 = .ok (.ifCond .eq 17, 3) := by decide +kernel
theorem dX7_finesOfSet_23 : decode cX7_finesOfSet 23 = .ok (.aload_n 0, 1) := by decide +kernel
theorem dX7_finesOfSet_24 : decode cX7_finesOfSet 24 = .ok (.getfield 7, 3) := by decide +kernel
theorem dX7_finesOfSet_27 : decode cX7_finesOfSet 27 = .ok (.iload_n 3, 1) := by decide +kernel
theorem dX7_finesOfSet_28 : decode cX7_finesOfSet 28 = .ok (.invokestatic 52, 3) := by decide +kernel
theorem dX7_finesOfSet_31 : decode cX7_finesOfSet 31 = .ok (.iconst 2, 1) := by decide +kernel
theorem dX7_finesOfSet_32 : decode cX7_finesOfSet 32 = .ok (.iadd, 1) := by decide +kernel
theorem dX7_finesOfSet_33 : decode cX7_finesOfSet 33 = .ok (.iaload, 1) := by decide +kernel
theorem dX7_finesOfSet_34 : decode cX7_finesOfSet 34 = .ok (.goto 4, 3) := by decide +kernel
theorem dX7_finesOfSet_37 : decode cX7_finesOfSet 37 = .ok (.iconst 0, 1) := by decide +kernel
theorem dX7_finesOfSet_38 : decode cX7_finesOfSet 38 = .ok (.iadd, 1) := by decide +kernel
theorem dX7_finesOfSet_39 : decode cX7_finesOfSet 39 = .ok (.istore_n 2, 1) := by decide +kernel
theorem dX7_finesOfSet_40 : decode cX7_finesOfSet 40 = .ok (.iinc 3 1, 3) := by decide +kernel
theorem dX7_finesOfSet_43 : decode cX7_finesOfSet 43 = .ok (.goto (-39), 3) := by decide +kernel
theorem dX7_finesOfSet_46 : decode cX7_finesOfSet 46 = .ok (.iload_n 2, 1) := by decide +kernel
theorem dX7_finesOfSet_47 : decode cX7_finesOfSet 47 = .ok (.ireturn, 1) := by decide +kernel
theorem dX7_areMasks_0 : decode cX7_areMasks 0 = .ok (.iload_n 0, 1) := by decide +kernel
theorem dX7_areMasks_1 : decode cX7_areMasks 1 = .ok (.iconst 0, 1) := by decide +kernel
theorem dX7_areMasks_2 : decode cX7_areMasks 2 = .ok (.bipush 63, 2) := by decide +kernel
theorem dX7_areMasks_4 : decode cX7_areMasks 4 = .ok (.invokestatic 42, 3) := by decide +kernel
theorem dX7_areMasks_7 : decode cX7_areMasks 7 = .ok (.ifCond .eq 29, 3) := by decide +kernel
theorem dX7_areMasks_10 : decode cX7_areMasks 10 = .ok (.iload_n 1, 1) := by decide +kernel
theorem dX7_areMasks_11 : decode cX7_areMasks 11 = .ok (.iconst 0, 1) := by decide +kernel
theorem dX7_areMasks_12 : decode cX7_areMasks 12 = .ok (.bipush 63, 2) := by decide +kernel
theorem dX7_areMasks_14 : decode cX7_areMasks 14 = .ok (.invokestatic 42, 3) := by decide +kernel
theorem dX7_areMasks_17 : decode cX7_areMasks 17 = .ok (.ifCond .eq 19, 3) := by decide +kernel
theorem dX7_areMasks_20 : decode cX7_areMasks 20 = .ok (.iload_n 0, 1) := by decide +kernel
theorem dX7_areMasks_21 : decode cX7_areMasks 21 = .ok (.iload_n 1, 1) := by decide +kernel
theorem dX7_areMasks_22 : decode cX7_areMasks 22 = .ok (.iand, 1) := by decide +kernel
theorem dX7_areMasks_23 : decode cX7_areMasks 23 = .ok (.ifCond .ne 13, 3) := by decide +kernel
theorem dX7_areMasks_26 : decode cX7_areMasks 26 = .ok (.iload_n 0, 1) := by decide +kernel
theorem dX7_areMasks_27 : decode cX7_areMasks 27 = .ok (.iload_n 1, 1) := by decide +kernel
theorem dX7_areMasks_28 : decode cX7_areMasks 28 = .ok (.ior, 1) := by decide +kernel
theorem dX7_areMasks_29 : decode cX7_areMasks 29 = .ok (.ifCond .eq 7, 3) := by decide +kernel
theorem dX7_areMasks_32 : decode cX7_areMasks 32 = .ok (.iconst 1, 1) := by decide +kernel
theorem dX7_areMasks_33 : decode cX7_areMasks 33 = .ok (.goto 4, 3) := by decide +kernel
theorem dX7_areMasks_36 : decode cX7_areMasks 36 = .ok (.iconst 0, 1) := by decide +kernel
theorem dX7_areMasks_37 : decode cX7_areMasks 37 = .ok (.ireturn, 1) := by decide +kernel
theorem dX7_makes_0 : decode cX7_makes 0 = .ok (.aload_n 0, 1) := by decide +kernel
theorem dX7_makes_1 : decode cX7_makes 1 = .ok (.getfield 7, 3) := by decide +kernel
theorem dX7_makes_4 : decode cX7_makes 4 = .ok (.iconst 0, 1) := by decide +kernel
theorem dX7_makes_5 : decode cX7_makes 5 = .ok (.iaload, 1) := by decide +kernel
theorem dX7_makes_6 : decode cX7_makes 6 = .ok (.invokestatic 52, 3) := by decide +kernel
theorem dX7_makes_9 : decode cX7_makes 9 = .ok (.istore 4, 2) := by decide +kernel
theorem dX7_makes_11 : decode cX7_makes 11 = .ok (.aload_n 0, 1) := by decide +kernel
theorem dX7_makes_12 : decode cX7_makes 12 = .ok (.getfield 7, 3) := by decide +kernel
theorem dX7_makes_15 : decode cX7_makes 15 = .ok (.iload 4, 2) := by decide +kernel
theorem dX7_makes_17 : decode cX7_makes 17 = .ok (.iload_n 2, 1) := by decide +kernel
theorem dX7_makes_18 : decode cX7_makes 18 = .ok (.iastore, 1) := by decide +kernel
theorem dX7_makes_19 : decode cX7_makes 19 = .ok (.aload_n 0, 1) := by decide +kernel
theorem dX7_makes_20 : decode cX7_makes 20 = .ok (.getfield 7, 3) := by decide +kernel
theorem dX7_makes_23 : decode cX7_makes 23 = .ok (.iload 4, 2) := by decide +kernel
theorem dX7_makes_25 : decode cX7_makes 25 = .ok (.iconst 1, 1) := by decide +kernel
theorem dX7_makes_26 : decode cX7_makes 26 = .ok (.iadd, 1) := by decide +kernel
theorem dX7_makes_27 : decode cX7_makes 27 = .ok (.iload_n 3, 1) := by decide +kernel
theorem dX7_makes_28 : decode cX7_makes 28 = .ok (.iastore, 1) := by decide +kernel
theorem dX7_makes_29 : decode cX7_makes 29 = .ok (.aload_n 0, 1) := by decide +kernel
theorem dX7_makes_30 : decode cX7_makes 30 = .ok (.getfield 7, 3) := by decide +kernel
theorem dX7_makes_33 : decode cX7_makes 33 = .ok (.iload 4, 2) := by decide +kernel
theorem dX7_makes_35 : decode cX7_makes 35 = .ok (.iconst 2, 1) := by decide +kernel
theorem dX7_makes_36 : decode cX7_makes 36 = .ok (.iadd, 1) := by decide +kernel
theorem dX7_makes_37 : decode cX7_makes 37 = .ok (.iload_n 1, 1) := by decide +kernel
theorem dX7_makes_38 : decode cX7_makes 38 = .ok (.iastore, 1) := by decide +kernel
theorem dX7_makes_39 : decode cX7_makes 39 = .ok (.aload_n 0, 1) := by decide +kernel
theorem dX7_makes_40 : decode cX7_makes 40 = .ok (.getfield 7, 3) := by decide +kernel
theorem dX7_makes_43 : decode cX7_makes 43 = .ok (.iload 4, 2) := by decide +kernel
theorem dX7_makes_45 : decode cX7_makes 45 = .ok (.iconst 3, 1) := by decide +kernel
theorem dX7_makes_46 : decode cX7_makes 46 = .ok (.iadd, 1) := by decide +kernel
theorem dX7_makes_47 : decode cX7_makes 47 = .ok (.iconst 0, 1) := by decide +kernel
theorem dX7_makes_48 : decode cX7_makes 48 = .ok (.iastore, 1) := by decide +kernel
theorem dX7_makes_49 : decode cX7_makes 49 = .ok (.aload_n 0, 1) := by decide +kernel
theorem dX7_makes_50 : decode cX7_makes 50 = .ok (.getfield 7, 3) := by decide +kernel
theorem dX7_makes_53 : decode cX7_makes 53 = .ok (.iload 4, 2) := by decide +kernel
theorem dX7_makes_55 : decode cX7_makes 55 = .ok (.iconst 4, 1) := by decide +kernel
theorem dX7_makes_56 : decode cX7_makes 56 = .ok (.iadd, 1) := by decide +kernel
theorem dX7_makes_57 : decode cX7_makes 57 = .ok (.iconst 0, 1) := by decide +kernel
theorem dX7_makes_58 : decode cX7_makes 58 = .ok (.iastore, 1) := by decide +kernel
theorem dX7_makes_59 : decode cX7_makes 59 = .ok (.aload_n 0, 1) := by decide +kernel
theorem dX7_makes_60 : decode cX7_makes 60 = .ok (.getfield 7, 3) := by decide +kernel
theorem dX7_makes_63 : decode cX7_makes 63 = .ok (.iload 4, 2) := by decide +kernel
theorem dX7_makes_65 : decode cX7_makes 65 = .ok (.iconst 5, 1) := by decide +kernel
theorem dX7_makes_66 : decode cX7_makes 66 = .ok (.iadd, 1) := by decide +kernel
theorem dX7_makes_67 : decode cX7_makes 67 = .ok (.iconst 0, 1) := by decide +kernel
theorem dX7_makes_68 : decode cX7_makes 68 = .ok (.iastore, 1) := by decide +kernel
theorem dX7_makes_69 : decode cX7_makes 69 = .ok (.aload_n 0, 1) := by decide +kernel
theorem dX7_makes_70 : decode cX7_makes 70 = .ok (.getfield 7, 3) := by decide +kernel
theorem dX7_makes_73 : decode cX7_makes 73 = .ok (.iconst 0, 1) := by decide +kernel
theorem dX7_makes_74 : decode cX7_makes 74 = .ok (.dup2, 1) := by decide +kernel
theorem dX7_makes_75 : decode cX7_makes 75 = .ok (.iaload, 1) := by decide +kernel
theorem dX7_makes_76 : decode cX7_makes 76 = .ok (.iconst 1, 1) := by decide +kernel
theorem dX7_makes_77 : decode cX7_makes 77 = .ok (.iadd, 1) := by decide +kernel
theorem dX7_makes_78 : decode cX7_makes 78 = .ok (.iastore, 1) := by decide +kernel
theorem dX7_makes_79 : decode cX7_makes 79 = .ok (.aload_n 0, 1) := by decide +kernel
theorem dX7_makes_80 : decode cX7_makes 80 = .ok (.getfield 7, 3) := by decide +kernel
theorem dX7_makes_83 : decode cX7_makes 83 = .ok (.iconst 0, 1) := by decide +kernel
theorem dX7_makes_84 : decode cX7_makes 84 = .ok (.iaload, 1) := by decide +kernel
theorem dX7_makes_85 : decode cX7_makes 85 = .ok (.iconst 1, 1) := by decide +kernel
theorem dX7_makes_86 : decode cX7_makes 86 = .ok (.isub, 1) := by decide +kernel
theorem dX7_makes_87 : decode cX7_makes 87 = .ok (.ireturn, 1) := by decide +kernel
theorem dX7_make_0 : decode cX7_make 0 = .ok (.aload_n 0, 1) := by decide +kernel
theorem dX7_make_1 : decode cX7_make 1 = .ok (.iload_n 1, 1) := by decide +kernel
theorem dX7_make_2 : decode cX7_make 2 = .ok (.iconst 1, 1) := by decide +kernel
theorem dX7_make_3 : decode cX7_make 3 = .ok (.bipush 9, 2) := by decide +kernel
theorem dX7_make_5 : decode cX7_make 5 = .ok (.invokestatic 42, 3) := by decide +kernel
theorem dX7_make_8 : decode cX7_make 8 = .ok (.ifCond .eq 15, 3) := by decide +kernel
theorem dX7_make_11 : decode cX7_make 11 = .ok (.iload_n 2, 1) := by decide +kernel
theorem dX7_make_12 : decode cX7_make 12 = .ok (.iload_n 3, 1) := by decide +kernel
theorem dX7_make_13 : decode cX7_make 13 = .ok (.invokestatic 66, 3) := by decide +kernel
theorem dX7_make_16 : decode cX7_make 16 = .ok (.ifCond .eq 7, 3) := by decide +kernel
theorem dX7_make_19 : decode cX7_make 19 = .ok (.iconst 1, 1) := by decide +kernel
theorem dX7_make_20 : decode cX7_make 20 = .ok (.goto 4, 3) := by decide +kernel
theorem dX7_make_23 : decode cX7_make 23 = .ok (.iconst 0, 1) := by decide +kernel
theorem dX7_make_24 : decode cX7_make 24 = .ok (.aload_n 0, 1) := by decide +kernel
theorem dX7_make_25 : decode cX7_make 25 = .ok (.getfield 7, 3) := by decide +kernel
theorem dX7_make_28 : decode cX7_make 28 = .ok (.iconst 0, 1) := by decide +kernel
theorem dX7_make_29 : decode cX7_make 29 = .ok (.iaload, 1) := by decide +kernel
theorem dX7_make_30 : decode cX7_make 30 = .ok (.bipush 10, 2) := by decide +kernel
theorem dX7_make_32 : decode cX7_make 32 = .ok (.if_icmp .ge 7, 3) := by decide +kernel
theorem dX7_make_35 : decode cX7_make 35 = .ok (.iconst 1, 1) := by decide +kernel
theorem dX7_make_36 : decode cX7_make 36 = .ok (.goto 4, 3) := by decide +kernel
theorem dX7_make_39 : decode cX7_make 39 = .ok (.iconst 0, 1) := by decide +kernel
theorem dX7_make_40 : decode cX7_make 40 = .ok (.iconst 1, 1) := by decide +kernel
theorem dX7_make_41 : decode cX7_make 41 = .ok (.invokevirtual 69, 3) := by decide +kernel
theorem dX7_make_44 : decode cX7_make 44 = .ok (.ifCond .ne 5, 3) := by decide +kernel
theorem dX7_make_47 : decode cX7_make 47 = .ok (.iconst 0, 1) := by decide +kernel
theorem dX7_make_48 : decode cX7_make 48 = .ok (.ireturn, 1) := by decide +kernel
theorem dX7_make_49 : decode cX7_make 49 = .ok (.aload_n 0, 1) := by decide +kernel
theorem dX7_make_50 : decode cX7_make 50 = .ok (.invokevirtual 73, 3) := by decide +kernel
theorem dX7_make_53 : decode cX7_make 53 = .ok (.aload_n 0, 1) := by decide +kernel
theorem dX7_make_54 : decode cX7_make 54 = .ok (.iload_n 1, 1) := by decide +kernel
theorem dX7_make_55 : decode cX7_make 55 = .ok (.iload_n 2, 1) := by decide +kernel
theorem dX7_make_56 : decode cX7_make 56 = .ok (.iload_n 3, 1) := by decide +kernel
theorem dX7_make_57 : decode cX7_make 57 = .ok (.invokevirtual 76, 3) := by decide +kernel
theorem dX7_make_60 : decode cX7_make 60 = .ok (.ireturn, 1) := by decide +kernel
theorem dX7_withdraw_0 : decode cX7_withdraw 0 = .ok (.aload_n 0, 1) := by decide +kernel
theorem dX7_withdraw_1 : decode cX7_withdraw 1 = .ok (.aload_n 0, 1) := by decide +kernel
theorem dX7_withdraw_2 : decode cX7_withdraw 2 = .ok (.iload_n 1, 1) := by decide +kernel
theorem dX7_withdraw_3 : decode cX7_withdraw 3 = .ok (.invokevirtual 80, 3) := by decide +kernel
theorem dX7_withdraw_6 : decode cX7_withdraw 6 = .ok (.iconst 1, 1) := by decide +kernel
theorem dX7_withdraw_7 : decode cX7_withdraw 7 = .ok (.iconst 1, 1) := by decide +kernel
theorem dX7_withdraw_8 : decode cX7_withdraw 8 = .ok (.invokevirtual 69, 3) := by decide +kernel
theorem dX7_withdraw_11 : decode cX7_withdraw 11 = .ok (.ifCond .ne 5, 3) := by decide +kernel
theorem dX7_withdraw_14 : decode cX7_withdraw 14 = .ok (.iconst 0, 1) := by decide +kernel
theorem dX7_withdraw_15 : decode cX7_withdraw 15 = .ok (.ireturn, 1) := by decide +kernel
theorem dX7_withdraw_16 : decode cX7_withdraw 16 = .ok (.aload_n 0, 1) := by decide +kernel
theorem dX7_withdraw_17 : decode cX7_withdraw 17 = .ok (.invokevirtual 73, 3) := by decide +kernel
theorem dX7_withdraw_20 : decode cX7_withdraw 20 = .ok (.aload_n 0, 1) := by decide +kernel
theorem dX7_withdraw_21 : decode cX7_withdraw 21 = .ok (.getfield 7, 3) := by decide +kernel
theorem dX7_withdraw_24 : decode cX7_withdraw 24 = .ok (.iconst 4, 1) := by decide +kernel
theorem dX7_withdraw_25 : decode cX7_withdraw 25 = .ok (.dup2, 1) := by decide +kernel
theorem dX7_withdraw_26 : decode cX7_withdraw 26 = .ok (.iaload, 1) := by decide +kernel
theorem dX7_withdraw_27 : decode cX7_withdraw 27 = .ok (.aload_n 0, 1) := by decide +kernel
theorem dX7_withdraw_28 : decode cX7_withdraw 28 = .ok (.getfield 7, 3) := by decide +kernel
theorem dX7_withdraw_31 : decode cX7_withdraw 31 = .ok (.iload_n 1, 1) := by decide +kernel
theorem dX7_withdraw_32 : decode cX7_withdraw 32 = .ok (.invokestatic 52, 3) := by decide +kernel
theorem dX7_withdraw_35 : decode cX7_withdraw 35 = .ok (.iconst 5, 1) := by decide +kernel
theorem dX7_withdraw_36 : decode cX7_withdraw 36 = .ok (.iadd, 1) := by decide +kernel
theorem dX7_withdraw_37 : decode cX7_withdraw 37 = .ok (.iaload, 1) := by decide +kernel
theorem dX7_withdraw_38 : decode cX7_withdraw 38 = .ok (.iadd, 1) := by decide +kernel
theorem dX7_withdraw_39 : decode cX7_withdraw 39 = .ok (.iastore, 1) := by decide +kernel
theorem dX7_withdraw_40 : decode cX7_withdraw 40 = .ok (.aload_n 0, 1) := by decide +kernel
theorem dX7_withdraw_41 : decode cX7_withdraw 41 = .ok (.getfield 7, 3) := by decide +kernel
theorem dX7_withdraw_44 : decode cX7_withdraw 44 = .ok (.iconst 0, 1) := by decide +kernel
theorem dX7_withdraw_45 : decode cX7_withdraw 45 = .ok (.dup2, 1) := by decide +kernel
theorem dX7_withdraw_46 : decode cX7_withdraw 46 = .ok (.iaload, 1) := by decide +kernel
theorem dX7_withdraw_47 : decode cX7_withdraw 47 = .ok (.iconst 1, 1) := by decide +kernel
theorem dX7_withdraw_48 : decode cX7_withdraw 48 = .ok (.isub, 1) := by decide +kernel
theorem dX7_withdraw_49 : decode cX7_withdraw 49 = .ok (.iastore, 1) := by decide +kernel
theorem dX7_withdraw_50 : decode cX7_withdraw 50 = .ok (.iload_n 1, 1) := by decide +kernel
theorem dX7_withdraw_51 : decode cX7_withdraw 51 = .ok (.invokestatic 52, 3) := by decide +kernel
theorem dX7_withdraw_54 : decode cX7_withdraw 54 = .ok (.istore_n 2, 1) := by decide +kernel
theorem dX7_withdraw_55 : decode cX7_withdraw 55 = .ok (.iload_n 2, 1) := by decide +kernel
theorem dX7_withdraw_56 : decode cX7_withdraw 56 = .ok (.aload_n 0, 1) := by decide +kernel
theorem dX7_withdraw_57 : decode cX7_withdraw 57 = .ok (.getfield 7, 3) := by decide +kernel
theorem dX7_withdraw_60 : decode cX7_withdraw 60 = .ok (.iconst 0, 1) := by decide +kernel
theorem dX7_withdraw_61 : decode cX7_withdraw 61 = .ok (.iaload, 1) := by decide +kernel
theorem dX7_withdraw_62 : decode cX7_withdraw 62 = .ok (.invokestatic 52, 3) := by decide +kernel
theorem dX7_withdraw_65 : decode cX7_withdraw 65 = .ok (.if_icmp .ge 24, 3) := by decide +kernel
theorem dX7_withdraw_68 : decode cX7_withdraw 68 = .ok (.aload_n 0, 1) := by decide +kernel
theorem dX7_withdraw_69 : decode cX7_withdraw 69 = .ok (.getfield 7, 3) := by decide +kernel
theorem dX7_withdraw_72 : decode cX7_withdraw 72 = .ok (.iload_n 2, 1) := by decide +kernel
theorem dX7_withdraw_73 : decode cX7_withdraw 73 = .ok (.aload_n 0, 1) := by decide +kernel
theorem dX7_withdraw_74 : decode cX7_withdraw 74 = .ok (.getfield 7, 3) := by decide +kernel
theorem dX7_withdraw_77 : decode cX7_withdraw 77 = .ok (.iload_n 2, 1) := by decide +kernel
theorem dX7_withdraw_78 : decode cX7_withdraw 78 = .ok (.bipush 6, 2) := by decide +kernel
theorem dX7_withdraw_80 : decode cX7_withdraw 80 = .ok (.iadd, 1) := by decide +kernel
theorem dX7_withdraw_81 : decode cX7_withdraw 81 = .ok (.iaload, 1) := by decide +kernel
theorem dX7_withdraw_82 : decode cX7_withdraw 82 = .ok (.iastore, 1) := by decide +kernel
theorem dX7_withdraw_83 : decode cX7_withdraw 83 = .ok (.iinc 2 1, 3) := by decide +kernel
theorem dX7_withdraw_86 : decode cX7_withdraw 86 = .ok (.goto (-31), 3) := by decide +kernel
theorem dX7_withdraw_89 : decode cX7_withdraw 89 = .ok (.aload_n 0, 1) := by decide +kernel
theorem dX7_withdraw_90 : decode cX7_withdraw 90 = .ok (.getfield 7, 3) := by decide +kernel
theorem dX7_withdraw_93 : decode cX7_withdraw 93 = .ok (.iconst 0, 1) := by decide +kernel
theorem dX7_withdraw_94 : decode cX7_withdraw 94 = .ok (.iaload, 1) := by decide +kernel
theorem dX7_withdraw_95 : decode cX7_withdraw 95 = .ok (.ireturn, 1) := by decide +kernel
theorem dX7_setStrict_0 : decode cX7_setStrict 0 = .ok (.aload_n 0, 1) := by decide +kernel
theorem dX7_setStrict_1 : decode cX7_setStrict 1 = .ok (.aload_n 0, 1) := by decide +kernel
theorem dX7_setStrict_2 : decode cX7_setStrict 2 = .ok (.iload_n 1, 1) := by decide +kernel
theorem dX7_setStrict_3 : decode cX7_setStrict 3 = .ok (.invokevirtual 80, 3) := by decide +kernel
theorem dX7_setStrict_6 : decode cX7_setStrict 6 = .ok (.iconst 1, 1) := by decide +kernel
theorem dX7_setStrict_7 : decode cX7_setStrict 7 = .ok (.iconst 1, 1) := by decide +kernel
theorem dX7_setStrict_8 : decode cX7_setStrict 8 = .ok (.invokevirtual 69, 3) := by decide +kernel
theorem dX7_setStrict_11 : decode cX7_setStrict 11 = .ok (.ifCond .ne 5, 3) := by decide +kernel
theorem dX7_setStrict_14 : decode cX7_setStrict 14 = .ok (.iconst 0, 1) := by decide +kernel
theorem dX7_setStrict_15 : decode cX7_setStrict 15 = .ok (.ireturn, 1) := by decide +kernel
theorem dX7_setStrict_16 : decode cX7_setStrict 16 = .ok (.aload_n 0, 1) := by decide +kernel
theorem dX7_setStrict_17 : decode cX7_setStrict 17 = .ok (.invokevirtual 73, 3) := by decide +kernel
theorem dX7_setStrict_20 : decode cX7_setStrict 20 = .ok (.aload_n 0, 1) := by decide +kernel
theorem dX7_setStrict_21 : decode cX7_setStrict 21 = .ok (.getfield 7, 3) := by decide +kernel
theorem dX7_setStrict_24 : decode cX7_setStrict 24 = .ok (.iload_n 1, 1) := by decide +kernel
theorem dX7_setStrict_25 : decode cX7_setStrict 25 = .ok (.invokestatic 52, 3) := by decide +kernel
theorem dX7_setStrict_28 : decode cX7_setStrict 28 = .ok (.iconst 3, 1) := by decide +kernel
theorem dX7_setStrict_29 : decode cX7_setStrict 29 = .ok (.iadd, 1) := by decide +kernel
theorem dX7_setStrict_30 : decode cX7_setStrict 30 = .ok (.iaload, 1) := by decide +kernel
theorem dX7_setStrict_31 : decode cX7_setStrict 31 = .ok (.iconst 1, 1) := by decide +kernel
theorem dX7_setStrict_32 : decode cX7_setStrict 32 = .ok (.if_icmp .ne 7, 3) := by decide +kernel
theorem dX7_setStrict_35 : decode cX7_setStrict 35 = .ok (.iconst 1, 1) := by decide +kernel
theorem dX7_setStrict_36 : decode cX7_setStrict 36 = .ok (.goto 4, 3) := by decide +kernel
theorem dX7_setStrict_39 : decode cX7_setStrict 39 = .ok (.iconst 0, 1) := by decide +kernel
theorem dX7_setStrict_40 : decode cX7_setStrict 40 = .ok (.istore_n 3, 1) := by decide +kernel
theorem dX7_setStrict_41 : decode cX7_setStrict 41 = .ok (.aload_n 0, 1) := by decide +kernel
theorem dX7_setStrict_42 : decode cX7_setStrict 42 = .ok (.getfield 7, 3) := by decide +kernel
theorem dX7_setStrict_45 : decode cX7_setStrict 45 = .ok (.iload_n 1, 1) := by decide +kernel
theorem dX7_setStrict_46 : decode cX7_setStrict 46 = .ok (.invokestatic 52, 3) := by decide +kernel
theorem dX7_setStrict_49 : decode cX7_setStrict 49 = .ok (.iconst 3, 1) := by decide +kernel
theorem dX7_setStrict_50 : decode cX7_setStrict 50 = .ok (.iadd, 1) := by decide +kernel
theorem dX7_setStrict_51 : decode cX7_setStrict 51 = .ok (.iload_n 2, 1) := by decide +kernel
theorem dX7_setStrict_52 : decode cX7_setStrict 52 = .ok (.ifCond .eq 7, 3) := by decide +kernel
theorem dX7_setStrict_55 : decode cX7_setStrict 55 = .ok (.iconst 1, 1) := by decide +kernel
theorem dX7_setStrict_56 : decode cX7_setStrict 56 = .ok (.goto 4, 3) := by decide +kernel
theorem dX7_setStrict_59 : decode cX7_setStrict 59 = .ok (.iconst 0, 1) := by decide +kernel
theorem dX7_setStrict_60 : decode cX7_setStrict 60 = .ok (.iastore, 1) := by decide +kernel
theorem dX7_setStrict_61 : decode cX7_setStrict 61 = .ok (.iload_n 3, 1) := by decide +kernel
theorem dX7_setStrict_62 : decode cX7_setStrict 62 = .ok (.ireturn, 1) := by decide +kernel
theorem dX7_waives_0 : decode cX7_waives 0 = .ok (.aload_n 0, 1) := by decide +kernel
theorem dX7_waives_1 : decode cX7_waives 1 = .ok (.getfield 7, 3) := by decide +kernel
theorem dX7_waives_4 : decode cX7_waives 4 = .ok (.iload_n 1, 1) := by decide +kernel
theorem dX7_waives_5 : decode cX7_waives 5 = .ok (.invokestatic 52, 3) := by decide +kernel
theorem dX7_waives_8 : decode cX7_waives 8 = .ok (.iconst 4, 1) := by decide +kernel
theorem dX7_waives_9 : decode cX7_waives 9 = .ok (.iadd, 1) := by decide +kernel
theorem dX7_waives_10 : decode cX7_waives 10 = .ok (.aload_n 0, 1) := by decide +kernel
theorem dX7_waives_11 : decode cX7_waives 11 = .ok (.getfield 7, 3) := by decide +kernel
theorem dX7_waives_14 : decode cX7_waives 14 = .ok (.iconst 2, 1) := by decide +kernel
theorem dX7_waives_15 : decode cX7_waives 15 = .ok (.iaload, 1) := by decide +kernel
theorem dX7_waives_16 : decode cX7_waives 16 = .ok (.iload_n 2, 1) := by decide +kernel
theorem dX7_waives_17 : decode cX7_waives 17 = .ok (.iadd, 1) := by decide +kernel
theorem dX7_waives_18 : decode cX7_waives 18 = .ok (.iastore, 1) := by decide +kernel
theorem dX7_waives_19 : decode cX7_waives 19 = .ok (.aload_n 0, 1) := by decide +kernel
theorem dX7_waives_20 : decode cX7_waives 20 = .ok (.getfield 7, 3) := by decide +kernel
theorem dX7_waives_23 : decode cX7_waives 23 = .ok (.iload_n 1, 1) := by decide +kernel
theorem dX7_waives_24 : decode cX7_waives 24 = .ok (.invokestatic 52, 3) := by decide +kernel
theorem dX7_waives_27 : decode cX7_waives 27 = .ok (.iconst 4, 1) := by decide +kernel
theorem dX7_waives_28 : decode cX7_waives 28 = .ok (.iadd, 1) := by decide +kernel
theorem dX7_waives_29 : decode cX7_waives 29 = .ok (.iaload, 1) := by decide +kernel
theorem dX7_waives_30 : decode cX7_waives 30 = .ok (.ireturn, 1) := by decide +kernel
theorem dX7_waive_0 : decode cX7_waive 0 = .ok (.aload_n 0, 1) := by decide +kernel
theorem dX7_waive_1 : decode cX7_waive 1 = .ok (.aload_n 0, 1) := by decide +kernel
theorem dX7_waive_2 : decode cX7_waive 2 = .ok (.iload_n 1, 1) := by decide +kernel
theorem dX7_waive_3 : decode cX7_waive 3 = .ok (.invokevirtual 80, 3) := by decide +kernel
theorem dX7_waive_6 : decode cX7_waive 6 = .ok (.iload_n 2, 1) := by decide +kernel
theorem dX7_waive_7 : decode cX7_waive 7 = .ok (.iconst 0, 1) := by decide +kernel
theorem dX7_waive_8 : decode cX7_waive 8 = .ok (.bipush 30, 2) := by decide +kernel
theorem dX7_waive_10 : decode cX7_waive 10 = .ok (.invokestatic 42, 3) := by decide +kernel
theorem dX7_waive_13 : decode cX7_waive 13 = .ok (.iconst 1, 1) := by decide +kernel
theorem dX7_waive_14 : decode cX7_waive 14 = .ok (.invokevirtual 69, 3) := by decide +kernel
theorem dX7_waive_17 : decode cX7_waive 17 = .ok (.ifCond .ne 5, 3) := by decide +kernel
theorem dX7_waive_20 : decode cX7_waive 20 = .ok (.iconst 0, 1) := by decide +kernel
theorem dX7_waive_21 : decode cX7_waive 21 = .ok (.ireturn, 1) := by decide +kernel
theorem dX7_waive_22 : decode cX7_waive 22 = .ok (.aload_n 0, 1) := by decide +kernel
theorem dX7_waive_23 : decode cX7_waive 23 = .ok (.invokevirtual 73, 3) := by decide +kernel
theorem dX7_waive_26 : decode cX7_waive 26 = .ok (.aload_n 0, 1) := by decide +kernel
theorem dX7_waive_27 : decode cX7_waive 27 = .ok (.iload_n 1, 1) := by decide +kernel
theorem dX7_waive_28 : decode cX7_waive 28 = .ok (.iload_n 2, 1) := by decide +kernel
theorem dX7_waive_29 : decode cX7_waive 29 = .ok (.invokevirtual 84, 3) := by decide +kernel
theorem dX7_waive_32 : decode cX7_waive 32 = .ok (.ireturn, 1) := by decide +kernel
theorem dX7_isRoom_0 : decode cX7_isRoom 0 = .ok (.iload_n 0, 1) := by decide +kernel
theorem dX7_isRoom_1 : decode cX7_isRoom 1 = .ok (.iconst 0, 1) := by decide +kernel
theorem dX7_isRoom_2 : decode cX7_isRoom 2 = .ok (.iconst 5, 1) := by decide +kernel
theorem dX7_isRoom_3 : decode cX7_isRoom 3 = .ok (.invokestatic 42, 3) := by decide +kernel
theorem dX7_isRoom_6 : decode cX7_isRoom 6 = .ok (.ireturn, 1) := by decide +kernel
theorem dX7_isLet_0 : decode cX7_isLet 0 = .ok (.aload_n 0, 1) := by decide +kernel
theorem dX7_isLet_1 : decode cX7_isLet 1 = .ok (.getfield 7, 3) := by decide +kernel
theorem dX7_isLet_4 : decode cX7_isLet 4 = .ok (.iconst 1, 1) := by decide +kernel
theorem dX7_isLet_5 : decode cX7_isLet 5 = .ok (.iaload, 1) := by decide +kernel
theorem dX7_isLet_6 : decode cX7_isLet 6 = .ok (.iload_n 1, 1) := by decide +kernel
theorem dX7_isLet_7 : decode cX7_isLet 7 = .ok (.invokestatic 46, 3) := by decide +kernel
theorem dX7_isLet_10 : decode cX7_isLet 10 = .ok (.ireturn, 1) := by decide +kernel
theorem dX7_refuser_0 : decode cX7_refuser 0 = .ok (.iconst (-1), 1) := by decide +kernel
theorem dX7_refuser_1 : decode cX7_refuser 1 = .ok (.istore_n 2, 1) := by decide +kernel
theorem dX7_refuser_2 : decode cX7_refuser 2 = .ok (.aload_n 0, 1) := by decide +kernel
theorem dX7_refuser_3 : decode cX7_refuser 3 = .ok (.getfield 7, 3) := by decide +kernel
theorem dX7_refuser_6 : decode cX7_refuser 6 = .ok (.iconst 0, 1) := by decide +kernel
theorem dX7_refuser_7 : decode cX7_refuser 7 = .ok (.iaload, 1) := by decide +kernel
theorem dX7_refuser_8 : decode cX7_refuser 8 = .ok (.iconst 1, 1) := by decide +kernel
theorem dX7_refuser_9 : decode cX7_refuser 9 = .ok (.isub, 1) := by decide +kernel
theorem dX7_refuser_10 : decode cX7_refuser 10 = .ok (.istore_n 3, 1) := by decide +kernel
theorem dX7_refuser_11 : decode cX7_refuser 11 = .ok (.iload_n 3, 1) := by decide +kernel
theorem dX7_refuser_12 : decode cX7_refuser 12 = .ok (.ifCond .lt 88, 3) := by decide +kernel
theorem dX7_refuser_15 : decode cX7_refuser 15 = .ok (.aload_n 0, 1) := by decide +kernel
theorem dX7_refuser_16 : decode cX7_refuser 16 = .ok (.getfield 7, 3) := by decide +kernel
theorem dX7_refuser_19 : decode cX7_refuser 19 = .ok (.iload_n 3, 1) := by decide +kernel
theorem dX7_refuser_20 : decode cX7_refuser 20 = .ok (.invokestatic 52, 3) := by decide +kernel
theorem dX7_refuser_23 : decode cX7_refuser 23 = .ok (.iconst 3, 1) := by decide +kernel
theorem dX7_refuser_24 : decode cX7_refuser 24 = .ok (.iadd, 1) := by decide +kernel
theorem dX7_refuser_25 : decode cX7_refuser 25 = .ok (.iaload, 1) := by decide +kernel
theorem dX7_refuser_26 : decode cX7_refuser 26 = .ok (.iconst 1, 1) := by decide +kernel
theorem dX7_refuser_27 : decode cX7_refuser 27 = .ok (.if_icmp .ne 53, 3) := by decide +kernel
theorem dX7_refuser_30 : decode cX7_refuser 30 = .ok (.aload_n 0, 1) := by decide +kernel
theorem dX7_refuser_31 : decode cX7_refuser 31 = .ok (.iload_n 3, 1) := by decide +kernel
theorem dX7_refuser_32 : decode cX7_refuser 32 = .ok (.aload_n 0, 1) := by decide +kernel
theorem dX7_refuser_33 : decode cX7_refuser 33 = .ok (.getfield 7, 3) := by decide +kernel
theorem dX7_refuser_36 : decode cX7_refuser 36 = .ok (.iconst 2, 1) := by decide +kernel
theorem dX7_refuser_37 : decode cX7_refuser 37 = .ok (.iaload, 1) := by decide +kernel
theorem dX7_refuser_38 : decode cX7_refuser 38 = .ok (.invokevirtual 60, 3) := by decide +kernel
theorem dX7_refuser_41 : decode cX7_refuser 41 = .ok (.ifCond .eq 39, 3) := by decide +kernel
theorem dX7_refuser_44 : decode cX7_refuser 44 = .ok (.aload_n 0, 1) := by decide +kernel
theorem dX7_refuser_45 : decode cX7_refuser 45 = .ok (.iload_n 3, 1) := by decide +kernel
theorem dX7_refuser_46 : decode cX7_refuser 46 = .ok (.aload_n 0, 1) := by decide +kernel
theorem dX7_refuser_47 : decode cX7_refuser 47 = .ok (.getfield 7, 3) := by decide +kernel
theorem dX7_refuser_50 : decode cX7_refuser 50 = .ok (.iconst 1, 1) := by decide +kernel
theorem dX7_refuser_51 : decode cX7_refuser 51 = .ok (.iaload, 1) := by decide +kernel
theorem dX7_refuser_52 : decode cX7_refuser 52 = .ok (.invokevirtual 63, 3) := by decide +kernel
theorem dX7_refuser_55 : decode cX7_refuser 55 = .ok (.ifCond .eq 25, 3) := by decide +kernel
theorem dX7_refuser_58 : decode cX7_refuser 58 = .ok (.aload_n 0, 1) := by decide +kernel
theorem dX7_refuser_59 : decode cX7_refuser 59 = .ok (.iload_n 3, 1) := by decide +kernel
theorem dX7_refuser_60 : decode cX7_refuser 60 = .ok (.aload_n 0, 1) := by decide +kernel
theorem dX7_refuser_61 : decode cX7_refuser 61 = .ok (.getfield 7, 3) := by decide +kernel
theorem dX7_refuser_64 : decode cX7_refuser 64 = .ok (.iconst 1, 1) := by decide +kernel
theorem dX7_refuser_65 : decode cX7_refuser 65 = .ok (.iaload, 1) := by decide +kernel
theorem dX7_refuser_66 : decode cX7_refuser 66 = .ok (.iconst 1, 1) := by decide +kernel
theorem dX7_refuser_67 : decode cX7_refuser 67 = .ok (.iload_n 1, 1) := by decide +kernel
theorem dX7_refuser_68 : decode cX7_refuser 68 = .ok (.ishl, 1) := by decide +kernel
theorem dX7_refuser_69 : decode cX7_refuser 69 = .ok (.ixor, 1) := by decide +kernel
theorem dX7_refuser_70 : decode cX7_refuser 70 = .ok (.invokevirtual 63, 3) := by decide +kernel
theorem dX7_refuser_73 : decode cX7_refuser 73 = .ok (.ifCond .ne 7, 3) := by decide +kernel
theorem dX7_refuser_76 : decode cX7_refuser 76 = .ok (.iconst 1, 1) := by decide +kernel
theorem dX7_refuser_77 : decode cX7_refuser 77 = .ok (.goto 4, 3) := by decide +kernel
theorem dX7_refuser_80 : decode cX7_refuser 80 = .ok (.iconst 0, 1) := by decide +kernel
theorem dX7_refuser_81 : decode cX7_refuser 81 = .ok (.istore 4, 2) := by decide +kernel
theorem dX7_refuser_83 : decode cX7_refuser 83 = .ok (.iload 4, 2) := by decide +kernel
theorem dX7_refuser_85 : decode cX7_refuser 85 = .ok (.ifCond .eq 7, 3) := by decide +kernel
theorem dX7_refuser_88 : decode cX7_refuser 88 = .ok (.iload_n 3, 1) := by decide +kernel
theorem dX7_refuser_89 : decode cX7_refuser 89 = .ok (.goto 4, 3) := by decide +kernel
theorem dX7_refuser_92 : decode cX7_refuser 92 = .ok (.iload_n 2, 1) := by decide +kernel
theorem dX7_refuser_93 : decode cX7_refuser 93 = .ok (.istore_n 2, 1) := by decide +kernel
theorem dX7_refuser_94 : decode cX7_refuser 94 = .ok (.iinc 3 (-1), 3) := by decide +kernel
theorem dX7_refuser_97 : decode cX7_refuser 97 = .ok (.goto (-86), 3) := by decide +kernel
theorem dX7_refuser_100 : decode cX7_refuser 100 = .ok (.iload_n 2, 1) := by decide +kernel
theorem dX7_refuser_101 : decode cX7_refuser 101 = .ok (.ireturn, 1) := by decide +kernel
theorem dX7_turns_0 : decode cX7_turns 0 = .ok (.aload_n 0, 1) := by decide +kernel
theorem dX7_turns_1 : decode cX7_turns 1 = .ok (.getfield 7, 3) := by decide +kernel
theorem dX7_turns_4 : decode cX7_turns 4 = .ok (.iconst 1, 1) := by decide +kernel
theorem dX7_turns_5 : decode cX7_turns 5 = .ok (.aload_n 0, 1) := by decide +kernel
theorem dX7_turns_6 : decode cX7_turns 6 = .ok (.getfield 7, 3) := by decide +kernel
theorem dX7_turns_9 : decode cX7_turns 9 = .ok (.iconst 1, 1) := by decide +kernel
theorem dX7_turns_10 : decode cX7_turns 10 = .ok (.iaload, 1) := by decide +kernel
theorem dX7_turns_11 : decode cX7_turns 11 = .ok (.iconst 1, 1) := by decide +kernel
theorem dX7_turns_12 : decode cX7_turns 12 = .ok (.iload_n 1, 1) := by decide +kernel
theorem dX7_turns_13 : decode cX7_turns 13 = .ok (.ishl, 1) := by decide +kernel
theorem dX7_turns_14 : decode cX7_turns 14 = .ok (.ixor, 1) := by decide +kernel
theorem dX7_turns_15 : decode cX7_turns 15 = .ok (.iastore, 1) := by decide +kernel
theorem dX7_turns_16 : decode cX7_turns 16 = .ok (.aload_n 0, 1) := by decide +kernel
theorem dX7_turns_17 : decode cX7_turns 17 = .ok (.getfield 7, 3) := by decide +kernel
theorem dX7_turns_20 : decode cX7_turns 20 = .ok (.iconst 1, 1) := by decide +kernel
theorem dX7_turns_21 : decode cX7_turns 21 = .ok (.iaload, 1) := by decide +kernel
theorem dX7_turns_22 : decode cX7_turns 22 = .ok (.ireturn, 1) := by decide +kernel
theorem dX7_turnsIf_0 : decode cX7_turnsIf 0 = .ok (.iload_n 1, 1) := by decide +kernel
theorem dX7_turnsIf_1 : decode cX7_turnsIf 1 = .ok (.invokestatic 88, 3) := by decide +kernel
theorem dX7_turnsIf_4 : decode cX7_turnsIf 4 = .ok (.istore_n 3, 1) := by decide +kernel
theorem dX7_turnsIf_5 : decode cX7_turnsIf 5 = .ok (.aload_n 0, 1) := by decide +kernel
theorem dX7_turnsIf_6 : decode cX7_turnsIf 6 = .ok (.iload_n 3, 1) := by decide +kernel
theorem dX7_turnsIf_7 : decode cX7_turnsIf 7 = .ok (.iload_n 3, 1) := by decide +kernel
theorem dX7_turnsIf_8 : decode cX7_turnsIf 8 = .ok (.ifCond .eq 24, 3) := by decide +kernel
theorem dX7_turnsIf_11 : decode cX7_turnsIf 11 = .ok (.aload_n 0, 1) := by decide +kernel
theorem dX7_turnsIf_12 : decode cX7_turnsIf 12 = .ok (.iload_n 1, 1) := by decide +kernel
theorem dX7_turnsIf_13 : decode cX7_turnsIf 13 = .ok (.invokevirtual 91, 3) := by decide +kernel
theorem dX7_turnsIf_16 : decode cX7_turnsIf 16 = .ok (.iload_n 2, 1) := by decide +kernel
theorem dX7_turnsIf_17 : decode cX7_turnsIf 17 = .ok (.if_icmp .ne 15, 3) := by decide +kernel
theorem dX7_turnsIf_20 : decode cX7_turnsIf 20 = .ok (.aload_n 0, 1) := by decide +kernel
theorem dX7_turnsIf_21 : decode cX7_turnsIf 21 = .ok (.iload_n 1, 1) := by decide +kernel
theorem dX7_turnsIf_22 : decode cX7_turnsIf 22 = .ok (.invokevirtual 94, 3) := by decide +kernel
theorem dX7_turnsIf_25 : decode cX7_turnsIf 25 = .ok (.ifCond .ge 7, 3) := by decide +kernel
theorem dX7_turnsIf_28 : decode cX7_turnsIf 28 = .ok (.iconst 1, 1) := by decide +kernel
theorem dX7_turnsIf_29 : decode cX7_turnsIf 29 = .ok (.goto 4, 3) := by decide +kernel
theorem dX7_turnsIf_32 : decode cX7_turnsIf 32 = .ok (.iconst 0, 1) := by decide +kernel
theorem dX7_turnsIf_33 : decode cX7_turnsIf 33 = .ok (.iconst 1, 1) := by decide +kernel
theorem dX7_turnsIf_34 : decode cX7_turnsIf 34 = .ok (.invokevirtual 69, 3) := by decide +kernel
theorem dX7_turnsIf_37 : decode cX7_turnsIf 37 = .ok (.ifCond .ne 5, 3) := by decide +kernel
theorem dX7_turnsIf_40 : decode cX7_turnsIf 40 = .ok (.iconst 0, 1) := by decide +kernel
theorem dX7_turnsIf_41 : decode cX7_turnsIf 41 = .ok (.ireturn, 1) := by decide +kernel
theorem dX7_turnsIf_42 : decode cX7_turnsIf 42 = .ok (.aload_n 0, 1) := by decide +kernel
theorem dX7_turnsIf_43 : decode cX7_turnsIf 43 = .ok (.invokevirtual 73, 3) := by decide +kernel
theorem dX7_turnsIf_46 : decode cX7_turnsIf 46 = .ok (.aload_n 0, 1) := by decide +kernel
theorem dX7_turnsIf_47 : decode cX7_turnsIf 47 = .ok (.iload_n 1, 1) := by decide +kernel
theorem dX7_turnsIf_48 : decode cX7_turnsIf 48 = .ok (.invokevirtual 97, 3) := by decide +kernel
theorem dX7_turnsIf_51 : decode cX7_turnsIf 51 = .ok (.ireturn, 1) := by decide +kernel
theorem dX7_come_0 : decode cX7_come 0 = .ok (.aload_n 0, 1) := by decide +kernel
theorem dX7_come_1 : decode cX7_come 1 = .ok (.iload_n 1, 1) := by decide +kernel
theorem dX7_come_2 : decode cX7_come 2 = .ok (.iconst 0, 1) := by decide +kernel
theorem dX7_come_3 : decode cX7_come 3 = .ok (.invokevirtual 100, 3) := by decide +kernel
theorem dX7_come_6 : decode cX7_come 6 = .ok (.ireturn, 1) := by decide +kernel
theorem dX7_go_0 : decode cX7_go 0 = .ok (.aload_n 0, 1) := by decide +kernel
theorem dX7_go_1 : decode cX7_go 1 = .ok (.iload_n 1, 1) := by decide +kernel
theorem dX7_go_2 : decode cX7_go 2 = .ok (.iconst 1, 1) := by decide +kernel
theorem dX7_go_3 : decode cX7_go 3 = .ok (.invokevirtual 100, 3) := by decide +kernel
theorem dX7_go_6 : decode cX7_go 6 = .ok (.ireturn, 1) := by decide +kernel
theorem dX7_nights_0 : decode cX7_nights 0 = .ok (.iconst 0, 1) := by decide +kernel
theorem dX7_nights_1 : decode cX7_nights 1 = .ok (.istore_n 2, 1) := by decide +kernel
theorem dX7_nights_2 : decode cX7_nights 2 = .ok (.iconst 0, 1) := by decide +kernel
theorem dX7_nights_3 : decode cX7_nights 3 = .ok (.istore_n 3, 1) := by decide +kernel
theorem dX7_nights_4 : decode cX7_nights 4 = .ok (.iload_n 3, 1) := by decide +kernel
theorem dX7_nights_5 : decode cX7_nights 5 = .ok (.iload_n 1, 1) := by decide +kernel
theorem dX7_nights_6 : decode cX7_nights 6 = .ok (.if_icmp .ge 101, 3) := by decide +kernel
theorem dX7_nights_9 : decode cX7_nights 9 = .ok (.aload_n 0, 1) := by decide +kernel
theorem dX7_nights_10 : decode cX7_nights 10 = .ok (.aload_n 0, 1) := by decide +kernel
theorem dX7_nights_11 : decode cX7_nights 11 = .ok (.getfield 7, 3) := by decide +kernel
theorem dX7_nights_14 : decode cX7_nights 14 = .ok (.iconst 1, 1) := by decide +kernel
theorem dX7_nights_15 : decode cX7_nights 15 = .ok (.iaload, 1) := by decide +kernel
theorem dX7_nights_16 : decode cX7_nights 16 = .ok (.invokevirtual 104, 3) := by decide +kernel
theorem dX7_nights_19 : decode cX7_nights 19 = .ok (.istore 4, 2) := by decide +kernel
theorem dX7_nights_21 : decode cX7_nights 21 = .ok (.iconst 0, 1) := by decide +kernel
theorem dX7_nights_22 : decode cX7_nights 22 = .ok (.istore 5, 2) := by decide +kernel
theorem dX7_nights_24 : decode cX7_nights 24 = .ok (.iload 5, 2) := by decide +kernel
theorem dX7_nights_26 : decode cX7_nights 26 = .ok (.aload_n 0, 1) := by decide +kernel
theorem dX7_nights_27 : decode cX7_nights 27 = .ok (.getfield 7, 3) := by decide +kernel
theorem dX7_nights_30 : decode cX7_nights 30 = .ok (.iconst 0, 1) := by decide +kernel
theorem dX7_nights_31 : decode cX7_nights 31 = .ok (.iaload, 1) := by decide +kernel
theorem dX7_nights_32 : decode cX7_nights 32 = .ok (.if_icmp .ge 50, 3) := by decide +kernel
theorem dX7_nights_35 : decode cX7_nights 35 = .ok (.aload_n 0, 1) := by decide +kernel
theorem dX7_nights_36 : decode cX7_nights 36 = .ok (.getfield 7, 3) := by decide +kernel
theorem dX7_nights_39 : decode cX7_nights 39 = .ok (.iload 5, 2) := by decide +kernel
theorem dX7_nights_41 : decode cX7_nights 41 = .ok (.invokestatic 52, 3) := by decide +kernel
theorem dX7_nights_44 : decode cX7_nights 44 = .ok (.iconst 5, 1) := by decide +kernel
theorem dX7_nights_45 : decode cX7_nights 45 = .ok (.iadd, 1) := by decide +kernel
theorem dX7_nights_46 : decode cX7_nights 46 = .ok (.dup2, 1) := by decide +kernel
theorem dX7_nights_47 : decode cX7_nights 47 = .ok (.iaload, 1) := by decide +kernel
theorem dX7_nights_48 : decode cX7_nights 48 = .ok (.iload 4, 2) := by decide +kernel
theorem dX7_nights_50 : decode cX7_nights 50 = .ok (.iload 5, 2) := by decide +kernel
theorem dX7_nights_52 : decode cX7_nights 52 = .ok (.invokestatic 46, 3) := by decide +kernel
theorem dX7_nights_55 : decode cX7_nights 55 = .ok (.ifCond .eq 18, 3) := by decide +kernel
theorem dX7_nights_58 : decode cX7_nights 58 = .ok (.aload_n 0, 1) := by decide +kernel
theorem dX7_nights_59 : decode cX7_nights 59 = .ok (.getfield 7, 3) := by decide +kernel
theorem dX7_nights_62 : decode cX7_nights 62 = .ok (.iload 5, 2) := by decide +kernel
theorem dX7_nights_64 : decode cX7_nights 64 = .ok (.invokestatic 52, 3) := by decide +kernel
theorem dX7_nights_67 : decode cX7_nights 67 = .ok (.iconst 2, 1) := by decide +kernel
theorem dX7_nights_68 : decode cX7_nights 68 = .ok (.iadd, 1) := by decide +kernel
theorem dX7_nights_69 : decode cX7_nights 69 = .ok (.iaload, 1) := by decide +kernel
theorem dX7_nights_70 : decode cX7_nights 70 = .ok (.goto 4, 3) := by decide +kernel
theorem dX7_nights_73 : decode cX7_nights 73 = .ok (.iconst 0, 1) := by decide +kernel
theorem dX7_nights_74 : decode cX7_nights 74 = .ok (.iadd, 1) := by decide +kernel
theorem dX7_nights_75 : decode cX7_nights 75 = .ok (.iastore, 1) := by decide +kernel
theorem dX7_nights_76 : decode cX7_nights 76 = .ok (.iinc 5 1, 3) := by decide +kernel
theorem dX7_nights_79 : decode cX7_nights 79 = .ok (.goto (-55), 3) := by decide +kernel
theorem dX7_nights_82 : decode cX7_nights 82 = .ok (.iload_n 2, 1) := by decide +kernel
theorem dX7_nights_83 : decode cX7_nights 83 = .ok (.aload_n 0, 1) := by decide +kernel
theorem dX7_nights_84 : decode cX7_nights 84 = .ok (.iload 4, 2) := by decide +kernel
theorem dX7_nights_86 : decode cX7_nights 86 = .ok (.invokevirtual 107, 3) := by decide +kernel
theorem dX7_nights_89 : decode cX7_nights 89 = .ok (.iadd, 1) := by decide +kernel
theorem dX7_nights_90 : decode cX7_nights 90 = .ok (.istore_n 2, 1) := by decide +kernel
theorem dX7_nights_91 : decode cX7_nights 91 = .ok (.aload_n 0, 1) := by decide +kernel
theorem dX7_nights_92 : decode cX7_nights 92 = .ok (.getfield 7, 3) := by decide +kernel
theorem dX7_nights_95 : decode cX7_nights 95 = .ok (.iconst 2, 1) := by decide +kernel
theorem dX7_nights_96 : decode cX7_nights 96 = .ok (.dup2, 1) := by decide +kernel
theorem dX7_nights_97 : decode cX7_nights 97 = .ok (.iaload, 1) := by decide +kernel
theorem dX7_nights_98 : decode cX7_nights 98 = .ok (.iconst 1, 1) := by decide +kernel
theorem dX7_nights_99 : decode cX7_nights 99 = .ok (.iadd, 1) := by decide +kernel
theorem dX7_nights_100 : decode cX7_nights 100 = .ok (.iastore, 1) := by decide +kernel
theorem dX7_nights_101 : decode cX7_nights 101 = .ok (.iinc 3 1, 3) := by decide +kernel
theorem dX7_nights_104 : decode cX7_nights 104 = .ok (.goto (-100), 3) := by decide +kernel
theorem dX7_nights_107 : decode cX7_nights 107 = .ok (.aload_n 0, 1) := by decide +kernel
theorem dX7_nights_108 : decode cX7_nights 108 = .ok (.getfield 7, 3) := by decide +kernel
theorem dX7_nights_111 : decode cX7_nights 111 = .ok (.iconst 3, 1) := by decide +kernel
theorem dX7_nights_112 : decode cX7_nights 112 = .ok (.dup2, 1) := by decide +kernel
theorem dX7_nights_113 : decode cX7_nights 113 = .ok (.iaload, 1) := by decide +kernel
theorem dX7_nights_114 : decode cX7_nights 114 = .ok (.iload_n 2, 1) := by decide +kernel
theorem dX7_nights_115 : decode cX7_nights 115 = .ok (.iadd, 1) := by decide +kernel
theorem dX7_nights_116 : decode cX7_nights 116 = .ok (.iastore, 1) := by decide +kernel
theorem dX7_nights_117 : decode cX7_nights 117 = .ok (.iload_n 2, 1) := by decide +kernel
theorem dX7_nights_118 : decode cX7_nights 118 = .ok (.ireturn, 1) := by decide +kernel
theorem dX7_pass_0 : decode cX7_pass 0 = .ok (.aload_n 0, 1) := by decide +kernel
theorem dX7_pass_1 : decode cX7_pass 1 = .ok (.iload_n 1, 1) := by decide +kernel
theorem dX7_pass_2 : decode cX7_pass 2 = .ok (.iconst 1, 1) := by decide +kernel
theorem dX7_pass_3 : decode cX7_pass 3 = .ok (.bipush 30, 2) := by decide +kernel
theorem dX7_pass_5 : decode cX7_pass 5 = .ok (.invokestatic 42, 3) := by decide +kernel
theorem dX7_pass_8 : decode cX7_pass 8 = .ok (.iconst 1, 1) := by decide +kernel
theorem dX7_pass_9 : decode cX7_pass 9 = .ok (.iconst 1, 1) := by decide +kernel
theorem dX7_pass_10 : decode cX7_pass 10 = .ok (.invokevirtual 69, 3) := by decide +kernel
theorem dX7_pass_13 : decode cX7_pass 13 = .ok (.ifCond .ne 5, 3) := by decide +kernel
theorem dX7_pass_16 : decode cX7_pass 16 = .ok (.iconst 0, 1) := by decide +kernel
theorem dX7_pass_17 : decode cX7_pass 17 = .ok (.ireturn, 1) := by decide +kernel
theorem dX7_pass_18 : decode cX7_pass 18 = .ok (.aload_n 0, 1) := by decide +kernel
theorem dX7_pass_19 : decode cX7_pass 19 = .ok (.invokevirtual 73, 3) := by decide +kernel
theorem dX7_pass_22 : decode cX7_pass 22 = .ok (.aload_n 0, 1) := by decide +kernel
theorem dX7_pass_23 : decode cX7_pass 23 = .ok (.iload_n 1, 1) := by decide +kernel
theorem dX7_pass_24 : decode cX7_pass 24 = .ok (.invokevirtual 110, 3) := by decide +kernel
theorem dX7_pass_27 : decode cX7_pass 27 = .ok (.ireturn, 1) := by decide +kernel
theorem dX7_append_0 : decode cX7_append 0 = .ok (.aload_n 0, 1) := by decide +kernel
theorem dX7_append_1 : decode cX7_append 1 = .ok (.iload_n 1, 1) := by decide +kernel
theorem dX7_append_2 : decode cX7_append 2 = .ok (.bipush 33, 2) := by decide +kernel
theorem dX7_append_4 : decode cX7_append 4 = .ok (.bipush 126, 2) := by decide +kernel
theorem dX7_append_6 : decode cX7_append 6 = .ok (.invokestatic 42, 3) := by decide +kernel
theorem dX7_append_9 : decode cX7_append 9 = .ok (.aload_n 0, 1) := by decide +kernel
theorem dX7_append_10 : decode cX7_append 10 = .ok (.getfield 113, 3) := by decide +kernel
theorem dX7_append_13 : decode cX7_append 13 = .ok (.bipush 60, 2) := by decide +kernel
theorem dX7_append_15 : decode cX7_append 15 = .ok (.if_icmp .ge 7, 3) := by decide +kernel
theorem dX7_append_18 : decode cX7_append 18 = .ok (.iconst 1, 1) := by decide +kernel
theorem dX7_append_19 : decode cX7_append 19 = .ok (.goto 4, 3) := by decide +kernel
theorem dX7_append_22 : decode cX7_append 22 = .ok (.iconst 0, 1) := by decide +kernel
theorem dX7_append_23 : decode cX7_append 23 = .ok (.iconst 1, 1) := by decide +kernel
theorem dX7_append_24 : decode cX7_append 24 = .ok (.invokevirtual 69, 3) := by decide +kernel
theorem dX7_append_27 : decode cX7_append 27 = .ok (.ifCond .ne 5, 3) := by decide +kernel
theorem dX7_append_30 : decode cX7_append 30 = .ok (.iconst 0, 1) := by decide +kernel
theorem dX7_append_31 : decode cX7_append 31 = .ok (.ireturn, 1) := by decide +kernel
theorem dX7_append_32 : decode cX7_append 32 = .ok (.aload_n 0, 1) := by decide +kernel
theorem dX7_append_33 : decode cX7_append 33 = .ok (.getfield 13, 3) := by decide +kernel
theorem dX7_append_36 : decode cX7_append 36 = .ok (.aload_n 0, 1) := by decide +kernel
theorem dX7_append_37 : decode cX7_append 37 = .ok (.getfield 113, 3) := by decide +kernel
theorem dX7_append_40 : decode cX7_append 40 = .ok (.iload_n 1, 1) := by decide +kernel
theorem dX7_append_41 : decode cX7_append 41 = .ok (.i2c, 1) := by decide +kernel
theorem dX7_append_42 : decode cX7_append 42 = .ok (.castore, 1) := by decide +kernel
theorem dX7_append_43 : decode cX7_append 43 = .ok (.aload_n 0, 1) := by decide +kernel
theorem dX7_append_44 : decode cX7_append 44 = .ok (.dup, 1) := by decide +kernel
theorem dX7_append_45 : decode cX7_append 45 = .ok (.getfield 113, 3) := by decide +kernel
theorem dX7_append_48 : decode cX7_append 48 = .ok (.iconst 1, 1) := by decide +kernel
theorem dX7_append_49 : decode cX7_append 49 = .ok (.iadd, 1) := by decide +kernel
theorem dX7_append_50 : decode cX7_append 50 = .ok (.putfield 113, 3) := by decide +kernel
theorem dX7_append_53 : decode cX7_append 53 = .ok (.aload_n 0, 1) := by decide +kernel
theorem dX7_append_54 : decode cX7_append 54 = .ok (.getfield 113, 3) := by decide +kernel
theorem dX7_append_57 : decode cX7_append 57 = .ok (.ireturn, 1) := by decide +kernel
theorem dX7_clearBuffer_0 : decode cX7_clearBuffer 0 = .ok (.aload_n 0, 1) := by decide +kernel
theorem dX7_clearBuffer_1 : decode cX7_clearBuffer 1 = .ok (.iconst 0, 1) := by decide +kernel
theorem dX7_clearBuffer_2 : decode cX7_clearBuffer 2 = .ok (.putfield 31, 3) := by decide +kernel
theorem dX7_clearBuffer_5 : decode cX7_clearBuffer 5 = .ok (.aload_n 0, 1) := by decide +kernel
theorem dX7_clearBuffer_6 : decode cX7_clearBuffer 6 = .ok (.getfield 113, 3) := by decide +kernel
theorem dX7_clearBuffer_9 : decode cX7_clearBuffer 9 = .ok (.istore_n 1, 1) := by decide +kernel
theorem dX7_clearBuffer_10 : decode cX7_clearBuffer 10 = .ok (.aload_n 0, 1) := by decide +kernel
theorem dX7_clearBuffer_11 : decode cX7_clearBuffer 11 = .ok (.iconst 0, 1) := by decide +kernel
theorem dX7_clearBuffer_12 : decode cX7_clearBuffer 12 = .ok (.putfield 113, 3) := by decide +kernel
theorem dX7_clearBuffer_15 : decode cX7_clearBuffer 15 = .ok (.iload_n 1, 1) := by decide +kernel
theorem dX7_clearBuffer_16 : decode cX7_clearBuffer 16 = .ok (.ireturn, 1) := by decide +kernel
theorem dX7_isAt_0 : decode cX7_isAt 0 = .ok (.aload_n 0, 1) := by decide +kernel
theorem dX7_isAt_1 : decode cX7_isAt 1 = .ok (.getfield 116, 3) := by decide +kernel
theorem dX7_isAt_4 : decode cX7_isAt 4 = .ok (.aload_n 0, 1) := by decide +kernel
theorem dX7_isAt_5 : decode cX7_isAt 5 = .ok (.getfield 113, 3) := by decide +kernel
theorem dX7_isAt_8 : decode cX7_isAt 8 = .ok (.if_icmp .ge 24, 3) := by decide +kernel
theorem dX7_isAt_11 : decode cX7_isAt 11 = .ok (.aload_n 0, 1) := by decide +kernel
theorem dX7_isAt_12 : decode cX7_isAt 12 = .ok (.getfield 13, 3) := by decide +kernel
theorem dX7_isAt_15 : decode cX7_isAt 15 = .ok (.aload_n 0, 1) := by decide +kernel
theorem dX7_isAt_16 : decode cX7_isAt 16 = .ok (.getfield 116, 3) := by decide +kernel
theorem dX7_isAt_19 : decode cX7_isAt 19 = .ok (.caload, 1) := by decide +kernel
theorem dX7_isAt_20 : decode cX7_isAt 20 = .ok (.iload_n 1, 1) := by decide +kernel
theorem dX7_isAt_21 : decode cX7_isAt 21 = .ok (.iload_n 2, 1) := by decide +kernel
theorem dX7_isAt_22 : decode cX7_isAt 22 = .ok (.invokestatic 42, 3) := by decide +kernel
theorem dX7_isAt_25 : decode cX7_isAt 25 = .ok (.ifCond .eq 7, 3) := by decide +kernel
theorem dX7_isAt_28 : decode cX7_isAt 28 = .ok (.iconst 1, 1) := by decide +kernel
theorem dX7_isAt_29 : decode cX7_isAt 29 = .ok (.goto 4, 3) := by decide +kernel
theorem dX7_isAt_32 : decode cX7_isAt 32 = .ok (.iconst 0, 1) := by decide +kernel
theorem dX7_isAt_33 : decode cX7_isAt 33 = .ok (.ireturn, 1) := by decide +kernel
theorem dX7_reads_0 : decode cX7_reads 0 = .ok (.aload_n 0, 1) := by decide +kernel
theorem dX7_reads_1 : decode cX7_reads 1 = .ok (.iload_n 1, 1) := by decide +kernel
theorem dX7_reads_2 : decode cX7_reads 2 = .ok (.iload_n 2, 1) := by decide +kernel
theorem dX7_reads_3 : decode cX7_reads 3 = .ok (.invokevirtual 118, 3) := by decide +kernel
theorem dX7_reads_6 : decode cX7_reads 6 = .ok (.istore_n 3, 1) := by decide +kernel
theorem dX7_reads_7 : decode cX7_reads 7 = .ok (.aload_n 0, 1) := by decide +kernel
theorem dX7_reads_8 : decode cX7_reads 8 = .ok (.dup, 1) := by decide +kernel
theorem dX7_reads_9 : decode cX7_reads 9 = .ok (.getfield 116, 3) := by decide +kernel
theorem dX7_reads_12 : decode cX7_reads 12 = .ok (.iload_n 3, 1) := by decide +kernel
theorem dX7_reads_13 : decode cX7_reads 13 = .ok (.ifCond .eq 7, 3) := by decide +kernel
theorem dX7_reads_16 : decode cX7_reads 16 = .ok (.iconst 1, 1) := by decide +kernel
theorem dX7_reads_17 : decode cX7_reads 17 = .ok (.goto 4, 3) := by decide +kernel
theorem dX7_reads_20 : decode cX7_reads 20 = .ok (.iconst 0, 1) := by decide +kernel
theorem dX7_reads_21 : decode cX7_reads 21 = .ok (.iadd, 1) := by decide +kernel
theorem dX7_reads_22 : decode cX7_reads 22 = .ok (.putfield 116, 3) := by decide +kernel
theorem dX7_reads_25 : decode cX7_reads 25 = .ok (.iload_n 3, 1) := by decide +kernel
theorem dX7_reads_26 : decode cX7_reads 26 = .ok (.ifCond .eq 19, 3) := by decide +kernel
theorem dX7_reads_29 : decode cX7_reads 29 = .ok (.aload_n 0, 1) := by decide +kernel
theorem dX7_reads_30 : decode cX7_reads 30 = .ok (.getfield 13, 3) := by decide +kernel
theorem dX7_reads_33 : decode cX7_reads 33 = .ok (.aload_n 0, 1) := by decide +kernel
theorem dX7_reads_34 : decode cX7_reads 34 = .ok (.getfield 116, 3) := by decide +kernel
theorem dX7_reads_37 : decode cX7_reads 37 = .ok (.iconst 1, 1) := by decide +kernel
theorem dX7_reads_38 : decode cX7_reads 38 = .ok (.isub, 1) := by decide +kernel
theorem dX7_reads_39 : decode cX7_reads 39 = .ok (.caload, 1) := by decide +kernel
theorem dX7_reads_40 : decode cX7_reads 40 = .ok (.iload_n 1, 1) := by decide +kernel
theorem dX7_reads_41 : decode cX7_reads 41 = .ok (.isub, 1) := by decide +kernel
theorem dX7_reads_42 : decode cX7_reads 42 = .ok (.goto 4, 3) := by decide +kernel
theorem dX7_reads_45 : decode cX7_reads 45 = .ok (.iconst (-1), 1) := by decide +kernel
theorem dX7_reads_46 : decode cX7_reads 46 = .ok (.ireturn, 1) := by decide +kernel
theorem dX7_signs_0 : decode cX7_signs 0 = .ok (.aload_n 0, 1) := by decide +kernel
theorem dX7_signs_1 : decode cX7_signs 1 = .ok (.iconst 0, 1) := by decide +kernel
theorem dX7_signs_2 : decode cX7_signs 2 = .ok (.putfield 121, 3) := by decide +kernel
theorem dX7_signs_5 : decode cX7_signs 5 = .ok (.aload_n 0, 1) := by decide +kernel
theorem dX7_signs_6 : decode cX7_signs 6 = .ok (.iconst 0, 1) := by decide +kernel
theorem dX7_signs_7 : decode cX7_signs 7 = .ok (.putfield 124, 3) := by decide +kernel
theorem dX7_signs_10 : decode cX7_signs 10 = .ok (.iconst 1, 1) := by decide +kernel
theorem dX7_signs_11 : decode cX7_signs 11 = .ok (.istore_n 1, 1) := by decide +kernel
theorem dX7_signs_12 : decode cX7_signs 12 = .ok (.iconst 1, 1) := by decide +kernel
theorem dX7_signs_13 : decode cX7_signs 13 = .ok (.istore_n 2, 1) := by decide +kernel
theorem dX7_signs_14 : decode cX7_signs 14 = .ok (.iload_n 1, 1) := by decide +kernel
theorem dX7_signs_15 : decode cX7_signs 15 = .ok (.ifCond .eq 193, 3) := by decide +kernel
theorem dX7_signs_18 : decode cX7_signs 18 = .ok (.aload_n 0, 1) := by decide +kernel
theorem dX7_signs_19 : decode cX7_signs 19 = .ok (.getfield 121, 3) := by decide +kernel
theorem dX7_signs_22 : decode cX7_signs 22 = .ok (.aload_n 0, 1) := by decide +kernel
theorem dX7_signs_23 : decode cX7_signs 23 = .ok (.getfield 124, 3) := by decide +kernel
theorem dX7_signs_26 : decode cX7_signs 26 = .ok (.ior, 1) := by decide +kernel
theorem dX7_signs_27 : decode cX7_signs 27 = .ok (.bipush 63, 2) := by decide +kernel
theorem dX7_signs_29 : decode cX7_signs 29 = .ok (.if_icmp .eq 18, 3) := by decide +kernel
theorem dX7_signs_32 : decode cX7_signs 32 = .ok (.aload_n 0, 1) := by decide +kernel
theorem dX7_signs_33 : decode cX7_signs 33 = .ok (.bipush 33, 2) := by decide +kernel
theorem dX7_signs_35 : decode cX7_signs 35 = .ok (.bipush 33, 2) := by decide +kernel
theorem dX7_signs_37 : decode cX7_signs 37 = .ok (.invokevirtual 118, 3) := by decide +kernel
theorem dX7_signs_40 : decode cX7_signs 40 = .ok (.ifCond .eq 7, 3) := by decide +kernel
theorem dX7_signs_43 : decode cX7_signs 43 = .ok (.iconst 1, 1) := by decide +kernel
theorem dX7_signs_44 : decode cX7_signs 44 = .ok (.goto 4, 3) := by decide +kernel
theorem dX7_signs_47 : decode cX7_signs 47 = .ok (.iconst 0, 1) := by decide +kernel
theorem dX7_signs_48 : decode cX7_signs 48 = .ok (.istore_n 3, 1) := by decide +kernel
theorem dX7_signs_49 : decode cX7_signs 49 = .ok (.aload_n 0, 1) := by decide +kernel
theorem dX7_signs_50 : decode cX7_signs 50 = .ok (.dup, 1) := by decide +kernel
theorem dX7_signs_51 : decode cX7_signs 51 = .ok (.getfield 116, 3) := by decide +kernel
theorem dX7_signs_54 : decode cX7_signs 54 = .ok (.iload_n 3, 1) := by decide +kernel
theorem dX7_signs_55 : decode cX7_signs 55 = .ok (.ifCond .eq 7, 3) := by decide +kernel
theorem dX7_signs_58 : decode cX7_signs 58 = .ok (.iconst 1, 1) := by decide +kernel
theorem dX7_signs_59 : decode cX7_signs 59 = .ok (.goto 4, 3) := by decide +kernel
theorem dX7_signs_62 : decode cX7_signs 62 = .ok (.iconst 0, 1) := by decide +kernel
theorem dX7_signs_63 : decode cX7_signs 63 = .ok (.iadd, 1) := by decide +kernel
theorem dX7_signs_64 : decode cX7_signs 64 = .ok (.putfield 116, 3) := by decide +kernel
theorem dX7_signs_67 : decode cX7_signs 67 = .ok (.aload_n 0, 1) := by decide +kernel
theorem dX7_signs_68 : decode cX7_signs 68 = .ok (.bipush 97, 2) := by decide +kernel
theorem dX7_signs_70 : decode cX7_signs 70 = .ok (.bipush 102, 2) := by decide +kernel
theorem dX7_signs_72 : decode cX7_signs 72 = .ok (.invokevirtual 118, 3) := by decide +kernel
theorem dX7_signs_75 : decode cX7_signs 75 = .ok (.ifCond .eq 34, 3) := by decide +kernel
theorem dX7_signs_78 : decode cX7_signs 78 = .ok (.aload_n 0, 1) := by decide +kernel
theorem dX7_signs_79 : decode cX7_signs 79 = .ok (.getfield 121, 3) := by decide +kernel
theorem dX7_signs_82 : decode cX7_signs 82 = .ok (.aload_n 0, 1) := by decide +kernel
theorem dX7_signs_83 : decode cX7_signs 83 = .ok (.getfield 124, 3) := by decide +kernel
theorem dX7_signs_86 : decode cX7_signs 86 = .ok (.ior, 1) := by decide +kernel
theorem dX7_signs_87 : decode cX7_signs 87 = .ok (.aload_n 0, 1) := by decide +kernel
theorem dX7_signs_88 : decode cX7_signs 88 = .ok (.getfield 13, 3) := by decide +kernel
theorem dX7_signs_91 : decode cX7_signs 91 = .ok (.aload_n 0, 1) := by decide +kernel
theorem dX7_signs_92 : decode cX7_signs 92 = .ok (.getfield 116, 3) := by decide +kernel
theorem dX7_signs_95 : decode cX7_signs 95 = .ok (.caload, 1) := by decide +kernel
theorem dX7_signs_96 : decode cX7_signs 96 = .ok (.bipush 97, 2) := by decide +kernel
theorem dX7_signs_98 : decode cX7_signs 98 = .ok (.isub, 1) := by decide +kernel
theorem dX7_signs_99 : decode cX7_signs 99 = .ok (.invokestatic 46, 3) := by decide +kernel
theorem dX7_signs_102 : decode cX7_signs 102 = .ok (.ifCond .ne 7, 3) := by decide +kernel
theorem dX7_signs_105 : decode cX7_signs 105 = .ok (.iconst 1, 1) := by decide +kernel
theorem dX7_signs_106 : decode cX7_signs 106 = .ok (.goto 4, 3) := by decide +kernel
theorem dX7_signs_109 : decode cX7_signs 109 = .ok (.iconst 0, 1) := by decide +kernel
theorem dX7_signs_110 : decode cX7_signs 110 = .ok (.istore_n 1, 1) := by decide +kernel
theorem dX7_signs_111 : decode cX7_signs 111 = .ok (.iload_n 1, 1) := by decide +kernel
theorem dX7_signs_112 : decode cX7_signs 112 = .ok (.ifCond .eq 20, 3) := by decide +kernel
theorem dX7_signs_115 : decode cX7_signs 115 = .ok (.iconst 1, 1) := by decide +kernel
theorem dX7_signs_116 : decode cX7_signs 116 = .ok (.aload_n 0, 1) := by decide +kernel
theorem dX7_signs_117 : decode cX7_signs 117 = .ok (.getfield 13, 3) := by decide +kernel
theorem dX7_signs_120 : decode cX7_signs 120 = .ok (.aload_n 0, 1) := by decide +kernel
theorem dX7_signs_121 : decode cX7_signs 121 = .ok (.getfield 116, 3) := by decide +kernel
theorem dX7_signs_124 : decode cX7_signs 124 = .ok (.caload, 1) := by decide +kernel
theorem dX7_signs_125 : decode cX7_signs 125 = .ok (.bipush 97, 2) := by decide +kernel
theorem dX7_signs_127 : decode cX7_signs 127 = .ok (.isub, 1) := by decide +kernel
theorem dX7_signs_128 : decode cX7_signs 128 = .ok (.ishl, 1) := by decide +kernel
theorem dX7_signs_129 : decode cX7_signs 129 = .ok (.goto 4, 3) := by decide +kernel
theorem dX7_signs_132 : decode cX7_signs 132 = .ok (.iconst 0, 1) := by decide +kernel
theorem dX7_signs_133 : decode cX7_signs 133 = .ok (.istore 4, 2) := by decide +kernel
theorem dX7_signs_135 : decode cX7_signs 135 = .ok (.aload_n 0, 1) := by decide +kernel
theorem dX7_signs_136 : decode cX7_signs 136 = .ok (.dup, 1) := by decide +kernel
theorem dX7_signs_137 : decode cX7_signs 137 = .ok (.getfield 116, 3) := by decide +kernel
theorem dX7_signs_140 : decode cX7_signs 140 = .ok (.iload_n 1, 1) := by decide +kernel
theorem dX7_signs_141 : decode cX7_signs 141 = .ok (.ifCond .eq 7, 3) := by decide +kernel
theorem dX7_signs_144 : decode cX7_signs 144 = .ok (.iconst 1, 1) := by decide +kernel
theorem dX7_signs_145 : decode cX7_signs 145 = .ok (.goto 4, 3) := by decide +kernel
theorem dX7_signs_148 : decode cX7_signs 148 = .ok (.iconst 0, 1) := by decide +kernel
theorem dX7_signs_149 : decode cX7_signs 149 = .ok (.iadd, 1) := by decide +kernel
theorem dX7_signs_150 : decode cX7_signs 150 = .ok (.putfield 116, 3) := by decide +kernel
theorem dX7_signs_153 : decode cX7_signs 153 = .ok (.aload_n 0, 1) := by decide +kernel
theorem dX7_signs_154 : decode cX7_signs 154 = .ok (.dup, 1) := by decide +kernel
theorem dX7_signs_155 : decode cX7_signs 155 = .ok (.getfield 121, 3) := by decide +kernel
theorem dX7_signs_158 : decode cX7_signs 158 = .ok (.iload_n 3, 1) := by decide +kernel
theorem dX7_signs_159 : decode cX7_signs 159 = .ok (.ifCond .eq 7, 3) := by decide +kernel
theorem dX7_signs_162 : decode cX7_signs 162 = .ok (.iconst 0, 1) := by decide +kernel
theorem dX7_signs_163 : decode cX7_signs 163 = .ok (.goto 5, 3) := by decide +kernel
theorem dX7_signs_166 : decode cX7_signs 166 = .ok (.iload 4, 2) := by decide +kernel
theorem dX7_signs_168 : decode cX7_signs 168 = .ok (.ior, 1) := by decide +kernel
theorem dX7_signs_169 : decode cX7_signs 169 = .ok (.putfield 121, 3) := by decide +kernel
theorem dX7_signs_172 : decode cX7_signs 172 = .ok (.aload_n 0, 1) := by decide +kernel
theorem dX7_signs_173 : decode cX7_signs 173 = .ok (.dup, 1) := by decide +kernel
theorem dX7_signs_174 : decode cX7_signs 174 = .ok (.getfield 124, 3) := by decide +kernel
theorem dX7_signs_177 : decode cX7_signs 177 = .ok (.iload_n 3, 1) := by decide +kernel
theorem dX7_signs_178 : decode cX7_signs 178 = .ok (.ifCond .eq 8, 3) := by decide +kernel
theorem dX7_signs_181 : decode cX7_signs 181 = .ok (.iload 4, 2) := by decide +kernel
theorem dX7_signs_183 : decode cX7_signs 183 = .ok (.goto 4, 3) := by decide +kernel
theorem dX7_signs_186 : decode cX7_signs 186 = .ok (.iconst 0, 1) := by decide +kernel
theorem dX7_signs_187 : decode cX7_signs 187 = .ok (.ior, 1) := by decide +kernel
theorem dX7_signs_188 : decode cX7_signs 188 = .ok (.putfield 124, 3) := by decide +kernel
theorem dX7_signs_191 : decode cX7_signs 191 = .ok (.iload_n 1, 1) := by decide +kernel
theorem dX7_signs_192 : decode cX7_signs 192 = .ok (.ifCond .ne 7, 3) := by decide +kernel
theorem dX7_signs_195 : decode cX7_signs 195 = .ok (.iload_n 3, 1) := by decide +kernel
theorem dX7_signs_196 : decode cX7_signs 196 = .ok (.ifCond .ne 7, 3) := by decide +kernel
theorem dX7_signs_199 : decode cX7_signs 199 = .ok (.iconst 1, 1) := by decide +kernel
theorem dX7_signs_200 : decode cX7_signs 200 = .ok (.goto 4, 3) := by decide +kernel
theorem dX7_signs_203 : decode cX7_signs 203 = .ok (.iconst 0, 1) := by decide +kernel
theorem dX7_signs_204 : decode cX7_signs 204 = .ok (.istore_n 2, 1) := by decide +kernel
theorem dX7_signs_205 : decode cX7_signs 205 = .ok (.goto (-191), 3) := by decide +kernel
theorem dX7_signs_208 : decode cX7_signs 208 = .ok (.iload_n 2, 1) := by decide +kernel
theorem dX7_signs_209 : decode cX7_signs 209 = .ok (.ifCond .eq 19, 3) := by decide +kernel
theorem dX7_signs_212 : decode cX7_signs 212 = .ok (.aload_n 0, 1) := by decide +kernel
theorem dX7_signs_213 : decode cX7_signs 213 = .ok (.getfield 121, 3) := by decide +kernel
theorem dX7_signs_216 : decode cX7_signs 216 = .ok (.aload_n 0, 1) := by decide +kernel
theorem dX7_signs_217 : decode cX7_signs 217 = .ok (.getfield 124, 3) := by decide +kernel
theorem dX7_signs_220 : decode cX7_signs 220 = .ok (.ior, 1) := by decide +kernel
theorem dX7_signs_221 : decode cX7_signs 221 = .ok (.ifCond .eq 7, 3) := by decide +kernel
theorem dX7_signs_224 : decode cX7_signs 224 = .ok (.iconst 1, 1) := by decide +kernel
theorem dX7_signs_225 : decode cX7_signs 225 = .ok (.goto 4, 3) := by decide +kernel
theorem dX7_signs_228 : decode cX7_signs 228 = .ok (.iconst 0, 1) := by decide +kernel
theorem dX7_signs_229 : decode cX7_signs 229 = .ok (.ireturn, 1) := by decide +kernel
theorem dX7_part_0 : decode cX7_part 0 = .ok (.aload_n 0, 1) := by decide +kernel
theorem dX7_part_1 : decode cX7_part 1 = .ok (.aload_n 0, 1) := by decide +kernel
theorem dX7_part_2 : decode cX7_part 2 = .ok (.getfield 116, 3) := by decide +kernel
theorem dX7_part_5 : decode cX7_part 5 = .ok (.aload_n 0, 1) := by decide +kernel
theorem dX7_part_6 : decode cX7_part 6 = .ok (.getfield 113, 3) := by decide +kernel
theorem dX7_part_9 : decode cX7_part 9 = .ok (.if_icmp .ge 15, 3) := by decide +kernel
theorem dX7_part_12 : decode cX7_part 12 = .ok (.aload_n 0, 1) := by decide +kernel
theorem dX7_part_13 : decode cX7_part 13 = .ok (.getfield 13, 3) := by decide +kernel
theorem dX7_part_16 : decode cX7_part 16 = .ok (.aload_n 0, 1) := by decide +kernel
theorem dX7_part_17 : decode cX7_part 17 = .ok (.getfield 116, 3) := by decide +kernel
theorem dX7_part_20 : decode cX7_part 20 = .ok (.caload, 1) := by decide +kernel
theorem dX7_part_21 : decode cX7_part 21 = .ok (.goto 5, 3) := by decide +kernel
theorem dX7_part_24 : decode cX7_part 24 = .ok (.bipush 32, 2) := by decide +kernel
theorem dX7_part_26 : decode cX7_part 26 = .ok (.putfield 127, 3) := by decide +kernel
theorem dX7_part_29 : decode cX7_part 29 = .ok (.aload_n 0, 1) := by decide +kernel
theorem dX7_part_30 : decode cX7_part 30 = .ok (.getfield 127, 3) := by decide +kernel
theorem dX7_part_33 : decode cX7_part 33 = .ok (.bipush 114, 2) := by decide +kernel
theorem dX7_part_35 : decode cX7_part 35 = .ok (.if_icmp .ne 47, 3) := by decide +kernel
theorem dX7_part_38 : decode cX7_part 38 = .ok (.aload_n 0, 1) := by decide +kernel
theorem dX7_part_39 : decode cX7_part 39 = .ok (.dup, 1) := by decide +kernel
theorem dX7_part_40 : decode cX7_part 40 = .ok (.getfield 116, 3) := by decide +kernel
theorem dX7_part_43 : decode cX7_part 43 = .ok (.iconst 1, 1) := by decide +kernel
theorem dX7_part_44 : decode cX7_part 44 = .ok (.iadd, 1) := by decide +kernel
theorem dX7_part_45 : decode cX7_part 45 = .ok (.putfield 116, 3) := by decide +kernel
theorem dX7_part_48 : decode cX7_part 48 = .ok (.aload_n 0, 1) := by decide +kernel
theorem dX7_part_49 : decode cX7_part 49 = .ok (.aload_n 0, 1) := by decide +kernel
theorem dX7_part_50 : decode cX7_part 50 = .ok (.bipush 49, 2) := by decide +kernel
theorem dX7_part_52 : decode cX7_part 52 = .ok (.bipush 57, 2) := by decide +kernel
theorem dX7_part_54 : decode cX7_part 54 = .ok (.invokevirtual 131, 3) := by decide +kernel
theorem dX7_part_57 : decode cX7_part 57 = .ok (.iconst 1, 1) := by decide +kernel
theorem dX7_part_58 : decode cX7_part 58 = .ok (.iadd, 1) := by decide +kernel
theorem dX7_part_59 : decode cX7_part 59 = .ok (.putfield 134, 3) := by decide +kernel
theorem dX7_part_62 : decode cX7_part 62 = .ok (.aload_n 0, 1) := by decide +kernel
theorem dX7_part_63 : decode cX7_part 63 = .ok (.getfield 134, 3) := by decide +kernel
theorem dX7_part_66 : decode cX7_part 66 = .ok (.ifCond .le 14, 3) := by decide +kernel
theorem dX7_part_69 : decode cX7_part 69 = .ok (.aload_n 0, 1) := by decide +kernel
theorem dX7_part_70 : decode cX7_part 70 = .ok (.invokevirtual 137, 3) := by decide +kernel
theorem dX7_part_73 : decode cX7_part 73 = .ok (.ifCond .eq 7, 3) := by decide +kernel
theorem dX7_part_76 : decode cX7_part 76 = .ok (.iconst 1, 1) := by decide +kernel
theorem dX7_part_77 : decode cX7_part 77 = .ok (.goto 4, 3) := by decide +kernel
theorem dX7_part_80 : decode cX7_part 80 = .ok (.iconst 0, 1) := by decide +kernel
theorem dX7_part_81 : decode cX7_part 81 = .ok (.ireturn, 1) := by decide +kernel
theorem dX7_part_82 : decode cX7_part 82 = .ok (.aload_n 0, 1) := by decide +kernel
theorem dX7_part_83 : decode cX7_part 83 = .ok (.getfield 127, 3) := by decide +kernel
theorem dX7_part_86 : decode cX7_part 86 = .ok (.bipush 99, 2) := by decide +kernel
theorem dX7_part_88 : decode cX7_part 88 = .ok (.if_icmp .eq 12, 3) := by decide +kernel
theorem dX7_part_91 : decode cX7_part 91 = .ok (.aload_n 0, 1) := by decide +kernel
theorem dX7_part_92 : decode cX7_part 92 = .ok (.getfield 127, 3) := by decide +kernel
theorem dX7_part_95 : decode cX7_part 95 = .ok (.bipush 103, 2) := by decide +kernel
theorem dX7_part_97 : decode cX7_part 97 = .ok (.if_icmp .ne 38, 3) := by decide +kernel
theorem dX7_part_100 : decode cX7_part 100 = .ok (.aload_n 0, 1) := by decide +kernel
theorem dX7_part_101 : decode cX7_part 101 = .ok (.dup, 1) := by decide +kernel
theorem dX7_part_102 : decode cX7_part 102 = .ok (.getfield 116, 3) := by decide +kernel
theorem dX7_part_105 : decode cX7_part 105 = .ok (.iconst 1, 1) := by decide +kernel
theorem dX7_part_106 : decode cX7_part 106 = .ok (.iadd, 1) := by decide +kernel
theorem dX7_part_107 : decode cX7_part 107 = .ok (.putfield 116, 3) := by decide +kernel
theorem dX7_part_110 : decode cX7_part 110 = .ok (.aload_n 0, 1) := by decide +kernel
theorem dX7_part_111 : decode cX7_part 111 = .ok (.aload_n 0, 1) := by decide +kernel
theorem dX7_part_112 : decode cX7_part 112 = .ok (.bipush 97, 2) := by decide +kernel
theorem dX7_part_114 : decode cX7_part 114 = .ok (.bipush 102, 2) := by decide +kernel
theorem dX7_part_116 : decode cX7_part 116 = .ok (.invokevirtual 131, 3) := by decide +kernel
theorem dX7_part_119 : decode cX7_part 119 = .ok (.putfield 134, 3) := by decide +kernel
theorem dX7_part_122 : decode cX7_part 122 = .ok (.aload_n 0, 1) := by decide +kernel
theorem dX7_part_123 : decode cX7_part 123 = .ok (.getfield 134, 3) := by decide +kernel
theorem dX7_part_126 : decode cX7_part 126 = .ok (.ifCond .lt 7, 3) := by decide +kernel
theorem dX7_part_129 : decode cX7_part 129 = .ok (.iconst 1, 1) := by decide +kernel
theorem dX7_part_130 : decode cX7_part 130 = .ok (.goto 4, 3) := by decide +kernel
theorem dX7_part_133 : decode cX7_part 133 = .ok (.iconst 0, 1) := by decide +kernel
theorem dX7_part_134 : decode cX7_part 134 = .ok (.ireturn, 1) := by decide +kernel
theorem dX7_part_135 : decode cX7_part 135 = .ok (.aload_n 0, 1) := by decide +kernel
theorem dX7_part_136 : decode cX7_part 136 = .ok (.getfield 127, 3) := by decide +kernel
theorem dX7_part_139 : decode cX7_part 139 = .ok (.bipush 110, 2) := by decide +kernel
theorem dX7_part_141 : decode cX7_part 141 = .ok (.if_icmp .ne 40, 3) := by decide +kernel
theorem dX7_part_144 : decode cX7_part 144 = .ok (.aload_n 0, 1) := by decide +kernel
theorem dX7_part_145 : decode cX7_part 145 = .ok (.dup, 1) := by decide +kernel
theorem dX7_part_146 : decode cX7_part 146 = .ok (.getfield 116, 3) := by decide +kernel
theorem dX7_part_149 : decode cX7_part 149 = .ok (.iconst 1, 1) := by decide +kernel
theorem dX7_part_150 : decode cX7_part 150 = .ok (.iadd, 1) := by decide +kernel
theorem dX7_part_151 : decode cX7_part 151 = .ok (.putfield 116, 3) := by decide +kernel
theorem dX7_part_154 : decode cX7_part 154 = .ok (.aload_n 0, 1) := by decide +kernel
theorem dX7_part_155 : decode cX7_part 155 = .ok (.aload_n 0, 1) := by decide +kernel
theorem dX7_part_156 : decode cX7_part 156 = .ok (.bipush 49, 2) := by decide +kernel
theorem dX7_part_158 : decode cX7_part 158 = .ok (.bipush 57, 2) := by decide +kernel
theorem dX7_part_160 : decode cX7_part 160 = .ok (.invokevirtual 131, 3) := by decide +kernel
theorem dX7_part_163 : decode cX7_part 163 = .ok (.iconst 1, 1) := by decide +kernel
theorem dX7_part_164 : decode cX7_part 164 = .ok (.iadd, 1) := by decide +kernel
theorem dX7_part_165 : decode cX7_part 165 = .ok (.putfield 134, 3) := by decide +kernel
theorem dX7_part_168 : decode cX7_part 168 = .ok (.aload_n 0, 1) := by decide +kernel
theorem dX7_part_169 : decode cX7_part 169 = .ok (.getfield 134, 3) := by decide +kernel
theorem dX7_part_172 : decode cX7_part 172 = .ok (.ifCond .le 7, 3) := by decide +kernel
theorem dX7_part_175 : decode cX7_part 175 = .ok (.iconst 1, 1) := by decide +kernel
theorem dX7_part_176 : decode cX7_part 176 = .ok (.goto 4, 3) := by decide +kernel
theorem dX7_part_179 : decode cX7_part 179 = .ok (.iconst 0, 1) := by decide +kernel
theorem dX7_part_180 : decode cX7_part 180 = .ok (.ireturn, 1) := by decide +kernel
theorem dX7_part_181 : decode cX7_part 181 = .ok (.aload_n 0, 1) := by decide +kernel
theorem dX7_part_182 : decode cX7_part 182 = .ok (.getfield 127, 3) := by decide +kernel
theorem dX7_part_185 : decode cX7_part 185 = .ok (.bipush 118, 2) := by decide +kernel
theorem dX7_part_187 : decode cX7_part 187 = .ok (.if_icmp .ne 61, 3) := by decide +kernel
theorem dX7_part_190 : decode cX7_part 190 = .ok (.aload_n 0, 1) := by decide +kernel
theorem dX7_part_191 : decode cX7_part 191 = .ok (.dup, 1) := by decide +kernel
theorem dX7_part_192 : decode cX7_part 192 = .ok (.getfield 116, 3) := by decide +kernel
theorem dX7_part_195 : decode cX7_part 195 = .ok (.iconst 1, 1) := by decide +kernel
theorem dX7_part_196 : decode cX7_part 196 = .ok (.iadd, 1) := by decide +kernel
theorem dX7_part_197 : decode cX7_part 197 = .ok (.putfield 116, 3) := by decide +kernel
theorem dX7_part_200 : decode cX7_part 200 = .ok (.aload_n 0, 1) := by decide +kernel
theorem dX7_part_201 : decode cX7_part 201 = .ok (.aload_n 0, 1) := by decide +kernel
theorem dX7_part_202 : decode cX7_part 202 = .ok (.bipush 48, 2) := by decide +kernel
theorem dX7_part_204 : decode cX7_part 204 = .ok (.bipush 57, 2) := by decide +kernel
theorem dX7_part_206 : decode cX7_part 206 = .ok (.invokevirtual 131, 3) := by decide +kernel
theorem dX7_part_209 : decode cX7_part 209 = .ok (.putfield 134, 3) := by decide +kernel
theorem dX7_part_212 : decode cX7_part 212 = .ok (.aload_n 0, 1) := by decide +kernel
theorem dX7_part_213 : decode cX7_part 213 = .ok (.aload_n 0, 1) := by decide +kernel
theorem dX7_part_214 : decode cX7_part 214 = .ok (.getfield 134, 3) := by decide +kernel
theorem dX7_part_217 : decode cX7_part 217 = .ok (.ifCond .ge 7, 3) := by decide +kernel
theorem dX7_part_220 : decode cX7_part 220 = .ok (.iconst (-1), 1) := by decide +kernel
theorem dX7_part_221 : decode cX7_part 221 = .ok (.goto 11, 3) := by decide +kernel
theorem dX7_part_224 : decode cX7_part 224 = .ok (.aload_n 0, 1) := by decide +kernel
theorem dX7_part_225 : decode cX7_part 225 = .ok (.bipush 48, 2) := by decide +kernel
theorem dX7_part_227 : decode cX7_part 227 = .ok (.bipush 57, 2) := by decide +kernel
theorem dX7_part_229 : decode cX7_part 229 = .ok (.invokevirtual 131, 3) := by decide +kernel
theorem dX7_part_232 : decode cX7_part 232 = .ok (.putfield 121, 3) := by decide +kernel
theorem dX7_part_235 : decode cX7_part 235 = .ok (.aload_n 0, 1) := by decide +kernel
theorem dX7_part_236 : decode cX7_part 236 = .ok (.getfield 121, 3) := by decide +kernel
theorem dX7_part_239 : decode cX7_part 239 = .ok (.ifCond .lt 7, 3) := by decide +kernel
theorem dX7_part_242 : decode cX7_part 242 = .ok (.iconst 1, 1) := by decide +kernel
theorem dX7_part_243 : decode cX7_part 243 = .ok (.goto 4, 3) := by decide +kernel
theorem dX7_part_246 : decode cX7_part 246 = .ok (.iconst 0, 1) := by decide +kernel
theorem dX7_part_247 : decode cX7_part 247 = .ok (.ireturn, 1) := by decide +kernel
theorem dX7_part_248 : decode cX7_part 248 = .ok (.iconst 0, 1) := by decide +kernel
theorem dX7_part_249 : decode cX7_part 249 = .ok (.ireturn, 1) := by decide +kernel
theorem dX7_isLog_0 : decode cX7_isLog 0 = .ok (.aload_n 0, 1) := by decide +kernel
theorem dX7_isLog_1 : decode cX7_isLog 1 = .ok (.iconst 0, 1) := by decide +kernel
theorem dX7_isLog_2 : decode cX7_isLog 2 = .ok (.putfield 116, 3) := by decide +kernel
theorem dX7_isLog_5 : decode cX7_isLog 5 = .ok (.iconst 1, 1) := by decide +kernel
theorem dX7_isLog_6 : decode cX7_isLog 6 = .ok (.istore_n 1, 1) := by decide +kernel
theorem dX7_isLog_7 : decode cX7_isLog 7 = .ok (.iconst 1, 1) := by decide +kernel
theorem dX7_isLog_8 : decode cX7_isLog 8 = .ok (.istore_n 2, 1) := by decide +kernel
theorem dX7_isLog_9 : decode cX7_isLog 9 = .ok (.iload_n 1, 1) := by decide +kernel
theorem dX7_isLog_10 : decode cX7_isLog 10 = .ok (.ifCond .eq 50, 3) := by decide +kernel
theorem dX7_isLog_13 : decode cX7_isLog 13 = .ok (.aload_n 0, 1) := by decide +kernel
theorem dX7_isLog_14 : decode cX7_isLog 14 = .ok (.invokevirtual 141, 3) := by decide +kernel
theorem dX7_isLog_17 : decode cX7_isLog 17 = .ok (.istore_n 2, 1) := by decide +kernel
theorem dX7_isLog_18 : decode cX7_isLog 18 = .ok (.iload_n 2, 1) := by decide +kernel
theorem dX7_isLog_19 : decode cX7_isLog 19 = .ok (.ifCond .eq 18, 3) := by decide +kernel
theorem dX7_isLog_22 : decode cX7_isLog 22 = .ok (.aload_n 0, 1) := by decide +kernel
theorem dX7_isLog_23 : decode cX7_isLog 23 = .ok (.bipush 59, 2) := by decide +kernel
theorem dX7_isLog_25 : decode cX7_isLog 25 = .ok (.bipush 59, 2) := by decide +kernel
theorem dX7_isLog_27 : decode cX7_isLog 27 = .ok (.invokevirtual 118, 3) := by decide +kernel
theorem dX7_isLog_30 : decode cX7_isLog 30 = .ok (.ifCond .eq 7, 3) := by decide +kernel
theorem dX7_isLog_33 : decode cX7_isLog 33 = .ok (.iconst 1, 1) := by decide +kernel
theorem dX7_isLog_34 : decode cX7_isLog 34 = .ok (.goto 4, 3) := by decide +kernel
theorem dX7_isLog_37 : decode cX7_isLog 37 = .ok (.iconst 0, 1) := by decide +kernel
theorem dX7_isLog_38 : decode cX7_isLog 38 = .ok (.istore_n 1, 1) := by decide +kernel
theorem dX7_isLog_39 : decode cX7_isLog 39 = .ok (.aload_n 0, 1) := by decide +kernel
theorem dX7_isLog_40 : decode cX7_isLog 40 = .ok (.dup, 1) := by decide +kernel
theorem dX7_isLog_41 : decode cX7_isLog 41 = .ok (.getfield 116, 3) := by decide +kernel
theorem dX7_isLog_44 : decode cX7_isLog 44 = .ok (.iload_n 1, 1) := by decide +kernel
theorem dX7_isLog_45 : decode cX7_isLog 45 = .ok (.ifCond .eq 7, 3) := by decide +kernel
theorem dX7_isLog_48 : decode cX7_isLog 48 = .ok (.iconst 1, 1) := by decide +kernel
theorem dX7_isLog_49 : decode cX7_isLog 49 = .ok (.goto 4, 3) := by decide +kernel
theorem dX7_isLog_52 : decode cX7_isLog 52 = .ok (.iconst 0, 1) := by decide +kernel
theorem dX7_isLog_53 : decode cX7_isLog 53 = .ok (.iadd, 1) := by decide +kernel
theorem dX7_isLog_54 : decode cX7_isLog 54 = .ok (.putfield 116, 3) := by decide +kernel
theorem dX7_isLog_57 : decode cX7_isLog 57 = .ok (.goto (-48), 3) := by decide +kernel
theorem dX7_isLog_60 : decode cX7_isLog 60 = .ok (.iload_n 2, 1) := by decide +kernel
theorem dX7_isLog_61 : decode cX7_isLog 61 = .ok (.ifCond .eq 18, 3) := by decide +kernel
theorem dX7_isLog_64 : decode cX7_isLog 64 = .ok (.aload_n 0, 1) := by decide +kernel
theorem dX7_isLog_65 : decode cX7_isLog 65 = .ok (.getfield 116, 3) := by decide +kernel
theorem dX7_isLog_68 : decode cX7_isLog 68 = .ok (.aload_n 0, 1) := by decide +kernel
theorem dX7_isLog_69 : decode cX7_isLog 69 = .ok (.getfield 113, 3) := by decide +kernel
theorem dX7_isLog_72 : decode cX7_isLog 72 = .ok (.if_icmp .ne 7, 3) := by decide +kernel
theorem dX7_isLog_75 : decode cX7_isLog 75 = .ok (.iconst 1, 1) := by decide +kernel
theorem dX7_isLog_76 : decode cX7_isLog 76 = .ok (.goto 4, 3) := by decide +kernel
theorem dX7_isLog_79 : decode cX7_isLog 79 = .ok (.iconst 0, 1) := by decide +kernel
theorem dX7_isLog_80 : decode cX7_isLog 80 = .ok (.ireturn, 1) := by decide +kernel
theorem dX7_firstError_0 : decode cX7_firstError 0 = .ok (.aload_n 0, 1) := by decide +kernel
theorem dX7_firstError_1 : decode cX7_firstError 1 = .ok (.iconst 0, 1) := by decide +kernel
theorem dX7_firstError_2 : decode cX7_firstError 2 = .ok (.putfield 31, 3) := by decide +kernel
theorem dX7_firstError_5 : decode cX7_firstError 5 = .ok (.aload_n 0, 1) := by decide +kernel
theorem dX7_firstError_6 : decode cX7_firstError 6 = .ok (.invokevirtual 144, 3) := by decide +kernel
theorem dX7_firstError_9 : decode cX7_firstError 9 = .ok (.istore_n 1, 1) := by decide +kernel
theorem dX7_firstError_10 : decode cX7_firstError 10 = .ok (.iload_n 1, 1) := by decide +kernel
theorem dX7_firstError_11 : decode cX7_firstError 11 = .ok (.ifCond .eq 10, 3) := by decide +kernel
theorem dX7_firstError_14 : decode cX7_firstError 14 = .ok (.aload_n 0, 1) := by decide +kernel
theorem dX7_firstError_15 : decode cX7_firstError 15 = .ok (.getfield 113, 3) := by decide +kernel
theorem dX7_firstError_18 : decode cX7_firstError 18 = .ok (.goto 7, 3) := by decide +kernel
theorem dX7_firstError_21 : decode cX7_firstError 21 = .ok (.aload_n 0, 1) := by decide +kernel
theorem dX7_firstError_22 : decode cX7_firstError 22 = .ok (.getfield 116, 3) := by decide +kernel
theorem dX7_firstError_25 : decode cX7_firstError 25 = .ok (.ireturn, 1) := by decide +kernel
theorem dX7_does_0 : decode cX7_does 0 = .ok (.aload_n 0, 1) := by decide +kernel
theorem dX7_does_1 : decode cX7_does 1 = .ok (.getfield 127, 3) := by decide +kernel
theorem dX7_does_4 : decode cX7_does 4 = .ok (.bipush 114, 2) := by decide +kernel
theorem dX7_does_6 : decode cX7_does 6 = .ok (.if_icmp .ne 43, 3) := by decide +kernel
theorem dX7_does_9 : decode cX7_does 9 = .ok (.aload_n 0, 1) := by decide +kernel
theorem dX7_does_10 : decode cX7_does 10 = .ok (.getfield 7, 3) := by decide +kernel
theorem dX7_does_13 : decode cX7_does 13 = .ok (.iconst 0, 1) := by decide +kernel
theorem dX7_does_14 : decode cX7_does 14 = .ok (.iaload, 1) := by decide +kernel
theorem dX7_does_15 : decode cX7_does 15 = .ok (.bipush 10, 2) := by decide +kernel
theorem dX7_does_17 : decode cX7_does 17 = .ok (.if_icmp .ge 7, 3) := by decide +kernel
theorem dX7_does_20 : decode cX7_does 20 = .ok (.iconst 1, 1) := by decide +kernel
theorem dX7_does_21 : decode cX7_does 21 = .ok (.goto 4, 3) := by decide +kernel
theorem dX7_does_24 : decode cX7_does 24 = .ok (.iconst 0, 1) := by decide +kernel
theorem dX7_does_25 : decode cX7_does 25 = .ok (.istore_n 1, 1) := by decide +kernel
theorem dX7_does_26 : decode cX7_does 26 = .ok (.iload_n 1, 1) := by decide +kernel
theorem dX7_does_27 : decode cX7_does 27 = .ok (.ifCond .eq 20, 3) := by decide +kernel
theorem dX7_does_30 : decode cX7_does 30 = .ok (.aload_n 0, 1) := by decide +kernel
theorem dX7_does_31 : decode cX7_does 31 = .ok (.aload_n 0, 1) := by decide +kernel
theorem dX7_does_32 : decode cX7_does 32 = .ok (.getfield 134, 3) := by decide +kernel
theorem dX7_does_35 : decode cX7_does 35 = .ok (.aload_n 0, 1) := by decide +kernel
theorem dX7_does_36 : decode cX7_does 36 = .ok (.getfield 121, 3) := by decide +kernel
theorem dX7_does_39 : decode cX7_does 39 = .ok (.aload_n 0, 1) := by decide +kernel
theorem dX7_does_40 : decode cX7_does 40 = .ok (.getfield 124, 3) := by decide +kernel
theorem dX7_does_43 : decode cX7_does 43 = .ok (.invokevirtual 76, 3) := by decide +kernel
theorem dX7_does_46 : decode cX7_does 46 = .ok (.pop, 1) := by decide +kernel
theorem dX7_does_47 : decode cX7_does 47 = .ok (.iload_n 1, 1) := by decide +kernel
theorem dX7_does_48 : decode cX7_does 48 = .ok (.ireturn, 1) := by decide +kernel
theorem dX7_does_49 : decode cX7_does 49 = .ok (.aload_n 0, 1) := by decide +kernel
theorem dX7_does_50 : decode cX7_does 50 = .ok (.getfield 127, 3) := by decide +kernel
theorem dX7_does_53 : decode cX7_does 53 = .ok (.bipush 99, 2) := by decide +kernel
theorem dX7_does_55 : decode cX7_does 55 = .ok (.if_icmp .eq 12, 3) := by decide +kernel
theorem dX7_does_58 : decode cX7_does 58 = .ok (.aload_n 0, 1) := by decide +kernel
theorem dX7_does_59 : decode cX7_does 59 = .ok (.getfield 127, 3) := by decide +kernel
theorem dX7_does_62 : decode cX7_does 62 = .ok (.bipush 103, 2) := by decide +kernel
theorem dX7_does_64 : decode cX7_does 64 = .ok (.if_icmp .ne 60, 3) := by decide +kernel
theorem dX7_does_67 : decode cX7_does 67 = .ok (.aload_n 0, 1) := by decide +kernel
theorem dX7_does_68 : decode cX7_does 68 = .ok (.aload_n 0, 1) := by decide +kernel
theorem dX7_does_69 : decode cX7_does 69 = .ok (.getfield 134, 3) := by decide +kernel
theorem dX7_does_72 : decode cX7_does 72 = .ok (.invokevirtual 91, 3) := by decide +kernel
theorem dX7_does_75 : decode cX7_does 75 = .ok (.aload_n 0, 1) := by decide +kernel
theorem dX7_does_76 : decode cX7_does 76 = .ok (.getfield 127, 3) := by decide +kernel
theorem dX7_does_79 : decode cX7_does 79 = .ok (.bipush 103, 2) := by decide +kernel
theorem dX7_does_81 : decode cX7_does 81 = .ok (.if_icmp .ne 7, 3) := by decide +kernel
theorem dX7_does_84 : decode cX7_does 84 = .ok (.iconst 1, 1) := by decide +kernel
theorem dX7_does_85 : decode cX7_does 85 = .ok (.goto 4, 3) := by decide +kernel
theorem dX7_does_88 : decode cX7_does 88 = .ok (.iconst 0, 1) := by decide +kernel
theorem dX7_does_89 : decode cX7_does 89 = .ok (.if_icmp .ne 18, 3) := by decide +kernel
theorem dX7_does_92 : decode cX7_does 92 = .ok (.aload_n 0, 1) := by decide +kernel
theorem dX7_does_93 : decode cX7_does 93 = .ok (.aload_n 0, 1) := by decide +kernel
theorem dX7_does_94 : decode cX7_does 94 = .ok (.getfield 134, 3) := by decide +kernel
theorem dX7_does_97 : decode cX7_does 97 = .ok (.invokevirtual 94, 3) := by decide +kernel
theorem dX7_does_100 : decode cX7_does 100 = .ok (.ifCond .ge 7, 3) := by decide +kernel
theorem dX7_does_103 : decode cX7_does 103 = .ok (.iconst 1, 1) := by decide +kernel
theorem dX7_does_104 : decode cX7_does 104 = .ok (.goto 4, 3) := by decide +kernel
theorem dX7_does_107 : decode cX7_does 107 = .ok (.iconst 0, 1) := by decide +kernel
theorem dX7_does_108 : decode cX7_does 108 = .ok (.istore_n 1, 1) := by decide +kernel
theorem dX7_does_109 : decode cX7_does 109 = .ok (.iload_n 1, 1) := by decide +kernel
theorem dX7_does_110 : decode cX7_does 110 = .ok (.ifCond .eq 12, 3) := by decide +kernel
theorem dX7_does_113 : decode cX7_does 113 = .ok (.aload_n 0, 1) := by decide +kernel
theorem dX7_does_114 : decode cX7_does 114 = .ok (.aload_n 0, 1) := by decide +kernel
theorem dX7_does_115 : decode cX7_does 115 = .ok (.getfield 134, 3) := by decide +kernel
theorem dX7_does_118 : decode cX7_does 118 = .ok (.invokevirtual 97, 3) := by decide +kernel
theorem dX7_does_121 : decode cX7_does 121 = .ok (.pop, 1) := by decide +kernel
theorem dX7_does_122 : decode cX7_does 122 = .ok (.iload_n 1, 1) := by decide +kernel
theorem dX7_does_123 : decode cX7_does 123 = .ok (.ireturn, 1) := by decide +kernel
theorem dX7_does_124 : decode cX7_does 124 = .ok (.aload_n 0, 1) := by decide +kernel
theorem dX7_does_125 : decode cX7_does 125 = .ok (.getfield 127, 3) := by decide +kernel
theorem dX7_does_128 : decode cX7_does 128 = .ok (.bipush 110, 2) := by decide +kernel
theorem dX7_does_130 : decode cX7_does 130 = .ok (.if_icmp .ne 14, 3) := by decide +kernel
theorem dX7_does_133 : decode cX7_does 133 = .ok (.aload_n 0, 1) := by decide +kernel
theorem dX7_does_134 : decode cX7_does 134 = .ok (.aload_n 0, 1) := by decide +kernel
theorem dX7_does_135 : decode cX7_does 135 = .ok (.getfield 134, 3) := by decide +kernel
theorem dX7_does_138 : decode cX7_does 138 = .ok (.invokevirtual 110, 3) := by decide +kernel
theorem dX7_does_141 : decode cX7_does 141 = .ok (.pop, 1) := by decide +kernel
theorem dX7_does_142 : decode cX7_does 142 = .ok (.iconst 1, 1) := by decide +kernel
theorem dX7_does_143 : decode cX7_does 143 = .ok (.ireturn, 1) := by decide +kernel
theorem dX7_does_144 : decode cX7_does 144 = .ok (.aload_n 0, 1) := by decide +kernel
theorem dX7_does_145 : decode cX7_does 145 = .ok (.aload_n 0, 1) := by decide +kernel
theorem dX7_does_146 : decode cX7_does 146 = .ok (.getfield 134, 3) := by decide +kernel
theorem dX7_does_149 : decode cX7_does 149 = .ok (.invokevirtual 80, 3) := by decide +kernel
theorem dX7_does_152 : decode cX7_does 152 = .ok (.istore_n 1, 1) := by decide +kernel
theorem dX7_does_153 : decode cX7_does 153 = .ok (.iload_n 1, 1) := by decide +kernel
theorem dX7_does_154 : decode cX7_does 154 = .ok (.ifCond .eq 16, 3) := by decide +kernel
theorem dX7_does_157 : decode cX7_does 157 = .ok (.aload_n 0, 1) := by decide +kernel
theorem dX7_does_158 : decode cX7_does 158 = .ok (.aload_n 0, 1) := by decide +kernel
theorem dX7_does_159 : decode cX7_does 159 = .ok (.getfield 134, 3) := by decide +kernel
theorem dX7_does_162 : decode cX7_does 162 = .ok (.aload_n 0, 1) := by decide +kernel
theorem dX7_does_163 : decode cX7_does 163 = .ok (.getfield 121, 3) := by decide +kernel
theorem dX7_does_166 : decode cX7_does 166 = .ok (.invokevirtual 84, 3) := by decide +kernel
theorem dX7_does_169 : decode cX7_does 169 = .ok (.pop, 1) := by decide +kernel
theorem dX7_does_170 : decode cX7_does 170 = .ok (.iload_n 1, 1) := by decide +kernel
theorem dX7_does_171 : decode cX7_does 171 = .ok (.ireturn, 1) := by decide +kernel
theorem dX7_runLog_0 : decode cX7_runLog 0 = .ok (.aload_n 0, 1) := by decide +kernel
theorem dX7_runLog_1 : decode cX7_runLog 1 = .ok (.aload_n 0, 1) := by decide +kernel
theorem dX7_runLog_2 : decode cX7_runLog 2 = .ok (.invokevirtual 144, 3) := by decide +kernel
theorem dX7_runLog_5 : decode cX7_runLog 5 = .ok (.iconst 1, 1) := by decide +kernel
theorem dX7_runLog_6 : decode cX7_runLog 6 = .ok (.iconst 1, 1) := by decide +kernel
theorem dX7_runLog_7 : decode cX7_runLog 7 = .ok (.invokevirtual 69, 3) := by decide +kernel
theorem dX7_runLog_10 : decode cX7_runLog 10 = .ok (.ifCond .ne 5, 3) := by decide +kernel
theorem dX7_runLog_13 : decode cX7_runLog 13 = .ok (.iconst 0, 1) := by decide +kernel
theorem dX7_runLog_14 : decode cX7_runLog 14 = .ok (.ireturn, 1) := by decide +kernel
theorem dX7_runLog_15 : decode cX7_runLog 15 = .ok (.aload_n 0, 1) := by decide +kernel
theorem dX7_runLog_16 : decode cX7_runLog 16 = .ok (.invokevirtual 73, 3) := by decide +kernel
theorem dX7_runLog_19 : decode cX7_runLog 19 = .ok (.iconst 0, 1) := by decide +kernel
theorem dX7_runLog_20 : decode cX7_runLog 20 = .ok (.istore_n 1, 1) := by decide +kernel
theorem dX7_runLog_21 : decode cX7_runLog 21 = .ok (.iconst 1, 1) := by decide +kernel
theorem dX7_runLog_22 : decode cX7_runLog 22 = .ok (.istore_n 2, 1) := by decide +kernel
theorem dX7_runLog_23 : decode cX7_runLog 23 = .ok (.aload_n 0, 1) := by decide +kernel
theorem dX7_runLog_24 : decode cX7_runLog 24 = .ok (.iconst 0, 1) := by decide +kernel
theorem dX7_runLog_25 : decode cX7_runLog 25 = .ok (.putfield 116, 3) := by decide +kernel
theorem dX7_runLog_28 : decode cX7_runLog 28 = .ok (.iload_n 2, 1) := by decide +kernel
theorem dX7_runLog_29 : decode cX7_runLog 29 = .ok (.ifCond .eq 49, 3) := by decide +kernel
theorem dX7_runLog_32 : decode cX7_runLog 32 = .ok (.aload_n 0, 1) := by decide +kernel
theorem dX7_runLog_33 : decode cX7_runLog 33 = .ok (.getfield 116, 3) := by decide +kernel
theorem dX7_runLog_36 : decode cX7_runLog 36 = .ok (.aload_n 0, 1) := by decide +kernel
theorem dX7_runLog_37 : decode cX7_runLog 37 = .ok (.getfield 113, 3) := by decide +kernel
theorem dX7_runLog_40 : decode cX7_runLog 40 = .ok (.if_icmp .ge 38, 3) := by decide +kernel
theorem dX7_runLog_43 : decode cX7_runLog 43 = .ok (.aload_n 0, 1) := by decide +kernel
theorem dX7_runLog_44 : decode cX7_runLog 44 = .ok (.invokevirtual 141, 3) := by decide +kernel
theorem dX7_runLog_47 : decode cX7_runLog 47 = .ok (.pop, 1) := by decide +kernel
theorem dX7_runLog_48 : decode cX7_runLog 48 = .ok (.aload_n 0, 1) := by decide +kernel
theorem dX7_runLog_49 : decode cX7_runLog 49 = .ok (.invokevirtual 147, 3) := by decide +kernel
theorem dX7_runLog_52 : decode cX7_runLog 52 = .ok (.istore_n 2, 1) := by decide +kernel
theorem dX7_runLog_53 : decode cX7_runLog 53 = .ok (.iload_n 1, 1) := by decide +kernel
theorem dX7_runLog_54 : decode cX7_runLog 54 = .ok (.iload_n 2, 1) := by decide +kernel
theorem dX7_runLog_55 : decode cX7_runLog 55 = .ok (.ifCond .eq 7, 3) := by decide +kernel
theorem dX7_runLog_58 : decode cX7_runLog 58 = .ok (.iconst 1, 1) := by decide +kernel
theorem dX7_runLog_59 : decode cX7_runLog 59 = .ok (.goto 4, 3) := by decide +kernel
theorem dX7_runLog_62 : decode cX7_runLog 62 = .ok (.iconst 0, 1) := by decide +kernel
theorem dX7_runLog_63 : decode cX7_runLog 63 = .ok (.iadd, 1) := by decide +kernel
theorem dX7_runLog_64 : decode cX7_runLog 64 = .ok (.istore_n 1, 1) := by decide +kernel
theorem dX7_runLog_65 : decode cX7_runLog 65 = .ok (.aload_n 0, 1) := by decide +kernel
theorem dX7_runLog_66 : decode cX7_runLog 66 = .ok (.dup, 1) := by decide +kernel
theorem dX7_runLog_67 : decode cX7_runLog 67 = .ok (.getfield 116, 3) := by decide +kernel
theorem dX7_runLog_70 : decode cX7_runLog 70 = .ok (.iconst 1, 1) := by decide +kernel
theorem dX7_runLog_71 : decode cX7_runLog 71 = .ok (.iadd, 1) := by decide +kernel
theorem dX7_runLog_72 : decode cX7_runLog 72 = .ok (.putfield 116, 3) := by decide +kernel
theorem dX7_runLog_75 : decode cX7_runLog 75 = .ok (.goto (-47), 3) := by decide +kernel
theorem dX7_runLog_78 : decode cX7_runLog 78 = .ok (.aload_n 0, 1) := by decide +kernel
theorem dX7_runLog_79 : decode cX7_runLog 79 = .ok (.iconst 0, 1) := by decide +kernel
theorem dX7_runLog_80 : decode cX7_runLog 80 = .ok (.putfield 113, 3) := by decide +kernel
theorem dX7_runLog_83 : decode cX7_runLog 83 = .ok (.iload_n 1, 1) := by decide +kernel
theorem dX7_runLog_84 : decode cX7_runLog 84 = .ok (.ireturn, 1) := by decide +kernel
theorem dX7_keep_0 : decode cX7_keep 0 = .ok (.aload_n 0, 1) := by decide +kernel
theorem dX7_keep_1 : decode cX7_keep 1 = .ok (.iconst 0, 1) := by decide +kernel
theorem dX7_keep_2 : decode cX7_keep 2 = .ok (.putfield 31, 3) := by decide +kernel
theorem dX7_keep_5 : decode cX7_keep 5 = .ok (.aload_n 0, 1) := by decide +kernel
theorem dX7_keep_6 : decode cX7_keep 6 = .ok (.iconst 0, 1) := by decide +kernel
theorem dX7_keep_7 : decode cX7_keep 7 = .ok (.bipush 7, 2) := by decide +kernel
theorem dX7_keep_9 : decode cX7_keep 9 = .ok (.invokevirtual 38, 3) := by decide +kernel
theorem dX7_keep_12 : decode cX7_keep 12 = .ok (.aload_n 0, 1) := by decide +kernel
theorem dX7_keep_13 : decode cX7_keep 13 = .ok (.iconst 1, 1) := by decide +kernel
theorem dX7_keep_14 : decode cX7_keep 14 = .ok (.putfield 150, 3) := by decide +kernel
theorem dX7_keep_17 : decode cX7_keep 17 = .ok (.aload_n 0, 1) := by decide +kernel
theorem dX7_keep_18 : decode cX7_keep 18 = .ok (.getfield 7, 3) := by decide +kernel
theorem dX7_keep_21 : decode cX7_keep 21 = .ok (.iconst 2, 1) := by decide +kernel
theorem dX7_keep_22 : decode cX7_keep 22 = .ok (.iaload, 1) := by decide +kernel
theorem dX7_keep_23 : decode cX7_keep 23 = .ok (.ireturn, 1) := by decide +kernel
theorem dX7_goBack_0 : decode cX7_goBack 0 = .ok (.aload_n 0, 1) := by decide +kernel
theorem dX7_goBack_1 : decode cX7_goBack 1 = .ok (.aload_n 0, 1) := by decide +kernel
theorem dX7_goBack_2 : decode cX7_goBack 2 = .ok (.getfield 150, 3) := by decide +kernel
theorem dX7_goBack_5 : decode cX7_goBack 5 = .ok (.iconst 1, 1) := by decide +kernel
theorem dX7_goBack_6 : decode cX7_goBack 6 = .ok (.iconst 1, 1) := by decide +kernel
theorem dX7_goBack_7 : decode cX7_goBack 7 = .ok (.invokevirtual 69, 3) := by decide +kernel
theorem dX7_goBack_10 : decode cX7_goBack 10 = .ok (.ifCond .ne 5, 3) := by decide +kernel
theorem dX7_goBack_13 : decode cX7_goBack 13 = .ok (.iconst 0, 1) := by decide +kernel
theorem dX7_goBack_14 : decode cX7_goBack 14 = .ok (.ireturn, 1) := by decide +kernel
theorem dX7_goBack_15 : decode cX7_goBack 15 = .ok (.aload_n 0, 1) := by decide +kernel
theorem dX7_goBack_16 : decode cX7_goBack 16 = .ok (.invokevirtual 73, 3) := by decide +kernel
theorem dX7_goBack_19 : decode cX7_goBack 19 = .ok (.aload_n 0, 1) := by decide +kernel
theorem dX7_goBack_20 : decode cX7_goBack 20 = .ok (.bipush 7, 2) := by decide +kernel
theorem dX7_goBack_22 : decode cX7_goBack 22 = .ok (.iconst 0, 1) := by decide +kernel
theorem dX7_goBack_23 : decode cX7_goBack 23 = .ok (.invokevirtual 38, 3) := by decide +kernel
theorem dX7_goBack_26 : decode cX7_goBack 26 = .ok (.aload_n 0, 1) := by decide +kernel
theorem dX7_goBack_27 : decode cX7_goBack 27 = .ok (.getfield 7, 3) := by decide +kernel
theorem dX7_goBack_30 : decode cX7_goBack 30 = .ok (.iconst 2, 1) := by decide +kernel
theorem dX7_goBack_31 : decode cX7_goBack 31 = .ok (.iaload, 1) := by decide +kernel
theorem dX7_goBack_32 : decode cX7_goBack 32 = .ok (.ireturn, 1) := by decide +kernel
theorem dX7_undo_0 : decode cX7_undo 0 = .ok (.aload_n 0, 1) := by decide +kernel
theorem dX7_undo_1 : decode cX7_undo 1 = .ok (.aload_n 0, 1) := by decide +kernel
theorem dX7_undo_2 : decode cX7_undo 2 = .ok (.getfield 35, 3) := by decide +kernel
theorem dX7_undo_5 : decode cX7_undo 5 = .ok (.ifCond .le 7, 3) := by decide +kernel
theorem dX7_undo_8 : decode cX7_undo 8 = .ok (.iconst 1, 1) := by decide +kernel
theorem dX7_undo_9 : decode cX7_undo 9 = .ok (.goto 4, 3) := by decide +kernel
theorem dX7_undo_12 : decode cX7_undo 12 = .ok (.iconst 0, 1) := by decide +kernel
theorem dX7_undo_13 : decode cX7_undo 13 = .ok (.iconst 1, 1) := by decide +kernel
theorem dX7_undo_14 : decode cX7_undo 14 = .ok (.iconst 1, 1) := by decide +kernel
theorem dX7_undo_15 : decode cX7_undo 15 = .ok (.invokevirtual 69, 3) := by decide +kernel
theorem dX7_undo_18 : decode cX7_undo 18 = .ok (.ifCond .ne 5, 3) := by decide +kernel
theorem dX7_undo_21 : decode cX7_undo 21 = .ok (.iconst 0, 1) := by decide +kernel
theorem dX7_undo_22 : decode cX7_undo 22 = .ok (.ireturn, 1) := by decide +kernel
theorem dX7_undo_23 : decode cX7_undo 23 = .ok (.aload_n 0, 1) := by decide +kernel
theorem dX7_undo_24 : decode cX7_undo 24 = .ok (.aload_n 0, 1) := by decide +kernel
theorem dX7_undo_25 : decode cX7_undo 25 = .ok (.getfield 35, 3) := by decide +kernel
theorem dX7_undo_28 : decode cX7_undo 28 = .ok (.iconst 0, 1) := by decide +kernel
theorem dX7_undo_29 : decode cX7_undo 29 = .ok (.invokevirtual 38, 3) := by decide +kernel
theorem dX7_undo_32 : decode cX7_undo 32 = .ok (.aload_n 0, 1) := by decide +kernel
theorem dX7_undo_33 : decode cX7_undo 33 = .ok (.dup, 1) := by decide +kernel
theorem dX7_undo_34 : decode cX7_undo 34 = .ok (.getfield 35, 3) := by decide +kernel
theorem dX7_undo_37 : decode cX7_undo 37 = .ok (.iconst 1, 1) := by decide +kernel
theorem dX7_undo_38 : decode cX7_undo 38 = .ok (.isub, 1) := by decide +kernel
theorem dX7_undo_39 : decode cX7_undo 39 = .ok (.putfield 35, 3) := by decide +kernel
theorem dX7_undo_42 : decode cX7_undo 42 = .ok (.aload_n 0, 1) := by decide +kernel
theorem dX7_undo_43 : decode cX7_undo 43 = .ok (.getfield 35, 3) := by decide +kernel
theorem dX7_undo_46 : decode cX7_undo 46 = .ok (.ireturn, 1) := by decide +kernel
theorem dX7_rules_0 : decode cX7_rules 0 = .ok (.aload_n 0, 1) := by decide +kernel
theorem dX7_rules_1 : decode cX7_rules 1 = .ok (.iconst 0, 1) := by decide +kernel
theorem dX7_rules_2 : decode cX7_rules 2 = .ok (.putfield 31, 3) := by decide +kernel
theorem dX7_rules_5 : decode cX7_rules 5 = .ok (.aload_n 0, 1) := by decide +kernel
theorem dX7_rules_6 : decode cX7_rules 6 = .ok (.getfield 7, 3) := by decide +kernel
theorem dX7_rules_9 : decode cX7_rules 9 = .ok (.iconst 0, 1) := by decide +kernel
theorem dX7_rules_10 : decode cX7_rules 10 = .ok (.iaload, 1) := by decide +kernel
theorem dX7_rules_11 : decode cX7_rules 11 = .ok (.ireturn, 1) := by decide +kernel
theorem dX7_of_0 : decode cX7_of 0 = .ok (.aload_n 0, 1) := by decide +kernel
theorem dX7_of_1 : decode cX7_of 1 = .ok (.aload_n 0, 1) := by decide +kernel
theorem dX7_of_2 : decode cX7_of 2 = .ok (.iload_n 1, 1) := by decide +kernel
theorem dX7_of_3 : decode cX7_of 3 = .ok (.invokevirtual 80, 3) := by decide +kernel
theorem dX7_of_6 : decode cX7_of 6 = .ok (.iconst 1, 1) := by decide +kernel
theorem dX7_of_7 : decode cX7_of 7 = .ok (.iconst 1, 1) := by decide +kernel
theorem dX7_of_8 : decode cX7_of 8 = .ok (.invokevirtual 69, 3) := by decide +kernel
theorem dX7_of_11 : decode cX7_of 11 = .ok (.ifCond .eq 17, 3) := by decide +kernel
theorem dX7_of_14 : decode cX7_of 14 = .ok (.aload_n 0, 1) := by decide +kernel
theorem dX7_of_15 : decode cX7_of 15 = .ok (.getfield 7, 3) := by decide +kernel
theorem dX7_of_18 : decode cX7_of 18 = .ok (.iload_n 1, 1) := by decide +kernel
theorem dX7_of_19 : decode cX7_of 19 = .ok (.invokestatic 52, 3) := by decide +kernel
theorem dX7_of_22 : decode cX7_of 22 = .ok (.iload_n 2, 1) := by decide +kernel
theorem dX7_of_23 : decode cX7_of 23 = .ok (.iadd, 1) := by decide +kernel
theorem dX7_of_24 : decode cX7_of 24 = .ok (.iaload, 1) := by decide +kernel
theorem dX7_of_25 : decode cX7_of 25 = .ok (.goto 4, 3) := by decide +kernel
theorem dX7_of_28 : decode cX7_of 28 = .ok (.iconst 0, 1) := by decide +kernel
theorem dX7_of_29 : decode cX7_of 29 = .ok (.ireturn, 1) := by decide +kernel
theorem dX7_shouldBeLet_0 : decode cX7_shouldBeLet 0 = .ok (.aload_n 0, 1) := by decide +kernel
theorem dX7_shouldBeLet_1 : decode cX7_shouldBeLet 1 = .ok (.iload_n 1, 1) := by decide +kernel
theorem dX7_shouldBeLet_2 : decode cX7_shouldBeLet 2 = .ok (.iconst 0, 1) := by decide +kernel
theorem dX7_shouldBeLet_3 : decode cX7_shouldBeLet 3 = .ok (.invokevirtual 154, 3) := by decide +kernel
theorem dX7_shouldBeLet_6 : decode cX7_shouldBeLet 6 = .ok (.ireturn, 1) := by decide +kernel
theorem dX7_shouldBeEmpty_0 : decode cX7_shouldBeEmpty 0 = .ok (.aload_n 0, 1) := by decide +kernel
theorem dX7_shouldBeEmpty_1 : decode cX7_shouldBeEmpty 1 = .ok (.iload_n 1, 1) := by decide +kernel
theorem dX7_shouldBeEmpty_2 : decode cX7_shouldBeEmpty 2 = .ok (.iconst 1, 1) := by decide +kernel
theorem dX7_shouldBeEmpty_3 : decode cX7_shouldBeEmpty 3 = .ok (.invokevirtual 154, 3) := by decide +kernel
theorem dX7_shouldBeEmpty_6 : decode cX7_shouldBeEmpty 6 = .ok (.ireturn, 1) := by decide +kernel
theorem dX7_fine_0 : decode cX7_fine 0 = .ok (.aload_n 0, 1) := by decide +kernel
theorem dX7_fine_1 : decode cX7_fine 1 = .ok (.iload_n 1, 1) := by decide +kernel
theorem dX7_fine_2 : decode cX7_fine 2 = .ok (.iconst 2, 1) := by decide +kernel
theorem dX7_fine_3 : decode cX7_fine 3 = .ok (.invokevirtual 154, 3) := by decide +kernel
theorem dX7_fine_6 : decode cX7_fine 6 = .ok (.ireturn, 1) := by decide +kernel
theorem dX7_isStrict_0 : decode cX7_isStrict 0 = .ok (.aload_n 0, 1) := by decide +kernel
theorem dX7_isStrict_1 : decode cX7_isStrict 1 = .ok (.iload_n 1, 1) := by decide +kernel
theorem dX7_isStrict_2 : decode cX7_isStrict 2 = .ok (.iconst 3, 1) := by decide +kernel
theorem dX7_isStrict_3 : decode cX7_isStrict 3 = .ok (.invokevirtual 154, 3) := by decide +kernel
theorem dX7_isStrict_6 : decode cX7_isStrict 6 = .ok (.iconst 1, 1) := by decide +kernel
theorem dX7_isStrict_7 : decode cX7_isStrict 7 = .ok (.if_icmp .ne 7, 3) := by decide +kernel
theorem dX7_isStrict_10 : decode cX7_isStrict 10 = .ok (.iconst 1, 1) := by decide +kernel
theorem dX7_isStrict_11 : decode cX7_isStrict 11 = .ok (.goto 4, 3) := by decide +kernel
theorem dX7_isStrict_14 : decode cX7_isStrict 14 = .ok (.iconst 0, 1) := by decide +kernel
theorem dX7_isStrict_15 : decode cX7_isStrict 15 = .ok (.ireturn, 1) := by decide +kernel
theorem dX7_waived_0 : decode cX7_waived 0 = .ok (.aload_n 0, 1) := by decide +kernel
theorem dX7_waived_1 : decode cX7_waived 1 = .ok (.getfield 7, 3) := by decide +kernel
theorem dX7_waived_4 : decode cX7_waived 4 = .ok (.iload_n 1, 1) := by decide +kernel
theorem dX7_waived_5 : decode cX7_waived 5 = .ok (.invokestatic 52, 3) := by decide +kernel
theorem dX7_waived_8 : decode cX7_waived 8 = .ok (.iconst 4, 1) := by decide +kernel
theorem dX7_waived_9 : decode cX7_waived 9 = .ok (.iadd, 1) := by decide +kernel
theorem dX7_waived_10 : decode cX7_waived 10 = .ok (.iaload, 1) := by decide +kernel
theorem dX7_waived_11 : decode cX7_waived 11 = .ok (.aload_n 0, 1) := by decide +kernel
theorem dX7_waived_12 : decode cX7_waived 12 = .ok (.getfield 7, 3) := by decide +kernel
theorem dX7_waived_15 : decode cX7_waived 15 = .ok (.iconst 2, 1) := by decide +kernel
theorem dX7_waived_16 : decode cX7_waived 16 = .ok (.iaload, 1) := by decide +kernel
theorem dX7_waived_17 : decode cX7_waived 17 = .ok (.isub, 1) := by decide +kernel
theorem dX7_waived_18 : decode cX7_waived 18 = .ok (.istore_n 2, 1) := by decide +kernel
theorem dX7_waived_19 : decode cX7_waived 19 = .ok (.iload_n 2, 1) := by decide +kernel
theorem dX7_waived_20 : decode cX7_waived 20 = .ok (.ifCond .le 7, 3) := by decide +kernel
theorem dX7_waived_23 : decode cX7_waived 23 = .ok (.iload_n 2, 1) := by decide +kernel
theorem dX7_waived_24 : decode cX7_waived 24 = .ok (.goto 4, 3) := by decide +kernel
theorem dX7_waived_27 : decode cX7_waived 27 = .ok (.iconst 0, 1) := by decide +kernel
theorem dX7_waived_28 : decode cX7_waived 28 = .ok (.ireturn, 1) := by decide +kernel
theorem dX7_waivedFor_0 : decode cX7_waivedFor 0 = .ok (.aload_n 0, 1) := by decide +kernel
theorem dX7_waivedFor_1 : decode cX7_waivedFor 1 = .ok (.aload_n 0, 1) := by decide +kernel
theorem dX7_waivedFor_2 : decode cX7_waivedFor 2 = .ok (.iload_n 1, 1) := by decide +kernel
theorem dX7_waivedFor_3 : decode cX7_waivedFor 3 = .ok (.invokevirtual 80, 3) := by decide +kernel
theorem dX7_waivedFor_6 : decode cX7_waivedFor 6 = .ok (.iconst 1, 1) := by decide +kernel
theorem dX7_waivedFor_7 : decode cX7_waivedFor 7 = .ok (.iconst 1, 1) := by decide +kernel
theorem dX7_waivedFor_8 : decode cX7_waivedFor 8 = .ok (.invokevirtual 69, 3) := by decide +kernel
theorem dX7_waivedFor_11 : decode cX7_waivedFor 11 = .ok (.ifCond .eq 11, 3) := by decide +kernel
theorem dX7_waivedFor_14 : decode cX7_waivedFor 14 = .ok (.aload_n 0, 1) := by decide +kernel
theorem dX7_waivedFor_15 : decode cX7_waivedFor 15 = .ok (.iload_n 1, 1) := by decide +kernel
theorem dX7_waivedFor_16 : decode cX7_waivedFor 16 = .ok (.invokevirtual 157, 3) := by decide +kernel
theorem dX7_waivedFor_19 : decode cX7_waivedFor 19 = .ok (.goto 4, 3) := by decide +kernel
theorem dX7_waivedFor_22 : decode cX7_waivedFor 22 = .ok (.iconst 0, 1) := by decide +kernel
theorem dX7_waivedFor_23 : decode cX7_waivedFor 23 = .ok (.ireturn, 1) := by decide +kernel
theorem dX7_holdsIn_0 : decode cX7_holdsIn 0 = .ok (.aload_n 0, 1) := by decide +kernel
theorem dX7_holdsIn_1 : decode cX7_holdsIn 1 = .ok (.aload_n 0, 1) := by decide +kernel
theorem dX7_holdsIn_2 : decode cX7_holdsIn 2 = .ok (.iload_n 1, 1) := by decide +kernel
theorem dX7_holdsIn_3 : decode cX7_holdsIn 3 = .ok (.invokevirtual 80, 3) := by decide +kernel
theorem dX7_holdsIn_6 : decode cX7_holdsIn 6 = .ok (.iload_n 2, 1) := by decide +kernel
theorem dX7_holdsIn_7 : decode cX7_holdsIn 7 = .ok (.iconst 0, 1) := by decide +kernel
theorem dX7_holdsIn_8 : decode cX7_holdsIn 8 = .ok (.bipush 63, 2) := by decide +kernel
theorem dX7_holdsIn_10 : decode cX7_holdsIn 10 = .ok (.invokestatic 42, 3) := by decide +kernel
theorem dX7_holdsIn_13 : decode cX7_holdsIn 13 = .ok (.iconst 1, 1) := by decide +kernel
theorem dX7_holdsIn_14 : decode cX7_holdsIn 14 = .ok (.invokevirtual 69, 3) := by decide +kernel
theorem dX7_holdsIn_17 : decode cX7_holdsIn 17 = .ok (.ifCond .eq 16, 3) := by decide +kernel
theorem dX7_holdsIn_20 : decode cX7_holdsIn 20 = .ok (.aload_n 0, 1) := by decide +kernel
theorem dX7_holdsIn_21 : decode cX7_holdsIn 21 = .ok (.iload_n 1, 1) := by decide +kernel
theorem dX7_holdsIn_22 : decode cX7_holdsIn 22 = .ok (.iload_n 2, 1) := by decide +kernel
theorem dX7_holdsIn_23 : decode cX7_holdsIn 23 = .ok (.invokevirtual 63, 3) := by decide +kernel
theorem dX7_holdsIn_26 : decode cX7_holdsIn 26 = .ok (.ifCond .eq 7, 3) := by decide +kernel
theorem dX7_holdsIn_29 : decode cX7_holdsIn 29 = .ok (.iconst 1, 1) := by decide +kernel
theorem dX7_holdsIn_30 : decode cX7_holdsIn 30 = .ok (.goto 4, 3) := by decide +kernel
theorem dX7_holdsIn_33 : decode cX7_holdsIn 33 = .ok (.iconst 0, 1) := by decide +kernel
theorem dX7_holdsIn_34 : decode cX7_holdsIn 34 = .ok (.ireturn, 1) := by decide +kernel
theorem dX7_way_0 : decode cX7_way 0 = .ok (.aload_n 0, 1) := by decide +kernel
theorem dX7_way_1 : decode cX7_way 1 = .ok (.iconst 0, 1) := by decide +kernel
theorem dX7_way_2 : decode cX7_way 2 = .ok (.putfield 31, 3) := by decide +kernel
theorem dX7_way_5 : decode cX7_way 5 = .ok (.aload_n 0, 1) := by decide +kernel
theorem dX7_way_6 : decode cX7_way 6 = .ok (.getfield 7, 3) := by decide +kernel
theorem dX7_way_9 : decode cX7_way 9 = .ok (.iconst 1, 1) := by decide +kernel
theorem dX7_way_10 : decode cX7_way 10 = .ok (.iaload, 1) := by decide +kernel
theorem dX7_way_11 : decode cX7_way 11 = .ok (.ireturn, 1) := by decide +kernel
theorem dX7_day_0 : decode cX7_day 0 = .ok (.aload_n 0, 1) := by decide +kernel
theorem dX7_day_1 : decode cX7_day 1 = .ok (.iconst 0, 1) := by decide +kernel
theorem dX7_day_2 : decode cX7_day 2 = .ok (.putfield 31, 3) := by decide +kernel
theorem dX7_day_5 : decode cX7_day 5 = .ok (.aload_n 0, 1) := by decide +kernel
theorem dX7_day_6 : decode cX7_day 6 = .ok (.getfield 7, 3) := by decide +kernel
theorem dX7_day_9 : decode cX7_day 9 = .ok (.iconst 2, 1) := by decide +kernel
theorem dX7_day_10 : decode cX7_day 10 = .ok (.iaload, 1) := by decide +kernel
theorem dX7_day_11 : decode cX7_day 11 = .ok (.ireturn, 1) := by decide +kernel
theorem dX7_inForce_0 : decode cX7_inForce 0 = .ok (.aload_n 0, 1) := by decide +kernel
theorem dX7_inForce_1 : decode cX7_inForce 1 = .ok (.iconst 0, 1) := by decide +kernel
theorem dX7_inForce_2 : decode cX7_inForce 2 = .ok (.putfield 31, 3) := by decide +kernel
theorem dX7_inForce_5 : decode cX7_inForce 5 = .ok (.aload_n 0, 1) := by decide +kernel
theorem dX7_inForce_6 : decode cX7_inForce 6 = .ok (.invokevirtual 160, 3) := by decide +kernel
theorem dX7_inForce_9 : decode cX7_inForce 9 = .ok (.ireturn, 1) := by decide +kernel
theorem dX7_broken_0 : decode cX7_broken 0 = .ok (.aload_n 0, 1) := by decide +kernel
theorem dX7_broken_1 : decode cX7_broken 1 = .ok (.iconst 0, 1) := by decide +kernel
theorem dX7_broken_2 : decode cX7_broken 2 = .ok (.putfield 31, 3) := by decide +kernel
theorem dX7_broken_5 : decode cX7_broken 5 = .ok (.aload_n 0, 1) := by decide +kernel
theorem dX7_broken_6 : decode cX7_broken 6 = .ok (.aload_n 0, 1) := by decide +kernel
theorem dX7_broken_7 : decode cX7_broken 7 = .ok (.getfield 7, 3) := by decide +kernel
theorem dX7_broken_10 : decode cX7_broken 10 = .ok (.iconst 1, 1) := by decide +kernel
theorem dX7_broken_11 : decode cX7_broken 11 = .ok (.iaload, 1) := by decide +kernel
theorem dX7_broken_12 : decode cX7_broken 12 = .ok (.invokevirtual 104, 3) := by decide +kernel
theorem dX7_broken_15 : decode cX7_broken 15 = .ok (.ireturn, 1) := by decide +kernel
theorem dX7_refusedBy_0 : decode cX7_refusedBy 0 = .ok (.aload_n 0, 1) := by decide +kernel
theorem dX7_refusedBy_1 : decode cX7_refusedBy 1 = .ok (.iload_n 1, 1) := by decide +kernel
theorem dX7_refusedBy_2 : decode cX7_refusedBy 2 = .ok (.invokestatic 88, 3) := by decide +kernel
theorem dX7_refusedBy_5 : decode cX7_refusedBy 5 = .ok (.iconst 1, 1) := by decide +kernel
theorem dX7_refusedBy_6 : decode cX7_refusedBy 6 = .ok (.iconst 1, 1) := by decide +kernel
theorem dX7_refusedBy_7 : decode cX7_refusedBy 7 = .ok (.invokevirtual 69, 3) := by decide +kernel
theorem dX7_refusedBy_10 : decode cX7_refusedBy 10 = .ok (.ifCond .eq 11, 3) := by decide +kernel
theorem dX7_refusedBy_13 : decode cX7_refusedBy 13 = .ok (.aload_n 0, 1) := by decide +kernel
theorem dX7_refusedBy_14 : decode cX7_refusedBy 14 = .ok (.iload_n 1, 1) := by decide +kernel
theorem dX7_refusedBy_15 : decode cX7_refusedBy 15 = .ok (.invokevirtual 94, 3) := by decide +kernel
theorem dX7_refusedBy_18 : decode cX7_refusedBy 18 = .ok (.goto 4, 3) := by decide +kernel
theorem dX7_refusedBy_21 : decode cX7_refusedBy 21 = .ok (.iconst 0, 1) := by decide +kernel
theorem dX7_refusedBy_22 : decode cX7_refusedBy 22 = .ok (.ireturn, 1) := by decide +kernel
theorem dX7_finesOf_0 : decode cX7_finesOf 0 = .ok (.aload_n 0, 1) := by decide +kernel
theorem dX7_finesOf_1 : decode cX7_finesOf 1 = .ok (.iload_n 1, 1) := by decide +kernel
theorem dX7_finesOf_2 : decode cX7_finesOf 2 = .ok (.iconst 5, 1) := by decide +kernel
theorem dX7_finesOf_3 : decode cX7_finesOf 3 = .ok (.invokevirtual 154, 3) := by decide +kernel
theorem dX7_finesOf_6 : decode cX7_finesOf 6 = .ok (.ireturn, 1) := by decide +kernel
theorem dX7_fines_0 : decode cX7_fines 0 = .ok (.aload_n 0, 1) := by decide +kernel
theorem dX7_fines_1 : decode cX7_fines 1 = .ok (.iconst 0, 1) := by decide +kernel
theorem dX7_fines_2 : decode cX7_fines 2 = .ok (.putfield 31, 3) := by decide +kernel
theorem dX7_fines_5 : decode cX7_fines 5 = .ok (.aload_n 0, 1) := by decide +kernel
theorem dX7_fines_6 : decode cX7_fines 6 = .ok (.getfield 7, 3) := by decide +kernel
theorem dX7_fines_9 : decode cX7_fines 9 = .ok (.iconst 3, 1) := by decide +kernel
theorem dX7_fines_10 : decode cX7_fines 10 = .ok (.iaload, 1) := by decide +kernel
theorem dX7_fines_11 : decode cX7_fines 11 = .ok (.ireturn, 1) := by decide +kernel
theorem dX7_sumOfRules_0 : decode cX7_sumOfRules 0 = .ok (.aload_n 0, 1) := by decide +kernel
theorem dX7_sumOfRules_1 : decode cX7_sumOfRules 1 = .ok (.getfield 7, 3) := by decide +kernel
theorem dX7_sumOfRules_4 : decode cX7_sumOfRules 4 = .ok (.iconst 4, 1) := by decide +kernel
theorem dX7_sumOfRules_5 : decode cX7_sumOfRules 5 = .ok (.iaload, 1) := by decide +kernel
theorem dX7_sumOfRules_6 : decode cX7_sumOfRules 6 = .ok (.istore_n 1, 1) := by decide +kernel
theorem dX7_sumOfRules_7 : decode cX7_sumOfRules 7 = .ok (.iconst 0, 1) := by decide +kernel
theorem dX7_sumOfRules_8 : decode cX7_sumOfRules 8 = .ok (.istore_n 2, 1) := by decide +kernel
theorem dX7_sumOfRules_9 : decode cX7_sumOfRules 9 = .ok (.iload_n 2, 1) := by decide +kernel
theorem dX7_sumOfRules_10 : decode cX7_sumOfRules 10 = .ok (.aload_n 0, 1) := by decide +kernel
theorem dX7_sumOfRules_11 : decode cX7_sumOfRules 11 = .ok (.getfield 7, 3) := by decide +kernel
theorem dX7_sumOfRules_14 : decode cX7_sumOfRules 14 = .ok (.iconst 0, 1) := by decide +kernel
theorem dX7_sumOfRules_15 : decode cX7_sumOfRules 15 = .ok (.iaload, 1) := by decide +kernel
theorem dX7_sumOfRules_16 : decode cX7_sumOfRules 16 = .ok (.if_icmp .ge 23, 3) := by decide +kernel
theorem dX7_sumOfRules_19 : decode cX7_sumOfRules 19 = .ok (.iload_n 1, 1) := by decide +kernel
theorem dX7_sumOfRules_20 : decode cX7_sumOfRules 20 = .ok (.aload_n 0, 1) := by decide +kernel
theorem dX7_sumOfRules_21 : decode cX7_sumOfRules 21 = .ok (.getfield 7, 3) := by decide +kernel
theorem dX7_sumOfRules_24 : decode cX7_sumOfRules 24 = .ok (.iload_n 2, 1) := by decide +kernel
theorem dX7_sumOfRules_25 : decode cX7_sumOfRules 25 = .ok (.invokestatic 52, 3) := by decide +kernel
theorem dX7_sumOfRules_28 : decode cX7_sumOfRules 28 = .ok (.iconst 5, 1) := by decide +kernel
theorem dX7_sumOfRules_29 : decode cX7_sumOfRules 29 = .ok (.iadd, 1) := by decide +kernel
theorem dX7_sumOfRules_30 : decode cX7_sumOfRules 30 = .ok (.iaload, 1) := by decide +kernel
theorem dX7_sumOfRules_31 : decode cX7_sumOfRules 31 = .ok (.iadd, 1) := by decide +kernel
theorem dX7_sumOfRules_32 : decode cX7_sumOfRules 32 = .ok (.istore_n 1, 1) := by decide +kernel
theorem dX7_sumOfRules_33 : decode cX7_sumOfRules 33 = .ok (.iinc 2 1, 3) := by decide +kernel
theorem dX7_sumOfRules_36 : decode cX7_sumOfRules 36 = .ok (.goto (-27), 3) := by decide +kernel
theorem dX7_sumOfRules_39 : decode cX7_sumOfRules 39 = .ok (.iload_n 1, 1) := by decide +kernel
theorem dX7_sumOfRules_40 : decode cX7_sumOfRules 40 = .ok (.ireturn, 1) := by decide +kernel
theorem dX7_finesByRules_0 : decode cX7_finesByRules 0 = .ok (.aload_n 0, 1) := by decide +kernel
theorem dX7_finesByRules_1 : decode cX7_finesByRules 1 = .ok (.iconst 0, 1) := by decide +kernel
theorem dX7_finesByRules_2 : decode cX7_finesByRules 2 = .ok (.putfield 31, 3) := by decide +kernel
theorem dX7_finesByRules_5 : decode cX7_finesByRules 5 = .ok (.aload_n 0, 1) := by decide +kernel
theorem dX7_finesByRules_6 : decode cX7_finesByRules 6 = .ok (.invokevirtual 164, 3) := by decide +kernel
theorem dX7_finesByRules_9 : decode cX7_finesByRules 9 = .ok (.ireturn, 1) := by decide +kernel
theorem dX7_areRules_0 : decode cX7_areRules 0 = .ok (.iload_n 1, 1) := by decide +kernel
theorem dX7_areRules_1 : decode cX7_areRules 1 = .ok (.ifCond .lt 19, 3) := by decide +kernel
theorem dX7_areRules_4 : decode cX7_areRules 4 = .ok (.iload_n 1, 1) := by decide +kernel
theorem dX7_areRules_5 : decode cX7_areRules 5 = .ok (.iconst 1, 1) := by decide +kernel
theorem dX7_areRules_6 : decode cX7_areRules 6 = .ok (.aload_n 0, 1) := by decide +kernel
theorem dX7_areRules_7 : decode cX7_areRules 7 = .ok (.getfield 7, 3) := by decide +kernel
theorem dX7_areRules_10 : decode cX7_areRules 10 = .ok (.iconst 0, 1) := by decide +kernel
theorem dX7_areRules_11 : decode cX7_areRules 11 = .ok (.iaload, 1) := by decide +kernel
theorem dX7_areRules_12 : decode cX7_areRules 12 = .ok (.ishl, 1) := by decide +kernel
theorem dX7_areRules_13 : decode cX7_areRules 13 = .ok (.if_icmp .ge 7, 3) := by decide +kernel
theorem dX7_areRules_16 : decode cX7_areRules 16 = .ok (.iconst 1, 1) := by decide +kernel
theorem dX7_areRules_17 : decode cX7_areRules 17 = .ok (.goto 4, 3) := by decide +kernel
theorem dX7_areRules_20 : decode cX7_areRules 20 = .ok (.iconst 0, 1) := by decide +kernel
theorem dX7_areRules_21 : decode cX7_areRules 21 = .ok (.ireturn, 1) := by decide +kernel
theorem dX7_stands_0 : decode cX7_stands 0 = .ok (.aload_n 0, 1) := by decide +kernel
theorem dX7_stands_1 : decode cX7_stands 1 = .ok (.invokevirtual 167, 3) := by decide +kernel
theorem dX7_stands_4 : decode cX7_stands 4 = .ok (.aload_n 0, 1) := by decide +kernel
theorem dX7_stands_5 : decode cX7_stands 5 = .ok (.iload_n 1, 1) := by decide +kernel
theorem dX7_stands_6 : decode cX7_stands 6 = .ok (.invokevirtual 170, 3) := by decide +kernel
theorem dX7_stands_9 : decode cX7_stands 9 = .ok (.lconst 0, 1) := by decide +kernel
theorem dX7_stands_10 : decode cX7_stands 10 = .ok (.lcmp, 1) := by decide +kernel
theorem dX7_stands_11 : decode cX7_stands 11 = .ok (.ifCond .eq 7, 3) := by decide +kernel
theorem dX7_stands_14 : decode cX7_stands 14 = .ok (.iconst 1, 1) := by decide +kernel
theorem dX7_stands_15 : decode cX7_stands 15 = .ok (.goto 4, 3) := by decide +kernel
theorem dX7_stands_18 : decode cX7_stands 18 = .ok (.iconst 0, 1) := by decide +kernel
theorem dX7_stands_19 : decode cX7_stands 19 = .ok (.ireturn, 1) := by decide +kernel
theorem dX7_splits_0 : decode cX7_splits 0 = .ok (.iconst 0, 1) := by decide +kernel
theorem dX7_splits_1 : decode cX7_splits 1 = .ok (.istore_n 2, 1) := by decide +kernel
theorem dX7_splits_2 : decode cX7_splits 2 = .ok (.iconst 0, 1) := by decide +kernel
theorem dX7_splits_3 : decode cX7_splits 3 = .ok (.istore_n 3, 1) := by decide +kernel
theorem dX7_splits_4 : decode cX7_splits 4 = .ok (.iload_n 3, 1) := by decide +kernel
theorem dX7_splits_5 : decode cX7_splits 5 = .ok (.bipush 64, 2) := by decide +kernel
theorem dX7_splits_7 : decode cX7_splits 7 = .ok (.if_icmp .ge 70, 3) := by decide +kernel
theorem dX7_splits_10 : decode cX7_splits 10 = .ok (.iload_n 2, 1) := by decide +kernel
theorem dX7_splits_11 : decode cX7_splits 11 = .ok (.ifCond .ne 66, 3) := by decide +kernel
theorem dX7_splits_14 : decode cX7_splits 14 = .ok (.iconst 1, 1) := by decide +kernel
theorem dX7_splits_15 : decode cX7_splits 15 = .ok (.istore 4, 2) := by decide +kernel
theorem dX7_splits_17 : decode cX7_splits 17 = .ok (.iconst 0, 1) := by decide +kernel
theorem dX7_splits_18 : decode cX7_splits 18 = .ok (.istore 5, 2) := by decide +kernel
theorem dX7_splits_20 : decode cX7_splits 20 = .ok (.iload 5, 2) := by decide +kernel
theorem dX7_splits_22 : decode cX7_splits 22 = .ok (.aload_n 0, 1) := by decide +kernel
theorem dX7_splits_23 : decode cX7_splits 23 = .ok (.getfield 7, 3) := by decide +kernel
theorem dX7_splits_26 : decode cX7_splits 26 = .ok (.iconst 0, 1) := by decide +kernel
theorem dX7_splits_27 : decode cX7_splits 27 = .ok (.iaload, 1) := by decide +kernel
theorem dX7_splits_28 : decode cX7_splits 28 = .ok (.if_icmp .ge 40, 3) := by decide +kernel
theorem dX7_splits_31 : decode cX7_splits 31 = .ok (.iload 4, 2) := by decide +kernel
theorem dX7_splits_33 : decode cX7_splits 33 = .ok (.ifCond .eq 26, 3) := by decide +kernel
theorem dX7_splits_36 : decode cX7_splits 36 = .ok (.iload_n 1, 1) := by decide +kernel
theorem dX7_splits_37 : decode cX7_splits 37 = .ok (.iload 5, 2) := by decide +kernel
theorem dX7_splits_39 : decode cX7_splits 39 = .ok (.invokestatic 46, 3) := by decide +kernel
theorem dX7_splits_42 : decode cX7_splits 42 = .ok (.ifCond .eq 13, 3) := by decide +kernel
theorem dX7_splits_45 : decode cX7_splits 45 = .ok (.aload_n 0, 1) := by decide +kernel
theorem dX7_splits_46 : decode cX7_splits 46 = .ok (.iload 5, 2) := by decide +kernel
theorem dX7_splits_48 : decode cX7_splits 48 = .ok (.iload_n 3, 1) := by decide +kernel
theorem dX7_splits_49 : decode cX7_splits 49 = .ok (.invokevirtual 63, 3) := by decide +kernel
theorem dX7_splits_52 : decode cX7_splits 52 = .ok (.ifCond .eq 7, 3) := by decide +kernel
theorem dX7_splits_55 : decode cX7_splits 55 = .ok (.iconst 1, 1) := by decide +kernel
theorem dX7_splits_56 : decode cX7_splits 56 = .ok (.goto 4, 3) := by decide +kernel
theorem dX7_splits_59 : decode cX7_splits 59 = .ok (.iconst 0, 1) := by decide +kernel
theorem dX7_splits_60 : decode cX7_splits 60 = .ok (.istore 4, 2) := by decide +kernel
theorem dX7_splits_62 : decode cX7_splits 62 = .ok (.iinc 5 1, 3) := by decide +kernel
theorem dX7_splits_65 : decode cX7_splits 65 = .ok (.goto (-45), 3) := by decide +kernel
theorem dX7_splits_68 : decode cX7_splits 68 = .ok (.iload 4, 2) := by decide +kernel
theorem dX7_splits_70 : decode cX7_splits 70 = .ok (.istore_n 2, 1) := by decide +kernel
theorem dX7_splits_71 : decode cX7_splits 71 = .ok (.iinc 3 1, 3) := by decide +kernel
theorem dX7_splits_74 : decode cX7_splits 74 = .ok (.goto (-70), 3) := by decide +kernel
theorem dX7_splits_77 : decode cX7_splits 77 = .ok (.iload_n 2, 1) := by decide +kernel
theorem dX7_splits_78 : decode cX7_splits 78 = .ok (.ireturn, 1) := by decide +kernel
theorem dX7_puts_0 : decode cX7_puts 0 = .ok (.bipush 64, 2) := by decide +kernel
theorem dX7_puts_2 : decode cX7_puts 2 = .ok (.iload_n 1, 1) := by decide +kernel
theorem dX7_puts_3 : decode cX7_puts 3 = .ok (.imul, 1) := by decide +kernel
theorem dX7_puts_4 : decode cX7_puts 4 = .ok (.iload_n 2, 1) := by decide +kernel
theorem dX7_puts_5 : decode cX7_puts 5 = .ok (.iadd, 1) := by decide +kernel
theorem dX7_puts_6 : decode cX7_puts 6 = .ok (.istore_n 3, 1) := by decide +kernel
theorem dX7_puts_7 : decode cX7_puts 7 = .ok (.iload_n 1, 1) := by decide +kernel
theorem dX7_puts_8 : decode cX7_puts 8 = .ok (.iload_n 2, 1) := by decide +kernel
theorem dX7_puts_9 : decode cX7_puts 9 = .ok (.iand, 1) := by decide +kernel
theorem dX7_puts_10 : decode cX7_puts 10 = .ok (.ifCond .ne 39, 3) := by decide +kernel
theorem dX7_puts_13 : decode cX7_puts 13 = .ok (.aload_n 0, 1) := by decide +kernel
theorem dX7_puts_14 : decode cX7_puts 14 = .ok (.getfield 24, 3) := by decide +kernel
theorem dX7_puts_17 : decode cX7_puts 17 = .ok (.iload_n 3, 1) := by decide +kernel
theorem dX7_puts_18 : decode cX7_puts 18 = .ok (.baload, 1) := by decide +kernel
theorem dX7_puts_19 : decode cX7_puts 19 = .ok (.ifCond .ne 30, 3) := by decide +kernel
theorem dX7_puts_22 : decode cX7_puts 22 = .ok (.aload_n 0, 1) := by decide +kernel
theorem dX7_puts_23 : decode cX7_puts 23 = .ok (.getfield 24, 3) := by decide +kernel
theorem dX7_puts_26 : decode cX7_puts 26 = .ok (.iload_n 3, 1) := by decide +kernel
theorem dX7_puts_27 : decode cX7_puts 27 = .ok (.iconst 1, 1) := by decide +kernel
theorem dX7_puts_28 : decode cX7_puts 28 = .ok (.bastore, 1) := by decide +kernel
theorem dX7_puts_29 : decode cX7_puts 29 = .ok (.aload_n 0, 1) := by decide +kernel
theorem dX7_puts_30 : decode cX7_puts 30 = .ok (.getfield 28, 3) := by decide +kernel
theorem dX7_puts_33 : decode cX7_puts 33 = .ok (.aload_n 0, 1) := by decide +kernel
theorem dX7_puts_34 : decode cX7_puts 34 = .ok (.getfield 174, 3) := by decide +kernel
theorem dX7_puts_37 : decode cX7_puts 37 = .ok (.iload_n 3, 1) := by decide +kernel
theorem dX7_puts_38 : decode cX7_puts 38 = .ok (.iastore, 1) := by decide +kernel
theorem dX7_puts_39 : decode cX7_puts 39 = .ok (.aload_n 0, 1) := by decide +kernel
theorem dX7_puts_40 : decode cX7_puts 40 = .ok (.dup, 1) := by decide +kernel
theorem dX7_puts_41 : decode cX7_puts 41 = .ok (.getfield 174, 3) := by decide +kernel
theorem dX7_puts_44 : decode cX7_puts 44 = .ok (.iconst 1, 1) := by decide +kernel
theorem dX7_puts_45 : decode cX7_puts 45 = .ok (.iadd, 1) := by decide +kernel
theorem dX7_puts_46 : decode cX7_puts 46 = .ok (.putfield 174, 3) := by decide +kernel
theorem dX7_puts_49 : decode cX7_puts 49 = .ok (.return_, 1) := by decide +kernel
theorem dX7_joins_0 : decode cX7_joins 0 = .ok (.iconst 0, 1) := by decide +kernel
theorem dX7_joins_1 : decode cX7_joins 1 = .ok (.istore_n 3, 1) := by decide +kernel
theorem dX7_joins_2 : decode cX7_joins 2 = .ok (.iload_n 3, 1) := by decide +kernel
theorem dX7_joins_3 : decode cX7_joins 3 = .ok (.bipush 6, 2) := by decide +kernel
theorem dX7_joins_5 : decode cX7_joins 5 = .ok (.if_icmp .ge 68, 3) := by decide +kernel
theorem dX7_joins_8 : decode cX7_joins 8 = .ok (.iconst 1, 1) := by decide +kernel
theorem dX7_joins_9 : decode cX7_joins 9 = .ok (.iload_n 3, 1) := by decide +kernel
theorem dX7_joins_10 : decode cX7_joins 10 = .ok (.ishl, 1) := by decide +kernel
theorem dX7_joins_11 : decode cX7_joins 11 = .ok (.istore 4, 2) := by decide +kernel
theorem dX7_joins_13 : decode cX7_joins 13 = .ok (.iload_n 1, 1) := by decide +kernel
theorem dX7_joins_14 : decode cX7_joins 14 = .ok (.bipush 64, 2) := by decide +kernel
theorem dX7_joins_16 : decode cX7_joins 16 = .ok (.idiv, 1) := by decide +kernel
theorem dX7_joins_17 : decode cX7_joins 17 = .ok (.iload_n 3, 1) := by decide +kernel
theorem dX7_joins_18 : decode cX7_joins 18 = .ok (.invokestatic 46, 3) := by decide +kernel
theorem dX7_joins_21 : decode cX7_joins 21 = .ok (.ifCond .eq 46, 3) := by decide +kernel
theorem dX7_joins_24 : decode cX7_joins 24 = .ok (.iload_n 2, 1) := by decide +kernel
theorem dX7_joins_25 : decode cX7_joins 25 = .ok (.bipush 64, 2) := by decide +kernel
theorem dX7_joins_27 : decode cX7_joins 27 = .ok (.irem, 1) := by decide +kernel
theorem dX7_joins_28 : decode cX7_joins 28 = .ok (.iload_n 3, 1) := by decide +kernel
theorem dX7_joins_29 : decode cX7_joins 29 = .ok (.invokestatic 46, 3) := by decide +kernel
theorem dX7_joins_32 : decode cX7_joins 32 = .ok (.ifCond .eq 35, 3) := by decide +kernel
theorem dX7_joins_35 : decode cX7_joins 35 = .ok (.aload_n 0, 1) := by decide +kernel
theorem dX7_joins_36 : decode cX7_joins 36 = .ok (.iload_n 1, 1) := by decide +kernel
theorem dX7_joins_37 : decode cX7_joins 37 = .ok (.bipush 64, 2) := by decide +kernel
theorem dX7_joins_39 : decode cX7_joins 39 = .ok (.idiv, 1) := by decide +kernel
theorem dX7_joins_40 : decode cX7_joins 40 = .ok (.iload 4, 2) := by decide +kernel
theorem dX7_joins_42 : decode cX7_joins 42 = .ok (.iconst (-1), 1) := by decide +kernel
theorem dX7_joins_43 : decode cX7_joins 43 = .ok (.ixor, 1) := by decide +kernel
theorem dX7_joins_44 : decode cX7_joins 44 = .ok (.iand, 1) := by decide +kernel
theorem dX7_joins_45 : decode cX7_joins 45 = .ok (.iload_n 2, 1) := by decide +kernel
theorem dX7_joins_46 : decode cX7_joins 46 = .ok (.bipush 64, 2) := by decide +kernel
theorem dX7_joins_48 : decode cX7_joins 48 = .ok (.idiv, 1) := by decide +kernel
theorem dX7_joins_49 : decode cX7_joins 49 = .ok (.ior, 1) := by decide +kernel
theorem dX7_joins_50 : decode cX7_joins 50 = .ok (.iload_n 1, 1) := by decide +kernel
theorem dX7_joins_51 : decode cX7_joins 51 = .ok (.bipush 64, 2) := by decide +kernel
theorem dX7_joins_53 : decode cX7_joins 53 = .ok (.irem, 1) := by decide +kernel
theorem dX7_joins_54 : decode cX7_joins 54 = .ok (.iload_n 2, 1) := by decide +kernel
theorem dX7_joins_55 : decode cX7_joins 55 = .ok (.bipush 64, 2) := by decide +kernel
theorem dX7_joins_57 : decode cX7_joins 57 = .ok (.irem, 1) := by decide +kernel
theorem dX7_joins_58 : decode cX7_joins 58 = .ok (.iload 4, 2) := by decide +kernel
theorem dX7_joins_60 : decode cX7_joins 60 = .ok (.iconst (-1), 1) := by decide +kernel
theorem dX7_joins_61 : decode cX7_joins 61 = .ok (.ixor, 1) := by decide +kernel
theorem dX7_joins_62 : decode cX7_joins 62 = .ok (.iand, 1) := by decide +kernel
theorem dX7_joins_63 : decode cX7_joins 63 = .ok (.ior, 1) := by decide +kernel
theorem dX7_joins_64 : decode cX7_joins 64 = .ok (.invokevirtual 177, 3) := by decide +kernel
theorem dX7_joins_67 : decode cX7_joins 67 = .ok (.iinc 3 1, 3) := by decide +kernel
theorem dX7_joins_70 : decode cX7_joins 70 = .ok (.goto (-68), 3) := by decide +kernel
theorem dX7_joins_73 : decode cX7_joins 73 = .ok (.return_, 1) := by decide +kernel
theorem dX7_closes_0 : decode cX7_closes 0 = .ok (.iconst 0, 1) := by decide +kernel
theorem dX7_closes_1 : decode cX7_closes 1 = .ok (.istore_n 2, 1) := by decide +kernel
theorem dX7_closes_2 : decode cX7_closes 2 = .ok (.iload_n 2, 1) := by decide +kernel
theorem dX7_closes_3 : decode cX7_closes 3 = .ok (.aload_n 0, 1) := by decide +kernel
theorem dX7_closes_4 : decode cX7_closes 4 = .ok (.getfield 174, 3) := by decide +kernel
theorem dX7_closes_7 : decode cX7_closes 7 = .ok (.if_icmp .ge 21, 3) := by decide +kernel
theorem dX7_closes_10 : decode cX7_closes 10 = .ok (.aload_n 0, 1) := by decide +kernel
theorem dX7_closes_11 : decode cX7_closes 11 = .ok (.getfield 24, 3) := by decide +kernel
theorem dX7_closes_14 : decode cX7_closes 14 = .ok (.aload_n 0, 1) := by decide +kernel
theorem dX7_closes_15 : decode cX7_closes 15 = .ok (.getfield 28, 3) := by decide +kernel
theorem dX7_closes_18 : decode cX7_closes 18 = .ok (.iload_n 2, 1) := by decide +kernel
theorem dX7_closes_19 : decode cX7_closes 19 = .ok (.iaload, 1) := by decide +kernel
theorem dX7_closes_20 : decode cX7_closes 20 = .ok (.iconst 0, 1) := by decide +kernel
theorem dX7_closes_21 : decode cX7_closes 21 = .ok (.bastore, 1) := by decide +kernel
theorem dX7_closes_22 : decode cX7_closes 22 = .ok (.iinc 2 1, 3) := by decide +kernel
theorem dX7_closes_25 : decode cX7_closes 25 = .ok (.goto (-23), 3) := by decide +kernel
theorem dX7_closes_28 : decode cX7_closes 28 = .ok (.aload_n 0, 1) := by decide +kernel
theorem dX7_closes_29 : decode cX7_closes 29 = .ok (.iconst 0, 1) := by decide +kernel
theorem dX7_closes_30 : decode cX7_closes 30 = .ok (.putfield 174, 3) := by decide +kernel
theorem dX7_closes_33 : decode cX7_closes 33 = .ok (.iconst 0, 1) := by decide +kernel
theorem dX7_closes_34 : decode cX7_closes 34 = .ok (.istore_n 2, 1) := by decide +kernel
theorem dX7_closes_35 : decode cX7_closes 35 = .ok (.iload_n 2, 1) := by decide +kernel
theorem dX7_closes_36 : decode cX7_closes 36 = .ok (.aload_n 0, 1) := by decide +kernel
theorem dX7_closes_37 : decode cX7_closes 37 = .ok (.getfield 7, 3) := by decide +kernel
theorem dX7_closes_40 : decode cX7_closes 40 = .ok (.iconst 0, 1) := by decide +kernel
theorem dX7_closes_41 : decode cX7_closes 41 = .ok (.iaload, 1) := by decide +kernel
theorem dX7_closes_42 : decode cX7_closes 42 = .ok (.if_icmp .ge 41, 3) := by decide +kernel
theorem dX7_closes_45 : decode cX7_closes 45 = .ok (.iload_n 1, 1) := by decide +kernel
theorem dX7_closes_46 : decode cX7_closes 46 = .ok (.iload_n 2, 1) := by decide +kernel
theorem dX7_closes_47 : decode cX7_closes 47 = .ok (.invokestatic 46, 3) := by decide +kernel
theorem dX7_closes_50 : decode cX7_closes 50 = .ok (.ifCond .eq 27, 3) := by decide +kernel
theorem dX7_closes_53 : decode cX7_closes 53 = .ok (.aload_n 0, 1) := by decide +kernel
theorem dX7_closes_54 : decode cX7_closes 54 = .ok (.aload_n 0, 1) := by decide +kernel
theorem dX7_closes_55 : decode cX7_closes 55 = .ok (.getfield 7, 3) := by decide +kernel
theorem dX7_closes_58 : decode cX7_closes 58 = .ok (.iload_n 2, 1) := by decide +kernel
theorem dX7_closes_59 : decode cX7_closes 59 = .ok (.invokestatic 52, 3) := by decide +kernel
theorem dX7_closes_62 : decode cX7_closes 62 = .ok (.iaload, 1) := by decide +kernel
theorem dX7_closes_63 : decode cX7_closes 63 = .ok (.aload_n 0, 1) := by decide +kernel
theorem dX7_closes_64 : decode cX7_closes 64 = .ok (.getfield 7, 3) := by decide +kernel
theorem dX7_closes_67 : decode cX7_closes 67 = .ok (.iload_n 2, 1) := by decide +kernel
theorem dX7_closes_68 : decode cX7_closes 68 = .ok (.invokestatic 52, 3) := by decide +kernel
theorem dX7_closes_71 : decode cX7_closes 71 = .ok (.iconst 1, 1) := by decide +kernel
theorem dX7_closes_72 : decode cX7_closes 72 = .ok (.iadd, 1) := by decide +kernel
theorem dX7_closes_73 : decode cX7_closes 73 = .ok (.iaload, 1) := by decide +kernel
theorem dX7_closes_74 : decode cX7_closes 74 = .ok (.invokevirtual 177, 3) := by decide +kernel
theorem dX7_closes_77 : decode cX7_closes 77 = .ok (.iinc 2 1, 3) := by decide +kernel
theorem dX7_closes_80 : decode cX7_closes 80 = .ok (.goto (-45), 3) := by decide +kernel
theorem dX7_closes_83 : decode cX7_closes 83 = .ok (.iconst 0, 1) := by decide +kernel
theorem dX7_closes_84 : decode cX7_closes 84 = .ok (.istore_n 2, 1) := by decide +kernel
theorem dX7_closes_85 : decode cX7_closes 85 = .ok (.iload_n 2, 1) := by decide +kernel
theorem dX7_closes_86 : decode cX7_closes 86 = .ok (.aload_n 0, 1) := by decide +kernel
theorem dX7_closes_87 : decode cX7_closes 87 = .ok (.getfield 174, 3) := by decide +kernel
theorem dX7_closes_90 : decode cX7_closes 90 = .ok (.if_icmp .ge 54, 3) := by decide +kernel
theorem dX7_closes_93 : decode cX7_closes 93 = .ok (.iconst 0, 1) := by decide +kernel
theorem dX7_closes_94 : decode cX7_closes 94 = .ok (.istore_n 3, 1) := by decide +kernel
theorem dX7_closes_95 : decode cX7_closes 95 = .ok (.iload_n 3, 1) := by decide +kernel
theorem dX7_closes_96 : decode cX7_closes 96 = .ok (.iload_n 2, 1) := by decide +kernel
theorem dX7_closes_97 : decode cX7_closes 97 = .ok (.if_icmp .ge 41, 3) := by decide +kernel
theorem dX7_closes_100 : decode cX7_closes 100 = .ok (.aload_n 0, 1) := by decide +kernel
theorem dX7_closes_101 : decode cX7_closes 101 = .ok (.aload_n 0, 1) := by decide +kernel
theorem dX7_closes_102 : decode cX7_closes 102 = .ok (.getfield 28, 3) := by decide +kernel
theorem dX7_closes_105 : decode cX7_closes 105 = .ok (.iload_n 2, 1) := by decide +kernel
theorem dX7_closes_106 : decode cX7_closes 106 = .ok (.iaload, 1) := by decide +kernel
theorem dX7_closes_107 : decode cX7_closes 107 = .ok (.aload_n 0, 1) := by decide +kernel
theorem dX7_closes_108 : decode cX7_closes 108 = .ok (.getfield 28, 3) := by decide +kernel
theorem dX7_closes_111 : decode cX7_closes 111 = .ok (.iload_n 3, 1) := by decide +kernel
theorem dX7_closes_112 : decode cX7_closes 112 = .ok (.iaload, 1) := by decide +kernel
theorem dX7_closes_113 : decode cX7_closes 113 = .ok (.invokevirtual 180, 3) := by decide +kernel
theorem dX7_closes_116 : decode cX7_closes 116 = .ok (.aload_n 0, 1) := by decide +kernel
theorem dX7_closes_117 : decode cX7_closes 117 = .ok (.aload_n 0, 1) := by decide +kernel
theorem dX7_closes_118 : decode cX7_closes 118 = .ok (.getfield 28, 3) := by decide +kernel
theorem dX7_closes_121 : decode cX7_closes 121 = .ok (.iload_n 3, 1) := by decide +kernel
theorem dX7_closes_122 : decode cX7_closes 122 = .ok (.iaload, 1) := by decide +kernel
theorem dX7_closes_123 : decode cX7_closes 123 = .ok (.aload_n 0, 1) := by decide +kernel
theorem dX7_closes_124 : decode cX7_closes 124 = .ok (.getfield 28, 3) := by decide +kernel
theorem dX7_closes_127 : decode cX7_closes 127 = .ok (.iload_n 2, 1) := by decide +kernel
theorem dX7_closes_128 : decode cX7_closes 128 = .ok (.iaload, 1) := by decide +kernel
theorem dX7_closes_129 : decode cX7_closes 129 = .ok (.invokevirtual 180, 3) := by decide +kernel
theorem dX7_closes_132 : decode cX7_closes 132 = .ok (.iinc 3 1, 3) := by decide +kernel
theorem dX7_closes_135 : decode cX7_closes 135 = .ok (.goto (-40), 3) := by decide +kernel
theorem dX7_closes_138 : decode cX7_closes 138 = .ok (.iinc 2 1, 3) := by decide +kernel
theorem dX7_closes_141 : decode cX7_closes 141 = .ok (.goto (-56), 3) := by decide +kernel
theorem dX7_closes_144 : decode cX7_closes 144 = .ok (.aload_n 0, 1) := by decide +kernel
theorem dX7_closes_145 : decode cX7_closes 145 = .ok (.getfield 174, 3) := by decide +kernel
theorem dX7_closes_148 : decode cX7_closes 148 = .ok (.ireturn, 1) := by decide +kernel
theorem dX7_standsByJoining_0 : decode cX7_standsByJoining 0 = .ok (.aload_n 0, 1) := by decide +kernel
theorem dX7_standsByJoining_1 : decode cX7_standsByJoining 1 = .ok (.iload_n 1, 1) := by decide +kernel
theorem dX7_standsByJoining_2 : decode cX7_standsByJoining 2 = .ok (.invokevirtual 183, 3) := by decide +kernel
theorem dX7_standsByJoining_5 : decode cX7_standsByJoining 5 = .ok (.pop, 1) := by decide +kernel
theorem dX7_standsByJoining_6 : decode cX7_standsByJoining 6 = .ok (.aload_n 0, 1) := by decide +kernel
theorem dX7_standsByJoining_7 : decode cX7_standsByJoining 7 = .ok (.getfield 24, 3) := by decide +kernel
theorem dX7_standsByJoining_10 : decode cX7_standsByJoining 10 = .ok (.iconst 0, 1) := by decide +kernel
theorem dX7_standsByJoining_11 : decode cX7_standsByJoining 11 = .ok (.baload, 1) := by decide +kernel
theorem dX7_standsByJoining_12 : decode cX7_standsByJoining 12 = .ok (.ifCond .ne 7, 3) := by decide +kernel
theorem dX7_standsByJoining_15 : decode cX7_standsByJoining 15 = .ok (.iconst 1, 1) := by decide +kernel
theorem dX7_standsByJoining_16 : decode cX7_standsByJoining 16 = .ok (.goto 4, 3) := by decide +kernel
theorem dX7_standsByJoining_19 : decode cX7_standsByJoining 19 = .ok (.iconst 0, 1) := by decide +kernel
theorem dX7_standsByJoining_20 : decode cX7_standsByJoining 20 = .ok (.ireturn, 1) := by decide +kernel
theorem dX7_canStand_0 : decode cX7_canStand 0 = .ok (.aload_n 0, 1) := by decide +kernel
theorem dX7_canStand_1 : decode cX7_canStand 1 = .ok (.aload_n 0, 1) := by decide +kernel
theorem dX7_canStand_2 : decode cX7_canStand 2 = .ok (.iload_n 1, 1) := by decide +kernel
theorem dX7_canStand_3 : decode cX7_canStand 3 = .ok (.invokevirtual 186, 3) := by decide +kernel
theorem dX7_canStand_6 : decode cX7_canStand 6 = .ok (.iconst 1, 1) := by decide +kernel
theorem dX7_canStand_7 : decode cX7_canStand 7 = .ok (.iconst 1, 1) := by decide +kernel
theorem dX7_canStand_8 : decode cX7_canStand 8 = .ok (.invokevirtual 69, 3) := by decide +kernel
theorem dX7_canStand_11 : decode cX7_canStand 11 = .ok (.ifCond .eq 15, 3) := by decide +kernel
theorem dX7_canStand_14 : decode cX7_canStand 14 = .ok (.aload_n 0, 1) := by decide +kernel
theorem dX7_canStand_15 : decode cX7_canStand 15 = .ok (.iload_n 1, 1) := by decide +kernel
theorem dX7_canStand_16 : decode cX7_canStand 16 = .ok (.invokevirtual 189, 3) := by decide +kernel
theorem dX7_canStand_19 : decode cX7_canStand 19 = .ok (.ifCond .eq 7, 3) := by decide +kernel
theorem dX7_canStand_22 : decode cX7_canStand 22 = .ok (.iconst 1, 1) := by decide +kernel
theorem dX7_canStand_23 : decode cX7_canStand 23 = .ok (.goto 4, 3) := by decide +kernel
theorem dX7_canStand_26 : decode cX7_canStand 26 = .ok (.iconst 0, 1) := by decide +kernel
theorem dX7_canStand_27 : decode cX7_canStand 27 = .ok (.ireturn, 1) := by decide +kernel
theorem dX7_canStandBySplitting_0 : decode cX7_canStandBySplitting 0 = .ok (.aload_n 0, 1) := by decide +kernel
theorem dX7_canStandBySplitting_1 : decode cX7_canStandBySplitting 1 = .ok (.aload_n 0, 1) := by decide +kernel
theorem dX7_canStandBySplitting_2 : decode cX7_canStandBySplitting 2 = .ok (.iload_n 1, 1) := by decide +kernel
theorem dX7_canStandBySplitting_3 : decode cX7_canStandBySplitting 3 = .ok (.invokevirtual 186, 3) := by decide +kernel
theorem dX7_canStandBySplitting_6 : decode cX7_canStandBySplitting 6 = .ok (.iconst 1, 1) := by decide +kernel
theorem dX7_canStandBySplitting_7 : decode cX7_canStandBySplitting 7 = .ok (.iconst 1, 1) := by decide +kernel
theorem dX7_canStandBySplitting_8 : decode cX7_canStandBySplitting 8 = .ok (.invokevirtual 69, 3) := by decide +kernel
theorem dX7_canStandBySplitting_11 : decode cX7_canStandBySplitting 11 = .ok (.ifCond .eq 15, 3) := by decide +kernel
theorem dX7_canStandBySplitting_14 : decode cX7_canStandBySplitting 14 = .ok (.aload_n 0, 1) := by decide +kernel
theorem dX7_canStandBySplitting_15 : decode cX7_canStandBySplitting 15 = .ok (.iload_n 1, 1) := by decide +kernel
theorem dX7_canStandBySplitting_16 : decode cX7_canStandBySplitting 16 = .ok (.invokevirtual 192, 3) := by decide +kernel
theorem dX7_canStandBySplitting_19 : decode cX7_canStandBySplitting 19 = .ok (.ifCond .eq 7, 3) := by decide +kernel
theorem dX7_canStandBySplitting_22 : decode cX7_canStandBySplitting 22 = .ok (.iconst 1, 1) := by decide +kernel
theorem dX7_canStandBySplitting_23 : decode cX7_canStandBySplitting 23 = .ok (.goto 4, 3) := by decide +kernel
theorem dX7_canStandBySplitting_26 : decode cX7_canStandBySplitting 26 = .ok (.iconst 0, 1) := by decide +kernel
theorem dX7_canStandBySplitting_27 : decode cX7_canStandBySplitting 27 = .ok (.ireturn, 1) := by decide +kernel
theorem dX7_canStandByJoining_0 : decode cX7_canStandByJoining 0 = .ok (.aload_n 0, 1) := by decide +kernel
theorem dX7_canStandByJoining_1 : decode cX7_canStandByJoining 1 = .ok (.aload_n 0, 1) := by decide +kernel
theorem dX7_canStandByJoining_2 : decode cX7_canStandByJoining 2 = .ok (.iload_n 1, 1) := by decide +kernel
theorem dX7_canStandByJoining_3 : decode cX7_canStandByJoining 3 = .ok (.invokevirtual 186, 3) := by decide +kernel
theorem dX7_canStandByJoining_6 : decode cX7_canStandByJoining 6 = .ok (.iconst 1, 1) := by decide +kernel
theorem dX7_canStandByJoining_7 : decode cX7_canStandByJoining 7 = .ok (.iconst 1, 1) := by decide +kernel
theorem dX7_canStandByJoining_8 : decode cX7_canStandByJoining 8 = .ok (.invokevirtual 69, 3) := by decide +kernel
theorem dX7_canStandByJoining_11 : decode cX7_canStandByJoining 11 = .ok (.ifCond .eq 15, 3) := by decide +kernel
theorem dX7_canStandByJoining_14 : decode cX7_canStandByJoining 14 = .ok (.aload_n 0, 1) := by decide +kernel
theorem dX7_canStandByJoining_15 : decode cX7_canStandByJoining 15 = .ok (.iload_n 1, 1) := by decide +kernel
theorem dX7_canStandByJoining_16 : decode cX7_canStandByJoining 16 = .ok (.invokevirtual 195, 3) := by decide +kernel
theorem dX7_canStandByJoining_19 : decode cX7_canStandByJoining 19 = .ok (.ifCond .eq 7, 3) := by decide +kernel
theorem dX7_canStandByJoining_22 : decode cX7_canStandByJoining 22 = .ok (.iconst 1, 1) := by decide +kernel
theorem dX7_canStandByJoining_23 : decode cX7_canStandByJoining 23 = .ok (.goto 4, 3) := by decide +kernel
theorem dX7_canStandByJoining_26 : decode cX7_canStandByJoining 26 = .ok (.iconst 0, 1) := by decide +kernel
theorem dX7_canStandByJoining_27 : decode cX7_canStandByJoining 27 = .ok (.ireturn, 1) := by decide +kernel
theorem dX7_joined_0 : decode cX7_joined 0 = .ok (.aload_n 0, 1) := by decide +kernel
theorem dX7_joined_1 : decode cX7_joined 1 = .ok (.aload_n 0, 1) := by decide +kernel
theorem dX7_joined_2 : decode cX7_joined 2 = .ok (.iload_n 1, 1) := by decide +kernel
theorem dX7_joined_3 : decode cX7_joined 3 = .ok (.invokevirtual 186, 3) := by decide +kernel
theorem dX7_joined_6 : decode cX7_joined 6 = .ok (.iconst 1, 1) := by decide +kernel
theorem dX7_joined_7 : decode cX7_joined 7 = .ok (.iconst 1, 1) := by decide +kernel
theorem dX7_joined_8 : decode cX7_joined 8 = .ok (.invokevirtual 69, 3) := by decide +kernel
theorem dX7_joined_11 : decode cX7_joined 11 = .ok (.ifCond .eq 11, 3) := by decide +kernel
theorem dX7_joined_14 : decode cX7_joined 14 = .ok (.aload_n 0, 1) := by decide +kernel
theorem dX7_joined_15 : decode cX7_joined 15 = .ok (.iload_n 1, 1) := by decide +kernel
theorem dX7_joined_16 : decode cX7_joined 16 = .ok (.invokevirtual 183, 3) := by decide +kernel
theorem dX7_joined_19 : decode cX7_joined 19 = .ok (.goto 4, 3) := by decide +kernel
theorem dX7_joined_22 : decode cX7_joined 22 = .ok (.iconst 0, 1) := by decide +kernel
theorem dX7_joined_23 : decode cX7_joined 23 = .ok (.ireturn, 1) := by decide +kernel
theorem dX7_peace_0 : decode cX7_peace 0 = .ok (.aload_n 0, 1) := by decide +kernel
theorem dX7_peace_1 : decode cX7_peace 1 = .ok (.invokevirtual 167, 3) := by decide +kernel
theorem dX7_peace_4 : decode cX7_peace 4 = .ok (.aload_n 0, 1) := by decide +kernel
theorem dX7_peace_5 : decode cX7_peace 5 = .ok (.aload_n 0, 1) := by decide +kernel
theorem dX7_peace_6 : decode cX7_peace 6 = .ok (.invokevirtual 160, 3) := by decide +kernel
theorem dX7_peace_9 : decode cX7_peace 9 = .ok (.invokevirtual 170, 3) := by decide +kernel
theorem dX7_peace_12 : decode cX7_peace 12 = .ok (.lreturn, 1) := by decide +kernel
theorem dX7_ways_0 : decode cX7_ways 0 = .ok (.aload_n 0, 1) := by decide +kernel
theorem dX7_ways_1 : decode cX7_ways 1 = .ok (.iconst 0, 1) := by decide +kernel
theorem dX7_ways_2 : decode cX7_ways 2 = .ok (.putfield 31, 3) := by decide +kernel
theorem dX7_ways_5 : decode cX7_ways 5 = .ok (.aload_n 0, 1) := by decide +kernel
theorem dX7_ways_6 : decode cX7_ways 6 = .ok (.invokevirtual 198, 3) := by decide +kernel
theorem dX7_ways_9 : decode cX7_ways 9 = .ok (.invokestatic 202, 3) := by decide +kernel
theorem dX7_ways_12 : decode cX7_ways 12 = .ok (.ireturn, 1) := by decide +kernel
theorem dX7_waysSplit_0 : decode cX7_waysSplit 0 = .ok (.iconst 0, 1) := by decide +kernel
theorem dX7_waysSplit_1 : decode cX7_waysSplit 1 = .ok (.istore_n 1, 1) := by decide +kernel
theorem dX7_waysSplit_2 : decode cX7_waysSplit 2 = .ok (.iconst 0, 1) := by decide +kernel
theorem dX7_waysSplit_3 : decode cX7_waysSplit 3 = .ok (.istore_n 2, 1) := by decide +kernel
theorem dX7_waysSplit_4 : decode cX7_waysSplit 4 = .ok (.iload_n 2, 1) := by decide +kernel
theorem dX7_waysSplit_5 : decode cX7_waysSplit 5 = .ok (.bipush 64, 2) := by decide +kernel
theorem dX7_waysSplit_7 : decode cX7_waysSplit 7 = .ok (.if_icmp .ge 25, 3) := by decide +kernel
theorem dX7_waysSplit_10 : decode cX7_waysSplit 10 = .ok (.iload_n 1, 1) := by decide +kernel
theorem dX7_waysSplit_11 : decode cX7_waysSplit 11 = .ok (.aload_n 0, 1) := by decide +kernel
theorem dX7_waysSplit_12 : decode cX7_waysSplit 12 = .ok (.iload_n 2, 1) := by decide +kernel
theorem dX7_waysSplit_13 : decode cX7_waysSplit 13 = .ok (.invokevirtual 104, 3) := by decide +kernel
theorem dX7_waysSplit_16 : decode cX7_waysSplit 16 = .ok (.ifCond .ne 7, 3) := by decide +kernel
theorem dX7_waysSplit_19 : decode cX7_waysSplit 19 = .ok (.iconst 1, 1) := by decide +kernel
theorem dX7_waysSplit_20 : decode cX7_waysSplit 20 = .ok (.goto 4, 3) := by decide +kernel
theorem dX7_waysSplit_23 : decode cX7_waysSplit 23 = .ok (.iconst 0, 1) := by decide +kernel
theorem dX7_waysSplit_24 : decode cX7_waysSplit 24 = .ok (.iadd, 1) := by decide +kernel
theorem dX7_waysSplit_25 : decode cX7_waysSplit 25 = .ok (.istore_n 1, 1) := by decide +kernel
theorem dX7_waysSplit_26 : decode cX7_waysSplit 26 = .ok (.iinc 2 1, 3) := by decide +kernel
theorem dX7_waysSplit_29 : decode cX7_waysSplit 29 = .ok (.goto (-25), 3) := by decide +kernel
theorem dX7_waysSplit_32 : decode cX7_waysSplit 32 = .ok (.iload_n 1, 1) := by decide +kernel
theorem dX7_waysSplit_33 : decode cX7_waysSplit 33 = .ok (.ireturn, 1) := by decide +kernel
theorem dX7_waysBySplitting_0 : decode cX7_waysBySplitting 0 = .ok (.aload_n 0, 1) := by decide +kernel
theorem dX7_waysBySplitting_1 : decode cX7_waysBySplitting 1 = .ok (.iconst 0, 1) := by decide +kernel
theorem dX7_waysBySplitting_2 : decode cX7_waysBySplitting 2 = .ok (.putfield 31, 3) := by decide +kernel
theorem dX7_waysBySplitting_5 : decode cX7_waysBySplitting 5 = .ok (.aload_n 0, 1) := by decide +kernel
theorem dX7_waysBySplitting_6 : decode cX7_waysBySplitting 6 = .ok (.invokevirtual 206, 3) := by decide +kernel
theorem dX7_waysBySplitting_9 : decode cX7_waysBySplitting 9 = .ok (.ireturn, 1) := by decide +kernel
theorem dX7_least_0 : decode cX7_least 0 = .ok (.iconst (-1), 1) := by decide +kernel
theorem dX7_least_1 : decode cX7_least 1 = .ok (.istore_n 3, 1) := by decide +kernel
theorem dX7_least_2 : decode cX7_least 2 = .ok (.bipush 63, 2) := by decide +kernel
theorem dX7_least_4 : decode cX7_least 4 = .ok (.istore 4, 2) := by decide +kernel
theorem dX7_least_6 : decode cX7_least 6 = .ok (.iload 4, 2) := by decide +kernel
theorem dX7_least_8 : decode cX7_least 8 = .ok (.ifCond .lt 27, 3) := by decide +kernel
theorem dX7_least_11 : decode cX7_least 11 = .ok (.lload_n 1, 1) := by decide +kernel
theorem dX7_least_12 : decode cX7_least 12 = .ok (.iload 4, 2) := by decide +kernel
theorem dX7_least_14 : decode cX7_least 14 = .ok (.lushr, 1) := by decide +kernel
theorem dX7_least_15 : decode cX7_least 15 = .ok (.lconst 1, 1) := by decide +kernel
theorem dX7_least_16 : decode cX7_least 16 = .ok (.land, 1) := by decide +kernel
theorem dX7_least_17 : decode cX7_least 17 = .ok (.lconst 1, 1) := by decide +kernel
theorem dX7_least_18 : decode cX7_least 18 = .ok (.lcmp, 1) := by decide +kernel
theorem dX7_least_19 : decode cX7_least 19 = .ok (.ifCond .ne 8, 3) := by decide +kernel
theorem dX7_least_22 : decode cX7_least 22 = .ok (.iload 4, 2) := by decide +kernel
theorem dX7_least_24 : decode cX7_least 24 = .ok (.goto 4, 3) := by decide +kernel
theorem dX7_least_27 : decode cX7_least 27 = .ok (.iload_n 3, 1) := by decide +kernel
theorem dX7_least_28 : decode cX7_least 28 = .ok (.istore_n 3, 1) := by decide +kernel
theorem dX7_least_29 : decode cX7_least 29 = .ok (.iinc 4 (-1), 3) := by decide +kernel
theorem dX7_least_32 : decode cX7_least 32 = .ok (.goto (-26), 3) := by decide +kernel
theorem dX7_least_35 : decode cX7_least 35 = .ok (.iload_n 3, 1) := by decide +kernel
theorem dX7_least_36 : decode cX7_least 36 = .ok (.ireturn, 1) := by decide +kernel
theorem dX7_firstWay_0 : decode cX7_firstWay 0 = .ok (.aload_n 0, 1) := by decide +kernel
theorem dX7_firstWay_1 : decode cX7_firstWay 1 = .ok (.iconst 0, 1) := by decide +kernel
theorem dX7_firstWay_2 : decode cX7_firstWay 2 = .ok (.putfield 31, 3) := by decide +kernel
theorem dX7_firstWay_5 : decode cX7_firstWay 5 = .ok (.aload_n 0, 1) := by decide +kernel
theorem dX7_firstWay_6 : decode cX7_firstWay 6 = .ok (.aload_n 0, 1) := by decide +kernel
theorem dX7_firstWay_7 : decode cX7_firstWay 7 = .ok (.invokevirtual 198, 3) := by decide +kernel
theorem dX7_firstWay_10 : decode cX7_firstWay 10 = .ok (.invokevirtual 209, 3) := by decide +kernel
theorem dX7_firstWay_13 : decode cX7_firstWay 13 = .ok (.ireturn, 1) := by decide +kernel
theorem dX7_alike_0 : decode cX7_alike 0 = .ok (.aload_n 0, 1) := by decide +kernel
theorem dX7_alike_1 : decode cX7_alike 1 = .ok (.invokevirtual 198, 3) := by decide +kernel
theorem dX7_alike_4 : decode cX7_alike 4 = .ok (.lstore_n 2, 1) := by decide +kernel
theorem dX7_alike_5 : decode cX7_alike 5 = .ok (.lload_n 2, 1) := by decide +kernel
theorem dX7_alike_6 : decode cX7_alike 6 = .ok (.lconst 0, 1) := by decide +kernel
theorem dX7_alike_7 : decode cX7_alike 7 = .ok (.lcmp, 1) := by decide +kernel
theorem dX7_alike_8 : decode cX7_alike 8 = .ok (.ifCond .ne 7, 3) := by decide +kernel
theorem dX7_alike_11 : decode cX7_alike 11 = .ok (.iconst (-1), 1) := by decide +kernel
theorem dX7_alike_12 : decode cX7_alike 12 = .ok (.goto 42, 3) := by decide +kernel
theorem dX7_alike_15 : decode cX7_alike 15 = .ok (.lload_n 2, 1) := by decide +kernel
theorem dX7_alike_16 : decode cX7_alike 16 = .ok (.aload_n 0, 1) := by decide +kernel
theorem dX7_alike_17 : decode cX7_alike 17 = .ok (.getfield 17, 3) := by decide +kernel
theorem dX7_alike_20 : decode cX7_alike 20 = .ok (.iload_n 1, 1) := by decide +kernel
theorem dX7_alike_21 : decode cX7_alike 21 = .ok (.laload, 1) := by decide +kernel
theorem dX7_alike_22 : decode cX7_alike 22 = .ok (.ldc2_w 50, 3) := by decide +kernel
theorem dX7_alike_25 : decode cX7_alike 25 = .ok (.lxor, 1) := by decide +kernel
theorem dX7_alike_26 : decode cX7_alike 26 = .ok (.land, 1) := by decide +kernel
theorem dX7_alike_27 : decode cX7_alike 27 = .ok (.lconst 0, 1) := by decide +kernel
theorem dX7_alike_28 : decode cX7_alike 28 = .ok (.lcmp, 1) := by decide +kernel
theorem dX7_alike_29 : decode cX7_alike 29 = .ok (.ifCond .ne 7, 3) := by decide +kernel
theorem dX7_alike_32 : decode cX7_alike 32 = .ok (.iconst 1, 1) := by decide +kernel
theorem dX7_alike_33 : decode cX7_alike 33 = .ok (.goto 21, 3) := by decide +kernel
theorem dX7_alike_36 : decode cX7_alike 36 = .ok (.lload_n 2, 1) := by decide +kernel
theorem dX7_alike_37 : decode cX7_alike 37 = .ok (.aload_n 0, 1) := by decide +kernel
theorem dX7_alike_38 : decode cX7_alike 38 = .ok (.getfield 17, 3) := by decide +kernel
theorem dX7_alike_41 : decode cX7_alike 41 = .ok (.iload_n 1, 1) := by decide +kernel
theorem dX7_alike_42 : decode cX7_alike 42 = .ok (.laload, 1) := by decide +kernel
theorem dX7_alike_43 : decode cX7_alike 43 = .ok (.land, 1) := by decide +kernel
theorem dX7_alike_44 : decode cX7_alike 44 = .ok (.lconst 0, 1) := by decide +kernel
theorem dX7_alike_45 : decode cX7_alike 45 = .ok (.lcmp, 1) := by decide +kernel
theorem dX7_alike_46 : decode cX7_alike 46 = .ok (.ifCond .ne 7, 3) := by decide +kernel
theorem dX7_alike_49 : decode cX7_alike 49 = .ok (.iconst 0, 1) := by decide +kernel
theorem dX7_alike_50 : decode cX7_alike 50 = .ok (.goto 4, 3) := by decide +kernel
theorem dX7_alike_53 : decode cX7_alike 53 = .ok (.iconst 2, 1) := by decide +kernel
theorem dX7_alike_54 : decode cX7_alike 54 = .ok (.ireturn, 1) := by decide +kernel
theorem dX7_forced_0 : decode cX7_forced 0 = .ok (.aload_n 0, 1) := by decide +kernel
theorem dX7_forced_1 : decode cX7_forced 1 = .ok (.iload_n 1, 1) := by decide +kernel
theorem dX7_forced_2 : decode cX7_forced 2 = .ok (.invokestatic 88, 3) := by decide +kernel
theorem dX7_forced_5 : decode cX7_forced 5 = .ok (.iconst 1, 1) := by decide +kernel
theorem dX7_forced_6 : decode cX7_forced 6 = .ok (.iconst 1, 1) := by decide +kernel
theorem dX7_forced_7 : decode cX7_forced 7 = .ok (.invokevirtual 69, 3) := by decide +kernel
theorem dX7_forced_10 : decode cX7_forced 10 = .ok (.ifCond .eq 11, 3) := by decide +kernel
theorem dX7_forced_13 : decode cX7_forced 13 = .ok (.aload_n 0, 1) := by decide +kernel
theorem dX7_forced_14 : decode cX7_forced 14 = .ok (.iload_n 1, 1) := by decide +kernel
theorem dX7_forced_15 : decode cX7_forced 15 = .ok (.invokevirtual 212, 3) := by decide +kernel
theorem dX7_forced_18 : decode cX7_forced 18 = .ok (.goto 4, 3) := by decide +kernel
theorem dX7_forced_21 : decode cX7_forced 21 = .ok (.iconst 0, 1) := by decide +kernel
theorem dX7_forced_22 : decode cX7_forced 22 = .ok (.ireturn, 1) := by decide +kernel
theorem dX7_comesOf_0 : decode cX7_comesOf 0 = .ok (.aload_n 0, 1) := by decide +kernel
theorem dX7_comesOf_1 : decode cX7_comesOf 1 = .ok (.invokevirtual 167, 3) := by decide +kernel
theorem dX7_comesOf_4 : decode cX7_comesOf 4 = .ok (.aload_n 0, 1) := by decide +kernel
theorem dX7_comesOf_5 : decode cX7_comesOf 5 = .ok (.invokevirtual 160, 3) := by decide +kernel
theorem dX7_comesOf_8 : decode cX7_comesOf 8 = .ok (.iconst 1, 1) := by decide +kernel
theorem dX7_comesOf_9 : decode cX7_comesOf 9 = .ok (.iload_n 1, 1) := by decide +kernel
theorem dX7_comesOf_10 : decode cX7_comesOf 10 = .ok (.ishl, 1) := by decide +kernel
theorem dX7_comesOf_11 : decode cX7_comesOf 11 = .ok (.iconst (-1), 1) := by decide +kernel
theorem dX7_comesOf_12 : decode cX7_comesOf 12 = .ok (.ixor, 1) := by decide +kernel
theorem dX7_comesOf_13 : decode cX7_comesOf 13 = .ok (.iand, 1) := by decide +kernel
theorem dX7_comesOf_14 : decode cX7_comesOf 14 = .ok (.istore_n 2, 1) := by decide +kernel
theorem dX7_comesOf_15 : decode cX7_comesOf 15 = .ok (.aload_n 0, 1) := by decide +kernel
theorem dX7_comesOf_16 : decode cX7_comesOf 16 = .ok (.iload_n 1, 1) := by decide +kernel
theorem dX7_comesOf_17 : decode cX7_comesOf 17 = .ok (.aload_n 0, 1) := by decide +kernel
theorem dX7_comesOf_18 : decode cX7_comesOf 18 = .ok (.getfield 7, 3) := by decide +kernel
theorem dX7_comesOf_21 : decode cX7_comesOf 21 = .ok (.iconst 2, 1) := by decide +kernel
theorem dX7_comesOf_22 : decode cX7_comesOf 22 = .ok (.iaload, 1) := by decide +kernel
theorem dX7_comesOf_23 : decode cX7_comesOf 23 = .ok (.invokevirtual 60, 3) := by decide +kernel
theorem dX7_comesOf_26 : decode cX7_comesOf 26 = .ok (.ifCond .eq 28, 3) := by decide +kernel
theorem dX7_comesOf_29 : decode cX7_comesOf 29 = .ok (.aload_n 0, 1) := by decide +kernel
theorem dX7_comesOf_30 : decode cX7_comesOf 30 = .ok (.iload_n 2, 1) := by decide +kernel
theorem dX7_comesOf_31 : decode cX7_comesOf 31 = .ok (.invokevirtual 170, 3) := by decide +kernel
theorem dX7_comesOf_34 : decode cX7_comesOf 34 = .ok (.aload_n 0, 1) := by decide +kernel
theorem dX7_comesOf_35 : decode cX7_comesOf 35 = .ok (.getfield 21, 3) := by decide +kernel
theorem dX7_comesOf_38 : decode cX7_comesOf 38 = .ok (.iload_n 1, 1) := by decide +kernel
theorem dX7_comesOf_39 : decode cX7_comesOf 39 = .ok (.laload, 1) := by decide +kernel
theorem dX7_comesOf_40 : decode cX7_comesOf 40 = .ok (.ldc2_w 50, 3) := by decide +kernel
theorem dX7_comesOf_43 : decode cX7_comesOf 43 = .ok (.lxor, 1) := by decide +kernel
theorem dX7_comesOf_44 : decode cX7_comesOf 44 = .ok (.land, 1) := by decide +kernel
theorem dX7_comesOf_45 : decode cX7_comesOf 45 = .ok (.lconst 0, 1) := by decide +kernel
theorem dX7_comesOf_46 : decode cX7_comesOf 46 = .ok (.lcmp, 1) := by decide +kernel
theorem dX7_comesOf_47 : decode cX7_comesOf 47 = .ok (.ifCond .ne 7, 3) := by decide +kernel
theorem dX7_comesOf_50 : decode cX7_comesOf 50 = .ok (.iconst 1, 1) := by decide +kernel
theorem dX7_comesOf_51 : decode cX7_comesOf 51 = .ok (.goto 4, 3) := by decide +kernel
theorem dX7_comesOf_54 : decode cX7_comesOf 54 = .ok (.iconst 0, 1) := by decide +kernel
theorem dX7_comesOf_55 : decode cX7_comesOf 55 = .ok (.ireturn, 1) := by decide +kernel
theorem dX7_comesBySplitting_0 : decode cX7_comesBySplitting 0 = .ok (.aload_n 0, 1) := by decide +kernel
theorem dX7_comesBySplitting_1 : decode cX7_comesBySplitting 1 = .ok (.iload_n 1, 1) := by decide +kernel
theorem dX7_comesBySplitting_2 : decode cX7_comesBySplitting 2 = .ok (.aload_n 0, 1) := by decide +kernel
theorem dX7_comesBySplitting_3 : decode cX7_comesBySplitting 3 = .ok (.getfield 7, 3) := by decide +kernel
theorem dX7_comesBySplitting_6 : decode cX7_comesBySplitting 6 = .ok (.iconst 2, 1) := by decide +kernel
theorem dX7_comesBySplitting_7 : decode cX7_comesBySplitting 7 = .ok (.iaload, 1) := by decide +kernel
theorem dX7_comesBySplitting_8 : decode cX7_comesBySplitting 8 = .ok (.invokevirtual 60, 3) := by decide +kernel
theorem dX7_comesBySplitting_11 : decode cX7_comesBySplitting 11 = .ok (.istore_n 2, 1) := by decide +kernel
theorem dX7_comesBySplitting_12 : decode cX7_comesBySplitting 12 = .ok (.iconst 0, 1) := by decide +kernel
theorem dX7_comesBySplitting_13 : decode cX7_comesBySplitting 13 = .ok (.istore_n 3, 1) := by decide +kernel
theorem dX7_comesBySplitting_14 : decode cX7_comesBySplitting 14 = .ok (.iload_n 3, 1) := by decide +kernel
theorem dX7_comesBySplitting_15 : decode cX7_comesBySplitting 15 = .ok (.bipush 64, 2) := by decide +kernel
theorem dX7_comesBySplitting_17 : decode cX7_comesBySplitting 17 = .ok (.if_icmp .ge 30, 3) := by decide +kernel
theorem dX7_comesBySplitting_20 : decode cX7_comesBySplitting 20 = .ok (.iload_n 2, 1) := by decide +kernel
theorem dX7_comesBySplitting_21 : decode cX7_comesBySplitting 21 = .ok (.ifCond .eq 18, 3) := by decide +kernel
theorem dX7_comesBySplitting_24 : decode cX7_comesBySplitting 24 = .ok (.aload_n 0, 1) := by decide +kernel
theorem dX7_comesBySplitting_25 : decode cX7_comesBySplitting 25 = .ok (.iload_n 3, 1) := by decide +kernel
theorem dX7_comesBySplitting_26 : decode cX7_comesBySplitting 26 = .ok (.invokevirtual 104, 3) := by decide +kernel
theorem dX7_comesBySplitting_29 : decode cX7_comesBySplitting 29 = .ok (.iconst 1, 1) := by decide +kernel
theorem dX7_comesBySplitting_30 : decode cX7_comesBySplitting 30 = .ok (.iload_n 1, 1) := by decide +kernel
theorem dX7_comesBySplitting_31 : decode cX7_comesBySplitting 31 = .ok (.ishl, 1) := by decide +kernel
theorem dX7_comesBySplitting_32 : decode cX7_comesBySplitting 32 = .ok (.if_icmp .eq 7, 3) := by decide +kernel
theorem dX7_comesBySplitting_35 : decode cX7_comesBySplitting 35 = .ok (.iconst 1, 1) := by decide +kernel
theorem dX7_comesBySplitting_36 : decode cX7_comesBySplitting 36 = .ok (.goto 4, 3) := by decide +kernel
theorem dX7_comesBySplitting_39 : decode cX7_comesBySplitting 39 = .ok (.iconst 0, 1) := by decide +kernel
theorem dX7_comesBySplitting_40 : decode cX7_comesBySplitting 40 = .ok (.istore_n 2, 1) := by decide +kernel
theorem dX7_comesBySplitting_41 : decode cX7_comesBySplitting 41 = .ok (.iinc 3 1, 3) := by decide +kernel
theorem dX7_comesBySplitting_44 : decode cX7_comesBySplitting 44 = .ok (.goto (-30), 3) := by decide +kernel
theorem dX7_comesBySplitting_47 : decode cX7_comesBySplitting 47 = .ok (.iload_n 2, 1) := by decide +kernel
theorem dX7_comesBySplitting_48 : decode cX7_comesBySplitting 48 = .ok (.ireturn, 1) := by decide +kernel
theorem dX7_follows_0 : decode cX7_follows 0 = .ok (.aload_n 0, 1) := by decide +kernel
theorem dX7_follows_1 : decode cX7_follows 1 = .ok (.aload_n 0, 1) := by decide +kernel
theorem dX7_follows_2 : decode cX7_follows 2 = .ok (.iload_n 1, 1) := by decide +kernel
theorem dX7_follows_3 : decode cX7_follows 3 = .ok (.invokevirtual 80, 3) := by decide +kernel
theorem dX7_follows_6 : decode cX7_follows 6 = .ok (.iconst 1, 1) := by decide +kernel
theorem dX7_follows_7 : decode cX7_follows 7 = .ok (.iconst 1, 1) := by decide +kernel
theorem dX7_follows_8 : decode cX7_follows 8 = .ok (.invokevirtual 69, 3) := by decide +kernel
theorem dX7_follows_11 : decode cX7_follows 11 = .ok (.ifCond .eq 15, 3) := by decide +kernel
theorem dX7_follows_14 : decode cX7_follows 14 = .ok (.aload_n 0, 1) := by decide +kernel
theorem dX7_follows_15 : decode cX7_follows 15 = .ok (.iload_n 1, 1) := by decide +kernel
theorem dX7_follows_16 : decode cX7_follows 16 = .ok (.invokevirtual 215, 3) := by decide +kernel
theorem dX7_follows_19 : decode cX7_follows 19 = .ok (.ifCond .eq 7, 3) := by decide +kernel
theorem dX7_follows_22 : decode cX7_follows 22 = .ok (.iconst 1, 1) := by decide +kernel
theorem dX7_follows_23 : decode cX7_follows 23 = .ok (.goto 4, 3) := by decide +kernel
theorem dX7_follows_26 : decode cX7_follows 26 = .ok (.iconst 0, 1) := by decide +kernel
theorem dX7_follows_27 : decode cX7_follows 27 = .ok (.ireturn, 1) := by decide +kernel
theorem dX7_followsBySplitting_0 : decode cX7_followsBySplitting 0 = .ok (.aload_n 0, 1) := by decide +kernel
theorem dX7_followsBySplitting_1 : decode cX7_followsBySplitting 1 = .ok (.aload_n 0, 1) := by decide +kernel
theorem dX7_followsBySplitting_2 : decode cX7_followsBySplitting 2 = .ok (.iload_n 1, 1) := by decide +kernel
theorem dX7_followsBySplitting_3 : decode cX7_followsBySplitting 3 = .ok (.invokevirtual 80, 3) := by decide +kernel
theorem dX7_followsBySplitting_6 : decode cX7_followsBySplitting 6 = .ok (.iconst 1, 1) := by decide +kernel
theorem dX7_followsBySplitting_7 : decode cX7_followsBySplitting 7 = .ok (.iconst 1, 1) := by decide +kernel
theorem dX7_followsBySplitting_8 : decode cX7_followsBySplitting 8 = .ok (.invokevirtual 69, 3) := by decide +kernel
theorem dX7_followsBySplitting_11 : decode cX7_followsBySplitting 11 = .ok (.ifCond .eq 15, 3) := by decide +kernel
theorem dX7_followsBySplitting_14 : decode cX7_followsBySplitting 14 = .ok (.aload_n 0, 1) := by decide +kernel
theorem dX7_followsBySplitting_15 : decode cX7_followsBySplitting 15 = .ok (.iload_n 1, 1) := by decide +kernel
theorem dX7_followsBySplitting_16 : decode cX7_followsBySplitting 16 = .ok (.invokevirtual 218, 3) := by decide +kernel
theorem dX7_followsBySplitting_19 : decode cX7_followsBySplitting 19 = .ok (.ifCond .eq 7, 3) := by decide +kernel
theorem dX7_followsBySplitting_22 : decode cX7_followsBySplitting 22 = .ok (.iconst 1, 1) := by decide +kernel
theorem dX7_followsBySplitting_23 : decode cX7_followsBySplitting 23 = .ok (.goto 4, 3) := by decide +kernel
theorem dX7_followsBySplitting_26 : decode cX7_followsBySplitting 26 = .ok (.iconst 0, 1) := by decide +kernel
theorem dX7_followsBySplitting_27 : decode cX7_followsBySplitting 27 = .ok (.ireturn, 1) := by decide +kernel
theorem dX7_isWithin_0 : decode cX7_isWithin 0 = .ok (.iload_n 1, 1) := by decide +kernel
theorem dX7_isWithin_1 : decode cX7_isWithin 1 = .ok (.iload_n 2, 1) := by decide +kernel
theorem dX7_isWithin_2 : decode cX7_isWithin 2 = .ok (.iconst (-1), 1) := by decide +kernel
theorem dX7_isWithin_3 : decode cX7_isWithin 3 = .ok (.ixor, 1) := by decide +kernel
theorem dX7_isWithin_4 : decode cX7_isWithin 4 = .ok (.iand, 1) := by decide +kernel
theorem dX7_isWithin_5 : decode cX7_isWithin 5 = .ok (.ifCond .ne 7, 3) := by decide +kernel
theorem dX7_isWithin_8 : decode cX7_isWithin 8 = .ok (.iconst 1, 1) := by decide +kernel
theorem dX7_isWithin_9 : decode cX7_isWithin 9 = .ok (.goto 4, 3) := by decide +kernel
theorem dX7_isWithin_12 : decode cX7_isWithin 12 = .ok (.iconst 0, 1) := by decide +kernel
theorem dX7_isWithin_13 : decode cX7_isWithin 13 = .ok (.ireturn, 1) := by decide +kernel
theorem dX7_smallest_0 : decode cX7_smallest 0 = .ok (.aload_n 0, 1) := by decide +kernel
theorem dX7_smallest_1 : decode cX7_smallest 1 = .ok (.invokevirtual 167, 3) := by decide +kernel
theorem dX7_smallest_4 : decode cX7_smallest 4 = .ok (.aload_n 0, 1) := by decide +kernel
theorem dX7_smallest_5 : decode cX7_smallest 5 = .ok (.invokevirtual 160, 3) := by decide +kernel
theorem dX7_smallest_8 : decode cX7_smallest 8 = .ok (.istore_n 1, 1) := by decide +kernel
theorem dX7_smallest_9 : decode cX7_smallest 9 = .ok (.iconst (-1), 1) := by decide +kernel
theorem dX7_smallest_10 : decode cX7_smallest 10 = .ok (.istore_n 2, 1) := by decide +kernel
theorem dX7_smallest_11 : decode cX7_smallest 11 = .ok (.iconst 1, 1) := by decide +kernel
theorem dX7_smallest_12 : decode cX7_smallest 12 = .ok (.aload_n 0, 1) := by decide +kernel
theorem dX7_smallest_13 : decode cX7_smallest 13 = .ok (.getfield 7, 3) := by decide +kernel
theorem dX7_smallest_16 : decode cX7_smallest 16 = .ok (.iconst 0, 1) := by decide +kernel
theorem dX7_smallest_17 : decode cX7_smallest 17 = .ok (.iaload, 1) := by decide +kernel
theorem dX7_smallest_18 : decode cX7_smallest 18 = .ok (.ishl, 1) := by decide +kernel
theorem dX7_smallest_19 : decode cX7_smallest 19 = .ok (.iconst 1, 1) := by decide +kernel
theorem dX7_smallest_20 : decode cX7_smallest 20 = .ok (.isub, 1) := by decide +kernel
theorem dX7_smallest_21 : decode cX7_smallest 21 = .ok (.istore_n 3, 1) := by decide +kernel
theorem dX7_smallest_22 : decode cX7_smallest 22 = .ok (.iload_n 3, 1) := by decide +kernel
theorem dX7_smallest_23 : decode cX7_smallest 23 = .ok (.ifCond .lt 61, 3) := by decide +kernel
theorem dX7_smallest_26 : decode cX7_smallest 26 = .ok (.aload_n 0, 1) := by decide +kernel
theorem dX7_smallest_27 : decode cX7_smallest 27 = .ok (.iload_n 3, 1) := by decide +kernel
theorem dX7_smallest_28 : decode cX7_smallest 28 = .ok (.iload_n 1, 1) := by decide +kernel
theorem dX7_smallest_29 : decode cX7_smallest 29 = .ok (.invokevirtual 221, 3) := by decide +kernel
theorem dX7_smallest_32 : decode cX7_smallest 32 = .ok (.ifCond .eq 17, 3) := by decide +kernel
theorem dX7_smallest_35 : decode cX7_smallest 35 = .ok (.aload_n 0, 1) := by decide +kernel
theorem dX7_smallest_36 : decode cX7_smallest 36 = .ok (.iload_n 3, 1) := by decide +kernel
theorem dX7_smallest_37 : decode cX7_smallest 37 = .ok (.invokevirtual 170, 3) := by decide +kernel
theorem dX7_smallest_40 : decode cX7_smallest 40 = .ok (.lconst 0, 1) := by decide +kernel
theorem dX7_smallest_41 : decode cX7_smallest 41 = .ok (.lcmp, 1) := by decide +kernel
theorem dX7_smallest_42 : decode cX7_smallest 42 = .ok (.ifCond .ne 7, 3) := by decide +kernel
theorem dX7_smallest_45 : decode cX7_smallest 45 = .ok (.iconst 1, 1) := by decide +kernel
theorem dX7_smallest_46 : decode cX7_smallest 46 = .ok (.goto 4, 3) := by decide +kernel
theorem dX7_smallest_49 : decode cX7_smallest 49 = .ok (.iconst 0, 1) := by decide +kernel
theorem dX7_smallest_50 : decode cX7_smallest 50 = .ok (.istore 4, 2) := by decide +kernel
theorem dX7_smallest_52 : decode cX7_smallest 52 = .ok (.iload 4, 2) := by decide +kernel
theorem dX7_smallest_54 : decode cX7_smallest 54 = .ok (.ifCond .eq 22, 3) := by decide +kernel
theorem dX7_smallest_57 : decode cX7_smallest 57 = .ok (.iload_n 2, 1) := by decide +kernel
theorem dX7_smallest_58 : decode cX7_smallest 58 = .ok (.ifCond .lt 14, 3) := by decide +kernel
theorem dX7_smallest_61 : decode cX7_smallest 61 = .ok (.iload_n 3, 1) := by decide +kernel
theorem dX7_smallest_62 : decode cX7_smallest 62 = .ok (.invokestatic 224, 3) := by decide +kernel
theorem dX7_smallest_65 : decode cX7_smallest 65 = .ok (.iload_n 2, 1) := by decide +kernel
theorem dX7_smallest_66 : decode cX7_smallest 66 = .ok (.invokestatic 224, 3) := by decide +kernel
theorem dX7_smallest_69 : decode cX7_smallest 69 = .ok (.if_icmp .gt 7, 3) := by decide +kernel
theorem dX7_smallest_72 : decode cX7_smallest 72 = .ok (.iload_n 3, 1) := by decide +kernel
theorem dX7_smallest_73 : decode cX7_smallest 73 = .ok (.goto 4, 3) := by decide +kernel
theorem dX7_smallest_76 : decode cX7_smallest 76 = .ok (.iload_n 2, 1) := by decide +kernel
theorem dX7_smallest_77 : decode cX7_smallest 77 = .ok (.istore_n 2, 1) := by decide +kernel
theorem dX7_smallest_78 : decode cX7_smallest 78 = .ok (.iinc 3 (-1), 3) := by decide +kernel
theorem dX7_smallest_81 : decode cX7_smallest 81 = .ok (.goto (-59), 3) := by decide +kernel
theorem dX7_smallest_84 : decode cX7_smallest 84 = .ok (.iload_n 2, 1) := by decide +kernel
theorem dX7_smallest_85 : decode cX7_smallest 85 = .ok (.ireturn, 1) := by decide +kernel
theorem dX7_smallestClash_0 : decode cX7_smallestClash 0 = .ok (.aload_n 0, 1) := by decide +kernel
theorem dX7_smallestClash_1 : decode cX7_smallestClash 1 = .ok (.iconst 0, 1) := by decide +kernel
theorem dX7_smallestClash_2 : decode cX7_smallestClash 2 = .ok (.putfield 31, 3) := by decide +kernel
theorem dX7_smallestClash_5 : decode cX7_smallestClash 5 = .ok (.aload_n 0, 1) := by decide +kernel
theorem dX7_smallestClash_6 : decode cX7_smallestClash 6 = .ok (.invokevirtual 227, 3) := by decide +kernel
theorem dX7_smallestClash_9 : decode cX7_smallestClash 9 = .ok (.ireturn, 1) := by decide +kernel
theorem dX7_smallestMeeting_0 : decode cX7_smallestMeeting 0 = .ok (.aload_n 0, 1) := by decide +kernel
theorem dX7_smallestMeeting_1 : decode cX7_smallestMeeting 1 = .ok (.invokevirtual 160, 3) := by decide +kernel
theorem dX7_smallestMeeting_4 : decode cX7_smallestMeeting 4 = .ok (.istore_n 1, 1) := by decide +kernel
theorem dX7_smallestMeeting_5 : decode cX7_smallestMeeting 5 = .ok (.iconst (-1), 1) := by decide +kernel
theorem dX7_smallestMeeting_6 : decode cX7_smallestMeeting 6 = .ok (.istore_n 2, 1) := by decide +kernel
theorem dX7_smallestMeeting_7 : decode cX7_smallestMeeting 7 = .ok (.iconst 0, 1) := by decide +kernel
theorem dX7_smallestMeeting_8 : decode cX7_smallestMeeting 8 = .ok (.istore_n 3, 1) := by decide +kernel
theorem dX7_smallestMeeting_9 : decode cX7_smallestMeeting 9 = .ok (.iload_n 3, 1) := by decide +kernel
theorem dX7_smallestMeeting_10 : decode cX7_smallestMeeting 10 = .ok (.iconst 1, 1) := by decide +kernel
theorem dX7_smallestMeeting_11 : decode cX7_smallestMeeting 11 = .ok (.aload_n 0, 1) := by decide +kernel
theorem dX7_smallestMeeting_12 : decode cX7_smallestMeeting 12 = .ok (.getfield 7, 3) := by decide +kernel
theorem dX7_smallestMeeting_15 : decode cX7_smallestMeeting 15 = .ok (.iconst 0, 1) := by decide +kernel
theorem dX7_smallestMeeting_16 : decode cX7_smallestMeeting 16 = .ok (.iaload, 1) := by decide +kernel
theorem dX7_smallestMeeting_17 : decode cX7_smallestMeeting 17 = .ok (.ishl, 1) := by decide +kernel
theorem dX7_smallestMeeting_18 : decode cX7_smallestMeeting 18 = .ok (.if_icmp .ge 82, 3) := by decide +kernel
theorem dX7_smallestMeeting_21 : decode cX7_smallestMeeting 21 = .ok (.aload_n 0, 1) := by decide +kernel
theorem dX7_smallestMeeting_22 : decode cX7_smallestMeeting 22 = .ok (.iload_n 3, 1) := by decide +kernel
theorem dX7_smallestMeeting_23 : decode cX7_smallestMeeting 23 = .ok (.iload_n 1, 1) := by decide +kernel
theorem dX7_smallestMeeting_24 : decode cX7_smallestMeeting 24 = .ok (.invokevirtual 221, 3) := by decide +kernel
theorem dX7_smallestMeeting_27 : decode cX7_smallestMeeting 27 = .ok (.istore 4, 2) := by decide +kernel
theorem dX7_smallestMeeting_29 : decode cX7_smallestMeeting 29 = .ok (.iconst 0, 1) := by decide +kernel
theorem dX7_smallestMeeting_30 : decode cX7_smallestMeeting 30 = .ok (.istore 5, 2) := by decide +kernel
theorem dX7_smallestMeeting_32 : decode cX7_smallestMeeting 32 = .ok (.iload 5, 2) := by decide +kernel
theorem dX7_smallestMeeting_34 : decode cX7_smallestMeeting 34 = .ok (.bipush 64, 2) := by decide +kernel
theorem dX7_smallestMeeting_36 : decode cX7_smallestMeeting 36 = .ok (.if_icmp .ge 32, 3) := by decide +kernel
theorem dX7_smallestMeeting_39 : decode cX7_smallestMeeting 39 = .ok (.iload 4, 2) := by decide +kernel
theorem dX7_smallestMeeting_41 : decode cX7_smallestMeeting 41 = .ok (.ifCond .eq 27, 3) := by decide +kernel
theorem dX7_smallestMeeting_44 : decode cX7_smallestMeeting 44 = .ok (.iload_n 3, 1) := by decide +kernel
theorem dX7_smallestMeeting_45 : decode cX7_smallestMeeting 45 = .ok (.aload_n 0, 1) := by decide +kernel
theorem dX7_smallestMeeting_46 : decode cX7_smallestMeeting 46 = .ok (.iload 5, 2) := by decide +kernel
theorem dX7_smallestMeeting_48 : decode cX7_smallestMeeting 48 = .ok (.invokevirtual 104, 3) := by decide +kernel
theorem dX7_smallestMeeting_51 : decode cX7_smallestMeeting 51 = .ok (.iand, 1) := by decide +kernel
theorem dX7_smallestMeeting_52 : decode cX7_smallestMeeting 52 = .ok (.ifCond .eq 7, 3) := by decide +kernel
theorem dX7_smallestMeeting_55 : decode cX7_smallestMeeting 55 = .ok (.iconst 1, 1) := by decide +kernel
theorem dX7_smallestMeeting_56 : decode cX7_smallestMeeting 56 = .ok (.goto 4, 3) := by decide +kernel
theorem dX7_smallestMeeting_59 : decode cX7_smallestMeeting 59 = .ok (.iconst 0, 1) := by decide +kernel
theorem dX7_smallestMeeting_60 : decode cX7_smallestMeeting 60 = .ok (.istore 4, 2) := by decide +kernel
theorem dX7_smallestMeeting_62 : decode cX7_smallestMeeting 62 = .ok (.iinc 5 1, 3) := by decide +kernel
theorem dX7_smallestMeeting_65 : decode cX7_smallestMeeting 65 = .ok (.goto (-33), 3) := by decide +kernel
theorem dX7_smallestMeeting_68 : decode cX7_smallestMeeting 68 = .ok (.iload 4, 2) := by decide +kernel
theorem dX7_smallestMeeting_70 : decode cX7_smallestMeeting 70 = .ok (.ifCond .eq 22, 3) := by decide +kernel
theorem dX7_smallestMeeting_73 : decode cX7_smallestMeeting 73 = .ok (.iload_n 2, 1) := by decide +kernel
theorem dX7_smallestMeeting_74 : decode cX7_smallestMeeting 74 = .ok (.ifCond .lt 14, 3) := by decide +kernel
theorem dX7_smallestMeeting_77 : decode cX7_smallestMeeting 77 = .ok (.iload_n 3, 1) := by decide +kernel
theorem dX7_smallestMeeting_78 : decode cX7_smallestMeeting 78 = .ok (.invokestatic 224, 3) := by decide +kernel
theorem dX7_smallestMeeting_81 : decode cX7_smallestMeeting 81 = .ok (.iload_n 2, 1) := by decide +kernel
theorem dX7_smallestMeeting_82 : decode cX7_smallestMeeting 82 = .ok (.invokestatic 224, 3) := by decide +kernel
theorem dX7_smallestMeeting_85 : decode cX7_smallestMeeting 85 = .ok (.if_icmp .ge 7, 3) := by decide +kernel
theorem dX7_smallestMeeting_88 : decode cX7_smallestMeeting 88 = .ok (.iload_n 3, 1) := by decide +kernel
theorem dX7_smallestMeeting_89 : decode cX7_smallestMeeting 89 = .ok (.goto 4, 3) := by decide +kernel
theorem dX7_smallestMeeting_92 : decode cX7_smallestMeeting 92 = .ok (.iload_n 2, 1) := by decide +kernel
theorem dX7_smallestMeeting_93 : decode cX7_smallestMeeting 93 = .ok (.istore_n 2, 1) := by decide +kernel
theorem dX7_smallestMeeting_94 : decode cX7_smallestMeeting 94 = .ok (.iinc 3 1, 3) := by decide +kernel
theorem dX7_smallestMeeting_97 : decode cX7_smallestMeeting 97 = .ok (.goto (-88), 3) := by decide +kernel
theorem dX7_smallestMeeting_100 : decode cX7_smallestMeeting 100 = .ok (.iload_n 2, 1) := by decide +kernel
theorem dX7_smallestMeeting_101 : decode cX7_smallestMeeting 101 = .ok (.ireturn, 1) := by decide +kernel
theorem dX7_smallestClashByWays_0 : decode cX7_smallestClashByWays 0 = .ok (.aload_n 0, 1) := by decide +kernel
theorem dX7_smallestClashByWays_1 : decode cX7_smallestClashByWays 1 = .ok (.iconst 0, 1) := by decide +kernel
theorem dX7_smallestClashByWays_2 : decode cX7_smallestClashByWays 2 = .ok (.putfield 31, 3) := by decide +kernel
theorem dX7_smallestClashByWays_5 : decode cX7_smallestClashByWays 5 = .ok (.aload_n 0, 1) := by decide +kernel
theorem dX7_smallestClashByWays_6 : decode cX7_smallestClashByWays 6 = .ok (.invokevirtual 230, 3) := by decide +kernel
theorem dX7_smallestClashByWays_9 : decode cX7_smallestClashByWays 9 = .ok (.ireturn, 1) := by decide +kernel
theorem dX7_narrowed_0 : decode cX7_narrowed 0 = .ok (.aload_n 0, 1) := by decide +kernel
theorem dX7_narrowed_1 : decode cX7_narrowed 1 = .ok (.invokevirtual 167, 3) := by decide +kernel
theorem dX7_narrowed_4 : decode cX7_narrowed 4 = .ok (.aload_n 0, 1) := by decide +kernel
theorem dX7_narrowed_5 : decode cX7_narrowed 5 = .ok (.invokevirtual 160, 3) := by decide +kernel
theorem dX7_narrowed_8 : decode cX7_narrowed 8 = .ok (.istore_n 1, 1) := by decide +kernel
theorem dX7_narrowed_9 : decode cX7_narrowed 9 = .ok (.aload_n 0, 1) := by decide +kernel
theorem dX7_narrowed_10 : decode cX7_narrowed 10 = .ok (.iload_n 1, 1) := by decide +kernel
theorem dX7_narrowed_11 : decode cX7_narrowed 11 = .ok (.invokevirtual 170, 3) := by decide +kernel
theorem dX7_narrowed_14 : decode cX7_narrowed 14 = .ok (.lconst 0, 1) := by decide +kernel
theorem dX7_narrowed_15 : decode cX7_narrowed 15 = .ok (.lcmp, 1) := by decide +kernel
theorem dX7_narrowed_16 : decode cX7_narrowed 16 = .ok (.ifCond .eq 5, 3) := by decide +kernel
theorem dX7_narrowed_19 : decode cX7_narrowed 19 = .ok (.iconst (-1), 1) := by decide +kernel
theorem dX7_narrowed_20 : decode cX7_narrowed 20 = .ok (.ireturn, 1) := by decide +kernel
theorem dX7_narrowed_21 : decode cX7_narrowed 21 = .ok (.aload_n 0, 1) := by decide +kernel
theorem dX7_narrowed_22 : decode cX7_narrowed 22 = .ok (.getfield 7, 3) := by decide +kernel
theorem dX7_narrowed_25 : decode cX7_narrowed 25 = .ok (.iconst 0, 1) := by decide +kernel
theorem dX7_narrowed_26 : decode cX7_narrowed 26 = .ok (.iaload, 1) := by decide +kernel
theorem dX7_narrowed_27 : decode cX7_narrowed 27 = .ok (.iconst 1, 1) := by decide +kernel
theorem dX7_narrowed_28 : decode cX7_narrowed 28 = .ok (.isub, 1) := by decide +kernel
theorem dX7_narrowed_29 : decode cX7_narrowed 29 = .ok (.istore_n 2, 1) := by decide +kernel
theorem dX7_narrowed_30 : decode cX7_narrowed 30 = .ok (.iload_n 2, 1) := by decide +kernel
theorem dX7_narrowed_31 : decode cX7_narrowed 31 = .ok (.ifCond .lt 33, 3) := by decide +kernel
theorem dX7_narrowed_34 : decode cX7_narrowed 34 = .ok (.iload_n 1, 1) := by decide +kernel
theorem dX7_narrowed_35 : decode cX7_narrowed 35 = .ok (.iconst 1, 1) := by decide +kernel
theorem dX7_narrowed_36 : decode cX7_narrowed 36 = .ok (.iload_n 2, 1) := by decide +kernel
theorem dX7_narrowed_37 : decode cX7_narrowed 37 = .ok (.ishl, 1) := by decide +kernel
theorem dX7_narrowed_38 : decode cX7_narrowed 38 = .ok (.iconst (-1), 1) := by decide +kernel
theorem dX7_narrowed_39 : decode cX7_narrowed 39 = .ok (.ixor, 1) := by decide +kernel
theorem dX7_narrowed_40 : decode cX7_narrowed 40 = .ok (.iand, 1) := by decide +kernel
theorem dX7_narrowed_41 : decode cX7_narrowed 41 = .ok (.istore_n 3, 1) := by decide +kernel
theorem dX7_narrowed_42 : decode cX7_narrowed 42 = .ok (.aload_n 0, 1) := by decide +kernel
theorem dX7_narrowed_43 : decode cX7_narrowed 43 = .ok (.iload_n 3, 1) := by decide +kernel
theorem dX7_narrowed_44 : decode cX7_narrowed 44 = .ok (.invokevirtual 170, 3) := by decide +kernel
theorem dX7_narrowed_47 : decode cX7_narrowed 47 = .ok (.lconst 0, 1) := by decide +kernel
theorem dX7_narrowed_48 : decode cX7_narrowed 48 = .ok (.lcmp, 1) := by decide +kernel
theorem dX7_narrowed_49 : decode cX7_narrowed 49 = .ok (.ifCond .ne 7, 3) := by decide +kernel
theorem dX7_narrowed_52 : decode cX7_narrowed 52 = .ok (.iload_n 3, 1) := by decide +kernel
theorem dX7_narrowed_53 : decode cX7_narrowed 53 = .ok (.goto 4, 3) := by decide +kernel
theorem dX7_narrowed_56 : decode cX7_narrowed 56 = .ok (.iload_n 1, 1) := by decide +kernel
theorem dX7_narrowed_57 : decode cX7_narrowed 57 = .ok (.istore_n 1, 1) := by decide +kernel
theorem dX7_narrowed_58 : decode cX7_narrowed 58 = .ok (.iinc 2 (-1), 3) := by decide +kernel
theorem dX7_narrowed_61 : decode cX7_narrowed 61 = .ok (.goto (-31), 3) := by decide +kernel
theorem dX7_narrowed_64 : decode cX7_narrowed 64 = .ok (.iload_n 1, 1) := by decide +kernel
theorem dX7_narrowed_65 : decode cX7_narrowed 65 = .ok (.ireturn, 1) := by decide +kernel
theorem dX7_narrowedClash_0 : decode cX7_narrowedClash 0 = .ok (.aload_n 0, 1) := by decide +kernel
theorem dX7_narrowedClash_1 : decode cX7_narrowedClash 1 = .ok (.iconst 0, 1) := by decide +kernel
theorem dX7_narrowedClash_2 : decode cX7_narrowedClash 2 = .ok (.putfield 31, 3) := by decide +kernel
theorem dX7_narrowedClash_5 : decode cX7_narrowedClash 5 = .ok (.aload_n 0, 1) := by decide +kernel
theorem dX7_narrowedClash_6 : decode cX7_narrowedClash 6 = .ok (.invokevirtual 233, 3) := by decide +kernel
theorem dX7_narrowedClash_9 : decode cX7_narrowedClash 9 = .ok (.ireturn, 1) := by decide +kernel
theorem dX7_isNarrow_0 : decode cX7_isNarrow 0 = .ok (.aload_n 0, 1) := by decide +kernel
theorem dX7_isNarrow_1 : decode cX7_isNarrow 1 = .ok (.iload_n 1, 1) := by decide +kernel
theorem dX7_isNarrow_2 : decode cX7_isNarrow 2 = .ok (.invokevirtual 170, 3) := by decide +kernel
theorem dX7_isNarrow_5 : decode cX7_isNarrow 5 = .ok (.lconst 0, 1) := by decide +kernel
theorem dX7_isNarrow_6 : decode cX7_isNarrow 6 = .ok (.lcmp, 1) := by decide +kernel
theorem dX7_isNarrow_7 : decode cX7_isNarrow 7 = .ok (.ifCond .ne 7, 3) := by decide +kernel
theorem dX7_isNarrow_10 : decode cX7_isNarrow 10 = .ok (.iconst 1, 1) := by decide +kernel
theorem dX7_isNarrow_11 : decode cX7_isNarrow 11 = .ok (.goto 4, 3) := by decide +kernel
theorem dX7_isNarrow_14 : decode cX7_isNarrow 14 = .ok (.iconst 0, 1) := by decide +kernel
theorem dX7_isNarrow_15 : decode cX7_isNarrow 15 = .ok (.istore_n 2, 1) := by decide +kernel
theorem dX7_isNarrow_16 : decode cX7_isNarrow 16 = .ok (.iconst 0, 1) := by decide +kernel
theorem dX7_isNarrow_17 : decode cX7_isNarrow 17 = .ok (.istore_n 3, 1) := by decide +kernel
theorem dX7_isNarrow_18 : decode cX7_isNarrow 18 = .ok (.iload_n 3, 1) := by decide +kernel
theorem dX7_isNarrow_19 : decode cX7_isNarrow 19 = .ok (.aload_n 0, 1) := by decide +kernel
theorem dX7_isNarrow_20 : decode cX7_isNarrow 20 = .ok (.getfield 7, 3) := by decide +kernel
theorem dX7_isNarrow_23 : decode cX7_isNarrow 23 = .ok (.iconst 0, 1) := by decide +kernel
theorem dX7_isNarrow_24 : decode cX7_isNarrow 24 = .ok (.iaload, 1) := by decide +kernel
theorem dX7_isNarrow_25 : decode cX7_isNarrow 25 = .ok (.if_icmp .ge 43, 3) := by decide +kernel
theorem dX7_isNarrow_28 : decode cX7_isNarrow 28 = .ok (.iload_n 2, 1) := by decide +kernel
theorem dX7_isNarrow_29 : decode cX7_isNarrow 29 = .ok (.ifCond .eq 31, 3) := by decide +kernel
theorem dX7_isNarrow_32 : decode cX7_isNarrow 32 = .ok (.iload_n 1, 1) := by decide +kernel
theorem dX7_isNarrow_33 : decode cX7_isNarrow 33 = .ok (.iload_n 3, 1) := by decide +kernel
theorem dX7_isNarrow_34 : decode cX7_isNarrow 34 = .ok (.invokestatic 46, 3) := by decide +kernel
theorem dX7_isNarrow_37 : decode cX7_isNarrow 37 = .ok (.ifCond .eq 19, 3) := by decide +kernel
theorem dX7_isNarrow_40 : decode cX7_isNarrow 40 = .ok (.aload_n 0, 1) := by decide +kernel
theorem dX7_isNarrow_41 : decode cX7_isNarrow 41 = .ok (.iload_n 1, 1) := by decide +kernel
theorem dX7_isNarrow_42 : decode cX7_isNarrow 42 = .ok (.iconst 1, 1) := by decide +kernel
theorem dX7_isNarrow_43 : decode cX7_isNarrow 43 = .ok (.iload_n 3, 1) := by decide +kernel
theorem dX7_isNarrow_44 : decode cX7_isNarrow 44 = .ok (.ishl, 1) := by decide +kernel
theorem dX7_isNarrow_45 : decode cX7_isNarrow 45 = .ok (.iconst (-1), 1) := by decide +kernel
theorem dX7_isNarrow_46 : decode cX7_isNarrow 46 = .ok (.ixor, 1) := by decide +kernel
theorem dX7_isNarrow_47 : decode cX7_isNarrow 47 = .ok (.iand, 1) := by decide +kernel
theorem dX7_isNarrow_48 : decode cX7_isNarrow 48 = .ok (.invokevirtual 170, 3) := by decide +kernel
theorem dX7_isNarrow_51 : decode cX7_isNarrow 51 = .ok (.lconst 0, 1) := by decide +kernel
theorem dX7_isNarrow_52 : decode cX7_isNarrow 52 = .ok (.lcmp, 1) := by decide +kernel
theorem dX7_isNarrow_53 : decode cX7_isNarrow 53 = .ok (.ifCond .eq 7, 3) := by decide +kernel
theorem dX7_isNarrow_56 : decode cX7_isNarrow 56 = .ok (.iconst 1, 1) := by decide +kernel
theorem dX7_isNarrow_57 : decode cX7_isNarrow 57 = .ok (.goto 4, 3) := by decide +kernel
theorem dX7_isNarrow_60 : decode cX7_isNarrow 60 = .ok (.iconst 0, 1) := by decide +kernel
theorem dX7_isNarrow_61 : decode cX7_isNarrow 61 = .ok (.istore_n 2, 1) := by decide +kernel
theorem dX7_isNarrow_62 : decode cX7_isNarrow 62 = .ok (.iinc 3 1, 3) := by decide +kernel
theorem dX7_isNarrow_65 : decode cX7_isNarrow 65 = .ok (.goto (-47), 3) := by decide +kernel
theorem dX7_isNarrow_68 : decode cX7_isNarrow 68 = .ok (.iload_n 2, 1) := by decide +kernel
theorem dX7_isNarrow_69 : decode cX7_isNarrow 69 = .ok (.ireturn, 1) := by decide +kernel
theorem dX7_narrows_0 : decode cX7_narrows 0 = .ok (.aload_n 0, 1) := by decide +kernel
theorem dX7_narrows_1 : decode cX7_narrows 1 = .ok (.invokevirtual 167, 3) := by decide +kernel
theorem dX7_narrows_4 : decode cX7_narrows 4 = .ok (.aload_n 0, 1) := by decide +kernel
theorem dX7_narrows_5 : decode cX7_narrows 5 = .ok (.invokevirtual 160, 3) := by decide +kernel
theorem dX7_narrows_8 : decode cX7_narrows 8 = .ok (.istore_n 1, 1) := by decide +kernel
theorem dX7_narrows_9 : decode cX7_narrows 9 = .ok (.iconst 0, 1) := by decide +kernel
theorem dX7_narrows_10 : decode cX7_narrows 10 = .ok (.istore_n 2, 1) := by decide +kernel
theorem dX7_narrows_11 : decode cX7_narrows 11 = .ok (.iconst 0, 1) := by decide +kernel
theorem dX7_narrows_12 : decode cX7_narrows 12 = .ok (.istore_n 3, 1) := by decide +kernel
theorem dX7_narrows_13 : decode cX7_narrows 13 = .ok (.iload_n 3, 1) := by decide +kernel
theorem dX7_narrows_14 : decode cX7_narrows 14 = .ok (.iconst 1, 1) := by decide +kernel
theorem dX7_narrows_15 : decode cX7_narrows 15 = .ok (.aload_n 0, 1) := by decide +kernel
theorem dX7_narrows_16 : decode cX7_narrows 16 = .ok (.getfield 7, 3) := by decide +kernel
theorem dX7_narrows_19 : decode cX7_narrows 19 = .ok (.iconst 0, 1) := by decide +kernel
theorem dX7_narrows_20 : decode cX7_narrows 20 = .ok (.iaload, 1) := by decide +kernel
theorem dX7_narrows_21 : decode cX7_narrows 21 = .ok (.ishl, 1) := by decide +kernel
theorem dX7_narrows_22 : decode cX7_narrows 22 = .ok (.if_icmp .ge 34, 3) := by decide +kernel
theorem dX7_narrows_25 : decode cX7_narrows 25 = .ok (.iload_n 2, 1) := by decide +kernel
theorem dX7_narrows_26 : decode cX7_narrows 26 = .ok (.aload_n 0, 1) := by decide +kernel
theorem dX7_narrows_27 : decode cX7_narrows 27 = .ok (.iload_n 3, 1) := by decide +kernel
theorem dX7_narrows_28 : decode cX7_narrows 28 = .ok (.iload_n 1, 1) := by decide +kernel
theorem dX7_narrows_29 : decode cX7_narrows 29 = .ok (.invokevirtual 221, 3) := by decide +kernel
theorem dX7_narrows_32 : decode cX7_narrows 32 = .ok (.ifCond .eq 15, 3) := by decide +kernel
theorem dX7_narrows_35 : decode cX7_narrows 35 = .ok (.aload_n 0, 1) := by decide +kernel
theorem dX7_narrows_36 : decode cX7_narrows 36 = .ok (.iload_n 3, 1) := by decide +kernel
theorem dX7_narrows_37 : decode cX7_narrows 37 = .ok (.invokevirtual 236, 3) := by decide +kernel
theorem dX7_narrows_40 : decode cX7_narrows 40 = .ok (.ifCond .eq 7, 3) := by decide +kernel
theorem dX7_narrows_43 : decode cX7_narrows 43 = .ok (.iconst 1, 1) := by decide +kernel
theorem dX7_narrows_44 : decode cX7_narrows 44 = .ok (.goto 4, 3) := by decide +kernel
theorem dX7_narrows_47 : decode cX7_narrows 47 = .ok (.iconst 0, 1) := by decide +kernel
theorem dX7_narrows_48 : decode cX7_narrows 48 = .ok (.iadd, 1) := by decide +kernel
theorem dX7_narrows_49 : decode cX7_narrows 49 = .ok (.istore_n 2, 1) := by decide +kernel
theorem dX7_narrows_50 : decode cX7_narrows 50 = .ok (.iinc 3 1, 3) := by decide +kernel
theorem dX7_narrows_53 : decode cX7_narrows 53 = .ok (.goto (-40), 3) := by decide +kernel
theorem dX7_narrows_56 : decode cX7_narrows 56 = .ok (.iload_n 2, 1) := by decide +kernel
theorem dX7_narrows_57 : decode cX7_narrows 57 = .ok (.ireturn, 1) := by decide +kernel
theorem dX7_narrowClashes_0 : decode cX7_narrowClashes 0 = .ok (.aload_n 0, 1) := by decide +kernel
theorem dX7_narrowClashes_1 : decode cX7_narrowClashes 1 = .ok (.iconst 0, 1) := by decide +kernel
theorem dX7_narrowClashes_2 : decode cX7_narrowClashes 2 = .ok (.putfield 31, 3) := by decide +kernel
theorem dX7_narrowClashes_5 : decode cX7_narrowClashes 5 = .ok (.aload_n 0, 1) := by decide +kernel
theorem dX7_narrowClashes_6 : decode cX7_narrowClashes 6 = .ok (.invokevirtual 239, 3) := by decide +kernel
theorem dX7_narrowClashes_9 : decode cX7_narrowClashes 9 = .ok (.ireturn, 1) := by decide +kernel
theorem dX7_waivers_0 : decode cX7_waivers 0 = .ok (.aload_n 0, 1) := by decide +kernel
theorem dX7_waivers_1 : decode cX7_waivers 1 = .ok (.iconst 0, 1) := by decide +kernel
theorem dX7_waivers_2 : decode cX7_waivers 2 = .ok (.invokevirtual 104, 3) := by decide +kernel
theorem dX7_waivers_5 : decode cX7_waivers 5 = .ok (.istore_n 1, 1) := by decide +kernel
theorem dX7_waivers_6 : decode cX7_waivers 6 = .ok (.iconst 1, 1) := by decide +kernel
theorem dX7_waivers_7 : decode cX7_waivers 7 = .ok (.istore_n 2, 1) := by decide +kernel
theorem dX7_waivers_8 : decode cX7_waivers 8 = .ok (.iload_n 2, 1) := by decide +kernel
theorem dX7_waivers_9 : decode cX7_waivers 9 = .ok (.bipush 64, 2) := by decide +kernel
theorem dX7_waivers_11 : decode cX7_waivers 11 = .ok (.if_icmp .ge 60, 3) := by decide +kernel
theorem dX7_waivers_14 : decode cX7_waivers 14 = .ok (.aload_n 0, 1) := by decide +kernel
theorem dX7_waivers_15 : decode cX7_waivers 15 = .ok (.iload_n 2, 1) := by decide +kernel
theorem dX7_waivers_16 : decode cX7_waivers 16 = .ok (.invokevirtual 104, 3) := by decide +kernel
theorem dX7_waivers_19 : decode cX7_waivers 19 = .ok (.istore_n 3, 1) := by decide +kernel
theorem dX7_waivers_20 : decode cX7_waivers 20 = .ok (.iload_n 3, 1) := by decide +kernel
theorem dX7_waivers_21 : decode cX7_waivers 21 = .ok (.invokestatic 224, 3) := by decide +kernel
theorem dX7_waivers_24 : decode cX7_waivers 24 = .ok (.iload_n 1, 1) := by decide +kernel
theorem dX7_waivers_25 : decode cX7_waivers 25 = .ok (.invokestatic 224, 3) := by decide +kernel
theorem dX7_waivers_28 : decode cX7_waivers 28 = .ok (.if_icmp .lt 19, 3) := by decide +kernel
theorem dX7_waivers_31 : decode cX7_waivers 31 = .ok (.iload_n 3, 1) := by decide +kernel
theorem dX7_waivers_32 : decode cX7_waivers 32 = .ok (.invokestatic 224, 3) := by decide +kernel
theorem dX7_waivers_35 : decode cX7_waivers 35 = .ok (.iload_n 1, 1) := by decide +kernel
theorem dX7_waivers_36 : decode cX7_waivers 36 = .ok (.invokestatic 224, 3) := by decide +kernel
theorem dX7_waivers_39 : decode cX7_waivers 39 = .ok (.if_icmp .ne 12, 3) := by decide +kernel
theorem dX7_waivers_42 : decode cX7_waivers 42 = .ok (.iload_n 3, 1) := by decide +kernel
theorem dX7_waivers_43 : decode cX7_waivers 43 = .ok (.iload_n 1, 1) := by decide +kernel
theorem dX7_waivers_44 : decode cX7_waivers 44 = .ok (.if_icmp .ge 7, 3) := by decide +kernel
theorem dX7_waivers_47 : decode cX7_waivers 47 = .ok (.iconst 1, 1) := by decide +kernel
theorem dX7_waivers_48 : decode cX7_waivers 48 = .ok (.goto 4, 3) := by decide +kernel
theorem dX7_waivers_51 : decode cX7_waivers 51 = .ok (.iconst 0, 1) := by decide +kernel
theorem dX7_waivers_52 : decode cX7_waivers 52 = .ok (.istore 4, 2) := by decide +kernel
theorem dX7_waivers_54 : decode cX7_waivers 54 = .ok (.iload 4, 2) := by decide +kernel
theorem dX7_waivers_56 : decode cX7_waivers 56 = .ok (.ifCond .eq 7, 3) := by decide +kernel
theorem dX7_waivers_59 : decode cX7_waivers 59 = .ok (.iload_n 3, 1) := by decide +kernel
theorem dX7_waivers_60 : decode cX7_waivers 60 = .ok (.goto 4, 3) := by decide +kernel
theorem dX7_waivers_63 : decode cX7_waivers 63 = .ok (.iload_n 1, 1) := by decide +kernel
theorem dX7_waivers_64 : decode cX7_waivers 64 = .ok (.istore_n 1, 1) := by decide +kernel
theorem dX7_waivers_65 : decode cX7_waivers 65 = .ok (.iinc 2 1, 3) := by decide +kernel
theorem dX7_waivers_68 : decode cX7_waivers 68 = .ok (.goto (-60), 3) := by decide +kernel
theorem dX7_waivers_71 : decode cX7_waivers 71 = .ok (.iload_n 1, 1) := by decide +kernel
theorem dX7_waivers_72 : decode cX7_waivers 72 = .ok (.ireturn, 1) := by decide +kernel
theorem dX7_fewestWaivers_0 : decode cX7_fewestWaivers 0 = .ok (.aload_n 0, 1) := by decide +kernel
theorem dX7_fewestWaivers_1 : decode cX7_fewestWaivers 1 = .ok (.iconst 0, 1) := by decide +kernel
theorem dX7_fewestWaivers_2 : decode cX7_fewestWaivers 2 = .ok (.putfield 31, 3) := by decide +kernel
theorem dX7_fewestWaivers_5 : decode cX7_fewestWaivers 5 = .ok (.aload_n 0, 1) := by decide +kernel
theorem dX7_fewestWaivers_6 : decode cX7_fewestWaivers 6 = .ok (.invokevirtual 242, 3) := by decide +kernel
theorem dX7_fewestWaivers_9 : decode cX7_fewestWaivers 9 = .ok (.ireturn, 1) := by decide +kernel
theorem dX7_waiversBySets_0 : decode cX7_waiversBySets 0 = .ok (.aload_n 0, 1) := by decide +kernel
theorem dX7_waiversBySets_1 : decode cX7_waiversBySets 1 = .ok (.invokevirtual 167, 3) := by decide +kernel
theorem dX7_waiversBySets_4 : decode cX7_waiversBySets 4 = .ok (.aload_n 0, 1) := by decide +kernel
theorem dX7_waiversBySets_5 : decode cX7_waiversBySets 5 = .ok (.invokevirtual 160, 3) := by decide +kernel
theorem dX7_waiversBySets_8 : decode cX7_waiversBySets 8 = .ok (.istore_n 1, 1) := by decide +kernel
theorem dX7_waiversBySets_9 : decode cX7_waiversBySets 9 = .ok (.iload_n 1, 1) := by decide +kernel
theorem dX7_waiversBySets_10 : decode cX7_waiversBySets 10 = .ok (.istore_n 2, 1) := by decide +kernel
theorem dX7_waiversBySets_11 : decode cX7_waiversBySets 11 = .ok (.iconst 1, 1) := by decide +kernel
theorem dX7_waiversBySets_12 : decode cX7_waiversBySets 12 = .ok (.aload_n 0, 1) := by decide +kernel
theorem dX7_waiversBySets_13 : decode cX7_waiversBySets 13 = .ok (.getfield 7, 3) := by decide +kernel
theorem dX7_waiversBySets_16 : decode cX7_waiversBySets 16 = .ok (.iconst 0, 1) := by decide +kernel
theorem dX7_waiversBySets_17 : decode cX7_waiversBySets 17 = .ok (.iaload, 1) := by decide +kernel
theorem dX7_waiversBySets_18 : decode cX7_waiversBySets 18 = .ok (.ishl, 1) := by decide +kernel
theorem dX7_waiversBySets_19 : decode cX7_waiversBySets 19 = .ok (.iconst 1, 1) := by decide +kernel
theorem dX7_waiversBySets_20 : decode cX7_waiversBySets 20 = .ok (.isub, 1) := by decide +kernel
theorem dX7_waiversBySets_21 : decode cX7_waiversBySets 21 = .ok (.istore_n 3, 1) := by decide +kernel
theorem dX7_waiversBySets_22 : decode cX7_waiversBySets 22 = .ok (.iload_n 3, 1) := by decide +kernel
theorem dX7_waiversBySets_23 : decode cX7_waiversBySets 23 = .ok (.ifCond .lt 61, 3) := by decide +kernel
theorem dX7_waiversBySets_26 : decode cX7_waiversBySets 26 = .ok (.aload_n 0, 1) := by decide +kernel
theorem dX7_waiversBySets_27 : decode cX7_waiversBySets 27 = .ok (.iload_n 3, 1) := by decide +kernel
theorem dX7_waiversBySets_28 : decode cX7_waiversBySets 28 = .ok (.iload_n 1, 1) := by decide +kernel
theorem dX7_waiversBySets_29 : decode cX7_waiversBySets 29 = .ok (.invokevirtual 221, 3) := by decide +kernel
theorem dX7_waiversBySets_32 : decode cX7_waiversBySets 32 = .ok (.ifCond .eq 21, 3) := by decide +kernel
theorem dX7_waiversBySets_35 : decode cX7_waiversBySets 35 = .ok (.aload_n 0, 1) := by decide +kernel
theorem dX7_waiversBySets_36 : decode cX7_waiversBySets 36 = .ok (.iload_n 1, 1) := by decide +kernel
theorem dX7_waiversBySets_37 : decode cX7_waiversBySets 37 = .ok (.iload_n 3, 1) := by decide +kernel
theorem dX7_waiversBySets_38 : decode cX7_waiversBySets 38 = .ok (.iconst (-1), 1) := by decide +kernel
theorem dX7_waiversBySets_39 : decode cX7_waiversBySets 39 = .ok (.ixor, 1) := by decide +kernel
theorem dX7_waiversBySets_40 : decode cX7_waiversBySets 40 = .ok (.iand, 1) := by decide +kernel
theorem dX7_waiversBySets_41 : decode cX7_waiversBySets 41 = .ok (.invokevirtual 170, 3) := by decide +kernel
theorem dX7_waiversBySets_44 : decode cX7_waiversBySets 44 = .ok (.lconst 0, 1) := by decide +kernel
theorem dX7_waiversBySets_45 : decode cX7_waiversBySets 45 = .ok (.lcmp, 1) := by decide +kernel
theorem dX7_waiversBySets_46 : decode cX7_waiversBySets 46 = .ok (.ifCond .eq 7, 3) := by decide +kernel
theorem dX7_waiversBySets_49 : decode cX7_waiversBySets 49 = .ok (.iconst 1, 1) := by decide +kernel
theorem dX7_waiversBySets_50 : decode cX7_waiversBySets 50 = .ok (.goto 4, 3) := by decide +kernel
theorem dX7_waiversBySets_53 : decode cX7_waiversBySets 53 = .ok (.iconst 0, 1) := by decide +kernel
theorem dX7_waiversBySets_54 : decode cX7_waiversBySets 54 = .ok (.istore 4, 2) := by decide +kernel
theorem dX7_waiversBySets_56 : decode cX7_waiversBySets 56 = .ok (.iload 4, 2) := by decide +kernel
theorem dX7_waiversBySets_58 : decode cX7_waiversBySets 58 = .ok (.ifCond .eq 18, 3) := by decide +kernel
theorem dX7_waiversBySets_61 : decode cX7_waiversBySets 61 = .ok (.iload_n 3, 1) := by decide +kernel
theorem dX7_waiversBySets_62 : decode cX7_waiversBySets 62 = .ok (.invokestatic 224, 3) := by decide +kernel
theorem dX7_waiversBySets_65 : decode cX7_waiversBySets 65 = .ok (.iload_n 2, 1) := by decide +kernel
theorem dX7_waiversBySets_66 : decode cX7_waiversBySets 66 = .ok (.invokestatic 224, 3) := by decide +kernel
theorem dX7_waiversBySets_69 : decode cX7_waiversBySets 69 = .ok (.if_icmp .gt 7, 3) := by decide +kernel
theorem dX7_waiversBySets_72 : decode cX7_waiversBySets 72 = .ok (.iload_n 3, 1) := by decide +kernel
theorem dX7_waiversBySets_73 : decode cX7_waiversBySets 73 = .ok (.goto 4, 3) := by decide +kernel
theorem dX7_waiversBySets_76 : decode cX7_waiversBySets 76 = .ok (.iload_n 2, 1) := by decide +kernel
theorem dX7_waiversBySets_77 : decode cX7_waiversBySets 77 = .ok (.istore_n 2, 1) := by decide +kernel
theorem dX7_waiversBySets_78 : decode cX7_waiversBySets 78 = .ok (.iinc 3 (-1), 3) := by decide +kernel
theorem dX7_waiversBySets_81 : decode cX7_waiversBySets 81 = .ok (.goto (-59), 3) := by decide +kernel
theorem dX7_waiversBySets_84 : decode cX7_waiversBySets 84 = .ok (.iload_n 2, 1) := by decide +kernel
theorem dX7_waiversBySets_85 : decode cX7_waiversBySets 85 = .ok (.ireturn, 1) := by decide +kernel
theorem dX7_fewestWaiversBySets_0 : decode cX7_fewestWaiversBySets 0 = .ok (.aload_n 0, 1) := by decide +kernel
theorem dX7_fewestWaiversBySets_1 : decode cX7_fewestWaiversBySets 1 = .ok (.iconst 0, 1) := by decide +kernel
theorem dX7_fewestWaiversBySets_2 : decode cX7_fewestWaiversBySets 2 = .ok (.putfield 31, 3) := by decide +kernel
theorem dX7_fewestWaiversBySets_5 : decode cX7_fewestWaiversBySets 5 = .ok (.aload_n 0, 1) := by decide +kernel
theorem dX7_fewestWaiversBySets_6 : decode cX7_fewestWaiversBySets 6 = .ok (.invokevirtual 245, 3) := by decide +kernel
theorem dX7_fewestWaiversBySets_9 : decode cX7_fewestWaiversBySets 9 = .ok (.ireturn, 1) := by decide +kernel
theorem dX7_turnsBest_0 : decode cX7_turnsBest 0 = .ok (.aload_n 0, 1) := by decide +kernel
theorem dX7_turnsBest_1 : decode cX7_turnsBest 1 = .ok (.invokevirtual 198, 3) := by decide +kernel
theorem dX7_turnsBest_4 : decode cX7_turnsBest 4 = .ok (.lstore_n 1, 1) := by decide +kernel
theorem dX7_turnsBest_5 : decode cX7_turnsBest 5 = .ok (.iconst (-1), 1) := by decide +kernel
theorem dX7_turnsBest_6 : decode cX7_turnsBest 6 = .ok (.istore_n 3, 1) := by decide +kernel
end
section
theorem dX7_turnsBest_7 : decode cX7_turnsBest 7 = .ok (.iconst 0, 1) := by decide +kernel
theorem dX7_turnsBest_8 : decode cX7_turnsBest 8 = .ok (.istore 4, 2) := by decide +kernel
theorem dX7_turnsBest_10 : decode cX7_turnsBest 10 = .ok (.iload 4, 2) := by decide +kernel
theorem dX7_turnsBest_12 : decode cX7_turnsBest 12 = .ok (.bipush 64, 2) := by decide +kernel
theorem dX7_turnsBest_14 : decode cX7_turnsBest 14 = .ok (.if_icmp .ge 51, 3) := by decide +kernel
theorem dX7_turnsBest_17 : decode cX7_turnsBest 17 = .ok (.iload 4, 2) := by decide +kernel
theorem dX7_turnsBest_19 : decode cX7_turnsBest 19 = .ok (.aload_n 0, 1) := by decide +kernel
theorem dX7_turnsBest_20 : decode cX7_turnsBest 20 = .ok (.getfield 7, 3) := by decide +kernel
theorem dX7_turnsBest_23 : decode cX7_turnsBest 23 = .ok (.iconst 1, 1) := by decide +kernel
theorem dX7_turnsBest_24 : decode cX7_turnsBest 24 = .ok (.iaload, 1) := by decide +kernel
theorem dX7_turnsBest_25 : decode cX7_turnsBest 25 = .ok (.ixor, 1) := by decide +kernel
theorem dX7_turnsBest_26 : decode cX7_turnsBest 26 = .ok (.invokestatic 224, 3) := by decide +kernel
theorem dX7_turnsBest_29 : decode cX7_turnsBest 29 = .ok (.istore 5, 2) := by decide +kernel
theorem dX7_turnsBest_31 : decode cX7_turnsBest 31 = .ok (.lload_n 1, 1) := by decide +kernel
theorem dX7_turnsBest_32 : decode cX7_turnsBest 32 = .ok (.iload 4, 2) := by decide +kernel
theorem dX7_turnsBest_34 : decode cX7_turnsBest 34 = .ok (.lushr, 1) := by decide +kernel
theorem dX7_turnsBest_35 : decode cX7_turnsBest 35 = .ok (.lconst 1, 1) := by decide +kernel
theorem dX7_turnsBest_36 : decode cX7_turnsBest 36 = .ok (.land, 1) := by decide +kernel
theorem dX7_turnsBest_37 : decode cX7_turnsBest 37 = .ok (.lconst 1, 1) := by decide +kernel
theorem dX7_turnsBest_38 : decode cX7_turnsBest 38 = .ok (.lcmp, 1) := by decide +kernel
theorem dX7_turnsBest_39 : decode cX7_turnsBest 39 = .ok (.ifCond .ne 18, 3) := by decide +kernel
theorem dX7_turnsBest_42 : decode cX7_turnsBest 42 = .ok (.iload_n 3, 1) := by decide +kernel
theorem dX7_turnsBest_43 : decode cX7_turnsBest 43 = .ok (.ifCond .lt 9, 3) := by decide +kernel
theorem dX7_turnsBest_46 : decode cX7_turnsBest 46 = .ok (.iload 5, 2) := by decide +kernel
theorem dX7_turnsBest_48 : decode cX7_turnsBest 48 = .ok (.iload_n 3, 1) := by decide +kernel
theorem dX7_turnsBest_49 : decode cX7_turnsBest 49 = .ok (.if_icmp .ge 8, 3) := by decide +kernel
theorem dX7_turnsBest_52 : decode cX7_turnsBest 52 = .ok (.iload 5, 2) := by decide +kernel
theorem dX7_turnsBest_54 : decode cX7_turnsBest 54 = .ok (.goto 4, 3) := by decide +kernel
theorem dX7_turnsBest_57 : decode cX7_turnsBest 57 = .ok (.iload_n 3, 1) := by decide +kernel
theorem dX7_turnsBest_58 : decode cX7_turnsBest 58 = .ok (.istore_n 3, 1) := by decide +kernel
theorem dX7_turnsBest_59 : decode cX7_turnsBest 59 = .ok (.iinc 4 1, 3) := by decide +kernel
theorem dX7_turnsBest_62 : decode cX7_turnsBest 62 = .ok (.goto (-52), 3) := by decide +kernel
theorem dX7_turnsBest_65 : decode cX7_turnsBest 65 = .ok (.iload_n 3, 1) := by decide +kernel
theorem dX7_turnsBest_66 : decode cX7_turnsBest 66 = .ok (.ireturn, 1) := by decide +kernel
theorem dX7_turnsToPeace_0 : decode cX7_turnsToPeace 0 = .ok (.aload_n 0, 1) := by decide +kernel
theorem dX7_turnsToPeace_1 : decode cX7_turnsToPeace 1 = .ok (.iconst 0, 1) := by decide +kernel
theorem dX7_turnsToPeace_2 : decode cX7_turnsToPeace 2 = .ok (.putfield 31, 3) := by decide +kernel
theorem dX7_turnsToPeace_5 : decode cX7_turnsToPeace 5 = .ok (.aload_n 0, 1) := by decide +kernel
theorem dX7_turnsToPeace_6 : decode cX7_turnsToPeace 6 = .ok (.invokevirtual 248, 3) := by decide +kernel
theorem dX7_turnsToPeace_9 : decode cX7_turnsToPeace 9 = .ok (.ireturn, 1) := by decide +kernel
theorem dX7_turnsGoing_0 : decode cX7_turnsGoing 0 = .ok (.iconst (-1), 1) := by decide +kernel
theorem dX7_turnsGoing_1 : decode cX7_turnsGoing 1 = .ok (.istore_n 1, 1) := by decide +kernel
theorem dX7_turnsGoing_2 : decode cX7_turnsGoing 2 = .ok (.iconst 0, 1) := by decide +kernel
theorem dX7_turnsGoing_3 : decode cX7_turnsGoing 3 = .ok (.istore_n 2, 1) := by decide +kernel
theorem dX7_turnsGoing_4 : decode cX7_turnsGoing 4 = .ok (.iload_n 2, 1) := by decide +kernel
theorem dX7_turnsGoing_5 : decode cX7_turnsGoing 5 = .ok (.bipush 6, 2) := by decide +kernel
theorem dX7_turnsGoing_7 : decode cX7_turnsGoing 7 = .ok (.if_icmp .gt 56, 3) := by decide +kernel
theorem dX7_turnsGoing_10 : decode cX7_turnsGoing 10 = .ok (.iload_n 1, 1) := by decide +kernel
theorem dX7_turnsGoing_11 : decode cX7_turnsGoing 11 = .ok (.ifCond .ge 52, 3) := by decide +kernel
theorem dX7_turnsGoing_14 : decode cX7_turnsGoing 14 = .ok (.iconst 0, 1) := by decide +kernel
theorem dX7_turnsGoing_15 : decode cX7_turnsGoing 15 = .ok (.istore_n 3, 1) := by decide +kernel
theorem dX7_turnsGoing_16 : decode cX7_turnsGoing 16 = .ok (.iload_n 3, 1) := by decide +kernel
theorem dX7_turnsGoing_17 : decode cX7_turnsGoing 17 = .ok (.bipush 64, 2) := by decide +kernel
theorem dX7_turnsGoing_19 : decode cX7_turnsGoing 19 = .ok (.if_icmp .ge 38, 3) := by decide +kernel
theorem dX7_turnsGoing_22 : decode cX7_turnsGoing 22 = .ok (.iload_n 3, 1) := by decide +kernel
theorem dX7_turnsGoing_23 : decode cX7_turnsGoing 23 = .ok (.aload_n 0, 1) := by decide +kernel
theorem dX7_turnsGoing_24 : decode cX7_turnsGoing 24 = .ok (.getfield 7, 3) := by decide +kernel
theorem dX7_turnsGoing_27 : decode cX7_turnsGoing 27 = .ok (.iconst 1, 1) := by decide +kernel
theorem dX7_turnsGoing_28 : decode cX7_turnsGoing 28 = .ok (.iaload, 1) := by decide +kernel
theorem dX7_turnsGoing_29 : decode cX7_turnsGoing 29 = .ok (.ixor, 1) := by decide +kernel
theorem dX7_turnsGoing_30 : decode cX7_turnsGoing 30 = .ok (.invokestatic 224, 3) := by decide +kernel
theorem dX7_turnsGoing_33 : decode cX7_turnsGoing 33 = .ok (.iload_n 2, 1) := by decide +kernel
theorem dX7_turnsGoing_34 : decode cX7_turnsGoing 34 = .ok (.if_icmp .ne 15, 3) := by decide +kernel
theorem dX7_turnsGoing_37 : decode cX7_turnsGoing 37 = .ok (.aload_n 0, 1) := by decide +kernel
theorem dX7_turnsGoing_38 : decode cX7_turnsGoing 38 = .ok (.iload_n 3, 1) := by decide +kernel
theorem dX7_turnsGoing_39 : decode cX7_turnsGoing 39 = .ok (.invokevirtual 104, 3) := by decide +kernel
theorem dX7_turnsGoing_42 : decode cX7_turnsGoing 42 = .ok (.ifCond .ne 7, 3) := by decide +kernel
theorem dX7_turnsGoing_45 : decode cX7_turnsGoing 45 = .ok (.iload_n 2, 1) := by decide +kernel
theorem dX7_turnsGoing_46 : decode cX7_turnsGoing 46 = .ok (.goto 4, 3) := by decide +kernel
theorem dX7_turnsGoing_49 : decode cX7_turnsGoing 49 = .ok (.iload_n 1, 1) := by decide +kernel
theorem dX7_turnsGoing_50 : decode cX7_turnsGoing 50 = .ok (.istore_n 1, 1) := by decide +kernel
theorem dX7_turnsGoing_51 : decode cX7_turnsGoing 51 = .ok (.iinc 3 1, 3) := by decide +kernel
theorem dX7_turnsGoing_54 : decode cX7_turnsGoing 54 = .ok (.goto (-38), 3) := by decide +kernel
theorem dX7_turnsGoing_57 : decode cX7_turnsGoing 57 = .ok (.iinc 2 1, 3) := by decide +kernel
theorem dX7_turnsGoing_60 : decode cX7_turnsGoing 60 = .ok (.goto (-56), 3) := by decide +kernel
theorem dX7_turnsGoing_63 : decode cX7_turnsGoing 63 = .ok (.iload_n 1, 1) := by decide +kernel
theorem dX7_turnsGoing_64 : decode cX7_turnsGoing 64 = .ok (.ireturn, 1) := by decide +kernel
theorem dX7_turnsToPeaceByGoing_0 : decode cX7_turnsToPeaceByGoing 0 = .ok (.aload_n 0, 1) := by decide +kernel
theorem dX7_turnsToPeaceByGoing_1 : decode cX7_turnsToPeaceByGoing 1 = .ok (.iconst 0, 1) := by decide +kernel
theorem dX7_turnsToPeaceByGoing_2 : decode cX7_turnsToPeaceByGoing 2 = .ok (.putfield 31, 3) := by decide +kernel
theorem dX7_turnsToPeaceByGoing_5 : decode cX7_turnsToPeaceByGoing 5 = .ok (.aload_n 0, 1) := by decide +kernel
theorem dX7_turnsToPeaceByGoing_6 : decode cX7_turnsToPeaceByGoing 6 = .ok (.invokevirtual 251, 3) := by decide +kernel
theorem dX7_turnsToPeaceByGoing_9 : decode cX7_turnsToPeaceByGoing 9 = .ok (.ireturn, 1) := by decide +kernel
theorem dX7_nightIn_0 : decode cX7_nightIn 0 = .ok (.aload_n 0, 1) := by decide +kernel
theorem dX7_nightIn_1 : decode cX7_nightIn 1 = .ok (.aload_n 0, 1) := by decide +kernel
theorem dX7_nightIn_2 : decode cX7_nightIn 2 = .ok (.iload_n 1, 1) := by decide +kernel
theorem dX7_nightIn_3 : decode cX7_nightIn 3 = .ok (.invokevirtual 104, 3) := by decide +kernel
theorem dX7_nightIn_6 : decode cX7_nightIn 6 = .ok (.invokevirtual 107, 3) := by decide +kernel
theorem dX7_nightIn_9 : decode cX7_nightIn 9 = .ok (.ireturn, 1) := by decide +kernel
theorem dX7_nightNow_0 : decode cX7_nightNow 0 = .ok (.aload_n 0, 1) := by decide +kernel
theorem dX7_nightNow_1 : decode cX7_nightNow 1 = .ok (.iconst 0, 1) := by decide +kernel
theorem dX7_nightNow_2 : decode cX7_nightNow 2 = .ok (.putfield 31, 3) := by decide +kernel
theorem dX7_nightNow_5 : decode cX7_nightNow 5 = .ok (.aload_n 0, 1) := by decide +kernel
theorem dX7_nightNow_6 : decode cX7_nightNow 6 = .ok (.aload_n 0, 1) := by decide +kernel
theorem dX7_nightNow_7 : decode cX7_nightNow 7 = .ok (.getfield 7, 3) := by decide +kernel
theorem dX7_nightNow_10 : decode cX7_nightNow 10 = .ok (.iconst 1, 1) := by decide +kernel
theorem dX7_nightNow_11 : decode cX7_nightNow 11 = .ok (.iaload, 1) := by decide +kernel
theorem dX7_nightNow_12 : decode cX7_nightNow 12 = .ok (.invokevirtual 254, 3) := by decide +kernel
theorem dX7_nightNow_15 : decode cX7_nightNow 15 = .ok (.ireturn, 1) := by decide +kernel
theorem dX7_cheapest_0 : decode cX7_cheapest 0 = .ok (.iconst 0, 1) := by decide +kernel
theorem dX7_cheapest_1 : decode cX7_cheapest 1 = .ok (.istore_n 1, 1) := by decide +kernel
theorem dX7_cheapest_2 : decode cX7_cheapest 2 = .ok (.iconst 1, 1) := by decide +kernel
theorem dX7_cheapest_3 : decode cX7_cheapest 3 = .ok (.istore_n 2, 1) := by decide +kernel
theorem dX7_cheapest_4 : decode cX7_cheapest 4 = .ok (.iload_n 2, 1) := by decide +kernel
theorem dX7_cheapest_5 : decode cX7_cheapest 5 = .ok (.bipush 64, 2) := by decide +kernel
theorem dX7_cheapest_7 : decode cX7_cheapest 7 = .ok (.if_icmp .ge 28, 3) := by decide +kernel
theorem dX7_cheapest_10 : decode cX7_cheapest 10 = .ok (.aload_n 0, 1) := by decide +kernel
theorem dX7_cheapest_11 : decode cX7_cheapest 11 = .ok (.iload_n 2, 1) := by decide +kernel
theorem dX7_cheapest_12 : decode cX7_cheapest 12 = .ok (.invokevirtual 254, 3) := by decide +kernel
theorem dX7_cheapest_15 : decode cX7_cheapest 15 = .ok (.aload_n 0, 1) := by decide +kernel
theorem dX7_cheapest_16 : decode cX7_cheapest 16 = .ok (.iload_n 1, 1) := by decide +kernel
theorem dX7_cheapest_17 : decode cX7_cheapest 17 = .ok (.invokevirtual 254, 3) := by decide +kernel
theorem dX7_cheapest_20 : decode cX7_cheapest 20 = .ok (.if_icmp .ge 7, 3) := by decide +kernel
theorem dX7_cheapest_23 : decode cX7_cheapest 23 = .ok (.iload_n 2, 1) := by decide +kernel
theorem dX7_cheapest_24 : decode cX7_cheapest 24 = .ok (.goto 4, 3) := by decide +kernel
theorem dX7_cheapest_27 : decode cX7_cheapest 27 = .ok (.iload_n 1, 1) := by decide +kernel
theorem dX7_cheapest_28 : decode cX7_cheapest 28 = .ok (.istore_n 1, 1) := by decide +kernel
theorem dX7_cheapest_29 : decode cX7_cheapest 29 = .ok (.iinc 2 1, 3) := by decide +kernel
theorem dX7_cheapest_32 : decode cX7_cheapest 32 = .ok (.goto (-28), 3) := by decide +kernel
theorem dX7_cheapest_35 : decode cX7_cheapest 35 = .ok (.iload_n 1, 1) := by decide +kernel
theorem dX7_cheapest_36 : decode cX7_cheapest 36 = .ok (.ireturn, 1) := by decide +kernel
theorem dX7_cheapestWay_0 : decode cX7_cheapestWay 0 = .ok (.aload_n 0, 1) := by decide +kernel
theorem dX7_cheapestWay_1 : decode cX7_cheapestWay 1 = .ok (.iconst 0, 1) := by decide +kernel
theorem dX7_cheapestWay_2 : decode cX7_cheapestWay 2 = .ok (.putfield 31, 3) := by decide +kernel
theorem dX7_cheapestWay_5 : decode cX7_cheapestWay 5 = .ok (.aload_n 0, 1) := by decide +kernel
theorem dX7_cheapestWay_6 : decode cX7_cheapestWay 6 = .ok (.invokevirtual 257, 3) := by decide +kernel
theorem dX7_cheapestWay_9 : decode cX7_cheapestWay 9 = .ok (.ireturn, 1) := by decide +kernel
theorem dX7_cheapestNight_0 : decode cX7_cheapestNight 0 = .ok (.aload_n 0, 1) := by decide +kernel
theorem dX7_cheapestNight_1 : decode cX7_cheapestNight 1 = .ok (.iconst 0, 1) := by decide +kernel
theorem dX7_cheapestNight_2 : decode cX7_cheapestNight 2 = .ok (.putfield 31, 3) := by decide +kernel
theorem dX7_cheapestNight_5 : decode cX7_cheapestNight 5 = .ok (.aload_n 0, 1) := by decide +kernel
theorem dX7_cheapestNight_6 : decode cX7_cheapestNight 6 = .ok (.aload_n 0, 1) := by decide +kernel
theorem dX7_cheapestNight_7 : decode cX7_cheapestNight 7 = .ok (.invokevirtual 257, 3) := by decide +kernel
theorem dX7_cheapestNight_10 : decode cX7_cheapestNight 10 = .ok (.invokevirtual 254, 3) := by decide +kernel
theorem dX7_cheapestNight_13 : decode cX7_cheapestNight 13 = .ok (.ireturn, 1) := by decide +kernel
theorem dX7_turnBest_0 : decode cX7_turnBest 0 = .ok (.iconst (-1), 1) := by decide +kernel
theorem dX7_turnBest_1 : decode cX7_turnBest 1 = .ok (.istore_n 1, 1) := by decide +kernel
theorem dX7_turnBest_2 : decode cX7_turnBest 2 = .ok (.aload_n 0, 1) := by decide +kernel
theorem dX7_turnBest_3 : decode cX7_turnBest 3 = .ok (.aload_n 0, 1) := by decide +kernel
theorem dX7_turnBest_4 : decode cX7_turnBest 4 = .ok (.getfield 7, 3) := by decide +kernel
theorem dX7_turnBest_7 : decode cX7_turnBest 7 = .ok (.iconst 1, 1) := by decide +kernel
theorem dX7_turnBest_8 : decode cX7_turnBest 8 = .ok (.iaload, 1) := by decide +kernel
theorem dX7_turnBest_9 : decode cX7_turnBest 9 = .ok (.invokevirtual 254, 3) := by decide +kernel
theorem dX7_turnBest_12 : decode cX7_turnBest 12 = .ok (.istore_n 2, 1) := by decide +kernel
theorem dX7_turnBest_13 : decode cX7_turnBest 13 = .ok (.iconst 0, 1) := by decide +kernel
theorem dX7_turnBest_14 : decode cX7_turnBest 14 = .ok (.istore_n 3, 1) := by decide +kernel
theorem dX7_turnBest_15 : decode cX7_turnBest 15 = .ok (.iload_n 3, 1) := by decide +kernel
theorem dX7_turnBest_16 : decode cX7_turnBest 16 = .ok (.bipush 6, 2) := by decide +kernel
theorem dX7_turnBest_18 : decode cX7_turnBest 18 = .ok (.if_icmp .ge 69, 3) := by decide +kernel
theorem dX7_turnBest_21 : decode cX7_turnBest 21 = .ok (.aload_n 0, 1) := by decide +kernel
theorem dX7_turnBest_22 : decode cX7_turnBest 22 = .ok (.aload_n 0, 1) := by decide +kernel
theorem dX7_turnBest_23 : decode cX7_turnBest 23 = .ok (.getfield 7, 3) := by decide +kernel
theorem dX7_turnBest_26 : decode cX7_turnBest 26 = .ok (.iconst 1, 1) := by decide +kernel
theorem dX7_turnBest_27 : decode cX7_turnBest 27 = .ok (.iaload, 1) := by decide +kernel
theorem dX7_turnBest_28 : decode cX7_turnBest 28 = .ok (.iconst 1, 1) := by decide +kernel
theorem dX7_turnBest_29 : decode cX7_turnBest 29 = .ok (.iload_n 3, 1) := by decide +kernel
theorem dX7_turnBest_30 : decode cX7_turnBest 30 = .ok (.ishl, 1) := by decide +kernel
theorem dX7_turnBest_31 : decode cX7_turnBest 31 = .ok (.ixor, 1) := by decide +kernel
theorem dX7_turnBest_32 : decode cX7_turnBest 32 = .ok (.invokevirtual 254, 3) := by decide +kernel
theorem dX7_turnBest_35 : decode cX7_turnBest 35 = .ok (.istore 4, 2) := by decide +kernel
theorem dX7_turnBest_37 : decode cX7_turnBest 37 = .ok (.iload 4, 2) := by decide +kernel
theorem dX7_turnBest_39 : decode cX7_turnBest 39 = .ok (.iload_n 2, 1) := by decide +kernel
theorem dX7_turnBest_40 : decode cX7_turnBest 40 = .ok (.if_icmp .ge 15, 3) := by decide +kernel
theorem dX7_turnBest_43 : decode cX7_turnBest 43 = .ok (.aload_n 0, 1) := by decide +kernel
theorem dX7_turnBest_44 : decode cX7_turnBest 44 = .ok (.iload_n 3, 1) := by decide +kernel
theorem dX7_turnBest_45 : decode cX7_turnBest 45 = .ok (.invokevirtual 94, 3) := by decide +kernel
theorem dX7_turnBest_48 : decode cX7_turnBest 48 = .ok (.ifCond .ge 7, 3) := by decide +kernel
theorem dX7_turnBest_51 : decode cX7_turnBest 51 = .ok (.iconst 1, 1) := by decide +kernel
theorem dX7_turnBest_52 : decode cX7_turnBest 52 = .ok (.goto 4, 3) := by decide +kernel
theorem dX7_turnBest_55 : decode cX7_turnBest 55 = .ok (.iconst 0, 1) := by decide +kernel
theorem dX7_turnBest_56 : decode cX7_turnBest 56 = .ok (.istore 5, 2) := by decide +kernel
theorem dX7_turnBest_58 : decode cX7_turnBest 58 = .ok (.iload 5, 2) := by decide +kernel
theorem dX7_turnBest_60 : decode cX7_turnBest 60 = .ok (.ifCond .eq 7, 3) := by decide +kernel
theorem dX7_turnBest_63 : decode cX7_turnBest 63 = .ok (.iload_n 3, 1) := by decide +kernel
theorem dX7_turnBest_64 : decode cX7_turnBest 64 = .ok (.goto 4, 3) := by decide +kernel
theorem dX7_turnBest_67 : decode cX7_turnBest 67 = .ok (.iload_n 1, 1) := by decide +kernel
theorem dX7_turnBest_68 : decode cX7_turnBest 68 = .ok (.istore_n 1, 1) := by decide +kernel
theorem dX7_turnBest_69 : decode cX7_turnBest 69 = .ok (.iload 5, 2) := by decide +kernel
theorem dX7_turnBest_71 : decode cX7_turnBest 71 = .ok (.ifCond .eq 8, 3) := by decide +kernel
theorem dX7_turnBest_74 : decode cX7_turnBest 74 = .ok (.iload 4, 2) := by decide +kernel
theorem dX7_turnBest_76 : decode cX7_turnBest 76 = .ok (.goto 4, 3) := by decide +kernel
theorem dX7_turnBest_79 : decode cX7_turnBest 79 = .ok (.iload_n 2, 1) := by decide +kernel
theorem dX7_turnBest_80 : decode cX7_turnBest 80 = .ok (.istore_n 2, 1) := by decide +kernel
theorem dX7_turnBest_81 : decode cX7_turnBest 81 = .ok (.iinc 3 1, 3) := by decide +kernel
theorem dX7_turnBest_84 : decode cX7_turnBest 84 = .ok (.goto (-69), 3) := by decide +kernel
theorem dX7_turnBest_87 : decode cX7_turnBest 87 = .ok (.iload_n 1, 1) := by decide +kernel
theorem dX7_turnBest_88 : decode cX7_turnBest 88 = .ok (.ireturn, 1) := by decide +kernel
theorem dX7_bestTurn_0 : decode cX7_bestTurn 0 = .ok (.aload_n 0, 1) := by decide +kernel
theorem dX7_bestTurn_1 : decode cX7_bestTurn 1 = .ok (.iconst 0, 1) := by decide +kernel
theorem dX7_bestTurn_2 : decode cX7_bestTurn 2 = .ok (.putfield 31, 3) := by decide +kernel
theorem dX7_bestTurn_5 : decode cX7_bestTurn 5 = .ok (.aload_n 0, 1) := by decide +kernel
theorem dX7_bestTurn_6 : decode cX7_bestTurn 6 = .ok (.invokevirtual 260, 3) := by decide +kernel
theorem dX7_bestTurn_9 : decode cX7_bestTurn 9 = .ok (.ireturn, 1) := by decide +kernel
theorem dX7_ahead_0 : decode cX7_ahead 0 = .ok (.iconst 0, 1) := by decide +kernel
theorem dX7_ahead_1 : decode cX7_ahead 1 = .ok (.istore_n 2, 1) := by decide +kernel
theorem dX7_ahead_2 : decode cX7_ahead 2 = .ok (.iconst 0, 1) := by decide +kernel
theorem dX7_ahead_3 : decode cX7_ahead 3 = .ok (.istore_n 3, 1) := by decide +kernel
theorem dX7_ahead_4 : decode cX7_ahead 4 = .ok (.iload_n 3, 1) := by decide +kernel
theorem dX7_ahead_5 : decode cX7_ahead 5 = .ok (.iload_n 1, 1) := by decide +kernel
theorem dX7_ahead_6 : decode cX7_ahead 6 = .ok (.if_icmp .ge 80, 3) := by decide +kernel
theorem dX7_ahead_9 : decode cX7_ahead 9 = .ok (.iconst 0, 1) := by decide +kernel
theorem dX7_ahead_10 : decode cX7_ahead 10 = .ok (.istore 4, 2) := by decide +kernel
theorem dX7_ahead_12 : decode cX7_ahead 12 = .ok (.iload 4, 2) := by decide +kernel
theorem dX7_ahead_14 : decode cX7_ahead 14 = .ok (.aload_n 0, 1) := by decide +kernel
theorem dX7_ahead_15 : decode cX7_ahead 15 = .ok (.getfield 7, 3) := by decide +kernel
theorem dX7_ahead_18 : decode cX7_ahead 18 = .ok (.iconst 0, 1) := by decide +kernel
theorem dX7_ahead_19 : decode cX7_ahead 19 = .ok (.iaload, 1) := by decide +kernel
theorem dX7_ahead_20 : decode cX7_ahead 20 = .ok (.if_icmp .ge 60, 3) := by decide +kernel
theorem dX7_ahead_23 : decode cX7_ahead 23 = .ok (.iload_n 2, 1) := by decide +kernel
theorem dX7_ahead_24 : decode cX7_ahead 24 = .ok (.aload_n 0, 1) := by decide +kernel
theorem dX7_ahead_25 : decode cX7_ahead 25 = .ok (.iload 4, 2) := by decide +kernel
theorem dX7_ahead_27 : decode cX7_ahead 27 = .ok (.aload_n 0, 1) := by decide +kernel
theorem dX7_ahead_28 : decode cX7_ahead 28 = .ok (.getfield 7, 3) := by decide +kernel
theorem dX7_ahead_31 : decode cX7_ahead 31 = .ok (.iconst 2, 1) := by decide +kernel
theorem dX7_ahead_32 : decode cX7_ahead 32 = .ok (.iaload, 1) := by decide +kernel
theorem dX7_ahead_33 : decode cX7_ahead 33 = .ok (.iload_n 3, 1) := by decide +kernel
theorem dX7_ahead_34 : decode cX7_ahead 34 = .ok (.iadd, 1) := by decide +kernel
theorem dX7_ahead_35 : decode cX7_ahead 35 = .ok (.invokevirtual 60, 3) := by decide +kernel
theorem dX7_ahead_38 : decode cX7_ahead 38 = .ok (.ifCond .eq 33, 3) := by decide +kernel
theorem dX7_ahead_41 : decode cX7_ahead 41 = .ok (.aload_n 0, 1) := by decide +kernel
theorem dX7_ahead_42 : decode cX7_ahead 42 = .ok (.iload 4, 2) := by decide +kernel
theorem dX7_ahead_44 : decode cX7_ahead 44 = .ok (.aload_n 0, 1) := by decide +kernel
theorem dX7_ahead_45 : decode cX7_ahead 45 = .ok (.getfield 7, 3) := by decide +kernel
theorem dX7_ahead_48 : decode cX7_ahead 48 = .ok (.iconst 1, 1) := by decide +kernel
theorem dX7_ahead_49 : decode cX7_ahead 49 = .ok (.iaload, 1) := by decide +kernel
theorem dX7_ahead_50 : decode cX7_ahead 50 = .ok (.invokevirtual 63, 3) := by decide +kernel
theorem dX7_ahead_53 : decode cX7_ahead 53 = .ok (.ifCond .ne 18, 3) := by decide +kernel
theorem dX7_ahead_56 : decode cX7_ahead 56 = .ok (.aload_n 0, 1) := by decide +kernel
theorem dX7_ahead_57 : decode cX7_ahead 57 = .ok (.getfield 7, 3) := by decide +kernel
theorem dX7_ahead_60 : decode cX7_ahead 60 = .ok (.iload 4, 2) := by decide +kernel
theorem dX7_ahead_62 : decode cX7_ahead 62 = .ok (.invokestatic 52, 3) := by decide +kernel
theorem dX7_ahead_65 : decode cX7_ahead 65 = .ok (.iconst 2, 1) := by decide +kernel
theorem dX7_ahead_66 : decode cX7_ahead 66 = .ok (.iadd, 1) := by decide +kernel
theorem dX7_ahead_67 : decode cX7_ahead 67 = .ok (.iaload, 1) := by decide +kernel
theorem dX7_ahead_68 : decode cX7_ahead 68 = .ok (.goto 4, 3) := by decide +kernel
theorem dX7_ahead_71 : decode cX7_ahead 71 = .ok (.iconst 0, 1) := by decide +kernel
theorem dX7_ahead_72 : decode cX7_ahead 72 = .ok (.iadd, 1) := by decide +kernel
theorem dX7_ahead_73 : decode cX7_ahead 73 = .ok (.istore_n 2, 1) := by decide +kernel
theorem dX7_ahead_74 : decode cX7_ahead 74 = .ok (.iinc 4 1, 3) := by decide +kernel
theorem dX7_ahead_77 : decode cX7_ahead 77 = .ok (.goto (-65), 3) := by decide +kernel
theorem dX7_ahead_80 : decode cX7_ahead 80 = .ok (.iinc 3 1, 3) := by decide +kernel
theorem dX7_ahead_83 : decode cX7_ahead 83 = .ok (.goto (-79), 3) := by decide +kernel
theorem dX7_ahead_86 : decode cX7_ahead 86 = .ok (.iload_n 2, 1) := by decide +kernel
theorem dX7_ahead_87 : decode cX7_ahead 87 = .ok (.ireturn, 1) := by decide +kernel
theorem dX7_finesIn_0 : decode cX7_finesIn 0 = .ok (.aload_n 0, 1) := by decide +kernel
theorem dX7_finesIn_1 : decode cX7_finesIn 1 = .ok (.iload_n 1, 1) := by decide +kernel
theorem dX7_finesIn_2 : decode cX7_finesIn 2 = .ok (.iconst 1, 1) := by decide +kernel
theorem dX7_finesIn_3 : decode cX7_finesIn 3 = .ok (.bipush 30, 2) := by decide +kernel
theorem dX7_finesIn_5 : decode cX7_finesIn 5 = .ok (.invokestatic 42, 3) := by decide +kernel
theorem dX7_finesIn_8 : decode cX7_finesIn 8 = .ok (.iconst 1, 1) := by decide +kernel
theorem dX7_finesIn_9 : decode cX7_finesIn 9 = .ok (.iconst 1, 1) := by decide +kernel
theorem dX7_finesIn_10 : decode cX7_finesIn 10 = .ok (.invokevirtual 69, 3) := by decide +kernel
theorem dX7_finesIn_13 : decode cX7_finesIn 13 = .ok (.ifCond .eq 11, 3) := by decide +kernel
theorem dX7_finesIn_16 : decode cX7_finesIn 16 = .ok (.aload_n 0, 1) := by decide +kernel
theorem dX7_finesIn_17 : decode cX7_finesIn 17 = .ok (.iload_n 1, 1) := by decide +kernel
theorem dX7_finesIn_18 : decode cX7_finesIn 18 = .ok (.invokevirtual 263, 3) := by decide +kernel
theorem dX7_finesIn_21 : decode cX7_finesIn 21 = .ok (.goto 4, 3) := by decide +kernel
theorem dX7_finesIn_24 : decode cX7_finesIn 24 = .ok (.iconst 0, 1) := by decide +kernel
theorem dX7_finesIn_25 : decode cX7_finesIn 25 = .ok (.ireturn, 1) := by decide +kernel
theorem dX7_peaceShare_0 : decode cX7_peaceShare 0 = .ok (.aload_n 0, 1) := by decide +kernel
theorem dX7_peaceShare_1 : decode cX7_peaceShare 1 = .ok (.iconst 0, 1) := by decide +kernel
theorem dX7_peaceShare_2 : decode cX7_peaceShare 2 = .ok (.putfield 31, 3) := by decide +kernel
theorem dX7_peaceShare_5 : decode cX7_peaceShare 5 = .ok (.aload_n 0, 1) := by decide +kernel
theorem dX7_peaceShare_6 : decode cX7_peaceShare 6 = .ok (.invokevirtual 206, 3) := by decide +kernel
theorem dX7_peaceShare_9 : decode cX7_peaceShare 9 = .ok (.i2d, 1) := by decide +kernel
theorem dX7_peaceShare_10 : decode cX7_peaceShare 10 = .ok (.ldc2_w 266, 3) := by decide +kernel
theorem dX7_peaceShare_13 : decode cX7_peaceShare 13 = .ok (.ddiv, 1) := by decide +kernel
theorem dX7_peaceShare_14 : decode cX7_peaceShare 14 = .ok (.dreturn, 1) := by decide +kernel
theorem dX7_sumOfFines_0 : decode cX7_sumOfFines 0 = .ok (.iconst 0, 1) := by decide +kernel
theorem dX7_sumOfFines_1 : decode cX7_sumOfFines 1 = .ok (.istore_n 1, 1) := by decide +kernel
theorem dX7_sumOfFines_2 : decode cX7_sumOfFines 2 = .ok (.iconst 0, 1) := by decide +kernel
theorem dX7_sumOfFines_3 : decode cX7_sumOfFines 3 = .ok (.istore_n 2, 1) := by decide +kernel
theorem dX7_sumOfFines_4 : decode cX7_sumOfFines 4 = .ok (.iload_n 2, 1) := by decide +kernel
theorem dX7_sumOfFines_5 : decode cX7_sumOfFines 5 = .ok (.aload_n 0, 1) := by decide +kernel
theorem dX7_sumOfFines_6 : decode cX7_sumOfFines 6 = .ok (.getfield 7, 3) := by decide +kernel
theorem dX7_sumOfFines_9 : decode cX7_sumOfFines 9 = .ok (.iconst 0, 1) := by decide +kernel
theorem dX7_sumOfFines_10 : decode cX7_sumOfFines 10 = .ok (.iaload, 1) := by decide +kernel
theorem dX7_sumOfFines_11 : decode cX7_sumOfFines 11 = .ok (.if_icmp .ge 23, 3) := by decide +kernel
theorem dX7_sumOfFines_14 : decode cX7_sumOfFines 14 = .ok (.iload_n 1, 1) := by decide +kernel
theorem dX7_sumOfFines_15 : decode cX7_sumOfFines 15 = .ok (.aload_n 0, 1) := by decide +kernel
theorem dX7_sumOfFines_16 : decode cX7_sumOfFines 16 = .ok (.getfield 7, 3) := by decide +kernel
theorem dX7_sumOfFines_19 : decode cX7_sumOfFines 19 = .ok (.iload_n 2, 1) := by decide +kernel
theorem dX7_sumOfFines_20 : decode cX7_sumOfFines 20 = .ok (.invokestatic 52, 3) := by decide +kernel
theorem dX7_sumOfFines_23 : decode cX7_sumOfFines 23 = .ok (.iconst 2, 1) := by decide +kernel
theorem dX7_sumOfFines_24 : decode cX7_sumOfFines 24 = .ok (.iadd, 1) := by decide +kernel
theorem dX7_sumOfFines_25 : decode cX7_sumOfFines 25 = .ok (.iaload, 1) := by decide +kernel
theorem dX7_sumOfFines_26 : decode cX7_sumOfFines 26 = .ok (.iadd, 1) := by decide +kernel
theorem dX7_sumOfFines_27 : decode cX7_sumOfFines 27 = .ok (.istore_n 1, 1) := by decide +kernel
theorem dX7_sumOfFines_28 : decode cX7_sumOfFines 28 = .ok (.iinc 2 1, 3) := by decide +kernel
theorem dX7_sumOfFines_31 : decode cX7_sumOfFines 31 = .ok (.goto (-27), 3) := by decide +kernel
theorem dX7_sumOfFines_34 : decode cX7_sumOfFines 34 = .ok (.iload_n 1, 1) := by decide +kernel
theorem dX7_sumOfFines_35 : decode cX7_sumOfFines 35 = .ok (.ireturn, 1) := by decide +kernel
theorem dX7_meanFine_0 : decode cX7_meanFine 0 = .ok (.aload_n 0, 1) := by decide +kernel
theorem dX7_meanFine_1 : decode cX7_meanFine 1 = .ok (.iconst 0, 1) := by decide +kernel
theorem dX7_meanFine_2 : decode cX7_meanFine 2 = .ok (.putfield 31, 3) := by decide +kernel
theorem dX7_meanFine_5 : decode cX7_meanFine 5 = .ok (.aload_n 0, 1) := by decide +kernel
theorem dX7_meanFine_6 : decode cX7_meanFine 6 = .ok (.getfield 7, 3) := by decide +kernel
theorem dX7_meanFine_9 : decode cX7_meanFine 9 = .ok (.iconst 0, 1) := by decide +kernel
theorem dX7_meanFine_10 : decode cX7_meanFine 10 = .ok (.iaload, 1) := by decide +kernel
theorem dX7_meanFine_11 : decode cX7_meanFine 11 = .ok (.ifCond .ne 7, 3) := by decide +kernel
theorem dX7_meanFine_14 : decode cX7_meanFine 14 = .ok (.fconst 0, 1) := by decide +kernel
theorem dX7_meanFine_15 : decode cX7_meanFine 15 = .ok (.goto 16, 3) := by decide +kernel
theorem dX7_meanFine_18 : decode cX7_meanFine 18 = .ok (.aload_n 0, 1) := by decide +kernel
theorem dX7_meanFine_19 : decode cX7_meanFine 19 = .ok (.invokevirtual 268, 3) := by decide +kernel
theorem dX7_meanFine_22 : decode cX7_meanFine 22 = .ok (.i2f, 1) := by decide +kernel
theorem dX7_meanFine_23 : decode cX7_meanFine 23 = .ok (.aload_n 0, 1) := by decide +kernel
theorem dX7_meanFine_24 : decode cX7_meanFine 24 = .ok (.getfield 7, 3) := by decide +kernel
theorem dX7_meanFine_27 : decode cX7_meanFine 27 = .ok (.iconst 0, 1) := by decide +kernel
theorem dX7_meanFine_28 : decode cX7_meanFine 28 = .ok (.iaload, 1) := by decide +kernel
theorem dX7_meanFine_29 : decode cX7_meanFine 29 = .ok (.i2f, 1) := by decide +kernel
theorem dX7_meanFine_30 : decode cX7_meanFine 30 = .ok (.fdiv, 1) := by decide +kernel
theorem dX7_meanFine_31 : decode cX7_meanFine 31 = .ok (.freturn, 1) := by decide +kernel
theorem dX7_shareBits_0 : decode cX7_shareBits 0 = .ok (.iload_n 0, 1) := by decide +kernel
theorem dX7_shareBits_1 : decode cX7_shareBits 1 = .ok (.ifCond .ne 5, 3) := by decide +kernel
theorem dX7_shareBits_4 : decode cX7_shareBits 4 = .ok (.lconst 0, 1) := by decide +kernel
theorem dX7_shareBits_5 : decode cX7_shareBits 5 = .ok (.lreturn, 1) := by decide +kernel
theorem dX7_shareBits_6 : decode cX7_shareBits 6 = .ok (.iload_n 0, 1) := by decide +kernel
theorem dX7_shareBits_7 : decode cX7_shareBits 7 = .ok (.i2l, 1) := by decide +kernel
theorem dX7_shareBits_8 : decode cX7_shareBits 8 = .ok (.lstore_n 1, 1) := by decide +kernel
theorem dX7_shareBits_9 : decode cX7_shareBits 9 = .ok (.bipush 6, 2) := by decide +kernel
theorem dX7_shareBits_11 : decode cX7_shareBits 11 = .ok (.istore_n 3, 1) := by decide +kernel
theorem dX7_shareBits_12 : decode cX7_shareBits 12 = .ok (.lload_n 1, 1) := by decide +kernel
theorem dX7_shareBits_13 : decode cX7_shareBits 13 = .ok (.ldc2_w 271, 3) := by decide +kernel
theorem dX7_shareBits_16 : decode cX7_shareBits 16 = .ok (.lcmp, 1) := by decide +kernel
theorem dX7_shareBits_17 : decode cX7_shareBits 17 = .ok (.ifCond .ge 15, 3) := by decide +kernel
theorem dX7_shareBits_20 : decode cX7_shareBits 20 = .ok (.ldc2_w 273, 3) := by decide +kernel
theorem dX7_shareBits_23 : decode cX7_shareBits 23 = .ok (.lload_n 1, 1) := by decide +kernel
theorem dX7_shareBits_24 : decode cX7_shareBits 24 = .ok (.lmul, 1) := by decide +kernel
theorem dX7_shareBits_25 : decode cX7_shareBits 25 = .ok (.lstore_n 1, 1) := by decide +kernel
theorem dX7_shareBits_26 : decode cX7_shareBits 26 = .ok (.iinc 3 1, 3) := by decide +kernel
theorem dX7_shareBits_29 : decode cX7_shareBits 29 = .ok (.goto (-17), 3) := by decide +kernel
theorem dX7_shareBits_32 : decode cX7_shareBits 32 = .ok (.sipush 1075, 3) := by decide +kernel
theorem dX7_shareBits_35 : decode cX7_shareBits 35 = .ok (.iload_n 3, 1) := by decide +kernel
theorem dX7_shareBits_36 : decode cX7_shareBits 36 = .ok (.isub, 1) := by decide +kernel
theorem dX7_shareBits_37 : decode cX7_shareBits 37 = .ok (.i2l, 1) := by decide +kernel
theorem dX7_shareBits_38 : decode cX7_shareBits 38 = .ok (.ldc2_w 271, 3) := by decide +kernel
theorem dX7_shareBits_41 : decode cX7_shareBits 41 = .ok (.lmul, 1) := by decide +kernel
theorem dX7_shareBits_42 : decode cX7_shareBits 42 = .ok (.lload_n 1, 1) := by decide +kernel
theorem dX7_shareBits_43 : decode cX7_shareBits 43 = .ok (.ldc2_w 271, 3) := by decide +kernel
theorem dX7_shareBits_46 : decode cX7_shareBits 46 = .ok (.lsub, 1) := by decide +kernel
theorem dX7_shareBits_47 : decode cX7_shareBits 47 = .ok (.ladd, 1) := by decide +kernel
theorem dX7_shareBits_48 : decode cX7_shareBits 48 = .ok (.lreturn, 1) := by decide +kernel
theorem dX7_meanBits_0 : decode cX7_meanBits 0 = .ok (.iload_n 0, 1) := by decide +kernel
theorem dX7_meanBits_1 : decode cX7_meanBits 1 = .ok (.ifCond .ne 5, 3) := by decide +kernel
theorem dX7_meanBits_4 : decode cX7_meanBits 4 = .ok (.iconst 0, 1) := by decide +kernel
theorem dX7_meanBits_5 : decode cX7_meanBits 5 = .ok (.ireturn, 1) := by decide +kernel
theorem dX7_meanBits_6 : decode cX7_meanBits 6 = .ok (.iload_n 0, 1) := by decide +kernel
theorem dX7_meanBits_7 : decode cX7_meanBits 7 = .ok (.i2l, 1) := by decide +kernel
theorem dX7_meanBits_8 : decode cX7_meanBits 8 = .ok (.lstore_n 2, 1) := by decide +kernel
theorem dX7_meanBits_9 : decode cX7_meanBits 9 = .ok (.iconst 0, 1) := by decide +kernel
theorem dX7_meanBits_10 : decode cX7_meanBits 10 = .ok (.istore 4, 2) := by decide +kernel
theorem dX7_meanBits_12 : decode cX7_meanBits 12 = .ok (.lload_n 2, 1) := by decide +kernel
theorem dX7_meanBits_13 : decode cX7_meanBits 13 = .ok (.iload_n 1, 1) := by decide +kernel
theorem dX7_meanBits_14 : decode cX7_meanBits 14 = .ok (.i2l, 1) := by decide +kernel
theorem dX7_meanBits_15 : decode cX7_meanBits 15 = .ok (.ldiv, 1) := by decide +kernel
theorem dX7_meanBits_16 : decode cX7_meanBits 16 = .ok (.ldc2_w 275, 3) := by decide +kernel
theorem dX7_meanBits_19 : decode cX7_meanBits 19 = .ok (.lcmp, 1) := by decide +kernel
theorem dX7_meanBits_20 : decode cX7_meanBits 20 = .ok (.ifCond .ge 15, 3) := by decide +kernel
theorem dX7_meanBits_23 : decode cX7_meanBits 23 = .ok (.ldc2_w 273, 3) := by decide +kernel
theorem dX7_meanBits_26 : decode cX7_meanBits 26 = .ok (.lload_n 2, 1) := by decide +kernel
theorem dX7_meanBits_27 : decode cX7_meanBits 27 = .ok (.lmul, 1) := by decide +kernel
theorem dX7_meanBits_28 : decode cX7_meanBits 28 = .ok (.lstore_n 2, 1) := by decide +kernel
theorem dX7_meanBits_29 : decode cX7_meanBits 29 = .ok (.iinc 4 1, 3) := by decide +kernel
theorem dX7_meanBits_32 : decode cX7_meanBits 32 = .ok (.goto (-20), 3) := by decide +kernel
theorem dX7_meanBits_35 : decode cX7_meanBits 35 = .ok (.lload_n 2, 1) := by decide +kernel
theorem dX7_meanBits_36 : decode cX7_meanBits 36 = .ok (.iload_n 1, 1) := by decide +kernel
theorem dX7_meanBits_37 : decode cX7_meanBits 37 = .ok (.i2l, 1) := by decide +kernel
theorem dX7_meanBits_38 : decode cX7_meanBits 38 = .ok (.ldiv, 1) := by decide +kernel
theorem dX7_meanBits_39 : decode cX7_meanBits 39 = .ok (.lstore 5, 2) := by decide +kernel
theorem dX7_meanBits_41 : decode cX7_meanBits 41 = .ok (.lload_n 2, 1) := by decide +kernel
theorem dX7_meanBits_42 : decode cX7_meanBits 42 = .ok (.iload_n 1, 1) := by decide +kernel
theorem dX7_meanBits_43 : decode cX7_meanBits 43 = .ok (.i2l, 1) := by decide +kernel
theorem dX7_meanBits_44 : decode cX7_meanBits 44 = .ok (.lrem, 1) := by decide +kernel
theorem dX7_meanBits_45 : decode cX7_meanBits 45 = .ok (.ldc2_w 273, 3) := by decide +kernel
theorem dX7_meanBits_48 : decode cX7_meanBits 48 = .ok (.lmul, 1) := by decide +kernel
theorem dX7_meanBits_49 : decode cX7_meanBits 49 = .ok (.lstore 7, 2) := by decide +kernel
theorem dX7_meanBits_51 : decode cX7_meanBits 51 = .ok (.lload 5, 2) := by decide +kernel
theorem dX7_meanBits_53 : decode cX7_meanBits 53 = .ok (.lload 7, 2) := by decide +kernel
theorem dX7_meanBits_55 : decode cX7_meanBits 55 = .ok (.iload_n 1, 1) := by decide +kernel
theorem dX7_meanBits_56 : decode cX7_meanBits 56 = .ok (.i2l, 1) := by decide +kernel
theorem dX7_meanBits_57 : decode cX7_meanBits 57 = .ok (.lcmp, 1) := by decide +kernel
theorem dX7_meanBits_58 : decode cX7_meanBits 58 = .ok (.ifCond .gt 22, 3) := by decide +kernel
theorem dX7_meanBits_61 : decode cX7_meanBits 61 = .ok (.lload 7, 2) := by decide +kernel
theorem dX7_meanBits_63 : decode cX7_meanBits 63 = .ok (.iload_n 1, 1) := by decide +kernel
theorem dX7_meanBits_64 : decode cX7_meanBits 64 = .ok (.i2l, 1) := by decide +kernel
theorem dX7_meanBits_65 : decode cX7_meanBits 65 = .ok (.lcmp, 1) := by decide +kernel
theorem dX7_meanBits_66 : decode cX7_meanBits 66 = .ok (.ifCond .ne 18, 3) := by decide +kernel
theorem dX7_meanBits_69 : decode cX7_meanBits 69 = .ok (.lload 5, 2) := by decide +kernel
theorem dX7_meanBits_71 : decode cX7_meanBits 71 = .ok (.ldc2_w 273, 3) := by decide +kernel
theorem dX7_meanBits_74 : decode cX7_meanBits 74 = .ok (.lrem, 1) := by decide +kernel
theorem dX7_meanBits_75 : decode cX7_meanBits 75 = .ok (.lconst 1, 1) := by decide +kernel
theorem dX7_meanBits_76 : decode cX7_meanBits 76 = .ok (.lcmp, 1) := by decide +kernel
theorem dX7_meanBits_77 : decode cX7_meanBits 77 = .ok (.ifCond .ne 7, 3) := by decide +kernel
theorem dX7_meanBits_80 : decode cX7_meanBits 80 = .ok (.lconst 1, 1) := by decide +kernel
theorem dX7_meanBits_81 : decode cX7_meanBits 81 = .ok (.goto 4, 3) := by decide +kernel
theorem dX7_meanBits_84 : decode cX7_meanBits 84 = .ok (.lconst 0, 1) := by decide +kernel
theorem dX7_meanBits_85 : decode cX7_meanBits 85 = .ok (.ladd, 1) := by decide +kernel
theorem dX7_meanBits_86 : decode cX7_meanBits 86 = .ok (.lstore 5, 2) := by decide +kernel
theorem dX7_meanBits_88 : decode cX7_meanBits 88 = .ok (.lload 5, 2) := by decide +kernel
theorem dX7_meanBits_90 : decode cX7_meanBits 90 = .ok (.ldc2_w 277, 3) := by decide +kernel
theorem dX7_meanBits_93 : decode cX7_meanBits 93 = .ok (.lcmp, 1) := by decide +kernel
theorem dX7_meanBits_94 : decode cX7_meanBits 94 = .ok (.ifCond .ne 11, 3) := by decide +kernel
theorem dX7_meanBits_97 : decode cX7_meanBits 97 = .ok (.ldc2_w 275, 3) := by decide +kernel
theorem dX7_meanBits_100 : decode cX7_meanBits 100 = .ok (.lstore 5, 2) := by decide +kernel
theorem dX7_meanBits_102 : decode cX7_meanBits 102 = .ok (.iinc 4 (-1), 3) := by decide +kernel
theorem dX7_meanBits_105 : decode cX7_meanBits 105 = .ok (.ldc2_w 279, 3) := by decide +kernel
theorem dX7_meanBits_108 : decode cX7_meanBits 108 = .ok (.iload 4, 2) := by decide +kernel
theorem dX7_meanBits_110 : decode cX7_meanBits 110 = .ok (.i2l, 1) := by decide +kernel
theorem dX7_meanBits_111 : decode cX7_meanBits 111 = .ok (.lsub, 1) := by decide +kernel
theorem dX7_meanBits_112 : decode cX7_meanBits 112 = .ok (.ldc2_w 275, 3) := by decide +kernel
theorem dX7_meanBits_115 : decode cX7_meanBits 115 = .ok (.lmul, 1) := by decide +kernel
theorem dX7_meanBits_116 : decode cX7_meanBits 116 = .ok (.lload 5, 2) := by decide +kernel
theorem dX7_meanBits_118 : decode cX7_meanBits 118 = .ok (.ldc2_w 275, 3) := by decide +kernel
theorem dX7_meanBits_121 : decode cX7_meanBits 121 = .ok (.lsub, 1) := by decide +kernel
theorem dX7_meanBits_122 : decode cX7_meanBits 122 = .ok (.ladd, 1) := by decide +kernel
theorem dX7_meanBits_123 : decode cX7_meanBits 123 = .ok (.l2i, 1) := by decide +kernel
theorem dX7_meanBits_124 : decode cX7_meanBits 124 = .ok (.ireturn, 1) := by decide +kernel
theorem dX7_digest_0 : decode cX7_digest 0 = .ok (.ldc2_w 281, 3) := by decide +kernel
theorem dX7_digest_3 : decode cX7_digest 3 = .ok (.lstore_n 1, 1) := by decide +kernel
theorem dX7_digest_4 : decode cX7_digest 4 = .ok (.ldc2_w 283, 3) := by decide +kernel
theorem dX7_digest_7 : decode cX7_digest 7 = .ok (.lload_n 1, 1) := by decide +kernel
theorem dX7_digest_8 : decode cX7_digest 8 = .ok (.lmul, 1) := by decide +kernel
theorem dX7_digest_9 : decode cX7_digest 9 = .ok (.aload_n 0, 1) := by decide +kernel
theorem dX7_digest_10 : decode cX7_digest 10 = .ok (.getfield 7, 3) := by decide +kernel
theorem dX7_digest_13 : decode cX7_digest 13 = .ok (.iconst 0, 1) := by decide +kernel
theorem dX7_digest_14 : decode cX7_digest 14 = .ok (.iaload, 1) := by decide +kernel
theorem dX7_digest_15 : decode cX7_digest 15 = .ok (.i2l, 1) := by decide +kernel
theorem dX7_digest_16 : decode cX7_digest 16 = .ok (.ladd, 1) := by decide +kernel
theorem dX7_digest_17 : decode cX7_digest 17 = .ok (.lstore_n 1, 1) := by decide +kernel
theorem dX7_digest_18 : decode cX7_digest 18 = .ok (.iconst 0, 1) := by decide +kernel
theorem dX7_digest_19 : decode cX7_digest 19 = .ok (.istore_n 3, 1) := by decide +kernel
theorem dX7_digest_20 : decode cX7_digest 20 = .ok (.iload_n 3, 1) := by decide +kernel
theorem dX7_digest_21 : decode cX7_digest 21 = .ok (.aload_n 0, 1) := by decide +kernel
theorem dX7_digest_22 : decode cX7_digest 22 = .ok (.getfield 7, 3) := by decide +kernel
theorem dX7_digest_25 : decode cX7_digest 25 = .ok (.iconst 0, 1) := by decide +kernel
theorem dX7_digest_26 : decode cX7_digest 26 = .ok (.iaload, 1) := by decide +kernel
theorem dX7_digest_27 : decode cX7_digest 27 = .ok (.if_icmp .ge 153, 3) := by decide +kernel
theorem dX7_digest_30 : decode cX7_digest 30 = .ok (.iload_n 3, 1) := by decide +kernel
theorem dX7_digest_31 : decode cX7_digest 31 = .ok (.invokestatic 52, 3) := by decide +kernel
theorem dX7_digest_34 : decode cX7_digest 34 = .ok (.istore 4, 2) := by decide +kernel
theorem dX7_digest_36 : decode cX7_digest 36 = .ok (.ldc2_w 283, 3) := by decide +kernel
theorem dX7_digest_39 : decode cX7_digest 39 = .ok (.lload_n 1, 1) := by decide +kernel
theorem dX7_digest_40 : decode cX7_digest 40 = .ok (.lmul, 1) := by decide +kernel
theorem dX7_digest_41 : decode cX7_digest 41 = .ok (.aload_n 0, 1) := by decide +kernel
theorem dX7_digest_42 : decode cX7_digest 42 = .ok (.getfield 7, 3) := by decide +kernel
theorem dX7_digest_45 : decode cX7_digest 45 = .ok (.iload 4, 2) := by decide +kernel
theorem dX7_digest_47 : decode cX7_digest 47 = .ok (.iaload, 1) := by decide +kernel
theorem dX7_digest_48 : decode cX7_digest 48 = .ok (.i2l, 1) := by decide +kernel
theorem dX7_digest_49 : decode cX7_digest 49 = .ok (.ladd, 1) := by decide +kernel
theorem dX7_digest_50 : decode cX7_digest 50 = .ok (.lstore_n 1, 1) := by decide +kernel
theorem dX7_digest_51 : decode cX7_digest 51 = .ok (.ldc2_w 283, 3) := by decide +kernel
theorem dX7_digest_54 : decode cX7_digest 54 = .ok (.lload_n 1, 1) := by decide +kernel
theorem dX7_digest_55 : decode cX7_digest 55 = .ok (.lmul, 1) := by decide +kernel
theorem dX7_digest_56 : decode cX7_digest 56 = .ok (.aload_n 0, 1) := by decide +kernel
theorem dX7_digest_57 : decode cX7_digest 57 = .ok (.getfield 7, 3) := by decide +kernel
theorem dX7_digest_60 : decode cX7_digest 60 = .ok (.iload 4, 2) := by decide +kernel
theorem dX7_digest_62 : decode cX7_digest 62 = .ok (.iconst 1, 1) := by decide +kernel
theorem dX7_digest_63 : decode cX7_digest 63 = .ok (.iadd, 1) := by decide +kernel
theorem dX7_digest_64 : decode cX7_digest 64 = .ok (.iaload, 1) := by decide +kernel
theorem dX7_digest_65 : decode cX7_digest 65 = .ok (.i2l, 1) := by decide +kernel
theorem dX7_digest_66 : decode cX7_digest 66 = .ok (.ladd, 1) := by decide +kernel
theorem dX7_digest_67 : decode cX7_digest 67 = .ok (.lstore_n 1, 1) := by decide +kernel
theorem dX7_digest_68 : decode cX7_digest 68 = .ok (.ldc2_w 283, 3) := by decide +kernel
theorem dX7_digest_71 : decode cX7_digest 71 = .ok (.lload_n 1, 1) := by decide +kernel
theorem dX7_digest_72 : decode cX7_digest 72 = .ok (.lmul, 1) := by decide +kernel
theorem dX7_digest_73 : decode cX7_digest 73 = .ok (.aload_n 0, 1) := by decide +kernel
theorem dX7_digest_74 : decode cX7_digest 74 = .ok (.getfield 7, 3) := by decide +kernel
theorem dX7_digest_77 : decode cX7_digest 77 = .ok (.iload 4, 2) := by decide +kernel
theorem dX7_digest_79 : decode cX7_digest 79 = .ok (.iconst 2, 1) := by decide +kernel
theorem dX7_digest_80 : decode cX7_digest 80 = .ok (.iadd, 1) := by decide +kernel
theorem dX7_digest_81 : decode cX7_digest 81 = .ok (.iaload, 1) := by decide +kernel
theorem dX7_digest_82 : decode cX7_digest 82 = .ok (.i2l, 1) := by decide +kernel
theorem dX7_digest_83 : decode cX7_digest 83 = .ok (.ladd, 1) := by decide +kernel
theorem dX7_digest_84 : decode cX7_digest 84 = .ok (.lstore_n 1, 1) := by decide +kernel
theorem dX7_digest_85 : decode cX7_digest 85 = .ok (.ldc2_w 283, 3) := by decide +kernel
theorem dX7_digest_88 : decode cX7_digest 88 = .ok (.lload_n 1, 1) := by decide +kernel
theorem dX7_digest_89 : decode cX7_digest 89 = .ok (.lmul, 1) := by decide +kernel
theorem dX7_digest_90 : decode cX7_digest 90 = .ok (.aload_n 0, 1) := by decide +kernel
theorem dX7_digest_91 : decode cX7_digest 91 = .ok (.getfield 7, 3) := by decide +kernel
theorem dX7_digest_94 : decode cX7_digest 94 = .ok (.iload 4, 2) := by decide +kernel
theorem dX7_digest_96 : decode cX7_digest 96 = .ok (.iconst 3, 1) := by decide +kernel
theorem dX7_digest_97 : decode cX7_digest 97 = .ok (.iadd, 1) := by decide +kernel
theorem dX7_digest_98 : decode cX7_digest 98 = .ok (.iaload, 1) := by decide +kernel
theorem dX7_digest_99 : decode cX7_digest 99 = .ok (.i2l, 1) := by decide +kernel
theorem dX7_digest_100 : decode cX7_digest 100 = .ok (.ladd, 1) := by decide +kernel
theorem dX7_digest_101 : decode cX7_digest 101 = .ok (.lstore_n 1, 1) := by decide +kernel
theorem dX7_digest_102 : decode cX7_digest 102 = .ok (.ldc2_w 283, 3) := by decide +kernel
theorem dX7_digest_105 : decode cX7_digest 105 = .ok (.lload_n 1, 1) := by decide +kernel
theorem dX7_digest_106 : decode cX7_digest 106 = .ok (.lmul, 1) := by decide +kernel
theorem dX7_digest_107 : decode cX7_digest 107 = .ok (.aload_n 0, 1) := by decide +kernel
theorem dX7_digest_108 : decode cX7_digest 108 = .ok (.iload_n 3, 1) := by decide +kernel
theorem dX7_digest_109 : decode cX7_digest 109 = .ok (.invokevirtual 157, 3) := by decide +kernel
theorem dX7_digest_112 : decode cX7_digest 112 = .ok (.i2l, 1) := by decide +kernel
theorem dX7_digest_113 : decode cX7_digest 113 = .ok (.ladd, 1) := by decide +kernel
theorem dX7_digest_114 : decode cX7_digest 114 = .ok (.lstore_n 1, 1) := by decide +kernel
theorem dX7_digest_115 : decode cX7_digest 115 = .ok (.ldc2_w 283, 3) := by decide +kernel
theorem dX7_digest_118 : decode cX7_digest 118 = .ok (.lload_n 1, 1) := by decide +kernel
theorem dX7_digest_119 : decode cX7_digest 119 = .ok (.lmul, 1) := by decide +kernel
theorem dX7_digest_120 : decode cX7_digest 120 = .ok (.aload_n 0, 1) := by decide +kernel
theorem dX7_digest_121 : decode cX7_digest 121 = .ok (.getfield 7, 3) := by decide +kernel
theorem dX7_digest_124 : decode cX7_digest 124 = .ok (.iload 4, 2) := by decide +kernel
theorem dX7_digest_126 : decode cX7_digest 126 = .ok (.iconst 5, 1) := by decide +kernel
theorem dX7_digest_127 : decode cX7_digest 127 = .ok (.iadd, 1) := by decide +kernel
theorem dX7_digest_128 : decode cX7_digest 128 = .ok (.iaload, 1) := by decide +kernel
theorem dX7_digest_129 : decode cX7_digest 129 = .ok (.i2l, 1) := by decide +kernel
theorem dX7_digest_130 : decode cX7_digest 130 = .ok (.ladd, 1) := by decide +kernel
theorem dX7_digest_131 : decode cX7_digest 131 = .ok (.lstore_n 1, 1) := by decide +kernel
theorem dX7_digest_132 : decode cX7_digest 132 = .ok (.ldc2_w 283, 3) := by decide +kernel
theorem dX7_digest_135 : decode cX7_digest 135 = .ok (.lload_n 1, 1) := by decide +kernel
theorem dX7_digest_136 : decode cX7_digest 136 = .ok (.lmul, 1) := by decide +kernel
theorem dX7_digest_137 : decode cX7_digest 137 = .ok (.aload_n 0, 1) := by decide +kernel
theorem dX7_digest_138 : decode cX7_digest 138 = .ok (.iload_n 3, 1) := by decide +kernel
theorem dX7_digest_139 : decode cX7_digest 139 = .ok (.invokevirtual 215, 3) := by decide +kernel
theorem dX7_digest_142 : decode cX7_digest 142 = .ok (.ifCond .eq 7, 3) := by decide +kernel
theorem dX7_digest_145 : decode cX7_digest 145 = .ok (.iconst 1, 1) := by decide +kernel
theorem dX7_digest_146 : decode cX7_digest 146 = .ok (.goto 4, 3) := by decide +kernel
theorem dX7_digest_149 : decode cX7_digest 149 = .ok (.iconst 0, 1) := by decide +kernel
theorem dX7_digest_150 : decode cX7_digest 150 = .ok (.i2l, 1) := by decide +kernel
theorem dX7_digest_151 : decode cX7_digest 151 = .ok (.ladd, 1) := by decide +kernel
theorem dX7_digest_152 : decode cX7_digest 152 = .ok (.lstore_n 1, 1) := by decide +kernel
theorem dX7_digest_153 : decode cX7_digest 153 = .ok (.ldc2_w 283, 3) := by decide +kernel
theorem dX7_digest_156 : decode cX7_digest 156 = .ok (.lload_n 1, 1) := by decide +kernel
theorem dX7_digest_157 : decode cX7_digest 157 = .ok (.lmul, 1) := by decide +kernel
theorem dX7_digest_158 : decode cX7_digest 158 = .ok (.aload_n 0, 1) := by decide +kernel
theorem dX7_digest_159 : decode cX7_digest 159 = .ok (.iload_n 3, 1) := by decide +kernel
theorem dX7_digest_160 : decode cX7_digest 160 = .ok (.invokevirtual 218, 3) := by decide +kernel
theorem dX7_digest_163 : decode cX7_digest 163 = .ok (.ifCond .eq 7, 3) := by decide +kernel
theorem dX7_digest_166 : decode cX7_digest 166 = .ok (.iconst 1, 1) := by decide +kernel
theorem dX7_digest_167 : decode cX7_digest 167 = .ok (.goto 4, 3) := by decide +kernel
theorem dX7_digest_170 : decode cX7_digest 170 = .ok (.iconst 0, 1) := by decide +kernel
theorem dX7_digest_171 : decode cX7_digest 171 = .ok (.i2l, 1) := by decide +kernel
theorem dX7_digest_172 : decode cX7_digest 172 = .ok (.ladd, 1) := by decide +kernel
theorem dX7_digest_173 : decode cX7_digest 173 = .ok (.lstore_n 1, 1) := by decide +kernel
theorem dX7_digest_174 : decode cX7_digest 174 = .ok (.iinc 3 1, 3) := by decide +kernel
theorem dX7_digest_177 : decode cX7_digest 177 = .ok (.goto (-157), 3) := by decide +kernel
theorem dX7_digest_180 : decode cX7_digest 180 = .ok (.aload_n 0, 1) := by decide +kernel
theorem dX7_digest_181 : decode cX7_digest 181 = .ok (.invokevirtual 160, 3) := by decide +kernel
theorem dX7_digest_184 : decode cX7_digest 184 = .ok (.istore_n 3, 1) := by decide +kernel
theorem dX7_digest_185 : decode cX7_digest 185 = .ok (.ldc2_w 283, 3) := by decide +kernel
theorem dX7_digest_188 : decode cX7_digest 188 = .ok (.lload_n 1, 1) := by decide +kernel
theorem dX7_digest_189 : decode cX7_digest 189 = .ok (.lmul, 1) := by decide +kernel
theorem dX7_digest_190 : decode cX7_digest 190 = .ok (.aload_n 0, 1) := by decide +kernel
theorem dX7_digest_191 : decode cX7_digest 191 = .ok (.getfield 7, 3) := by decide +kernel
theorem dX7_digest_194 : decode cX7_digest 194 = .ok (.iconst 1, 1) := by decide +kernel
theorem dX7_digest_195 : decode cX7_digest 195 = .ok (.iaload, 1) := by decide +kernel
theorem dX7_digest_196 : decode cX7_digest 196 = .ok (.i2l, 1) := by decide +kernel
theorem dX7_digest_197 : decode cX7_digest 197 = .ok (.ladd, 1) := by decide +kernel
theorem dX7_digest_198 : decode cX7_digest 198 = .ok (.lstore_n 1, 1) := by decide +kernel
theorem dX7_digest_199 : decode cX7_digest 199 = .ok (.ldc2_w 283, 3) := by decide +kernel
theorem dX7_digest_202 : decode cX7_digest 202 = .ok (.lload_n 1, 1) := by decide +kernel
theorem dX7_digest_203 : decode cX7_digest 203 = .ok (.lmul, 1) := by decide +kernel
theorem dX7_digest_204 : decode cX7_digest 204 = .ok (.aload_n 0, 1) := by decide +kernel
theorem dX7_digest_205 : decode cX7_digest 205 = .ok (.getfield 7, 3) := by decide +kernel
theorem dX7_digest_208 : decode cX7_digest 208 = .ok (.iconst 2, 1) := by decide +kernel
theorem dX7_digest_209 : decode cX7_digest 209 = .ok (.iaload, 1) := by decide +kernel
theorem dX7_digest_210 : decode cX7_digest 210 = .ok (.i2l, 1) := by decide +kernel
theorem dX7_digest_211 : decode cX7_digest 211 = .ok (.ladd, 1) := by decide +kernel
theorem dX7_digest_212 : decode cX7_digest 212 = .ok (.lstore_n 1, 1) := by decide +kernel
theorem dX7_digest_213 : decode cX7_digest 213 = .ok (.ldc2_w 283, 3) := by decide +kernel
theorem dX7_digest_216 : decode cX7_digest 216 = .ok (.lload_n 1, 1) := by decide +kernel
theorem dX7_digest_217 : decode cX7_digest 217 = .ok (.lmul, 1) := by decide +kernel
theorem dX7_digest_218 : decode cX7_digest 218 = .ok (.iload_n 3, 1) := by decide +kernel
theorem dX7_digest_219 : decode cX7_digest 219 = .ok (.i2l, 1) := by decide +kernel
theorem dX7_digest_220 : decode cX7_digest 220 = .ok (.ladd, 1) := by decide +kernel
theorem dX7_digest_221 : decode cX7_digest 221 = .ok (.lstore_n 1, 1) := by decide +kernel
theorem dX7_digest_222 : decode cX7_digest 222 = .ok (.ldc2_w 283, 3) := by decide +kernel
theorem dX7_digest_225 : decode cX7_digest 225 = .ok (.lload_n 1, 1) := by decide +kernel
theorem dX7_digest_226 : decode cX7_digest 226 = .ok (.lmul, 1) := by decide +kernel
theorem dX7_digest_227 : decode cX7_digest 227 = .ok (.aload_n 0, 1) := by decide +kernel
theorem dX7_digest_228 : decode cX7_digest 228 = .ok (.aload_n 0, 1) := by decide +kernel
theorem dX7_digest_229 : decode cX7_digest 229 = .ok (.getfield 7, 3) := by decide +kernel
theorem dX7_digest_232 : decode cX7_digest 232 = .ok (.iconst 1, 1) := by decide +kernel
theorem dX7_digest_233 : decode cX7_digest 233 = .ok (.iaload, 1) := by decide +kernel
theorem dX7_digest_234 : decode cX7_digest 234 = .ok (.invokevirtual 104, 3) := by decide +kernel
theorem dX7_digest_237 : decode cX7_digest 237 = .ok (.i2l, 1) := by decide +kernel
theorem dX7_digest_238 : decode cX7_digest 238 = .ok (.ladd, 1) := by decide +kernel
theorem dX7_digest_239 : decode cX7_digest 239 = .ok (.lstore_n 1, 1) := by decide +kernel
theorem dX7_digest_240 : decode cX7_digest 240 = .ok (.iconst 0, 1) := by decide +kernel
theorem dX7_digest_241 : decode cX7_digest 241 = .ok (.istore 4, 2) := by decide +kernel
theorem dX7_digest_243 : decode cX7_digest 243 = .ok (.iload 4, 2) := by decide +kernel
theorem dX7_digest_245 : decode cX7_digest 245 = .ok (.bipush 6, 2) := by decide +kernel
theorem dX7_digest_247 : decode cX7_digest 247 = .ok (.if_icmp .ge 37, 3) := by decide +kernel
theorem dX7_digest_250 : decode cX7_digest 250 = .ok (.ldc2_w 283, 3) := by decide +kernel
theorem dX7_digest_253 : decode cX7_digest 253 = .ok (.lload_n 1, 1) := by decide +kernel
theorem dX7_digest_254 : decode cX7_digest 254 = .ok (.lmul, 1) := by decide +kernel
theorem dX7_digest_255 : decode cX7_digest 255 = .ok (.aload_n 0, 1) := by decide +kernel
theorem dX7_digest_256 : decode cX7_digest 256 = .ok (.iload 4, 2) := by decide +kernel
theorem dX7_digest_258 : decode cX7_digest 258 = .ok (.invokevirtual 94, 3) := by decide +kernel
theorem dX7_digest_261 : decode cX7_digest 261 = .ok (.i2l, 1) := by decide +kernel
theorem dX7_digest_262 : decode cX7_digest 262 = .ok (.ladd, 1) := by decide +kernel
theorem dX7_digest_263 : decode cX7_digest 263 = .ok (.lstore_n 1, 1) := by decide +kernel
theorem dX7_digest_264 : decode cX7_digest 264 = .ok (.ldc2_w 283, 3) := by decide +kernel
theorem dX7_digest_267 : decode cX7_digest 267 = .ok (.lload_n 1, 1) := by decide +kernel
theorem dX7_digest_268 : decode cX7_digest 268 = .ok (.lmul, 1) := by decide +kernel
theorem dX7_digest_269 : decode cX7_digest 269 = .ok (.aload_n 0, 1) := by decide +kernel
theorem dX7_digest_270 : decode cX7_digest 270 = .ok (.iload 4, 2) := by decide +kernel
theorem dX7_digest_272 : decode cX7_digest 272 = .ok (.invokevirtual 212, 3) := by decide +kernel
theorem dX7_digest_275 : decode cX7_digest 275 = .ok (.i2l, 1) := by decide +kernel
theorem dX7_digest_276 : decode cX7_digest 276 = .ok (.ladd, 1) := by decide +kernel
theorem dX7_digest_277 : decode cX7_digest 277 = .ok (.lstore_n 1, 1) := by decide +kernel
theorem dX7_digest_278 : decode cX7_digest 278 = .ok (.iinc 4 1, 3) := by decide +kernel
theorem dX7_digest_281 : decode cX7_digest 281 = .ok (.goto (-38), 3) := by decide +kernel
theorem dX7_digest_284 : decode cX7_digest 284 = .ok (.ldc2_w 283, 3) := by decide +kernel
theorem dX7_digest_287 : decode cX7_digest 287 = .ok (.lload_n 1, 1) := by decide +kernel
theorem dX7_digest_288 : decode cX7_digest 288 = .ok (.lmul, 1) := by decide +kernel
theorem dX7_digest_289 : decode cX7_digest 289 = .ok (.aload_n 0, 1) := by decide +kernel
theorem dX7_digest_290 : decode cX7_digest 290 = .ok (.getfield 7, 3) := by decide +kernel
theorem dX7_digest_293 : decode cX7_digest 293 = .ok (.iconst 3, 1) := by decide +kernel
theorem dX7_digest_294 : decode cX7_digest 294 = .ok (.iaload, 1) := by decide +kernel
theorem dX7_digest_295 : decode cX7_digest 295 = .ok (.i2l, 1) := by decide +kernel
theorem dX7_digest_296 : decode cX7_digest 296 = .ok (.ladd, 1) := by decide +kernel
theorem dX7_digest_297 : decode cX7_digest 297 = .ok (.lstore_n 1, 1) := by decide +kernel
theorem dX7_digest_298 : decode cX7_digest 298 = .ok (.ldc2_w 283, 3) := by decide +kernel
theorem dX7_digest_301 : decode cX7_digest 301 = .ok (.lload_n 1, 1) := by decide +kernel
theorem dX7_digest_302 : decode cX7_digest 302 = .ok (.lmul, 1) := by decide +kernel
theorem dX7_digest_303 : decode cX7_digest 303 = .ok (.aload_n 0, 1) := by decide +kernel
theorem dX7_digest_304 : decode cX7_digest 304 = .ok (.invokevirtual 164, 3) := by decide +kernel
theorem dX7_digest_307 : decode cX7_digest 307 = .ok (.i2l, 1) := by decide +kernel
theorem dX7_digest_308 : decode cX7_digest 308 = .ok (.ladd, 1) := by decide +kernel
theorem dX7_digest_309 : decode cX7_digest 309 = .ok (.lstore_n 1, 1) := by decide +kernel
theorem dX7_digest_310 : decode cX7_digest 310 = .ok (.ldc2_w 283, 3) := by decide +kernel
theorem dX7_digest_313 : decode cX7_digest 313 = .ok (.lload_n 1, 1) := by decide +kernel
theorem dX7_digest_314 : decode cX7_digest 314 = .ok (.lmul, 1) := by decide +kernel
theorem dX7_digest_315 : decode cX7_digest 315 = .ok (.aload_n 0, 1) := by decide +kernel
theorem dX7_digest_316 : decode cX7_digest 316 = .ok (.iload_n 3, 1) := by decide +kernel
theorem dX7_digest_317 : decode cX7_digest 317 = .ok (.invokevirtual 189, 3) := by decide +kernel
theorem dX7_digest_320 : decode cX7_digest 320 = .ok (.ifCond .eq 7, 3) := by decide +kernel
theorem dX7_digest_323 : decode cX7_digest 323 = .ok (.iconst 1, 1) := by decide +kernel
theorem dX7_digest_324 : decode cX7_digest 324 = .ok (.goto 4, 3) := by decide +kernel
theorem dX7_digest_327 : decode cX7_digest 327 = .ok (.iconst 0, 1) := by decide +kernel
theorem dX7_digest_328 : decode cX7_digest 328 = .ok (.i2l, 1) := by decide +kernel
theorem dX7_digest_329 : decode cX7_digest 329 = .ok (.ladd, 1) := by decide +kernel
theorem dX7_digest_330 : decode cX7_digest 330 = .ok (.lstore_n 1, 1) := by decide +kernel
theorem dX7_digest_331 : decode cX7_digest 331 = .ok (.ldc2_w 283, 3) := by decide +kernel
theorem dX7_digest_334 : decode cX7_digest 334 = .ok (.lload_n 1, 1) := by decide +kernel
theorem dX7_digest_335 : decode cX7_digest 335 = .ok (.lmul, 1) := by decide +kernel
theorem dX7_digest_336 : decode cX7_digest 336 = .ok (.aload_n 0, 1) := by decide +kernel
theorem dX7_digest_337 : decode cX7_digest 337 = .ok (.iload_n 3, 1) := by decide +kernel
theorem dX7_digest_338 : decode cX7_digest 338 = .ok (.invokevirtual 192, 3) := by decide +kernel
theorem dX7_digest_341 : decode cX7_digest 341 = .ok (.ifCond .eq 7, 3) := by decide +kernel
theorem dX7_digest_344 : decode cX7_digest 344 = .ok (.iconst 1, 1) := by decide +kernel
theorem dX7_digest_345 : decode cX7_digest 345 = .ok (.goto 4, 3) := by decide +kernel
theorem dX7_digest_348 : decode cX7_digest 348 = .ok (.iconst 0, 1) := by decide +kernel
theorem dX7_digest_349 : decode cX7_digest 349 = .ok (.i2l, 1) := by decide +kernel
theorem dX7_digest_350 : decode cX7_digest 350 = .ok (.ladd, 1) := by decide +kernel
theorem dX7_digest_351 : decode cX7_digest 351 = .ok (.lstore_n 1, 1) := by decide +kernel
theorem dX7_digest_352 : decode cX7_digest 352 = .ok (.ldc2_w 283, 3) := by decide +kernel
theorem dX7_digest_355 : decode cX7_digest 355 = .ok (.lload_n 1, 1) := by decide +kernel
theorem dX7_digest_356 : decode cX7_digest 356 = .ok (.lmul, 1) := by decide +kernel
theorem dX7_digest_357 : decode cX7_digest 357 = .ok (.aload_n 0, 1) := by decide +kernel
theorem dX7_digest_358 : decode cX7_digest 358 = .ok (.iload_n 3, 1) := by decide +kernel
theorem dX7_digest_359 : decode cX7_digest 359 = .ok (.invokevirtual 195, 3) := by decide +kernel
theorem dX7_digest_362 : decode cX7_digest 362 = .ok (.ifCond .eq 7, 3) := by decide +kernel
theorem dX7_digest_365 : decode cX7_digest 365 = .ok (.iconst 1, 1) := by decide +kernel
theorem dX7_digest_366 : decode cX7_digest 366 = .ok (.goto 4, 3) := by decide +kernel
theorem dX7_digest_369 : decode cX7_digest 369 = .ok (.iconst 0, 1) := by decide +kernel
theorem dX7_digest_370 : decode cX7_digest 370 = .ok (.i2l, 1) := by decide +kernel
theorem dX7_digest_371 : decode cX7_digest 371 = .ok (.ladd, 1) := by decide +kernel
theorem dX7_digest_372 : decode cX7_digest 372 = .ok (.lstore_n 1, 1) := by decide +kernel
theorem dX7_digest_373 : decode cX7_digest 373 = .ok (.ldc2_w 283, 3) := by decide +kernel
theorem dX7_digest_376 : decode cX7_digest 376 = .ok (.lload_n 1, 1) := by decide +kernel
theorem dX7_digest_377 : decode cX7_digest 377 = .ok (.lmul, 1) := by decide +kernel
theorem dX7_digest_378 : decode cX7_digest 378 = .ok (.aload_n 0, 1) := by decide +kernel
theorem dX7_digest_379 : decode cX7_digest 379 = .ok (.iload_n 3, 1) := by decide +kernel
theorem dX7_digest_380 : decode cX7_digest 380 = .ok (.invokevirtual 183, 3) := by decide +kernel
theorem dX7_digest_383 : decode cX7_digest 383 = .ok (.i2l, 1) := by decide +kernel
theorem dX7_digest_384 : decode cX7_digest 384 = .ok (.ladd, 1) := by decide +kernel
theorem dX7_digest_385 : decode cX7_digest 385 = .ok (.lstore_n 1, 1) := by decide +kernel
theorem dX7_digest_386 : decode cX7_digest 386 = .ok (.ldc2_w 283, 3) := by decide +kernel
theorem dX7_digest_389 : decode cX7_digest 389 = .ok (.lload_n 1, 1) := by decide +kernel
theorem dX7_digest_390 : decode cX7_digest 390 = .ok (.lmul, 1) := by decide +kernel
theorem dX7_digest_391 : decode cX7_digest 391 = .ok (.aload_n 0, 1) := by decide +kernel
theorem dX7_digest_392 : decode cX7_digest 392 = .ok (.invokevirtual 198, 3) := by decide +kernel
theorem dX7_digest_395 : decode cX7_digest 395 = .ok (.invokestatic 202, 3) := by decide +kernel
theorem dX7_digest_398 : decode cX7_digest 398 = .ok (.i2l, 1) := by decide +kernel
theorem dX7_digest_399 : decode cX7_digest 399 = .ok (.ladd, 1) := by decide +kernel
theorem dX7_digest_400 : decode cX7_digest 400 = .ok (.lstore_n 1, 1) := by decide +kernel
theorem dX7_digest_401 : decode cX7_digest 401 = .ok (.ldc2_w 283, 3) := by decide +kernel
theorem dX7_digest_404 : decode cX7_digest 404 = .ok (.lload_n 1, 1) := by decide +kernel
theorem dX7_digest_405 : decode cX7_digest 405 = .ok (.lmul, 1) := by decide +kernel
theorem dX7_digest_406 : decode cX7_digest 406 = .ok (.aload_n 0, 1) := by decide +kernel
theorem dX7_digest_407 : decode cX7_digest 407 = .ok (.invokevirtual 206, 3) := by decide +kernel
theorem dX7_digest_410 : decode cX7_digest 410 = .ok (.i2l, 1) := by decide +kernel
theorem dX7_digest_411 : decode cX7_digest 411 = .ok (.ladd, 1) := by decide +kernel
theorem dX7_digest_412 : decode cX7_digest 412 = .ok (.lstore_n 1, 1) := by decide +kernel
theorem dX7_digest_413 : decode cX7_digest 413 = .ok (.ldc2_w 283, 3) := by decide +kernel
theorem dX7_digest_416 : decode cX7_digest 416 = .ok (.lload_n 1, 1) := by decide +kernel
theorem dX7_digest_417 : decode cX7_digest 417 = .ok (.lmul, 1) := by decide +kernel
theorem dX7_digest_418 : decode cX7_digest 418 = .ok (.aload_n 0, 1) := by decide +kernel
theorem dX7_digest_419 : decode cX7_digest 419 = .ok (.aload_n 0, 1) := by decide +kernel
theorem dX7_digest_420 : decode cX7_digest 420 = .ok (.invokevirtual 198, 3) := by decide +kernel
theorem dX7_digest_423 : decode cX7_digest 423 = .ok (.invokevirtual 209, 3) := by decide +kernel
theorem dX7_digest_426 : decode cX7_digest 426 = .ok (.i2l, 1) := by decide +kernel
theorem dX7_digest_427 : decode cX7_digest 427 = .ok (.ladd, 1) := by decide +kernel
theorem dX7_digest_428 : decode cX7_digest 428 = .ok (.lstore_n 1, 1) := by decide +kernel
theorem dX7_digest_429 : decode cX7_digest 429 = .ok (.ldc2_w 283, 3) := by decide +kernel
theorem dX7_digest_432 : decode cX7_digest 432 = .ok (.lload_n 1, 1) := by decide +kernel
theorem dX7_digest_433 : decode cX7_digest 433 = .ok (.lmul, 1) := by decide +kernel
theorem dX7_digest_434 : decode cX7_digest 434 = .ok (.aload_n 0, 1) := by decide +kernel
theorem dX7_digest_435 : decode cX7_digest 435 = .ok (.invokevirtual 227, 3) := by decide +kernel
theorem dX7_digest_438 : decode cX7_digest 438 = .ok (.i2l, 1) := by decide +kernel
theorem dX7_digest_439 : decode cX7_digest 439 = .ok (.ladd, 1) := by decide +kernel
theorem dX7_digest_440 : decode cX7_digest 440 = .ok (.lstore_n 1, 1) := by decide +kernel
theorem dX7_digest_441 : decode cX7_digest 441 = .ok (.ldc2_w 283, 3) := by decide +kernel
theorem dX7_digest_444 : decode cX7_digest 444 = .ok (.lload_n 1, 1) := by decide +kernel
theorem dX7_digest_445 : decode cX7_digest 445 = .ok (.lmul, 1) := by decide +kernel
theorem dX7_digest_446 : decode cX7_digest 446 = .ok (.aload_n 0, 1) := by decide +kernel
theorem dX7_digest_447 : decode cX7_digest 447 = .ok (.invokevirtual 230, 3) := by decide +kernel
theorem dX7_digest_450 : decode cX7_digest 450 = .ok (.i2l, 1) := by decide +kernel
theorem dX7_digest_451 : decode cX7_digest 451 = .ok (.ladd, 1) := by decide +kernel
theorem dX7_digest_452 : decode cX7_digest 452 = .ok (.lstore_n 1, 1) := by decide +kernel
theorem dX7_digest_453 : decode cX7_digest 453 = .ok (.ldc2_w 283, 3) := by decide +kernel
theorem dX7_digest_456 : decode cX7_digest 456 = .ok (.lload_n 1, 1) := by decide +kernel
theorem dX7_digest_457 : decode cX7_digest 457 = .ok (.lmul, 1) := by decide +kernel
theorem dX7_digest_458 : decode cX7_digest 458 = .ok (.aload_n 0, 1) := by decide +kernel
theorem dX7_digest_459 : decode cX7_digest 459 = .ok (.invokevirtual 233, 3) := by decide +kernel
theorem dX7_digest_462 : decode cX7_digest 462 = .ok (.i2l, 1) := by decide +kernel
theorem dX7_digest_463 : decode cX7_digest 463 = .ok (.ladd, 1) := by decide +kernel
theorem dX7_digest_464 : decode cX7_digest 464 = .ok (.lstore_n 1, 1) := by decide +kernel
theorem dX7_digest_465 : decode cX7_digest 465 = .ok (.ldc2_w 283, 3) := by decide +kernel
theorem dX7_digest_468 : decode cX7_digest 468 = .ok (.lload_n 1, 1) := by decide +kernel
theorem dX7_digest_469 : decode cX7_digest 469 = .ok (.lmul, 1) := by decide +kernel
theorem dX7_digest_470 : decode cX7_digest 470 = .ok (.aload_n 0, 1) := by decide +kernel
theorem dX7_digest_471 : decode cX7_digest 471 = .ok (.invokevirtual 239, 3) := by decide +kernel
theorem dX7_digest_474 : decode cX7_digest 474 = .ok (.i2l, 1) := by decide +kernel
theorem dX7_digest_475 : decode cX7_digest 475 = .ok (.ladd, 1) := by decide +kernel
theorem dX7_digest_476 : decode cX7_digest 476 = .ok (.lstore_n 1, 1) := by decide +kernel
theorem dX7_digest_477 : decode cX7_digest 477 = .ok (.ldc2_w 283, 3) := by decide +kernel
theorem dX7_digest_480 : decode cX7_digest 480 = .ok (.lload_n 1, 1) := by decide +kernel
theorem dX7_digest_481 : decode cX7_digest 481 = .ok (.lmul, 1) := by decide +kernel
theorem dX7_digest_482 : decode cX7_digest 482 = .ok (.aload_n 0, 1) := by decide +kernel
theorem dX7_digest_483 : decode cX7_digest 483 = .ok (.invokevirtual 242, 3) := by decide +kernel
theorem dX7_digest_486 : decode cX7_digest 486 = .ok (.i2l, 1) := by decide +kernel
theorem dX7_digest_487 : decode cX7_digest 487 = .ok (.ladd, 1) := by decide +kernel
theorem dX7_digest_488 : decode cX7_digest 488 = .ok (.lstore_n 1, 1) := by decide +kernel
theorem dX7_digest_489 : decode cX7_digest 489 = .ok (.ldc2_w 283, 3) := by decide +kernel
theorem dX7_digest_492 : decode cX7_digest 492 = .ok (.lload_n 1, 1) := by decide +kernel
theorem dX7_digest_493 : decode cX7_digest 493 = .ok (.lmul, 1) := by decide +kernel
theorem dX7_digest_494 : decode cX7_digest 494 = .ok (.aload_n 0, 1) := by decide +kernel
theorem dX7_digest_495 : decode cX7_digest 495 = .ok (.invokevirtual 245, 3) := by decide +kernel
theorem dX7_digest_498 : decode cX7_digest 498 = .ok (.i2l, 1) := by decide +kernel
theorem dX7_digest_499 : decode cX7_digest 499 = .ok (.ladd, 1) := by decide +kernel
theorem dX7_digest_500 : decode cX7_digest 500 = .ok (.lstore_n 1, 1) := by decide +kernel
theorem dX7_digest_501 : decode cX7_digest 501 = .ok (.ldc2_w 283, 3) := by decide +kernel
theorem dX7_digest_504 : decode cX7_digest 504 = .ok (.lload_n 1, 1) := by decide +kernel
theorem dX7_digest_505 : decode cX7_digest 505 = .ok (.lmul, 1) := by decide +kernel
theorem dX7_digest_506 : decode cX7_digest 506 = .ok (.aload_n 0, 1) := by decide +kernel
theorem dX7_digest_507 : decode cX7_digest 507 = .ok (.invokevirtual 248, 3) := by decide +kernel
theorem dX7_digest_510 : decode cX7_digest 510 = .ok (.i2l, 1) := by decide +kernel
theorem dX7_digest_511 : decode cX7_digest 511 = .ok (.ladd, 1) := by decide +kernel
theorem dX7_digest_512 : decode cX7_digest 512 = .ok (.lstore_n 1, 1) := by decide +kernel
theorem dX7_digest_513 : decode cX7_digest 513 = .ok (.ldc2_w 283, 3) := by decide +kernel
theorem dX7_digest_516 : decode cX7_digest 516 = .ok (.lload_n 1, 1) := by decide +kernel
theorem dX7_digest_517 : decode cX7_digest 517 = .ok (.lmul, 1) := by decide +kernel
theorem dX7_digest_518 : decode cX7_digest 518 = .ok (.aload_n 0, 1) := by decide +kernel
theorem dX7_digest_519 : decode cX7_digest 519 = .ok (.invokevirtual 251, 3) := by decide +kernel
theorem dX7_digest_522 : decode cX7_digest 522 = .ok (.i2l, 1) := by decide +kernel
theorem dX7_digest_523 : decode cX7_digest 523 = .ok (.ladd, 1) := by decide +kernel
theorem dX7_digest_524 : decode cX7_digest 524 = .ok (.lstore_n 1, 1) := by decide +kernel
theorem dX7_digest_525 : decode cX7_digest 525 = .ok (.ldc2_w 283, 3) := by decide +kernel
theorem dX7_digest_528 : decode cX7_digest 528 = .ok (.lload_n 1, 1) := by decide +kernel
theorem dX7_digest_529 : decode cX7_digest 529 = .ok (.lmul, 1) := by decide +kernel
theorem dX7_digest_530 : decode cX7_digest 530 = .ok (.aload_n 0, 1) := by decide +kernel
theorem dX7_digest_531 : decode cX7_digest 531 = .ok (.aload_n 0, 1) := by decide +kernel
theorem dX7_digest_532 : decode cX7_digest 532 = .ok (.getfield 7, 3) := by decide +kernel
theorem dX7_digest_535 : decode cX7_digest 535 = .ok (.iconst 1, 1) := by decide +kernel
theorem dX7_digest_536 : decode cX7_digest 536 = .ok (.iaload, 1) := by decide +kernel
theorem dX7_digest_537 : decode cX7_digest 537 = .ok (.invokevirtual 254, 3) := by decide +kernel
theorem dX7_digest_540 : decode cX7_digest 540 = .ok (.i2l, 1) := by decide +kernel
theorem dX7_digest_541 : decode cX7_digest 541 = .ok (.ladd, 1) := by decide +kernel
theorem dX7_digest_542 : decode cX7_digest 542 = .ok (.lstore_n 1, 1) := by decide +kernel
theorem dX7_digest_543 : decode cX7_digest 543 = .ok (.ldc2_w 283, 3) := by decide +kernel
theorem dX7_digest_546 : decode cX7_digest 546 = .ok (.lload_n 1, 1) := by decide +kernel
theorem dX7_digest_547 : decode cX7_digest 547 = .ok (.lmul, 1) := by decide +kernel
theorem dX7_digest_548 : decode cX7_digest 548 = .ok (.aload_n 0, 1) := by decide +kernel
theorem dX7_digest_549 : decode cX7_digest 549 = .ok (.invokevirtual 257, 3) := by decide +kernel
theorem dX7_digest_552 : decode cX7_digest 552 = .ok (.i2l, 1) := by decide +kernel
theorem dX7_digest_553 : decode cX7_digest 553 = .ok (.ladd, 1) := by decide +kernel
theorem dX7_digest_554 : decode cX7_digest 554 = .ok (.lstore_n 1, 1) := by decide +kernel
theorem dX7_digest_555 : decode cX7_digest 555 = .ok (.ldc2_w 283, 3) := by decide +kernel
theorem dX7_digest_558 : decode cX7_digest 558 = .ok (.lload_n 1, 1) := by decide +kernel
theorem dX7_digest_559 : decode cX7_digest 559 = .ok (.lmul, 1) := by decide +kernel
theorem dX7_digest_560 : decode cX7_digest 560 = .ok (.aload_n 0, 1) := by decide +kernel
theorem dX7_digest_561 : decode cX7_digest 561 = .ok (.aload_n 0, 1) := by decide +kernel
theorem dX7_digest_562 : decode cX7_digest 562 = .ok (.invokevirtual 257, 3) := by decide +kernel
theorem dX7_digest_565 : decode cX7_digest 565 = .ok (.invokevirtual 254, 3) := by decide +kernel
theorem dX7_digest_568 : decode cX7_digest 568 = .ok (.i2l, 1) := by decide +kernel
theorem dX7_digest_569 : decode cX7_digest 569 = .ok (.ladd, 1) := by decide +kernel
theorem dX7_digest_570 : decode cX7_digest 570 = .ok (.lstore_n 1, 1) := by decide +kernel
theorem dX7_digest_571 : decode cX7_digest 571 = .ok (.ldc2_w 283, 3) := by decide +kernel
theorem dX7_digest_574 : decode cX7_digest 574 = .ok (.lload_n 1, 1) := by decide +kernel
theorem dX7_digest_575 : decode cX7_digest 575 = .ok (.lmul, 1) := by decide +kernel
theorem dX7_digest_576 : decode cX7_digest 576 = .ok (.aload_n 0, 1) := by decide +kernel
theorem dX7_digest_577 : decode cX7_digest 577 = .ok (.invokevirtual 260, 3) := by decide +kernel
theorem dX7_digest_580 : decode cX7_digest 580 = .ok (.i2l, 1) := by decide +kernel
theorem dX7_digest_581 : decode cX7_digest 581 = .ok (.ladd, 1) := by decide +kernel
theorem dX7_digest_582 : decode cX7_digest 582 = .ok (.lstore_n 1, 1) := by decide +kernel
theorem dX7_digest_583 : decode cX7_digest 583 = .ok (.ldc2_w 283, 3) := by decide +kernel
theorem dX7_digest_586 : decode cX7_digest 586 = .ok (.lload_n 1, 1) := by decide +kernel
theorem dX7_digest_587 : decode cX7_digest 587 = .ok (.lmul, 1) := by decide +kernel
theorem dX7_digest_588 : decode cX7_digest 588 = .ok (.aload_n 0, 1) := by decide +kernel
theorem dX7_digest_589 : decode cX7_digest 589 = .ok (.bipush 9, 2) := by decide +kernel
theorem dX7_digest_591 : decode cX7_digest 591 = .ok (.invokevirtual 263, 3) := by decide +kernel
theorem dX7_digest_594 : decode cX7_digest 594 = .ok (.i2l, 1) := by decide +kernel
theorem dX7_digest_595 : decode cX7_digest 595 = .ok (.ladd, 1) := by decide +kernel
theorem dX7_digest_596 : decode cX7_digest 596 = .ok (.lstore_n 1, 1) := by decide +kernel
theorem dX7_digest_597 : decode cX7_digest 597 = .ok (.ldc2_w 283, 3) := by decide +kernel
theorem dX7_digest_600 : decode cX7_digest 600 = .ok (.lload_n 1, 1) := by decide +kernel
theorem dX7_digest_601 : decode cX7_digest 601 = .ok (.lmul, 1) := by decide +kernel
theorem dX7_digest_602 : decode cX7_digest 602 = .ok (.aload_n 0, 1) := by decide +kernel
theorem dX7_digest_603 : decode cX7_digest 603 = .ok (.getfield 35, 3) := by decide +kernel
theorem dX7_digest_606 : decode cX7_digest 606 = .ok (.i2l, 1) := by decide +kernel
theorem dX7_digest_607 : decode cX7_digest 607 = .ok (.ladd, 1) := by decide +kernel
theorem dX7_digest_608 : decode cX7_digest 608 = .ok (.lstore_n 1, 1) := by decide +kernel
theorem dX7_digest_609 : decode cX7_digest 609 = .ok (.ldc2_w 283, 3) := by decide +kernel
theorem dX7_digest_612 : decode cX7_digest 612 = .ok (.lload_n 1, 1) := by decide +kernel
theorem dX7_digest_613 : decode cX7_digest 613 = .ok (.lmul, 1) := by decide +kernel
theorem dX7_digest_614 : decode cX7_digest 614 = .ok (.aload_n 0, 1) := by decide +kernel
theorem dX7_digest_615 : decode cX7_digest 615 = .ok (.invokevirtual 206, 3) := by decide +kernel
theorem dX7_digest_618 : decode cX7_digest 618 = .ok (.invokestatic 285, 3) := by decide +kernel
theorem dX7_digest_621 : decode cX7_digest 621 = .ok (.ladd, 1) := by decide +kernel
theorem dX7_digest_622 : decode cX7_digest 622 = .ok (.lstore_n 1, 1) := by decide +kernel
theorem dX7_digest_623 : decode cX7_digest 623 = .ok (.ldc2_w 283, 3) := by decide +kernel
theorem dX7_digest_626 : decode cX7_digest 626 = .ok (.lload_n 1, 1) := by decide +kernel
theorem dX7_digest_627 : decode cX7_digest 627 = .ok (.lmul, 1) := by decide +kernel
theorem dX7_digest_628 : decode cX7_digest 628 = .ok (.aload_n 0, 1) := by decide +kernel
theorem dX7_digest_629 : decode cX7_digest 629 = .ok (.invokevirtual 268, 3) := by decide +kernel
theorem dX7_digest_632 : decode cX7_digest 632 = .ok (.aload_n 0, 1) := by decide +kernel
theorem dX7_digest_633 : decode cX7_digest 633 = .ok (.getfield 7, 3) := by decide +kernel
theorem dX7_digest_636 : decode cX7_digest 636 = .ok (.iconst 0, 1) := by decide +kernel
theorem dX7_digest_637 : decode cX7_digest 637 = .ok (.iaload, 1) := by decide +kernel
theorem dX7_digest_638 : decode cX7_digest 638 = .ok (.invokestatic 288, 3) := by decide +kernel
theorem dX7_digest_641 : decode cX7_digest 641 = .ok (.i2l, 1) := by decide +kernel
theorem dX7_digest_642 : decode cX7_digest 642 = .ok (.ladd, 1) := by decide +kernel
theorem dX7_digest_643 : decode cX7_digest 643 = .ok (.lstore_n 1, 1) := by decide +kernel
theorem dX7_digest_644 : decode cX7_digest 644 = .ok (.ldc2_w 283, 3) := by decide +kernel
theorem dX7_digest_647 : decode cX7_digest 647 = .ok (.lload_n 1, 1) := by decide +kernel
theorem dX7_digest_648 : decode cX7_digest 648 = .ok (.lmul, 1) := by decide +kernel
theorem dX7_digest_649 : decode cX7_digest 649 = .ok (.aload_n 0, 1) := by decide +kernel
theorem dX7_digest_650 : decode cX7_digest 650 = .ok (.getfield 150, 3) := by decide +kernel
theorem dX7_digest_653 : decode cX7_digest 653 = .ok (.ifCond .eq 7, 3) := by decide +kernel
theorem dX7_digest_656 : decode cX7_digest 656 = .ok (.iconst 1, 1) := by decide +kernel
theorem dX7_digest_657 : decode cX7_digest 657 = .ok (.goto 4, 3) := by decide +kernel
theorem dX7_digest_660 : decode cX7_digest 660 = .ok (.iconst 0, 1) := by decide +kernel
theorem dX7_digest_661 : decode cX7_digest 661 = .ok (.i2l, 1) := by decide +kernel
theorem dX7_digest_662 : decode cX7_digest 662 = .ok (.ladd, 1) := by decide +kernel
theorem dX7_digest_663 : decode cX7_digest 663 = .ok (.lstore_n 1, 1) := by decide +kernel
theorem dX7_digest_664 : decode cX7_digest 664 = .ok (.ldc2_w 283, 3) := by decide +kernel
theorem dX7_digest_667 : decode cX7_digest 667 = .ok (.lload_n 1, 1) := by decide +kernel
theorem dX7_digest_668 : decode cX7_digest 668 = .ok (.lmul, 1) := by decide +kernel
theorem dX7_digest_669 : decode cX7_digest 669 = .ok (.aload_n 0, 1) := by decide +kernel
theorem dX7_digest_670 : decode cX7_digest 670 = .ok (.getfield 113, 3) := by decide +kernel
theorem dX7_digest_673 : decode cX7_digest 673 = .ok (.i2l, 1) := by decide +kernel
theorem dX7_digest_674 : decode cX7_digest 674 = .ok (.ladd, 1) := by decide +kernel
theorem dX7_digest_675 : decode cX7_digest 675 = .ok (.lstore_n 1, 1) := by decide +kernel
theorem dX7_digest_676 : decode cX7_digest 676 = .ok (.iconst 0, 1) := by decide +kernel
theorem dX7_digest_677 : decode cX7_digest 677 = .ok (.istore 4, 2) := by decide +kernel
theorem dX7_digest_679 : decode cX7_digest 679 = .ok (.iload 4, 2) := by decide +kernel
theorem dX7_digest_681 : decode cX7_digest 681 = .ok (.aload_n 0, 1) := by decide +kernel
theorem dX7_digest_682 : decode cX7_digest 682 = .ok (.getfield 113, 3) := by decide +kernel
theorem dX7_digest_685 : decode cX7_digest 685 = .ok (.if_icmp .ge 24, 3) := by decide +kernel
theorem dX7_digest_688 : decode cX7_digest 688 = .ok (.ldc2_w 283, 3) := by decide +kernel
theorem dX7_digest_691 : decode cX7_digest 691 = .ok (.lload_n 1, 1) := by decide +kernel
theorem dX7_digest_692 : decode cX7_digest 692 = .ok (.lmul, 1) := by decide +kernel
theorem dX7_digest_693 : decode cX7_digest 693 = .ok (.aload_n 0, 1) := by decide +kernel
theorem dX7_digest_694 : decode cX7_digest 694 = .ok (.getfield 13, 3) := by decide +kernel
theorem dX7_digest_697 : decode cX7_digest 697 = .ok (.iload 4, 2) := by decide +kernel
theorem dX7_digest_699 : decode cX7_digest 699 = .ok (.caload, 1) := by decide +kernel
theorem dX7_digest_700 : decode cX7_digest 700 = .ok (.i2l, 1) := by decide +kernel
theorem dX7_digest_701 : decode cX7_digest 701 = .ok (.ladd, 1) := by decide +kernel
theorem dX7_digest_702 : decode cX7_digest 702 = .ok (.lstore_n 1, 1) := by decide +kernel
theorem dX7_digest_703 : decode cX7_digest 703 = .ok (.iinc 4 1, 3) := by decide +kernel
theorem dX7_digest_706 : decode cX7_digest 706 = .ok (.goto (-27), 3) := by decide +kernel
theorem dX7_digest_709 : decode cX7_digest 709 = .ok (.aload_n 0, 1) := by decide +kernel
theorem dX7_digest_710 : decode cX7_digest 710 = .ok (.iconst 0, 1) := by decide +kernel
theorem dX7_digest_711 : decode cX7_digest 711 = .ok (.putfield 31, 3) := by decide +kernel
theorem dX7_digest_714 : decode cX7_digest 714 = .ok (.lload_n 1, 1) := by decide +kernel
theorem dX7_digest_715 : decode cX7_digest 715 = .ok (.lreturn, 1) := by decide +kernel
theorem dJ6_compare_7cf53_0 : decode cJ6_compare_7cf53 0 = .ok (.iload_n 0, 1) := by decide +kernel
theorem dJ6_compare_7cf53_1 : decode cJ6_compare_7cf53 1 = .ok (.iload_n 1, 1) := by decide +kernel
theorem dJ6_compare_7cf53_2 : decode cJ6_compare_7cf53 2 = .ok (.if_icmp .ge 7, 3) := by decide +kernel
theorem dJ6_compare_7cf53_5 : decode cJ6_compare_7cf53 5 = .ok (.iconst (-1), 1) := by decide +kernel
theorem dJ6_compare_7cf53_6 : decode cJ6_compare_7cf53 6 = .ok (.goto 13, 3) := by decide +kernel
theorem dJ6_compare_7cf53_9 : decode cJ6_compare_7cf53 9 = .ok (.iload_n 0, 1) := by decide +kernel
theorem dJ6_compare_7cf53_10 : decode cJ6_compare_7cf53 10 = .ok (.iload_n 1, 1) := by decide +kernel
theorem dJ6_compare_7cf53_11 : decode cJ6_compare_7cf53 11 = .ok (.if_icmp .ne 7, 3) := by decide +kernel
theorem dJ6_compare_7cf53_14 : decode cJ6_compare_7cf53 14 = .ok (.iconst 0, 1) := by decide +kernel
theorem dJ6_compare_7cf53_15 : decode cJ6_compare_7cf53 15 = .ok (.goto 4, 3) := by decide +kernel
theorem dJ6_compare_7cf53_18 : decode cJ6_compare_7cf53 18 = .ok (.iconst 1, 1) := by decide +kernel
theorem dJ6_compare_7cf53_19 : decode cJ6_compare_7cf53 19 = .ok (.ireturn, 1) := by decide +kernel
theorem dJ6_bitCount_0f7a4_0 : decode cJ6_bitCount_0f7a4 0 = .ok (.iload_n 0, 1) := by decide +kernel
theorem dJ6_bitCount_0f7a4_1 : decode cJ6_bitCount_0f7a4 1 = .ok (.iload_n 0, 1) := by decide +kernel
theorem dJ6_bitCount_0f7a4_2 : decode cJ6_bitCount_0f7a4 2 = .ok (.iconst 1, 1) := by decide +kernel
theorem dJ6_bitCount_0f7a4_3 : decode cJ6_bitCount_0f7a4 3 = .ok (.iushr, 1) := by decide +kernel
theorem dJ6_bitCount_0f7a4_4 : decode cJ6_bitCount_0f7a4 4 = .ok (.ldc_w 265, 3) := by decide +kernel
theorem dJ6_bitCount_0f7a4_7 : decode cJ6_bitCount_0f7a4 7 = .ok (.iand, 1) := by decide +kernel
theorem dJ6_bitCount_0f7a4_8 : decode cJ6_bitCount_0f7a4 8 = .ok (.isub, 1) := by decide +kernel
theorem dJ6_bitCount_0f7a4_9 : decode cJ6_bitCount_0f7a4 9 = .ok (.istore_n 0, 1) := by decide +kernel
theorem dJ6_bitCount_0f7a4_10 : decode cJ6_bitCount_0f7a4 10 = .ok (.iload_n 0, 1) := by decide +kernel
theorem dJ6_bitCount_0f7a4_11 : decode cJ6_bitCount_0f7a4 11 = .ok (.ldc_w 266, 3) := by decide +kernel
theorem dJ6_bitCount_0f7a4_14 : decode cJ6_bitCount_0f7a4 14 = .ok (.iand, 1) := by decide +kernel
theorem dJ6_bitCount_0f7a4_15 : decode cJ6_bitCount_0f7a4 15 = .ok (.iload_n 0, 1) := by decide +kernel
theorem dJ6_bitCount_0f7a4_16 : decode cJ6_bitCount_0f7a4 16 = .ok (.iconst 2, 1) := by decide +kernel
theorem dJ6_bitCount_0f7a4_17 : decode cJ6_bitCount_0f7a4 17 = .ok (.iushr, 1) := by decide +kernel
theorem dJ6_bitCount_0f7a4_18 : decode cJ6_bitCount_0f7a4 18 = .ok (.ldc_w 266, 3) := by decide +kernel
theorem dJ6_bitCount_0f7a4_21 : decode cJ6_bitCount_0f7a4 21 = .ok (.iand, 1) := by decide +kernel
theorem dJ6_bitCount_0f7a4_22 : decode cJ6_bitCount_0f7a4 22 = .ok (.iadd, 1) := by decide +kernel
theorem dJ6_bitCount_0f7a4_23 : decode cJ6_bitCount_0f7a4 23 = .ok (.istore_n 0, 1) := by decide +kernel
theorem dJ6_bitCount_0f7a4_24 : decode cJ6_bitCount_0f7a4 24 = .ok (.iload_n 0, 1) := by decide +kernel
theorem dJ6_bitCount_0f7a4_25 : decode cJ6_bitCount_0f7a4 25 = .ok (.iload_n 0, 1) := by decide +kernel
theorem dJ6_bitCount_0f7a4_26 : decode cJ6_bitCount_0f7a4 26 = .ok (.iconst 4, 1) := by decide +kernel
theorem dJ6_bitCount_0f7a4_27 : decode cJ6_bitCount_0f7a4 27 = .ok (.iushr, 1) := by decide +kernel
theorem dJ6_bitCount_0f7a4_28 : decode cJ6_bitCount_0f7a4 28 = .ok (.iadd, 1) := by decide +kernel
theorem dJ6_bitCount_0f7a4_29 : decode cJ6_bitCount_0f7a4 29 = .ok (.ldc_w 267, 3) := by decide +kernel
theorem dJ6_bitCount_0f7a4_32 : decode cJ6_bitCount_0f7a4 32 = .ok (.iand, 1) := by decide +kernel
theorem dJ6_bitCount_0f7a4_33 : decode cJ6_bitCount_0f7a4 33 = .ok (.istore_n 0, 1) := by decide +kernel
theorem dJ6_bitCount_0f7a4_34 : decode cJ6_bitCount_0f7a4 34 = .ok (.iload_n 0, 1) := by decide +kernel
theorem dJ6_bitCount_0f7a4_35 : decode cJ6_bitCount_0f7a4 35 = .ok (.iload_n 0, 1) := by decide +kernel
theorem dJ6_bitCount_0f7a4_36 : decode cJ6_bitCount_0f7a4 36 = .ok (.bipush 8, 2) := by decide +kernel
theorem dJ6_bitCount_0f7a4_38 : decode cJ6_bitCount_0f7a4 38 = .ok (.iushr, 1) := by decide +kernel
theorem dJ6_bitCount_0f7a4_39 : decode cJ6_bitCount_0f7a4 39 = .ok (.iadd, 1) := by decide +kernel
theorem dJ6_bitCount_0f7a4_40 : decode cJ6_bitCount_0f7a4 40 = .ok (.istore_n 0, 1) := by decide +kernel
theorem dJ6_bitCount_0f7a4_41 : decode cJ6_bitCount_0f7a4 41 = .ok (.iload_n 0, 1) := by decide +kernel
theorem dJ6_bitCount_0f7a4_42 : decode cJ6_bitCount_0f7a4 42 = .ok (.iload_n 0, 1) := by decide +kernel
theorem dJ6_bitCount_0f7a4_43 : decode cJ6_bitCount_0f7a4 43 = .ok (.bipush 16, 2) := by decide +kernel
theorem dJ6_bitCount_0f7a4_45 : decode cJ6_bitCount_0f7a4 45 = .ok (.iushr, 1) := by decide +kernel
theorem dJ6_bitCount_0f7a4_46 : decode cJ6_bitCount_0f7a4 46 = .ok (.iadd, 1) := by decide +kernel
theorem dJ6_bitCount_0f7a4_47 : decode cJ6_bitCount_0f7a4 47 = .ok (.istore_n 0, 1) := by decide +kernel
theorem dJ6_bitCount_0f7a4_48 : decode cJ6_bitCount_0f7a4 48 = .ok (.iload_n 0, 1) := by decide +kernel
theorem dJ6_bitCount_0f7a4_49 : decode cJ6_bitCount_0f7a4 49 = .ok (.bipush 63, 2) := by decide +kernel
theorem dJ6_bitCount_0f7a4_51 : decode cJ6_bitCount_0f7a4 51 = .ok (.iand, 1) := by decide +kernel
theorem dJ6_bitCount_0f7a4_52 : decode cJ6_bitCount_0f7a4 52 = .ok (.ireturn, 1) := by decide +kernel
theorem dJ13_bitCount_95d88_0 : decode cJ13_bitCount_95d88 0 = .ok (.lload_n 0, 1) := by decide +kernel
theorem dJ13_bitCount_95d88_1 : decode cJ13_bitCount_95d88 1 = .ok (.lload_n 0, 1) := by decide +kernel
theorem dJ13_bitCount_95d88_2 : decode cJ13_bitCount_95d88 2 = .ok (.iconst 1, 1) := by decide +kernel
theorem dJ13_bitCount_95d88_3 : decode cJ13_bitCount_95d88 3 = .ok (.lushr, 1) := by decide +kernel
theorem dJ13_bitCount_95d88_4 : decode cJ13_bitCount_95d88 4 = .ok (.ldc2_w 314, 3) := by decide +kernel
theorem dJ13_bitCount_95d88_7 : decode cJ13_bitCount_95d88 7 = .ok (.land, 1) := by decide +kernel
theorem dJ13_bitCount_95d88_8 : decode cJ13_bitCount_95d88 8 = .ok (.lsub, 1) := by decide +kernel
theorem dJ13_bitCount_95d88_9 : decode cJ13_bitCount_95d88 9 = .ok (.lstore_n 0, 1) := by decide +kernel
theorem dJ13_bitCount_95d88_10 : decode cJ13_bitCount_95d88 10 = .ok (.lload_n 0, 1) := by decide +kernel
theorem dJ13_bitCount_95d88_11 : decode cJ13_bitCount_95d88 11 = .ok (.ldc2_w 316, 3) := by decide +kernel
theorem dJ13_bitCount_95d88_14 : decode cJ13_bitCount_95d88 14 = .ok (.land, 1) := by decide +kernel
theorem dJ13_bitCount_95d88_15 : decode cJ13_bitCount_95d88 15 = .ok (.lload_n 0, 1) := by decide +kernel
theorem dJ13_bitCount_95d88_16 : decode cJ13_bitCount_95d88 16 = .ok (.iconst 2, 1) := by decide +kernel
theorem dJ13_bitCount_95d88_17 : decode cJ13_bitCount_95d88 17 = .ok (.lushr, 1) := by decide +kernel
theorem dJ13_bitCount_95d88_18 : decode cJ13_bitCount_95d88 18 = .ok (.ldc2_w 316, 3) := by decide +kernel
theorem dJ13_bitCount_95d88_21 : decode cJ13_bitCount_95d88 21 = .ok (.land, 1) := by decide +kernel
theorem dJ13_bitCount_95d88_22 : decode cJ13_bitCount_95d88 22 = .ok (.ladd, 1) := by decide +kernel
theorem dJ13_bitCount_95d88_23 : decode cJ13_bitCount_95d88 23 = .ok (.lstore_n 0, 1) := by decide +kernel
theorem dJ13_bitCount_95d88_24 : decode cJ13_bitCount_95d88 24 = .ok (.lload_n 0, 1) := by decide +kernel
theorem dJ13_bitCount_95d88_25 : decode cJ13_bitCount_95d88 25 = .ok (.lload_n 0, 1) := by decide +kernel
theorem dJ13_bitCount_95d88_26 : decode cJ13_bitCount_95d88 26 = .ok (.iconst 4, 1) := by decide +kernel
theorem dJ13_bitCount_95d88_27 : decode cJ13_bitCount_95d88 27 = .ok (.lushr, 1) := by decide +kernel
theorem dJ13_bitCount_95d88_28 : decode cJ13_bitCount_95d88 28 = .ok (.ladd, 1) := by decide +kernel
theorem dJ13_bitCount_95d88_29 : decode cJ13_bitCount_95d88 29 = .ok (.ldc2_w 318, 3) := by decide +kernel
theorem dJ13_bitCount_95d88_32 : decode cJ13_bitCount_95d88 32 = .ok (.land, 1) := by decide +kernel
theorem dJ13_bitCount_95d88_33 : decode cJ13_bitCount_95d88 33 = .ok (.lstore_n 0, 1) := by decide +kernel
theorem dJ13_bitCount_95d88_34 : decode cJ13_bitCount_95d88 34 = .ok (.lload_n 0, 1) := by decide +kernel
theorem dJ13_bitCount_95d88_35 : decode cJ13_bitCount_95d88 35 = .ok (.lload_n 0, 1) := by decide +kernel
theorem dJ13_bitCount_95d88_36 : decode cJ13_bitCount_95d88 36 = .ok (.bipush 8, 2) := by decide +kernel
theorem dJ13_bitCount_95d88_38 : decode cJ13_bitCount_95d88 38 = .ok (.lushr, 1) := by decide +kernel
theorem dJ13_bitCount_95d88_39 : decode cJ13_bitCount_95d88 39 = .ok (.ladd, 1) := by decide +kernel
theorem dJ13_bitCount_95d88_40 : decode cJ13_bitCount_95d88 40 = .ok (.lstore_n 0, 1) := by decide +kernel
theorem dJ13_bitCount_95d88_41 : decode cJ13_bitCount_95d88 41 = .ok (.lload_n 0, 1) := by decide +kernel
theorem dJ13_bitCount_95d88_42 : decode cJ13_bitCount_95d88 42 = .ok (.lload_n 0, 1) := by decide +kernel
theorem dJ13_bitCount_95d88_43 : decode cJ13_bitCount_95d88 43 = .ok (.bipush 16, 2) := by decide +kernel
theorem dJ13_bitCount_95d88_45 : decode cJ13_bitCount_95d88 45 = .ok (.lushr, 1) := by decide +kernel
theorem dJ13_bitCount_95d88_46 : decode cJ13_bitCount_95d88 46 = .ok (.ladd, 1) := by decide +kernel
theorem dJ13_bitCount_95d88_47 : decode cJ13_bitCount_95d88 47 = .ok (.lstore_n 0, 1) := by decide +kernel
theorem dJ13_bitCount_95d88_48 : decode cJ13_bitCount_95d88 48 = .ok (.lload_n 0, 1) := by decide +kernel
theorem dJ13_bitCount_95d88_49 : decode cJ13_bitCount_95d88 49 = .ok (.lload_n 0, 1) := by decide +kernel
theorem dJ13_bitCount_95d88_50 : decode cJ13_bitCount_95d88 50 = .ok (.bipush 32, 2) := by decide +kernel
theorem dJ13_bitCount_95d88_52 : decode cJ13_bitCount_95d88 52 = .ok (.lushr, 1) := by decide +kernel
theorem dJ13_bitCount_95d88_53 : decode cJ13_bitCount_95d88 53 = .ok (.ladd, 1) := by decide +kernel
theorem dJ13_bitCount_95d88_54 : decode cJ13_bitCount_95d88 54 = .ok (.lstore_n 0, 1) := by decide +kernel
theorem dJ13_bitCount_95d88_55 : decode cJ13_bitCount_95d88 55 = .ok (.lload_n 0, 1) := by decide +kernel
theorem dJ13_bitCount_95d88_56 : decode cJ13_bitCount_95d88 56 = .ok (.l2i, 1) := by decide +kernel
theorem dJ13_bitCount_95d88_57 : decode cJ13_bitCount_95d88 57 = .ok (.bipush 127, 2) := by decide +kernel
theorem dJ13_bitCount_95d88_59 : decode cJ13_bitCount_95d88 59 = .ok (.iand, 1) := by decide +kernel
theorem dJ13_bitCount_95d88_60 : decode cJ13_bitCount_95d88 60 = .ok (.ireturn, 1) := by decide +kernel
theorem dJ9_max_7cf53_0 : decode cJ9_max_7cf53 0 = .ok (.iload_n 0, 1) := by decide +kernel
theorem dJ9_max_7cf53_1 : decode cJ9_max_7cf53 1 = .ok (.iload_n 1, 1) := by decide +kernel
theorem dJ9_max_7cf53_2 : decode cJ9_max_7cf53 2 = .ok (.if_icmp .lt 7, 3) := by decide +kernel
theorem dJ9_max_7cf53_5 : decode cJ9_max_7cf53 5 = .ok (.iload_n 0, 1) := by decide +kernel
theorem dJ9_max_7cf53_6 : decode cJ9_max_7cf53 6 = .ok (.goto 4, 3) := by decide +kernel
theorem dJ9_max_7cf53_9 : decode cJ9_max_7cf53 9 = .ok (.iload_n 1, 1) := by decide +kernel
theorem dJ9_max_7cf53_10 : decode cJ9_max_7cf53 10 = .ok (.ireturn, 1) := by decide +kernel
theorem dJ9_min_7cf53_0 : decode cJ9_min_7cf53 0 = .ok (.iload_n 0, 1) := by decide +kernel
theorem dJ9_min_7cf53_1 : decode cJ9_min_7cf53 1 = .ok (.iload_n 1, 1) := by decide +kernel
theorem dJ9_min_7cf53_2 : decode cJ9_min_7cf53 2 = .ok (.if_icmp .gt 7, 3) := by decide +kernel
theorem dJ9_min_7cf53_5 : decode cJ9_min_7cf53 5 = .ok (.iload_n 0, 1) := by decide +kernel
theorem dJ9_min_7cf53_6 : decode cJ9_min_7cf53 6 = .ok (.goto 4, 3) := by decide +kernel
theorem dJ9_min_7cf53_9 : decode cJ9_min_7cf53 9 = .ok (.iload_n 1, 1) := by decide +kernel
theorem dJ9_min_7cf53_10 : decode cJ9_min_7cf53 10 = .ok (.ireturn, 1) := by decide +kernel
theorem dJ7_fill_d0a16_0 : decode cJ7_fill_d0a16 0 = .ok (.iconst 0, 1) := by decide +kernel
theorem dJ7_fill_d0a16_1 : decode cJ7_fill_d0a16 1 = .ok (.istore_n 3, 1) := by decide +kernel
theorem dJ7_fill_d0a16_2 : decode cJ7_fill_d0a16 2 = .ok (.aload_n 0, 1) := by decide +kernel
theorem dJ7_fill_d0a16_3 : decode cJ7_fill_d0a16 3 = .ok (.arraylength, 1) := by decide +kernel
theorem dJ7_fill_d0a16_4 : decode cJ7_fill_d0a16 4 = .ok (.istore 4, 2) := by decide +kernel
theorem dJ7_fill_d0a16_6 : decode cJ7_fill_d0a16 6 = .ok (.iload_n 3, 1) := by decide +kernel
theorem dJ7_fill_d0a16_7 : decode cJ7_fill_d0a16 7 = .ok (.iload 4, 2) := by decide +kernel
theorem dJ7_fill_d0a16_9 : decode cJ7_fill_d0a16 9 = .ok (.if_icmp .ge 13, 3) := by decide +kernel
theorem dJ7_fill_d0a16_12 : decode cJ7_fill_d0a16 12 = .ok (.aload_n 0, 1) := by decide +kernel
theorem dJ7_fill_d0a16_13 : decode cJ7_fill_d0a16 13 = .ok (.iload_n 3, 1) := by decide +kernel
theorem dJ7_fill_d0a16_14 : decode cJ7_fill_d0a16 14 = .ok (.lload_n 1, 1) := by decide +kernel
theorem dJ7_fill_d0a16_15 : decode cJ7_fill_d0a16 15 = .ok (.lastore, 1) := by decide +kernel
theorem dJ7_fill_d0a16_16 : decode cJ7_fill_d0a16 16 = .ok (.iinc 3 1, 3) := by decide +kernel
theorem dJ7_fill_d0a16_19 : decode cJ7_fill_d0a16 19 = .ok (.goto (-13), 3) := by decide +kernel
theorem dJ7_fill_d0a16_22 : decode cJ7_fill_d0a16 22 = .ok (.return_, 1) := by decide +kernel
theorem dL_make_0 : decode cL_make 0 = .ok (.aload 4, 2) := by decide +kernel
theorem dL_make_2 : decode cL_make 2 = .ok (.iconst 0, 1) := by decide +kernel
theorem dL_make_3 : decode cL_make 3 = .ok (.aload_n 0, 1) := by decide +kernel
theorem dL_make_4 : decode cL_make 4 = .ok (.iload_n 1, 1) := by decide +kernel
theorem dL_make_5 : decode cL_make 5 = .ok (.iload_n 2, 1) := by decide +kernel
theorem dL_make_6 : decode cL_make 6 = .ok (.iload_n 3, 1) := by decide +kernel
theorem dL_make_7 : decode cL_make 7 = .ok (.invokevirtual 7, 3) := by decide +kernel
theorem dL_make_10 : decode cL_make 10 = .ok (.i2l, 1) := by decide +kernel
theorem dL_make_11 : decode cL_make 11 = .ok (.lastore, 1) := by decide +kernel
theorem dL_make_12 : decode cL_make 12 = .ok (.goto 11, 3) := by decide +kernel
theorem dL_make_15 : decode cL_make 15 = .ok (.astore 5, 2) := by decide +kernel
theorem dL_make_17 : decode cL_make 17 = .ok (.iconst 1, 1) := by decide +kernel
theorem dL_make_18 : decode cL_make 18 = .ok (.ireturn, 1) := by decide +kernel
theorem dL_make_19 : decode cL_make 19 = .ok (.astore 5, 2) := by decide +kernel
theorem dL_make_21 : decode cL_make 21 = .ok (.iconst 2, 1) := by decide +kernel
theorem dL_make_22 : decode cL_make 22 = .ok (.ireturn, 1) := by decide +kernel
theorem dL_make_23 : decode cL_make 23 = .ok (.iconst 0, 1) := by decide +kernel
theorem dL_make_24 : decode cL_make 24 = .ok (.ireturn, 1) := by decide +kernel
theorem dL_withdraw_0 : decode cL_withdraw 0 = .ok (.aload_n 2, 1) := by decide +kernel
theorem dL_withdraw_1 : decode cL_withdraw 1 = .ok (.iconst 0, 1) := by decide +kernel
theorem dL_withdraw_2 : decode cL_withdraw 2 = .ok (.aload_n 0, 1) := by decide +kernel
theorem dL_withdraw_3 : decode cL_withdraw 3 = .ok (.iload_n 1, 1) := by decide +kernel
theorem dL_withdraw_4 : decode cL_withdraw 4 = .ok (.invokevirtual 17, 3) := by decide +kernel
theorem dL_withdraw_7 : decode cL_withdraw 7 = .ok (.i2l, 1) := by decide +kernel
theorem dL_withdraw_8 : decode cL_withdraw 8 = .ok (.lastore, 1) := by decide +kernel
theorem dL_withdraw_9 : decode cL_withdraw 9 = .ok (.goto 6, 3) := by decide +kernel
theorem dL_withdraw_12 : decode cL_withdraw 12 = .ok (.astore_n 3, 1) := by decide +kernel
theorem dL_withdraw_13 : decode cL_withdraw 13 = .ok (.iconst 1, 1) := by decide +kernel
theorem dL_withdraw_14 : decode cL_withdraw 14 = .ok (.ireturn, 1) := by decide +kernel
theorem dL_withdraw_15 : decode cL_withdraw 15 = .ok (.iconst 0, 1) := by decide +kernel
theorem dL_withdraw_16 : decode cL_withdraw 16 = .ok (.ireturn, 1) := by decide +kernel
theorem dL_setStrict_0 : decode cL_setStrict 0 = .ok (.aload_n 3, 1) := by decide +kernel
theorem dL_setStrict_1 : decode cL_setStrict 1 = .ok (.iconst 0, 1) := by decide +kernel
theorem dL_setStrict_2 : decode cL_setStrict 2 = .ok (.aload_n 0, 1) := by decide +kernel
theorem dL_setStrict_3 : decode cL_setStrict 3 = .ok (.iload_n 1, 1) := by decide +kernel
theorem dL_setStrict_4 : decode cL_setStrict 4 = .ok (.iload_n 2, 1) := by decide +kernel
theorem dL_setStrict_5 : decode cL_setStrict 5 = .ok (.invokevirtual 23, 3) := by decide +kernel
theorem dL_setStrict_8 : decode cL_setStrict 8 = .ok (.ifCond .eq 7, 3) := by decide +kernel
theorem dL_setStrict_11 : decode cL_setStrict 11 = .ok (.lconst 1, 1) := by decide +kernel
theorem dL_setStrict_12 : decode cL_setStrict 12 = .ok (.goto 4, 3) := by decide +kernel
theorem dL_setStrict_15 : decode cL_setStrict 15 = .ok (.lconst 0, 1) := by decide +kernel
theorem dL_setStrict_16 : decode cL_setStrict 16 = .ok (.lastore, 1) := by decide +kernel
theorem dL_setStrict_17 : decode cL_setStrict 17 = .ok (.goto 7, 3) := by decide +kernel
theorem dL_setStrict_20 : decode cL_setStrict 20 = .ok (.astore 4, 2) := by decide +kernel
theorem dL_setStrict_22 : decode cL_setStrict 22 = .ok (.iconst 1, 1) := by decide +kernel
theorem dL_setStrict_23 : decode cL_setStrict 23 = .ok (.ireturn, 1) := by decide +kernel
theorem dL_setStrict_24 : decode cL_setStrict 24 = .ok (.iconst 0, 1) := by decide +kernel
theorem dL_setStrict_25 : decode cL_setStrict 25 = .ok (.ireturn, 1) := by decide +kernel
theorem dL_waive_0 : decode cL_waive 0 = .ok (.aload_n 3, 1) := by decide +kernel
theorem dL_waive_1 : decode cL_waive 1 = .ok (.iconst 0, 1) := by decide +kernel
theorem dL_waive_2 : decode cL_waive 2 = .ok (.aload_n 0, 1) := by decide +kernel
theorem dL_waive_3 : decode cL_waive 3 = .ok (.iload_n 1, 1) := by decide +kernel
theorem dL_waive_4 : decode cL_waive 4 = .ok (.iload_n 2, 1) := by decide +kernel
theorem dL_waive_5 : decode cL_waive 5 = .ok (.invokevirtual 27, 3) := by decide +kernel
theorem dL_waive_8 : decode cL_waive 8 = .ok (.i2l, 1) := by decide +kernel
theorem dL_waive_9 : decode cL_waive 9 = .ok (.lastore, 1) := by decide +kernel
theorem dL_waive_10 : decode cL_waive 10 = .ok (.goto 11, 3) := by decide +kernel
theorem dL_waive_13 : decode cL_waive 13 = .ok (.astore 4, 2) := by decide +kernel
theorem dL_waive_15 : decode cL_waive 15 = .ok (.iconst 1, 1) := by decide +kernel
theorem dL_waive_16 : decode cL_waive 16 = .ok (.ireturn, 1) := by decide +kernel
theorem dL_waive_17 : decode cL_waive 17 = .ok (.astore 4, 2) := by decide +kernel
theorem dL_waive_19 : decode cL_waive 19 = .ok (.iconst 2, 1) := by decide +kernel
theorem dL_waive_20 : decode cL_waive 20 = .ok (.ireturn, 1) := by decide +kernel
theorem dL_waive_21 : decode cL_waive 21 = .ok (.iconst 0, 1) := by decide +kernel
theorem dL_waive_22 : decode cL_waive 22 = .ok (.ireturn, 1) := by decide +kernel
theorem dL_come_0 : decode cL_come 0 = .ok (.aload_n 2, 1) := by decide +kernel
theorem dL_come_1 : decode cL_come 1 = .ok (.iconst 0, 1) := by decide +kernel
theorem dL_come_2 : decode cL_come 2 = .ok (.aload_n 0, 1) := by decide +kernel
theorem dL_come_3 : decode cL_come 3 = .ok (.iload_n 1, 1) := by decide +kernel
theorem dL_come_4 : decode cL_come 4 = .ok (.invokevirtual 31, 3) := by decide +kernel
theorem dL_come_7 : decode cL_come 7 = .ok (.i2l, 1) := by decide +kernel
theorem dL_come_8 : decode cL_come 8 = .ok (.lastore, 1) := by decide +kernel
theorem dL_come_9 : decode cL_come 9 = .ok (.goto 9, 3) := by decide +kernel
theorem dL_come_12 : decode cL_come 12 = .ok (.astore_n 3, 1) := by decide +kernel
theorem dL_come_13 : decode cL_come 13 = .ok (.iconst 1, 1) := by decide +kernel
theorem dL_come_14 : decode cL_come 14 = .ok (.ireturn, 1) := by decide +kernel
theorem dL_come_15 : decode cL_come 15 = .ok (.astore_n 3, 1) := by decide +kernel
theorem dL_come_16 : decode cL_come 16 = .ok (.iconst 2, 1) := by decide +kernel
theorem dL_come_17 : decode cL_come 17 = .ok (.ireturn, 1) := by decide +kernel
theorem dL_come_18 : decode cL_come 18 = .ok (.iconst 0, 1) := by decide +kernel
theorem dL_come_19 : decode cL_come 19 = .ok (.ireturn, 1) := by decide +kernel
theorem dL_go_0 : decode cL_go 0 = .ok (.aload_n 2, 1) := by decide +kernel
theorem dL_go_1 : decode cL_go 1 = .ok (.iconst 0, 1) := by decide +kernel
theorem dL_go_2 : decode cL_go 2 = .ok (.aload_n 0, 1) := by decide +kernel
theorem dL_go_3 : decode cL_go 3 = .ok (.iload_n 1, 1) := by decide +kernel
theorem dL_go_4 : decode cL_go 4 = .ok (.invokevirtual 34, 3) := by decide +kernel
theorem dL_go_7 : decode cL_go 7 = .ok (.i2l, 1) := by decide +kernel
theorem dL_go_8 : decode cL_go 8 = .ok (.lastore, 1) := by decide +kernel
theorem dL_go_9 : decode cL_go 9 = .ok (.goto 9, 3) := by decide +kernel
theorem dL_go_12 : decode cL_go 12 = .ok (.astore_n 3, 1) := by decide +kernel
theorem dL_go_13 : decode cL_go 13 = .ok (.iconst 1, 1) := by decide +kernel
theorem dL_go_14 : decode cL_go 14 = .ok (.ireturn, 1) := by decide +kernel
theorem dL_go_15 : decode cL_go 15 = .ok (.astore_n 3, 1) := by decide +kernel
theorem dL_go_16 : decode cL_go 16 = .ok (.iconst 2, 1) := by decide +kernel
theorem dL_go_17 : decode cL_go 17 = .ok (.ireturn, 1) := by decide +kernel
theorem dL_go_18 : decode cL_go 18 = .ok (.iconst 0, 1) := by decide +kernel
theorem dL_go_19 : decode cL_go 19 = .ok (.ireturn, 1) := by decide +kernel
theorem dL_pass_0 : decode cL_pass 0 = .ok (.aload_n 2, 1) := by decide +kernel
theorem dL_pass_1 : decode cL_pass 1 = .ok (.iconst 0, 1) := by decide +kernel
theorem dL_pass_2 : decode cL_pass 2 = .ok (.aload_n 0, 1) := by decide +kernel
theorem dL_pass_3 : decode cL_pass 3 = .ok (.iload_n 1, 1) := by decide +kernel
theorem dL_pass_4 : decode cL_pass 4 = .ok (.invokevirtual 37, 3) := by decide +kernel
theorem dL_pass_7 : decode cL_pass 7 = .ok (.i2l, 1) := by decide +kernel
theorem dL_pass_8 : decode cL_pass 8 = .ok (.lastore, 1) := by decide +kernel
theorem dL_pass_9 : decode cL_pass 9 = .ok (.goto 6, 3) := by decide +kernel
theorem dL_pass_12 : decode cL_pass 12 = .ok (.astore_n 3, 1) := by decide +kernel
theorem dL_pass_13 : decode cL_pass 13 = .ok (.iconst 1, 1) := by decide +kernel
theorem dL_pass_14 : decode cL_pass 14 = .ok (.ireturn, 1) := by decide +kernel
theorem dL_pass_15 : decode cL_pass 15 = .ok (.iconst 0, 1) := by decide +kernel
theorem dL_pass_16 : decode cL_pass 16 = .ok (.ireturn, 1) := by decide +kernel
theorem dL_append_0 : decode cL_append 0 = .ok (.aload_n 2, 1) := by decide +kernel
theorem dL_append_1 : decode cL_append 1 = .ok (.iconst 0, 1) := by decide +kernel
theorem dL_append_2 : decode cL_append 2 = .ok (.aload_n 0, 1) := by decide +kernel
theorem dL_append_3 : decode cL_append 3 = .ok (.iload_n 1, 1) := by decide +kernel
theorem dL_append_4 : decode cL_append 4 = .ok (.invokevirtual 40, 3) := by decide +kernel
theorem dL_append_7 : decode cL_append 7 = .ok (.i2l, 1) := by decide +kernel
theorem dL_append_8 : decode cL_append 8 = .ok (.lastore, 1) := by decide +kernel
theorem dL_append_9 : decode cL_append 9 = .ok (.goto 9, 3) := by decide +kernel
theorem dL_append_12 : decode cL_append 12 = .ok (.astore_n 3, 1) := by decide +kernel
theorem dL_append_13 : decode cL_append 13 = .ok (.iconst 1, 1) := by decide +kernel
theorem dL_append_14 : decode cL_append 14 = .ok (.ireturn, 1) := by decide +kernel
theorem dL_append_15 : decode cL_append 15 = .ok (.astore_n 3, 1) := by decide +kernel
theorem dL_append_16 : decode cL_append 16 = .ok (.iconst 2, 1) := by decide +kernel
theorem dL_append_17 : decode cL_append 17 = .ok (.ireturn, 1) := by decide +kernel
theorem dL_append_18 : decode cL_append 18 = .ok (.iconst 0, 1) := by decide +kernel
theorem dL_append_19 : decode cL_append 19 = .ok (.ireturn, 1) := by decide +kernel
theorem dL_runLog_0 : decode cL_runLog 0 = .ok (.aload_n 1, 1) := by decide +kernel
theorem dL_runLog_1 : decode cL_runLog 1 = .ok (.iconst 0, 1) := by decide +kernel
theorem dL_runLog_2 : decode cL_runLog 2 = .ok (.aload_n 0, 1) := by decide +kernel
theorem dL_runLog_3 : decode cL_runLog 3 = .ok (.invokevirtual 43, 3) := by decide +kernel
theorem dL_runLog_6 : decode cL_runLog 6 = .ok (.i2l, 1) := by decide +kernel
theorem dL_runLog_7 : decode cL_runLog 7 = .ok (.lastore, 1) := by decide +kernel
theorem dL_runLog_8 : decode cL_runLog 8 = .ok (.goto 6, 3) := by decide +kernel
theorem dL_runLog_11 : decode cL_runLog 11 = .ok (.astore_n 2, 1) := by decide +kernel
theorem dL_runLog_12 : decode cL_runLog 12 = .ok (.iconst 1, 1) := by decide +kernel
theorem dL_runLog_13 : decode cL_runLog 13 = .ok (.ireturn, 1) := by decide +kernel
theorem dL_runLog_14 : decode cL_runLog 14 = .ok (.iconst 0, 1) := by decide +kernel
theorem dL_runLog_15 : decode cL_runLog 15 = .ok (.ireturn, 1) := by decide +kernel
theorem dL_goBack_0 : decode cL_goBack 0 = .ok (.aload_n 1, 1) := by decide +kernel
theorem dL_goBack_1 : decode cL_goBack 1 = .ok (.iconst 0, 1) := by decide +kernel
theorem dL_goBack_2 : decode cL_goBack 2 = .ok (.aload_n 0, 1) := by decide +kernel
theorem dL_goBack_3 : decode cL_goBack 3 = .ok (.invokevirtual 47, 3) := by decide +kernel
theorem dL_goBack_6 : decode cL_goBack 6 = .ok (.i2l, 1) := by decide +kernel
theorem dL_goBack_7 : decode cL_goBack 7 = .ok (.lastore, 1) := by decide +kernel
theorem dL_goBack_8 : decode cL_goBack 8 = .ok (.goto 6, 3) := by decide +kernel
theorem dL_goBack_11 : decode cL_goBack 11 = .ok (.astore_n 2, 1) := by decide +kernel
theorem dL_goBack_12 : decode cL_goBack 12 = .ok (.iconst 1, 1) := by decide +kernel
theorem dL_goBack_13 : decode cL_goBack 13 = .ok (.ireturn, 1) := by decide +kernel
theorem dL_goBack_14 : decode cL_goBack 14 = .ok (.iconst 0, 1) := by decide +kernel
theorem dL_goBack_15 : decode cL_goBack 15 = .ok (.ireturn, 1) := by decide +kernel
theorem dL_undo_0 : decode cL_undo 0 = .ok (.aload_n 1, 1) := by decide +kernel
theorem dL_undo_1 : decode cL_undo 1 = .ok (.iconst 0, 1) := by decide +kernel
theorem dL_undo_2 : decode cL_undo 2 = .ok (.aload_n 0, 1) := by decide +kernel
theorem dL_undo_3 : decode cL_undo 3 = .ok (.invokevirtual 50, 3) := by decide +kernel
theorem dL_undo_6 : decode cL_undo 6 = .ok (.i2l, 1) := by decide +kernel
theorem dL_undo_7 : decode cL_undo 7 = .ok (.lastore, 1) := by decide +kernel
theorem dL_undo_8 : decode cL_undo 8 = .ok (.goto 6, 3) := by decide +kernel
theorem dL_undo_11 : decode cL_undo 11 = .ok (.astore_n 2, 1) := by decide +kernel
theorem dL_undo_12 : decode cL_undo 12 = .ok (.iconst 1, 1) := by decide +kernel
theorem dL_undo_13 : decode cL_undo 13 = .ok (.ireturn, 1) := by decide +kernel
theorem dL_undo_14 : decode cL_undo 14 = .ok (.iconst 0, 1) := by decide +kernel
theorem dL_undo_15 : decode cL_undo 15 = .ok (.ireturn, 1) := by decide +kernel
theorem dL_shouldBeLet_0 : decode cL_shouldBeLet 0 = .ok (.aload_n 2, 1) := by decide +kernel
theorem dL_shouldBeLet_1 : decode cL_shouldBeLet 1 = .ok (.iconst 0, 1) := by decide +kernel
theorem dL_shouldBeLet_2 : decode cL_shouldBeLet 2 = .ok (.aload_n 0, 1) := by decide +kernel
theorem dL_shouldBeLet_3 : decode cL_shouldBeLet 3 = .ok (.iload_n 1, 1) := by decide +kernel
theorem dL_shouldBeLet_4 : decode cL_shouldBeLet 4 = .ok (.invokevirtual 53, 3) := by decide +kernel
theorem dL_shouldBeLet_7 : decode cL_shouldBeLet 7 = .ok (.i2l, 1) := by decide +kernel
theorem dL_shouldBeLet_8 : decode cL_shouldBeLet 8 = .ok (.lastore, 1) := by decide +kernel
theorem dL_shouldBeLet_9 : decode cL_shouldBeLet 9 = .ok (.goto 6, 3) := by decide +kernel
theorem dL_shouldBeLet_12 : decode cL_shouldBeLet 12 = .ok (.astore_n 3, 1) := by decide +kernel
theorem dL_shouldBeLet_13 : decode cL_shouldBeLet 13 = .ok (.iconst 1, 1) := by decide +kernel
theorem dL_shouldBeLet_14 : decode cL_shouldBeLet 14 = .ok (.ireturn, 1) := by decide +kernel
theorem dL_shouldBeLet_15 : decode cL_shouldBeLet 15 = .ok (.iconst 0, 1) := by decide +kernel
theorem dL_shouldBeLet_16 : decode cL_shouldBeLet 16 = .ok (.ireturn, 1) := by decide +kernel
theorem dL_shouldBeEmpty_0 : decode cL_shouldBeEmpty 0 = .ok (.aload_n 2, 1) := by decide +kernel
theorem dL_shouldBeEmpty_1 : decode cL_shouldBeEmpty 1 = .ok (.iconst 0, 1) := by decide +kernel
theorem dL_shouldBeEmpty_2 : decode cL_shouldBeEmpty 2 = .ok (.aload_n 0, 1) := by decide +kernel
theorem dL_shouldBeEmpty_3 : decode cL_shouldBeEmpty 3 = .ok (.iload_n 1, 1) := by decide +kernel
theorem dL_shouldBeEmpty_4 : decode cL_shouldBeEmpty 4 = .ok (.invokevirtual 56, 3) := by decide +kernel
theorem dL_shouldBeEmpty_7 : decode cL_shouldBeEmpty 7 = .ok (.i2l, 1) := by decide +kernel
theorem dL_shouldBeEmpty_8 : decode cL_shouldBeEmpty 8 = .ok (.lastore, 1) := by decide +kernel
theorem dL_shouldBeEmpty_9 : decode cL_shouldBeEmpty 9 = .ok (.goto 6, 3) := by decide +kernel
theorem dL_shouldBeEmpty_12 : decode cL_shouldBeEmpty 12 = .ok (.astore_n 3, 1) := by decide +kernel
theorem dL_shouldBeEmpty_13 : decode cL_shouldBeEmpty 13 = .ok (.iconst 1, 1) := by decide +kernel
theorem dL_shouldBeEmpty_14 : decode cL_shouldBeEmpty 14 = .ok (.ireturn, 1) := by decide +kernel
theorem dL_shouldBeEmpty_15 : decode cL_shouldBeEmpty 15 = .ok (.iconst 0, 1) := by decide +kernel
theorem dL_shouldBeEmpty_16 : decode cL_shouldBeEmpty 16 = .ok (.ireturn, 1) := by decide +kernel
theorem dL_fine_0 : decode cL_fine 0 = .ok (.aload_n 2, 1) := by decide +kernel
theorem dL_fine_1 : decode cL_fine 1 = .ok (.iconst 0, 1) := by decide +kernel
theorem dL_fine_2 : decode cL_fine 2 = .ok (.aload_n 0, 1) := by decide +kernel
theorem dL_fine_3 : decode cL_fine 3 = .ok (.iload_n 1, 1) := by decide +kernel
theorem dL_fine_4 : decode cL_fine 4 = .ok (.invokevirtual 59, 3) := by decide +kernel
theorem dL_fine_7 : decode cL_fine 7 = .ok (.i2l, 1) := by decide +kernel
theorem dL_fine_8 : decode cL_fine 8 = .ok (.lastore, 1) := by decide +kernel
theorem dL_fine_9 : decode cL_fine 9 = .ok (.goto 6, 3) := by decide +kernel
theorem dL_fine_12 : decode cL_fine 12 = .ok (.astore_n 3, 1) := by decide +kernel
theorem dL_fine_13 : decode cL_fine 13 = .ok (.iconst 1, 1) := by decide +kernel
theorem dL_fine_14 : decode cL_fine 14 = .ok (.ireturn, 1) := by decide +kernel
theorem dL_fine_15 : decode cL_fine 15 = .ok (.iconst 0, 1) := by decide +kernel
theorem dL_fine_16 : decode cL_fine 16 = .ok (.ireturn, 1) := by decide +kernel
theorem dL_isStrict_0 : decode cL_isStrict 0 = .ok (.aload_n 2, 1) := by decide +kernel
theorem dL_isStrict_1 : decode cL_isStrict 1 = .ok (.iconst 0, 1) := by decide +kernel
theorem dL_isStrict_2 : decode cL_isStrict 2 = .ok (.aload_n 0, 1) := by decide +kernel
theorem dL_isStrict_3 : decode cL_isStrict 3 = .ok (.iload_n 1, 1) := by decide +kernel
theorem dL_isStrict_4 : decode cL_isStrict 4 = .ok (.invokevirtual 62, 3) := by decide +kernel
theorem dL_isStrict_7 : decode cL_isStrict 7 = .ok (.ifCond .eq 7, 3) := by decide +kernel
theorem dL_isStrict_10 : decode cL_isStrict 10 = .ok (.lconst 1, 1) := by decide +kernel
theorem dL_isStrict_11 : decode cL_isStrict 11 = .ok (.goto 4, 3) := by decide +kernel
theorem dL_isStrict_14 : decode cL_isStrict 14 = .ok (.lconst 0, 1) := by decide +kernel
theorem dL_isStrict_15 : decode cL_isStrict 15 = .ok (.lastore, 1) := by decide +kernel
theorem dL_isStrict_16 : decode cL_isStrict 16 = .ok (.goto 6, 3) := by decide +kernel
theorem dL_isStrict_19 : decode cL_isStrict 19 = .ok (.astore_n 3, 1) := by decide +kernel
theorem dL_isStrict_20 : decode cL_isStrict 20 = .ok (.iconst 1, 1) := by decide +kernel
theorem dL_isStrict_21 : decode cL_isStrict 21 = .ok (.ireturn, 1) := by decide +kernel
theorem dL_isStrict_22 : decode cL_isStrict 22 = .ok (.iconst 0, 1) := by decide +kernel
theorem dL_isStrict_23 : decode cL_isStrict 23 = .ok (.ireturn, 1) := by decide +kernel
theorem dL_waivedFor_0 : decode cL_waivedFor 0 = .ok (.aload_n 2, 1) := by decide +kernel
theorem dL_waivedFor_1 : decode cL_waivedFor 1 = .ok (.iconst 0, 1) := by decide +kernel
theorem dL_waivedFor_2 : decode cL_waivedFor 2 = .ok (.aload_n 0, 1) := by decide +kernel
theorem dL_waivedFor_3 : decode cL_waivedFor 3 = .ok (.iload_n 1, 1) := by decide +kernel
theorem dL_waivedFor_4 : decode cL_waivedFor 4 = .ok (.invokevirtual 66, 3) := by decide +kernel
theorem dL_waivedFor_7 : decode cL_waivedFor 7 = .ok (.i2l, 1) := by decide +kernel
theorem dL_waivedFor_8 : decode cL_waivedFor 8 = .ok (.lastore, 1) := by decide +kernel
theorem dL_waivedFor_9 : decode cL_waivedFor 9 = .ok (.goto 6, 3) := by decide +kernel
theorem dL_waivedFor_12 : decode cL_waivedFor 12 = .ok (.astore_n 3, 1) := by decide +kernel
theorem dL_waivedFor_13 : decode cL_waivedFor 13 = .ok (.iconst 1, 1) := by decide +kernel
theorem dL_waivedFor_14 : decode cL_waivedFor 14 = .ok (.ireturn, 1) := by decide +kernel
theorem dL_waivedFor_15 : decode cL_waivedFor 15 = .ok (.iconst 0, 1) := by decide +kernel
theorem dL_waivedFor_16 : decode cL_waivedFor 16 = .ok (.ireturn, 1) := by decide +kernel
theorem dL_holdsIn_0 : decode cL_holdsIn 0 = .ok (.aload_n 3, 1) := by decide +kernel
theorem dL_holdsIn_1 : decode cL_holdsIn 1 = .ok (.iconst 0, 1) := by decide +kernel
theorem dL_holdsIn_2 : decode cL_holdsIn 2 = .ok (.aload_n 0, 1) := by decide +kernel
theorem dL_holdsIn_3 : decode cL_holdsIn 3 = .ok (.iload_n 1, 1) := by decide +kernel
theorem dL_holdsIn_4 : decode cL_holdsIn 4 = .ok (.iload_n 2, 1) := by decide +kernel
theorem dL_holdsIn_5 : decode cL_holdsIn 5 = .ok (.invokevirtual 69, 3) := by decide +kernel
theorem dL_holdsIn_8 : decode cL_holdsIn 8 = .ok (.ifCond .eq 7, 3) := by decide +kernel
theorem dL_holdsIn_11 : decode cL_holdsIn 11 = .ok (.lconst 1, 1) := by decide +kernel
theorem dL_holdsIn_12 : decode cL_holdsIn 12 = .ok (.goto 4, 3) := by decide +kernel
theorem dL_holdsIn_15 : decode cL_holdsIn 15 = .ok (.lconst 0, 1) := by decide +kernel
theorem dL_holdsIn_16 : decode cL_holdsIn 16 = .ok (.lastore, 1) := by decide +kernel
theorem dL_holdsIn_17 : decode cL_holdsIn 17 = .ok (.goto 11, 3) := by decide +kernel
theorem dL_holdsIn_20 : decode cL_holdsIn 20 = .ok (.astore 4, 2) := by decide +kernel
theorem dL_holdsIn_22 : decode cL_holdsIn 22 = .ok (.iconst 1, 1) := by decide +kernel
theorem dL_holdsIn_23 : decode cL_holdsIn 23 = .ok (.ireturn, 1) := by decide +kernel
theorem dL_holdsIn_24 : decode cL_holdsIn 24 = .ok (.astore 4, 2) := by decide +kernel
theorem dL_holdsIn_26 : decode cL_holdsIn 26 = .ok (.iconst 2, 1) := by decide +kernel
theorem dL_holdsIn_27 : decode cL_holdsIn 27 = .ok (.ireturn, 1) := by decide +kernel
theorem dL_holdsIn_28 : decode cL_holdsIn 28 = .ok (.iconst 0, 1) := by decide +kernel
theorem dL_holdsIn_29 : decode cL_holdsIn 29 = .ok (.ireturn, 1) := by decide +kernel
theorem dL_refusedBy_0 : decode cL_refusedBy 0 = .ok (.aload_n 2, 1) := by decide +kernel
theorem dL_refusedBy_1 : decode cL_refusedBy 1 = .ok (.iconst 0, 1) := by decide +kernel
theorem dL_refusedBy_2 : decode cL_refusedBy 2 = .ok (.aload_n 0, 1) := by decide +kernel
theorem dL_refusedBy_3 : decode cL_refusedBy 3 = .ok (.iload_n 1, 1) := by decide +kernel
theorem dL_refusedBy_4 : decode cL_refusedBy 4 = .ok (.invokevirtual 73, 3) := by decide +kernel
theorem dL_refusedBy_7 : decode cL_refusedBy 7 = .ok (.i2l, 1) := by decide +kernel
theorem dL_refusedBy_8 : decode cL_refusedBy 8 = .ok (.lastore, 1) := by decide +kernel
theorem dL_refusedBy_9 : decode cL_refusedBy 9 = .ok (.goto 6, 3) := by decide +kernel
theorem dL_refusedBy_12 : decode cL_refusedBy 12 = .ok (.astore_n 3, 1) := by decide +kernel
theorem dL_refusedBy_13 : decode cL_refusedBy 13 = .ok (.iconst 1, 1) := by decide +kernel
theorem dL_refusedBy_14 : decode cL_refusedBy 14 = .ok (.ireturn, 1) := by decide +kernel
theorem dL_refusedBy_15 : decode cL_refusedBy 15 = .ok (.iconst 0, 1) := by decide +kernel
theorem dL_refusedBy_16 : decode cL_refusedBy 16 = .ok (.ireturn, 1) := by decide +kernel
theorem dL_finesOf_0 : decode cL_finesOf 0 = .ok (.aload_n 2, 1) := by decide +kernel
theorem dL_finesOf_1 : decode cL_finesOf 1 = .ok (.iconst 0, 1) := by decide +kernel
theorem dL_finesOf_2 : decode cL_finesOf 2 = .ok (.aload_n 0, 1) := by decide +kernel
theorem dL_finesOf_3 : decode cL_finesOf 3 = .ok (.iload_n 1, 1) := by decide +kernel
theorem dL_finesOf_4 : decode cL_finesOf 4 = .ok (.invokevirtual 76, 3) := by decide +kernel
theorem dL_finesOf_7 : decode cL_finesOf 7 = .ok (.i2l, 1) := by decide +kernel
theorem dL_finesOf_8 : decode cL_finesOf 8 = .ok (.lastore, 1) := by decide +kernel
theorem dL_finesOf_9 : decode cL_finesOf 9 = .ok (.goto 6, 3) := by decide +kernel
theorem dL_finesOf_12 : decode cL_finesOf 12 = .ok (.astore_n 3, 1) := by decide +kernel
theorem dL_finesOf_13 : decode cL_finesOf 13 = .ok (.iconst 1, 1) := by decide +kernel
theorem dL_finesOf_14 : decode cL_finesOf 14 = .ok (.ireturn, 1) := by decide +kernel
theorem dL_finesOf_15 : decode cL_finesOf 15 = .ok (.iconst 0, 1) := by decide +kernel
theorem dL_finesOf_16 : decode cL_finesOf 16 = .ok (.ireturn, 1) := by decide +kernel
theorem dL_canStand_0 : decode cL_canStand 0 = .ok (.aload_n 2, 1) := by decide +kernel
theorem dL_canStand_1 : decode cL_canStand 1 = .ok (.iconst 0, 1) := by decide +kernel
theorem dL_canStand_2 : decode cL_canStand 2 = .ok (.aload_n 0, 1) := by decide +kernel
theorem dL_canStand_3 : decode cL_canStand 3 = .ok (.iload_n 1, 1) := by decide +kernel
theorem dL_canStand_4 : decode cL_canStand 4 = .ok (.invokevirtual 79, 3) := by decide +kernel
theorem dL_canStand_7 : decode cL_canStand 7 = .ok (.ifCond .eq 7, 3) := by decide +kernel
theorem dL_canStand_10 : decode cL_canStand 10 = .ok (.lconst 1, 1) := by decide +kernel
theorem dL_canStand_11 : decode cL_canStand 11 = .ok (.goto 4, 3) := by decide +kernel
theorem dL_canStand_14 : decode cL_canStand 14 = .ok (.lconst 0, 1) := by decide +kernel
theorem dL_canStand_15 : decode cL_canStand 15 = .ok (.lastore, 1) := by decide +kernel
theorem dL_canStand_16 : decode cL_canStand 16 = .ok (.goto 6, 3) := by decide +kernel
theorem dL_canStand_19 : decode cL_canStand 19 = .ok (.astore_n 3, 1) := by decide +kernel
theorem dL_canStand_20 : decode cL_canStand 20 = .ok (.iconst 1, 1) := by decide +kernel
theorem dL_canStand_21 : decode cL_canStand 21 = .ok (.ireturn, 1) := by decide +kernel
theorem dL_canStand_22 : decode cL_canStand 22 = .ok (.iconst 0, 1) := by decide +kernel
theorem dL_canStand_23 : decode cL_canStand 23 = .ok (.ireturn, 1) := by decide +kernel
theorem dL_canStandBySplitting_0 : decode cL_canStandBySplitting 0 = .ok (.aload_n 2, 1) := by decide +kernel
theorem dL_canStandBySplitting_1 : decode cL_canStandBySplitting 1 = .ok (.iconst 0, 1) := by decide +kernel
theorem dL_canStandBySplitting_2 : decode cL_canStandBySplitting 2 = .ok (.aload_n 0, 1) := by decide +kernel
theorem dL_canStandBySplitting_3 : decode cL_canStandBySplitting 3 = .ok (.iload_n 1, 1) := by decide +kernel
theorem dL_canStandBySplitting_4 : decode cL_canStandBySplitting 4 = .ok (.invokevirtual 82, 3) := by decide +kernel
theorem dL_canStandBySplitting_7 : decode cL_canStandBySplitting 7 = .ok (.ifCond .eq 7, 3) := by decide +kernel
theorem dL_canStandBySplitting_10 : decode cL_canStandBySplitting 10 = .ok (.lconst 1, 1) := by decide +kernel
theorem dL_canStandBySplitting_11 : decode cL_canStandBySplitting 11 = .ok (.goto 4, 3) := by decide +kernel
theorem dL_canStandBySplitting_14 : decode cL_canStandBySplitting 14 = .ok (.lconst 0, 1) := by decide +kernel
theorem dL_canStandBySplitting_15 : decode cL_canStandBySplitting 15 = .ok (.lastore, 1) := by decide +kernel
theorem dL_canStandBySplitting_16 : decode cL_canStandBySplitting 16 = .ok (.goto 6, 3) := by decide +kernel
theorem dL_canStandBySplitting_19 : decode cL_canStandBySplitting 19 = .ok (.astore_n 3, 1) := by decide +kernel
theorem dL_canStandBySplitting_20 : decode cL_canStandBySplitting 20 = .ok (.iconst 1, 1) := by decide +kernel
theorem dL_canStandBySplitting_21 : decode cL_canStandBySplitting 21 = .ok (.ireturn, 1) := by decide +kernel
theorem dL_canStandBySplitting_22 : decode cL_canStandBySplitting 22 = .ok (.iconst 0, 1) := by decide +kernel
theorem dL_canStandBySplitting_23 : decode cL_canStandBySplitting 23 = .ok (.ireturn, 1) := by decide +kernel
theorem dL_canStandByJoining_0 : decode cL_canStandByJoining 0 = .ok (.aload_n 2, 1) := by decide +kernel
theorem dL_canStandByJoining_1 : decode cL_canStandByJoining 1 = .ok (.iconst 0, 1) := by decide +kernel
theorem dL_canStandByJoining_2 : decode cL_canStandByJoining 2 = .ok (.aload_n 0, 1) := by decide +kernel
theorem dL_canStandByJoining_3 : decode cL_canStandByJoining 3 = .ok (.iload_n 1, 1) := by decide +kernel
theorem dL_canStandByJoining_4 : decode cL_canStandByJoining 4 = .ok (.invokevirtual 85, 3) := by decide +kernel
theorem dL_canStandByJoining_7 : decode cL_canStandByJoining 7 = .ok (.ifCond .eq 7, 3) := by decide +kernel
theorem dL_canStandByJoining_10 : decode cL_canStandByJoining 10 = .ok (.lconst 1, 1) := by decide +kernel
theorem dL_canStandByJoining_11 : decode cL_canStandByJoining 11 = .ok (.goto 4, 3) := by decide +kernel
theorem dL_canStandByJoining_14 : decode cL_canStandByJoining 14 = .ok (.lconst 0, 1) := by decide +kernel
theorem dL_canStandByJoining_15 : decode cL_canStandByJoining 15 = .ok (.lastore, 1) := by decide +kernel
theorem dL_canStandByJoining_16 : decode cL_canStandByJoining 16 = .ok (.goto 6, 3) := by decide +kernel
theorem dL_canStandByJoining_19 : decode cL_canStandByJoining 19 = .ok (.astore_n 3, 1) := by decide +kernel
theorem dL_canStandByJoining_20 : decode cL_canStandByJoining 20 = .ok (.iconst 1, 1) := by decide +kernel
theorem dL_canStandByJoining_21 : decode cL_canStandByJoining 21 = .ok (.ireturn, 1) := by decide +kernel
theorem dL_canStandByJoining_22 : decode cL_canStandByJoining 22 = .ok (.iconst 0, 1) := by decide +kernel
theorem dL_canStandByJoining_23 : decode cL_canStandByJoining 23 = .ok (.ireturn, 1) := by decide +kernel
theorem dL_joined_0 : decode cL_joined 0 = .ok (.aload_n 2, 1) := by decide +kernel
theorem dL_joined_1 : decode cL_joined 1 = .ok (.iconst 0, 1) := by decide +kernel
theorem dL_joined_2 : decode cL_joined 2 = .ok (.aload_n 0, 1) := by decide +kernel
theorem dL_joined_3 : decode cL_joined 3 = .ok (.iload_n 1, 1) := by decide +kernel
theorem dL_joined_4 : decode cL_joined 4 = .ok (.invokevirtual 88, 3) := by decide +kernel
theorem dL_joined_7 : decode cL_joined 7 = .ok (.i2l, 1) := by decide +kernel
theorem dL_joined_8 : decode cL_joined 8 = .ok (.lastore, 1) := by decide +kernel
theorem dL_joined_9 : decode cL_joined 9 = .ok (.goto 6, 3) := by decide +kernel
theorem dL_joined_12 : decode cL_joined 12 = .ok (.astore_n 3, 1) := by decide +kernel
theorem dL_joined_13 : decode cL_joined 13 = .ok (.iconst 1, 1) := by decide +kernel
theorem dL_joined_14 : decode cL_joined 14 = .ok (.ireturn, 1) := by decide +kernel
theorem dL_joined_15 : decode cL_joined 15 = .ok (.iconst 0, 1) := by decide +kernel
theorem dL_joined_16 : decode cL_joined 16 = .ok (.ireturn, 1) := by decide +kernel
theorem dL_forced_0 : decode cL_forced 0 = .ok (.aload_n 2, 1) := by decide +kernel
theorem dL_forced_1 : decode cL_forced 1 = .ok (.iconst 0, 1) := by decide +kernel
theorem dL_forced_2 : decode cL_forced 2 = .ok (.aload_n 0, 1) := by decide +kernel
theorem dL_forced_3 : decode cL_forced 3 = .ok (.iload_n 1, 1) := by decide +kernel
theorem dL_forced_4 : decode cL_forced 4 = .ok (.invokevirtual 91, 3) := by decide +kernel
theorem dL_forced_7 : decode cL_forced 7 = .ok (.i2l, 1) := by decide +kernel
theorem dL_forced_8 : decode cL_forced 8 = .ok (.lastore, 1) := by decide +kernel
theorem dL_forced_9 : decode cL_forced 9 = .ok (.goto 6, 3) := by decide +kernel
theorem dL_forced_12 : decode cL_forced 12 = .ok (.astore_n 3, 1) := by decide +kernel
theorem dL_forced_13 : decode cL_forced 13 = .ok (.iconst 1, 1) := by decide +kernel
theorem dL_forced_14 : decode cL_forced 14 = .ok (.ireturn, 1) := by decide +kernel
theorem dL_forced_15 : decode cL_forced 15 = .ok (.iconst 0, 1) := by decide +kernel
theorem dL_forced_16 : decode cL_forced 16 = .ok (.ireturn, 1) := by decide +kernel
theorem dL_follows_0 : decode cL_follows 0 = .ok (.aload_n 2, 1) := by decide +kernel
theorem dL_follows_1 : decode cL_follows 1 = .ok (.iconst 0, 1) := by decide +kernel
theorem dL_follows_2 : decode cL_follows 2 = .ok (.aload_n 0, 1) := by decide +kernel
theorem dL_follows_3 : decode cL_follows 3 = .ok (.iload_n 1, 1) := by decide +kernel
theorem dL_follows_4 : decode cL_follows 4 = .ok (.invokevirtual 94, 3) := by decide +kernel
theorem dL_follows_7 : decode cL_follows 7 = .ok (.ifCond .eq 7, 3) := by decide +kernel
theorem dL_follows_10 : decode cL_follows 10 = .ok (.lconst 1, 1) := by decide +kernel
theorem dL_follows_11 : decode cL_follows 11 = .ok (.goto 4, 3) := by decide +kernel
theorem dL_follows_14 : decode cL_follows 14 = .ok (.lconst 0, 1) := by decide +kernel
theorem dL_follows_15 : decode cL_follows 15 = .ok (.lastore, 1) := by decide +kernel
theorem dL_follows_16 : decode cL_follows 16 = .ok (.goto 6, 3) := by decide +kernel
theorem dL_follows_19 : decode cL_follows 19 = .ok (.astore_n 3, 1) := by decide +kernel
theorem dL_follows_20 : decode cL_follows 20 = .ok (.iconst 1, 1) := by decide +kernel
theorem dL_follows_21 : decode cL_follows 21 = .ok (.ireturn, 1) := by decide +kernel
theorem dL_follows_22 : decode cL_follows 22 = .ok (.iconst 0, 1) := by decide +kernel
theorem dL_follows_23 : decode cL_follows 23 = .ok (.ireturn, 1) := by decide +kernel
theorem dL_followsBySplitting_0 : decode cL_followsBySplitting 0 = .ok (.aload_n 2, 1) := by decide +kernel
theorem dL_followsBySplitting_1 : decode cL_followsBySplitting 1 = .ok (.iconst 0, 1) := by decide +kernel
theorem dL_followsBySplitting_2 : decode cL_followsBySplitting 2 = .ok (.aload_n 0, 1) := by decide +kernel
theorem dL_followsBySplitting_3 : decode cL_followsBySplitting 3 = .ok (.iload_n 1, 1) := by decide +kernel
theorem dL_followsBySplitting_4 : decode cL_followsBySplitting 4 = .ok (.invokevirtual 97, 3) := by decide +kernel
theorem dL_followsBySplitting_7 : decode cL_followsBySplitting 7 = .ok (.ifCond .eq 7, 3) := by decide +kernel
theorem dL_followsBySplitting_10 : decode cL_followsBySplitting 10 = .ok (.lconst 1, 1) := by decide +kernel
theorem dL_followsBySplitting_11 : decode cL_followsBySplitting 11 = .ok (.goto 4, 3) := by decide +kernel
theorem dL_followsBySplitting_14 : decode cL_followsBySplitting 14 = .ok (.lconst 0, 1) := by decide +kernel
theorem dL_followsBySplitting_15 : decode cL_followsBySplitting 15 = .ok (.lastore, 1) := by decide +kernel
theorem dL_followsBySplitting_16 : decode cL_followsBySplitting 16 = .ok (.goto 6, 3) := by decide +kernel
theorem dL_followsBySplitting_19 : decode cL_followsBySplitting 19 = .ok (.astore_n 3, 1) := by decide +kernel
theorem dL_followsBySplitting_20 : decode cL_followsBySplitting 20 = .ok (.iconst 1, 1) := by decide +kernel
theorem dL_followsBySplitting_21 : decode cL_followsBySplitting 21 = .ok (.ireturn, 1) := by decide +kernel
theorem dL_followsBySplitting_22 : decode cL_followsBySplitting 22 = .ok (.iconst 0, 1) := by decide +kernel
theorem dL_followsBySplitting_23 : decode cL_followsBySplitting 23 = .ok (.ireturn, 1) := by decide +kernel
theorem dL_finesIn_0 : decode cL_finesIn 0 = .ok (.aload_n 2, 1) := by decide +kernel
theorem dL_finesIn_1 : decode cL_finesIn 1 = .ok (.iconst 0, 1) := by decide +kernel
theorem dL_finesIn_2 : decode cL_finesIn 2 = .ok (.aload_n 0, 1) := by decide +kernel
theorem dL_finesIn_3 : decode cL_finesIn 3 = .ok (.iload_n 1, 1) := by decide +kernel
theorem dL_finesIn_4 : decode cL_finesIn 4 = .ok (.invokevirtual 100, 3) := by decide +kernel
theorem dL_finesIn_7 : decode cL_finesIn 7 = .ok (.i2l, 1) := by decide +kernel
theorem dL_finesIn_8 : decode cL_finesIn 8 = .ok (.lastore, 1) := by decide +kernel
theorem dL_finesIn_9 : decode cL_finesIn 9 = .ok (.goto 6, 3) := by decide +kernel
theorem dL_finesIn_12 : decode cL_finesIn 12 = .ok (.astore_n 3, 1) := by decide +kernel
theorem dL_finesIn_13 : decode cL_finesIn 13 = .ok (.iconst 1, 1) := by decide +kernel
theorem dL_finesIn_14 : decode cL_finesIn 14 = .ok (.ireturn, 1) := by decide +kernel
theorem dL_finesIn_15 : decode cL_finesIn 15 = .ok (.iconst 0, 1) := by decide +kernel
theorem dL_finesIn_16 : decode cL_finesIn 16 = .ok (.ireturn, 1) := by decide +kernel
theorem dL_law_0 : decode cL_law 0 = .ok (.new 8, 3) := by decide +kernel
theorem dL_law_3 : decode cL_law 3 = .ok (.dup, 1) := by decide +kernel
theorem dL_law_4 : decode cL_law 4 = .ok (.invokespecial 103, 3) := by decide +kernel
theorem dL_law_7 : decode cL_law 7 = .ok (.astore_n 1, 1) := by decide +kernel
theorem dL_law_8 : decode cL_law 8 = .ok (.new 104, 3) := by decide +kernel
theorem dL_law_11 : decode cL_law 11 = .ok (.dup, 1) := by decide +kernel
theorem dL_law_12 : decode cL_law 12 = .ok (.invokespecial 106, 3) := by decide +kernel
theorem dL_law_15 : decode cL_law 15 = .ok (.astore_n 2, 1) := by decide +kernel
theorem dL_law_16 : decode cL_law 16 = .ok (.iconst 1, 1) := by decide +kernel
theorem dL_law_17 : decode cL_law 17 = .ok (.newarray .long, 2) := by decide +kernel
theorem dL_law_19 : decode cL_law 19 = .ok (.astore_n 3, 1) := by decide +kernel
theorem dL_law_20 : decode cL_law 20 = .ok (.iconst 0, 1) := by decide +kernel
theorem dL_law_21 : decode cL_law 21 = .ok (.istore 4, 2) := by decide +kernel
theorem dL_law_23 : decode cL_law 23 = .ok (.iload 4, 2) := by decide +kernel
theorem dL_law_25 : decode cL_law 25 = .ok (.aload_n 0, 1) := by decide +kernel
theorem dL_law_26 : decode cL_law 26 = .ok (.arraylength, 1) := by decide +kernel
theorem dL_law_27 : decode cL_law 27 = .ok (.iconst 4, 1) := by decide +kernel
theorem dL_law_28 : decode cL_law 28 = .ok (.isub, 1) := by decide +kernel
theorem dL_law_29 : decode cL_law 29 = .ok (.if_icmp .gt 2280, 3) := by decide +kernel
theorem dL_law_32 : decode cL_law 32 = .ok (.aload_n 0, 1) := by decide +kernel
theorem dL_law_33 : decode cL_law 33 = .ok (.iload 4, 2) := by decide +kernel
theorem dL_law_35 : decode cL_law 35 = .ok (.iaload, 1) := by decide +kernel
theorem dL_law_36 : decode cL_law 36 = .ok (.bipush 63, 2) := by decide +kernel
theorem dL_law_38 : decode cL_law 38 = .ok (.iand, 1) := by decide +kernel
theorem dL_law_39 : decode cL_law 39 = .ok (.tableswitch 2264 0 54 #[233, 313, 369, 460, 528, 584, 640, 696, 752, 765, 778, 822, 835, 879, 923, 936, 992, 1048, 1104, 1167, 1223, 1298, 1311, 1324, 1337, 1350, 1406, 1462, 1475, 1488, 1551, 1614, 1677, 1733, 1746, 1759, 1772, 1828, 1891, 1954, 1967, 1980, 1993, 2006, 2019, 2032, 2045, 2058, 2071, 2084, 2097, 2110, 2166, 2207, 2250], 233) := by decide +kernel
theorem dL_law_272 : decode cL_law 272 = .ok (.aload_n 1, 1) := by decide +kernel
theorem dL_law_273 : decode cL_law 273 = .ok (.aload_n 0, 1) := by decide +kernel
theorem dL_law_274 : decode cL_law 274 = .ok (.iload 4, 2) := by decide +kernel
theorem dL_law_276 : decode cL_law 276 = .ok (.iconst 1, 1) := by decide +kernel
theorem dL_law_277 : decode cL_law 277 = .ok (.iadd, 1) := by decide +kernel
theorem dL_law_278 : decode cL_law 278 = .ok (.iaload, 1) := by decide +kernel
theorem dL_law_279 : decode cL_law 279 = .ok (.aload_n 0, 1) := by decide +kernel
theorem dL_law_280 : decode cL_law 280 = .ok (.iload 4, 2) := by decide +kernel
theorem dL_law_282 : decode cL_law 282 = .ok (.iconst 2, 1) := by decide +kernel
theorem dL_law_283 : decode cL_law 283 = .ok (.iadd, 1) := by decide +kernel
theorem dL_law_284 : decode cL_law 284 = .ok (.iaload, 1) := by decide +kernel
theorem dL_law_285 : decode cL_law 285 = .ok (.aload_n 0, 1) := by decide +kernel
theorem dL_law_286 : decode cL_law 286 = .ok (.iload 4, 2) := by decide +kernel
theorem dL_law_288 : decode cL_law 288 = .ok (.iconst 3, 1) := by decide +kernel
theorem dL_law_289 : decode cL_law 289 = .ok (.iadd, 1) := by decide +kernel
theorem dL_law_290 : decode cL_law 290 = .ok (.iaload, 1) := by decide +kernel
theorem dL_law_291 : decode cL_law 291 = .ok (.aload_n 3, 1) := by decide +kernel
theorem dL_law_292 : decode cL_law 292 = .ok (.invokestatic 107, 3) := by decide +kernel
theorem dL_law_295 : decode cL_law 295 = .ok (.istore 5, 2) := by decide +kernel
theorem dL_law_297 : decode cL_law 297 = .ok (.aload_n 2, 1) := by decide +kernel
theorem dL_law_298 : decode cL_law 298 = .ok (.aload_n 0, 1) := by decide +kernel
theorem dL_law_299 : decode cL_law 299 = .ok (.iload 4, 2) := by decide +kernel
theorem dL_law_301 : decode cL_law 301 = .ok (.iconst 1, 1) := by decide +kernel
theorem dL_law_302 : decode cL_law 302 = .ok (.iadd, 1) := by decide +kernel
theorem dL_law_303 : decode cL_law 303 = .ok (.iaload, 1) := by decide +kernel
theorem dL_law_304 : decode cL_law 304 = .ok (.aload_n 0, 1) := by decide +kernel
theorem dL_law_305 : decode cL_law 305 = .ok (.iload 4, 2) := by decide +kernel
theorem dL_law_307 : decode cL_law 307 = .ok (.iconst 2, 1) := by decide +kernel
theorem dL_law_308 : decode cL_law 308 = .ok (.iadd, 1) := by decide +kernel
theorem dL_law_309 : decode cL_law 309 = .ok (.iaload, 1) := by decide +kernel
theorem dL_law_310 : decode cL_law 310 = .ok (.aload_n 0, 1) := by decide +kernel
theorem dL_law_311 : decode cL_law 311 = .ok (.iload 4, 2) := by decide +kernel
theorem dL_law_313 : decode cL_law 313 = .ok (.iconst 3, 1) := by decide +kernel
theorem dL_law_314 : decode cL_law 314 = .ok (.iadd, 1) := by decide +kernel
theorem dL_law_315 : decode cL_law 315 = .ok (.iaload, 1) := by decide +kernel
theorem dL_law_316 : decode cL_law 316 = .ok (.invokevirtual 112, 3) := by decide +kernel
theorem dL_law_319 : decode cL_law 319 = .ok (.istore 6, 2) := by decide +kernel
theorem dL_law_321 : decode cL_law 321 = .ok (.aload_n 2, 1) := by decide +kernel
theorem dL_law_322 : decode cL_law 322 = .ok (.invokevirtual 113, 3) := by decide +kernel
theorem dL_law_325 : decode cL_law 325 = .ok (.iload 5, 2) := by decide +kernel
theorem dL_law_327 : decode cL_law 327 = .ok (.if_icmp .eq 5, 3) := by decide +kernel
theorem dL_law_330 : decode cL_law 330 = .ok (.iconst 0, 1) := by decide +kernel
theorem dL_law_331 : decode cL_law 331 = .ok (.ireturn, 1) := by decide +kernel
theorem dL_law_332 : decode cL_law 332 = .ok (.iload 5, 2) := by decide +kernel
theorem dL_law_334 : decode cL_law 334 = .ok (.ifCond .ne 15, 3) := by decide +kernel
theorem dL_law_337 : decode cL_law 337 = .ok (.aload_n 3, 1) := by decide +kernel
theorem dL_law_338 : decode cL_law 338 = .ok (.iconst 0, 1) := by decide +kernel
theorem dL_law_339 : decode cL_law 339 = .ok (.laload, 1) := by decide +kernel
theorem dL_law_340 : decode cL_law 340 = .ok (.iload 6, 2) := by decide +kernel
theorem dL_law_342 : decode cL_law 342 = .ok (.i2l, 1) := by decide +kernel
theorem dL_law_343 : decode cL_law 343 = .ok (.lcmp, 1) := by decide +kernel
theorem dL_law_344 : decode cL_law 344 = .ok (.ifCond .eq 5, 3) := by decide +kernel
theorem dL_law_347 : decode cL_law 347 = .ok (.iconst 0, 1) := by decide +kernel
theorem dL_law_348 : decode cL_law 348 = .ok (.ireturn, 1) := by decide +kernel
theorem dL_law_349 : decode cL_law 349 = .ok (.goto 1954, 3) := by decide +kernel
theorem dL_law_352 : decode cL_law 352 = .ok (.aload_n 1, 1) := by decide +kernel
theorem dL_law_353 : decode cL_law 353 = .ok (.aload_n 0, 1) := by decide +kernel
theorem dL_law_354 : decode cL_law 354 = .ok (.iload 4, 2) := by decide +kernel
theorem dL_law_356 : decode cL_law 356 = .ok (.iconst 1, 1) := by decide +kernel
theorem dL_law_357 : decode cL_law 357 = .ok (.iadd, 1) := by decide +kernel
theorem dL_law_358 : decode cL_law 358 = .ok (.iaload, 1) := by decide +kernel
theorem dL_law_359 : decode cL_law 359 = .ok (.aload_n 3, 1) := by decide +kernel
theorem dL_law_360 : decode cL_law 360 = .ok (.invokestatic 116, 3) := by decide +kernel
theorem dL_law_363 : decode cL_law 363 = .ok (.istore 5, 2) := by decide +kernel
theorem dL_law_365 : decode cL_law 365 = .ok (.aload_n 2, 1) := by decide +kernel
theorem dL_law_366 : decode cL_law 366 = .ok (.aload_n 0, 1) := by decide +kernel
theorem dL_law_367 : decode cL_law 367 = .ok (.iload 4, 2) := by decide +kernel
theorem dL_law_369 : decode cL_law 369 = .ok (.iconst 1, 1) := by decide +kernel
theorem dL_law_370 : decode cL_law 370 = .ok (.iadd, 1) := by decide +kernel
theorem dL_law_371 : decode cL_law 371 = .ok (.iaload, 1) := by decide +kernel
theorem dL_law_372 : decode cL_law 372 = .ok (.invokevirtual 119, 3) := by decide +kernel
theorem dL_law_375 : decode cL_law 375 = .ok (.istore 6, 2) := by decide +kernel
theorem dL_law_377 : decode cL_law 377 = .ok (.aload_n 2, 1) := by decide +kernel
theorem dL_law_378 : decode cL_law 378 = .ok (.invokevirtual 113, 3) := by decide +kernel
theorem dL_law_381 : decode cL_law 381 = .ok (.iload 5, 2) := by decide +kernel
theorem dL_law_383 : decode cL_law 383 = .ok (.if_icmp .eq 5, 3) := by decide +kernel
theorem dL_law_386 : decode cL_law 386 = .ok (.iconst 0, 1) := by decide +kernel
theorem dL_law_387 : decode cL_law 387 = .ok (.ireturn, 1) := by decide +kernel
theorem dL_law_388 : decode cL_law 388 = .ok (.iload 5, 2) := by decide +kernel
theorem dL_law_390 : decode cL_law 390 = .ok (.ifCond .ne 15, 3) := by decide +kernel
theorem dL_law_393 : decode cL_law 393 = .ok (.aload_n 3, 1) := by decide +kernel
theorem dL_law_394 : decode cL_law 394 = .ok (.iconst 0, 1) := by decide +kernel
theorem dL_law_395 : decode cL_law 395 = .ok (.laload, 1) := by decide +kernel
theorem dL_law_396 : decode cL_law 396 = .ok (.iload 6, 2) := by decide +kernel
theorem dL_law_398 : decode cL_law 398 = .ok (.i2l, 1) := by decide +kernel
theorem dL_law_399 : decode cL_law 399 = .ok (.lcmp, 1) := by decide +kernel
theorem dL_law_400 : decode cL_law 400 = .ok (.ifCond .eq 5, 3) := by decide +kernel
theorem dL_law_403 : decode cL_law 403 = .ok (.iconst 0, 1) := by decide +kernel
theorem dL_law_404 : decode cL_law 404 = .ok (.ireturn, 1) := by decide +kernel
theorem dL_law_405 : decode cL_law 405 = .ok (.goto 1898, 3) := by decide +kernel
theorem dL_law_408 : decode cL_law 408 = .ok (.aload_n 1, 1) := by decide +kernel
theorem dL_law_409 : decode cL_law 409 = .ok (.aload_n 0, 1) := by decide +kernel
theorem dL_law_410 : decode cL_law 410 = .ok (.iload 4, 2) := by decide +kernel
theorem dL_law_412 : decode cL_law 412 = .ok (.iconst 1, 1) := by decide +kernel
theorem dL_law_413 : decode cL_law 413 = .ok (.iadd, 1) := by decide +kernel
theorem dL_law_414 : decode cL_law 414 = .ok (.iaload, 1) := by decide +kernel
theorem dL_law_415 : decode cL_law 415 = .ok (.aload_n 0, 1) := by decide +kernel
theorem dL_law_416 : decode cL_law 416 = .ok (.iload 4, 2) := by decide +kernel
theorem dL_law_418 : decode cL_law 418 = .ok (.iconst 2, 1) := by decide +kernel
theorem dL_law_419 : decode cL_law 419 = .ok (.iadd, 1) := by decide +kernel
theorem dL_law_420 : decode cL_law 420 = .ok (.iaload, 1) := by decide +kernel
theorem dL_law_421 : decode cL_law 421 = .ok (.ifCond .eq 7, 3) := by decide +kernel
theorem dL_law_424 : decode cL_law 424 = .ok (.iconst 1, 1) := by decide +kernel
theorem dL_law_425 : decode cL_law 425 = .ok (.goto 4, 3) := by decide +kernel
theorem dL_law_428 : decode cL_law 428 = .ok (.iconst 0, 1) := by decide +kernel
theorem dL_law_429 : decode cL_law 429 = .ok (.aload_n 3, 1) := by decide +kernel
theorem dL_law_430 : decode cL_law 430 = .ok (.invokestatic 120, 3) := by decide +kernel
theorem dL_law_433 : decode cL_law 433 = .ok (.istore 5, 2) := by decide +kernel
theorem dL_law_435 : decode cL_law 435 = .ok (.aload_n 2, 1) := by decide +kernel
theorem dL_law_436 : decode cL_law 436 = .ok (.aload_n 0, 1) := by decide +kernel
theorem dL_law_437 : decode cL_law 437 = .ok (.iload 4, 2) := by decide +kernel
theorem dL_law_439 : decode cL_law 439 = .ok (.iconst 1, 1) := by decide +kernel
theorem dL_law_440 : decode cL_law 440 = .ok (.iadd, 1) := by decide +kernel
theorem dL_law_441 : decode cL_law 441 = .ok (.iaload, 1) := by decide +kernel
theorem dL_law_442 : decode cL_law 442 = .ok (.aload_n 0, 1) := by decide +kernel
theorem dL_law_443 : decode cL_law 443 = .ok (.iload 4, 2) := by decide +kernel
theorem dL_law_445 : decode cL_law 445 = .ok (.iconst 2, 1) := by decide +kernel
theorem dL_law_446 : decode cL_law 446 = .ok (.iadd, 1) := by decide +kernel
theorem dL_law_447 : decode cL_law 447 = .ok (.iaload, 1) := by decide +kernel
theorem dL_law_448 : decode cL_law 448 = .ok (.ifCond .eq 7, 3) := by decide +kernel
theorem dL_law_451 : decode cL_law 451 = .ok (.iconst 1, 1) := by decide +kernel
theorem dL_law_452 : decode cL_law 452 = .ok (.goto 4, 3) := by decide +kernel
theorem dL_law_455 : decode cL_law 455 = .ok (.iconst 0, 1) := by decide +kernel
theorem dL_law_456 : decode cL_law 456 = .ok (.invokevirtual 123, 3) := by decide +kernel
theorem dL_law_459 : decode cL_law 459 = .ok (.istore 6, 2) := by decide +kernel
theorem dL_law_461 : decode cL_law 461 = .ok (.aload_n 2, 1) := by decide +kernel
theorem dL_law_462 : decode cL_law 462 = .ok (.invokevirtual 113, 3) := by decide +kernel
theorem dL_law_465 : decode cL_law 465 = .ok (.iload 5, 2) := by decide +kernel
theorem dL_law_467 : decode cL_law 467 = .ok (.if_icmp .eq 5, 3) := by decide +kernel
theorem dL_law_470 : decode cL_law 470 = .ok (.iconst 0, 1) := by decide +kernel
theorem dL_law_471 : decode cL_law 471 = .ok (.ireturn, 1) := by decide +kernel
theorem dL_law_472 : decode cL_law 472 = .ok (.iload 5, 2) := by decide +kernel
theorem dL_law_474 : decode cL_law 474 = .ok (.ifCond .ne 22, 3) := by decide +kernel
theorem dL_law_477 : decode cL_law 477 = .ok (.aload_n 3, 1) := by decide +kernel
theorem dL_law_478 : decode cL_law 478 = .ok (.iconst 0, 1) := by decide +kernel
theorem dL_law_479 : decode cL_law 479 = .ok (.laload, 1) := by decide +kernel
theorem dL_law_480 : decode cL_law 480 = .ok (.iload 6, 2) := by decide +kernel
theorem dL_law_482 : decode cL_law 482 = .ok (.ifCond .eq 7, 3) := by decide +kernel
theorem dL_law_485 : decode cL_law 485 = .ok (.lconst 1, 1) := by decide +kernel
theorem dL_law_486 : decode cL_law 486 = .ok (.goto 4, 3) := by decide +kernel
theorem dL_law_489 : decode cL_law 489 = .ok (.lconst 0, 1) := by decide +kernel
theorem dL_law_490 : decode cL_law 490 = .ok (.lcmp, 1) := by decide +kernel
theorem dL_law_491 : decode cL_law 491 = .ok (.ifCond .eq 5, 3) := by decide +kernel
theorem dL_law_494 : decode cL_law 494 = .ok (.iconst 0, 1) := by decide +kernel
theorem dL_law_495 : decode cL_law 495 = .ok (.ireturn, 1) := by decide +kernel
theorem dL_law_496 : decode cL_law 496 = .ok (.goto 1807, 3) := by decide +kernel
theorem dL_law_499 : decode cL_law 499 = .ok (.aload_n 1, 1) := by decide +kernel
theorem dL_law_500 : decode cL_law 500 = .ok (.aload_n 0, 1) := by decide +kernel
theorem dL_law_501 : decode cL_law 501 = .ok (.iload 4, 2) := by decide +kernel
theorem dL_law_503 : decode cL_law 503 = .ok (.iconst 1, 1) := by decide +kernel
theorem dL_law_504 : decode cL_law 504 = .ok (.iadd, 1) := by decide +kernel
theorem dL_law_505 : decode cL_law 505 = .ok (.iaload, 1) := by decide +kernel
theorem dL_law_506 : decode cL_law 506 = .ok (.aload_n 0, 1) := by decide +kernel
theorem dL_law_507 : decode cL_law 507 = .ok (.iload 4, 2) := by decide +kernel
theorem dL_law_509 : decode cL_law 509 = .ok (.iconst 2, 1) := by decide +kernel
theorem dL_law_510 : decode cL_law 510 = .ok (.iadd, 1) := by decide +kernel
theorem dL_law_511 : decode cL_law 511 = .ok (.iaload, 1) := by decide +kernel
theorem dL_law_512 : decode cL_law 512 = .ok (.aload_n 3, 1) := by decide +kernel
theorem dL_law_513 : decode cL_law 513 = .ok (.invokestatic 124, 3) := by decide +kernel
theorem dL_law_516 : decode cL_law 516 = .ok (.istore 5, 2) := by decide +kernel
theorem dL_law_518 : decode cL_law 518 = .ok (.aload_n 2, 1) := by decide +kernel
theorem dL_law_519 : decode cL_law 519 = .ok (.aload_n 0, 1) := by decide +kernel
theorem dL_law_520 : decode cL_law 520 = .ok (.iload 4, 2) := by decide +kernel
theorem dL_law_522 : decode cL_law 522 = .ok (.iconst 1, 1) := by decide +kernel
theorem dL_law_523 : decode cL_law 523 = .ok (.iadd, 1) := by decide +kernel
theorem dL_law_524 : decode cL_law 524 = .ok (.iaload, 1) := by decide +kernel
theorem dL_law_525 : decode cL_law 525 = .ok (.aload_n 0, 1) := by decide +kernel
theorem dL_law_526 : decode cL_law 526 = .ok (.iload 4, 2) := by decide +kernel
theorem dL_law_528 : decode cL_law 528 = .ok (.iconst 2, 1) := by decide +kernel
theorem dL_law_529 : decode cL_law 529 = .ok (.iadd, 1) := by decide +kernel
theorem dL_law_530 : decode cL_law 530 = .ok (.iaload, 1) := by decide +kernel
theorem dL_law_531 : decode cL_law 531 = .ok (.invokevirtual 127, 3) := by decide +kernel
theorem dL_law_534 : decode cL_law 534 = .ok (.istore 6, 2) := by decide +kernel
theorem dL_law_536 : decode cL_law 536 = .ok (.aload_n 2, 1) := by decide +kernel
theorem dL_law_537 : decode cL_law 537 = .ok (.invokevirtual 113, 3) := by decide +kernel
theorem dL_law_540 : decode cL_law 540 = .ok (.iload 5, 2) := by decide +kernel
theorem dL_law_542 : decode cL_law 542 = .ok (.if_icmp .eq 5, 3) := by decide +kernel
theorem dL_law_545 : decode cL_law 545 = .ok (.iconst 0, 1) := by decide +kernel
theorem dL_law_546 : decode cL_law 546 = .ok (.ireturn, 1) := by decide +kernel
theorem dL_law_547 : decode cL_law 547 = .ok (.iload 5, 2) := by decide +kernel
theorem dL_law_549 : decode cL_law 549 = .ok (.ifCond .ne 15, 3) := by decide +kernel
theorem dL_law_552 : decode cL_law 552 = .ok (.aload_n 3, 1) := by decide +kernel
theorem dL_law_553 : decode cL_law 553 = .ok (.iconst 0, 1) := by decide +kernel
theorem dL_law_554 : decode cL_law 554 = .ok (.laload, 1) := by decide +kernel
theorem dL_law_555 : decode cL_law 555 = .ok (.iload 6, 2) := by decide +kernel
theorem dL_law_557 : decode cL_law 557 = .ok (.i2l, 1) := by decide +kernel
theorem dL_law_558 : decode cL_law 558 = .ok (.lcmp, 1) := by decide +kernel
theorem dL_law_559 : decode cL_law 559 = .ok (.ifCond .eq 5, 3) := by decide +kernel
theorem dL_law_562 : decode cL_law 562 = .ok (.iconst 0, 1) := by decide +kernel
theorem dL_law_563 : decode cL_law 563 = .ok (.ireturn, 1) := by decide +kernel
theorem dL_law_564 : decode cL_law 564 = .ok (.goto 1739, 3) := by decide +kernel
theorem dL_law_567 : decode cL_law 567 = .ok (.aload_n 1, 1) := by decide +kernel
theorem dL_law_568 : decode cL_law 568 = .ok (.aload_n 0, 1) := by decide +kernel
theorem dL_law_569 : decode cL_law 569 = .ok (.iload 4, 2) := by decide +kernel
theorem dL_law_571 : decode cL_law 571 = .ok (.iconst 1, 1) := by decide +kernel
theorem dL_law_572 : decode cL_law 572 = .ok (.iadd, 1) := by decide +kernel
theorem dL_law_573 : decode cL_law 573 = .ok (.iaload, 1) := by decide +kernel
theorem dL_law_574 : decode cL_law 574 = .ok (.aload_n 3, 1) := by decide +kernel
theorem dL_law_575 : decode cL_law 575 = .ok (.invokestatic 128, 3) := by decide +kernel
theorem dL_law_578 : decode cL_law 578 = .ok (.istore 5, 2) := by decide +kernel
theorem dL_law_580 : decode cL_law 580 = .ok (.aload_n 2, 1) := by decide +kernel
theorem dL_law_581 : decode cL_law 581 = .ok (.aload_n 0, 1) := by decide +kernel
theorem dL_law_582 : decode cL_law 582 = .ok (.iload 4, 2) := by decide +kernel
theorem dL_law_584 : decode cL_law 584 = .ok (.iconst 1, 1) := by decide +kernel
theorem dL_law_585 : decode cL_law 585 = .ok (.iadd, 1) := by decide +kernel
theorem dL_law_586 : decode cL_law 586 = .ok (.iaload, 1) := by decide +kernel
theorem dL_law_587 : decode cL_law 587 = .ok (.invokevirtual 130, 3) := by decide +kernel
theorem dL_law_590 : decode cL_law 590 = .ok (.istore 6, 2) := by decide +kernel
theorem dL_law_592 : decode cL_law 592 = .ok (.aload_n 2, 1) := by decide +kernel
theorem dL_law_593 : decode cL_law 593 = .ok (.invokevirtual 113, 3) := by decide +kernel
theorem dL_law_596 : decode cL_law 596 = .ok (.iload 5, 2) := by decide +kernel
theorem dL_law_598 : decode cL_law 598 = .ok (.if_icmp .eq 5, 3) := by decide +kernel
theorem dL_law_601 : decode cL_law 601 = .ok (.iconst 0, 1) := by decide +kernel
theorem dL_law_602 : decode cL_law 602 = .ok (.ireturn, 1) := by decide +kernel
theorem dL_law_603 : decode cL_law 603 = .ok (.iload 5, 2) := by decide +kernel
theorem dL_law_605 : decode cL_law 605 = .ok (.ifCond .ne 15, 3) := by decide +kernel
theorem dL_law_608 : decode cL_law 608 = .ok (.aload_n 3, 1) := by decide +kernel
theorem dL_law_609 : decode cL_law 609 = .ok (.iconst 0, 1) := by decide +kernel
theorem dL_law_610 : decode cL_law 610 = .ok (.laload, 1) := by decide +kernel
theorem dL_law_611 : decode cL_law 611 = .ok (.iload 6, 2) := by decide +kernel
theorem dL_law_613 : decode cL_law 613 = .ok (.i2l, 1) := by decide +kernel
theorem dL_law_614 : decode cL_law 614 = .ok (.lcmp, 1) := by decide +kernel
theorem dL_law_615 : decode cL_law 615 = .ok (.ifCond .eq 5, 3) := by decide +kernel
theorem dL_law_618 : decode cL_law 618 = .ok (.iconst 0, 1) := by decide +kernel
theorem dL_law_619 : decode cL_law 619 = .ok (.ireturn, 1) := by decide +kernel
theorem dL_law_620 : decode cL_law 620 = .ok (.goto 1683, 3) := by decide +kernel
theorem dL_law_623 : decode cL_law 623 = .ok (.aload_n 1, 1) := by decide +kernel
theorem dL_law_624 : decode cL_law 624 = .ok (.aload_n 0, 1) := by decide +kernel
theorem dL_law_625 : decode cL_law 625 = .ok (.iload 4, 2) := by decide +kernel
theorem dL_law_627 : decode cL_law 627 = .ok (.iconst 1, 1) := by decide +kernel
theorem dL_law_628 : decode cL_law 628 = .ok (.iadd, 1) := by decide +kernel
theorem dL_law_629 : decode cL_law 629 = .ok (.iaload, 1) := by decide +kernel
theorem dL_law_630 : decode cL_law 630 = .ok (.aload_n 3, 1) := by decide +kernel
theorem dL_law_631 : decode cL_law 631 = .ok (.invokestatic 131, 3) := by decide +kernel
theorem dL_law_634 : decode cL_law 634 = .ok (.istore 5, 2) := by decide +kernel
theorem dL_law_636 : decode cL_law 636 = .ok (.aload_n 2, 1) := by decide +kernel
theorem dL_law_637 : decode cL_law 637 = .ok (.aload_n 0, 1) := by decide +kernel
theorem dL_law_638 : decode cL_law 638 = .ok (.iload 4, 2) := by decide +kernel
theorem dL_law_640 : decode cL_law 640 = .ok (.iconst 1, 1) := by decide +kernel
theorem dL_law_641 : decode cL_law 641 = .ok (.iadd, 1) := by decide +kernel
theorem dL_law_642 : decode cL_law 642 = .ok (.iaload, 1) := by decide +kernel
theorem dL_law_643 : decode cL_law 643 = .ok (.invokevirtual 133, 3) := by decide +kernel
theorem dL_law_646 : decode cL_law 646 = .ok (.istore 6, 2) := by decide +kernel
theorem dL_law_648 : decode cL_law 648 = .ok (.aload_n 2, 1) := by decide +kernel
theorem dL_law_649 : decode cL_law 649 = .ok (.invokevirtual 113, 3) := by decide +kernel
theorem dL_law_652 : decode cL_law 652 = .ok (.iload 5, 2) := by decide +kernel
theorem dL_law_654 : decode cL_law 654 = .ok (.if_icmp .eq 5, 3) := by decide +kernel
theorem dL_law_657 : decode cL_law 657 = .ok (.iconst 0, 1) := by decide +kernel
theorem dL_law_658 : decode cL_law 658 = .ok (.ireturn, 1) := by decide +kernel
theorem dL_law_659 : decode cL_law 659 = .ok (.iload 5, 2) := by decide +kernel
theorem dL_law_661 : decode cL_law 661 = .ok (.ifCond .ne 15, 3) := by decide +kernel
theorem dL_law_664 : decode cL_law 664 = .ok (.aload_n 3, 1) := by decide +kernel
theorem dL_law_665 : decode cL_law 665 = .ok (.iconst 0, 1) := by decide +kernel
theorem dL_law_666 : decode cL_law 666 = .ok (.laload, 1) := by decide +kernel
theorem dL_law_667 : decode cL_law 667 = .ok (.iload 6, 2) := by decide +kernel
theorem dL_law_669 : decode cL_law 669 = .ok (.i2l, 1) := by decide +kernel
theorem dL_law_670 : decode cL_law 670 = .ok (.lcmp, 1) := by decide +kernel
theorem dL_law_671 : decode cL_law 671 = .ok (.ifCond .eq 5, 3) := by decide +kernel
theorem dL_law_674 : decode cL_law 674 = .ok (.iconst 0, 1) := by decide +kernel
theorem dL_law_675 : decode cL_law 675 = .ok (.ireturn, 1) := by decide +kernel
theorem dL_law_676 : decode cL_law 676 = .ok (.goto 1627, 3) := by decide +kernel
theorem dL_law_679 : decode cL_law 679 = .ok (.aload_n 1, 1) := by decide +kernel
theorem dL_law_680 : decode cL_law 680 = .ok (.aload_n 0, 1) := by decide +kernel
theorem dL_law_681 : decode cL_law 681 = .ok (.iload 4, 2) := by decide +kernel
theorem dL_law_683 : decode cL_law 683 = .ok (.iconst 1, 1) := by decide +kernel
theorem dL_law_684 : decode cL_law 684 = .ok (.iadd, 1) := by decide +kernel
theorem dL_law_685 : decode cL_law 685 = .ok (.iaload, 1) := by decide +kernel
theorem dL_law_686 : decode cL_law 686 = .ok (.aload_n 3, 1) := by decide +kernel
theorem dL_law_687 : decode cL_law 687 = .ok (.invokestatic 134, 3) := by decide +kernel
theorem dL_law_690 : decode cL_law 690 = .ok (.istore 5, 2) := by decide +kernel
theorem dL_law_692 : decode cL_law 692 = .ok (.aload_n 2, 1) := by decide +kernel
theorem dL_law_693 : decode cL_law 693 = .ok (.aload_n 0, 1) := by decide +kernel
theorem dL_law_694 : decode cL_law 694 = .ok (.iload 4, 2) := by decide +kernel
theorem dL_law_696 : decode cL_law 696 = .ok (.iconst 1, 1) := by decide +kernel
theorem dL_law_697 : decode cL_law 697 = .ok (.iadd, 1) := by decide +kernel
theorem dL_law_698 : decode cL_law 698 = .ok (.iaload, 1) := by decide +kernel
theorem dL_law_699 : decode cL_law 699 = .ok (.invokevirtual 136, 3) := by decide +kernel
theorem dL_law_702 : decode cL_law 702 = .ok (.istore 6, 2) := by decide +kernel
theorem dL_law_704 : decode cL_law 704 = .ok (.aload_n 2, 1) := by decide +kernel
theorem dL_law_705 : decode cL_law 705 = .ok (.invokevirtual 113, 3) := by decide +kernel
theorem dL_law_708 : decode cL_law 708 = .ok (.iload 5, 2) := by decide +kernel
theorem dL_law_710 : decode cL_law 710 = .ok (.if_icmp .eq 5, 3) := by decide +kernel
theorem dL_law_713 : decode cL_law 713 = .ok (.iconst 0, 1) := by decide +kernel
theorem dL_law_714 : decode cL_law 714 = .ok (.ireturn, 1) := by decide +kernel
theorem dL_law_715 : decode cL_law 715 = .ok (.iload 5, 2) := by decide +kernel
theorem dL_law_717 : decode cL_law 717 = .ok (.ifCond .ne 15, 3) := by decide +kernel
theorem dL_law_720 : decode cL_law 720 = .ok (.aload_n 3, 1) := by decide +kernel
theorem dL_law_721 : decode cL_law 721 = .ok (.iconst 0, 1) := by decide +kernel
theorem dL_law_722 : decode cL_law 722 = .ok (.laload, 1) := by decide +kernel
theorem dL_law_723 : decode cL_law 723 = .ok (.iload 6, 2) := by decide +kernel
theorem dL_law_725 : decode cL_law 725 = .ok (.i2l, 1) := by decide +kernel
theorem dL_law_726 : decode cL_law 726 = .ok (.lcmp, 1) := by decide +kernel
theorem dL_law_727 : decode cL_law 727 = .ok (.ifCond .eq 5, 3) := by decide +kernel
theorem dL_law_730 : decode cL_law 730 = .ok (.iconst 0, 1) := by decide +kernel
theorem dL_law_731 : decode cL_law 731 = .ok (.ireturn, 1) := by decide +kernel
theorem dL_law_732 : decode cL_law 732 = .ok (.goto 1571, 3) := by decide +kernel
theorem dL_law_735 : decode cL_law 735 = .ok (.aload_n 1, 1) := by decide +kernel
theorem dL_law_736 : decode cL_law 736 = .ok (.aload_n 0, 1) := by decide +kernel
theorem dL_law_737 : decode cL_law 737 = .ok (.iload 4, 2) := by decide +kernel
theorem dL_law_739 : decode cL_law 739 = .ok (.iconst 1, 1) := by decide +kernel
theorem dL_law_740 : decode cL_law 740 = .ok (.iadd, 1) := by decide +kernel
theorem dL_law_741 : decode cL_law 741 = .ok (.iaload, 1) := by decide +kernel
theorem dL_law_742 : decode cL_law 742 = .ok (.aload_n 3, 1) := by decide +kernel
theorem dL_law_743 : decode cL_law 743 = .ok (.invokestatic 137, 3) := by decide +kernel
theorem dL_law_746 : decode cL_law 746 = .ok (.istore 5, 2) := by decide +kernel
theorem dL_law_748 : decode cL_law 748 = .ok (.aload_n 2, 1) := by decide +kernel
theorem dL_law_749 : decode cL_law 749 = .ok (.aload_n 0, 1) := by decide +kernel
theorem dL_law_750 : decode cL_law 750 = .ok (.iload 4, 2) := by decide +kernel
theorem dL_law_752 : decode cL_law 752 = .ok (.iconst 1, 1) := by decide +kernel
theorem dL_law_753 : decode cL_law 753 = .ok (.iadd, 1) := by decide +kernel
theorem dL_law_754 : decode cL_law 754 = .ok (.iaload, 1) := by decide +kernel
theorem dL_law_755 : decode cL_law 755 = .ok (.invokevirtual 139, 3) := by decide +kernel
theorem dL_law_758 : decode cL_law 758 = .ok (.istore 6, 2) := by decide +kernel
theorem dL_law_760 : decode cL_law 760 = .ok (.aload_n 2, 1) := by decide +kernel
theorem dL_law_761 : decode cL_law 761 = .ok (.invokevirtual 113, 3) := by decide +kernel
theorem dL_law_764 : decode cL_law 764 = .ok (.iload 5, 2) := by decide +kernel
theorem dL_law_766 : decode cL_law 766 = .ok (.if_icmp .eq 5, 3) := by decide +kernel
theorem dL_law_769 : decode cL_law 769 = .ok (.iconst 0, 1) := by decide +kernel
theorem dL_law_770 : decode cL_law 770 = .ok (.ireturn, 1) := by decide +kernel
theorem dL_law_771 : decode cL_law 771 = .ok (.iload 5, 2) := by decide +kernel
theorem dL_law_773 : decode cL_law 773 = .ok (.ifCond .ne 15, 3) := by decide +kernel
theorem dL_law_776 : decode cL_law 776 = .ok (.aload_n 3, 1) := by decide +kernel
theorem dL_law_777 : decode cL_law 777 = .ok (.iconst 0, 1) := by decide +kernel
theorem dL_law_778 : decode cL_law 778 = .ok (.laload, 1) := by decide +kernel
theorem dL_law_779 : decode cL_law 779 = .ok (.iload 6, 2) := by decide +kernel
theorem dL_law_781 : decode cL_law 781 = .ok (.i2l, 1) := by decide +kernel
theorem dL_law_782 : decode cL_law 782 = .ok (.lcmp, 1) := by decide +kernel
theorem dL_law_783 : decode cL_law 783 = .ok (.ifCond .eq 5, 3) := by decide +kernel
theorem dL_law_786 : decode cL_law 786 = .ok (.iconst 0, 1) := by decide +kernel
theorem dL_law_787 : decode cL_law 787 = .ok (.ireturn, 1) := by decide +kernel
theorem dL_law_788 : decode cL_law 788 = .ok (.goto 1515, 3) := by decide +kernel
theorem dL_law_791 : decode cL_law 791 = .ok (.aload_n 1, 1) := by decide +kernel
theorem dL_law_792 : decode cL_law 792 = .ok (.invokevirtual 140, 3) := by decide +kernel
theorem dL_law_795 : decode cL_law 795 = .ok (.aload_n 2, 1) := by decide +kernel
theorem dL_law_796 : decode cL_law 796 = .ok (.invokevirtual 143, 3) := by decide +kernel
theorem dL_law_799 : decode cL_law 799 = .ok (.if_icmp .eq 1504, 3) := by decide +kernel
theorem dL_law_802 : decode cL_law 802 = .ok (.iconst 0, 1) := by decide +kernel
theorem dL_law_803 : decode cL_law 803 = .ok (.ireturn, 1) := by decide +kernel
theorem dL_law_804 : decode cL_law 804 = .ok (.aload_n 1, 1) := by decide +kernel
theorem dL_law_805 : decode cL_law 805 = .ok (.invokevirtual 144, 3) := by decide +kernel
theorem dL_law_808 : decode cL_law 808 = .ok (.aload_n 2, 1) := by decide +kernel
theorem dL_law_809 : decode cL_law 809 = .ok (.invokevirtual 147, 3) := by decide +kernel
theorem dL_law_812 : decode cL_law 812 = .ok (.if_icmp .eq 1491, 3) := by decide +kernel
theorem dL_law_815 : decode cL_law 815 = .ok (.iconst 0, 1) := by decide +kernel
theorem dL_law_816 : decode cL_law 816 = .ok (.ireturn, 1) := by decide +kernel
theorem dL_law_817 : decode cL_law 817 = .ok (.aload_n 1, 1) := by decide +kernel
theorem dL_law_818 : decode cL_law 818 = .ok (.aload_n 3, 1) := by decide +kernel
theorem dL_law_819 : decode cL_law 819 = .ok (.invokestatic 148, 3) := by decide +kernel
theorem dL_law_822 : decode cL_law 822 = .ok (.istore 5, 2) := by decide +kernel
theorem dL_law_824 : decode cL_law 824 = .ok (.aload_n 2, 1) := by decide +kernel
theorem dL_law_825 : decode cL_law 825 = .ok (.invokevirtual 151, 3) := by decide +kernel
theorem dL_law_828 : decode cL_law 828 = .ok (.istore 6, 2) := by decide +kernel
theorem dL_law_830 : decode cL_law 830 = .ok (.aload_n 2, 1) := by decide +kernel
theorem dL_law_831 : decode cL_law 831 = .ok (.invokevirtual 113, 3) := by decide +kernel
theorem dL_law_834 : decode cL_law 834 = .ok (.iload 5, 2) := by decide +kernel
theorem dL_law_836 : decode cL_law 836 = .ok (.if_icmp .eq 5, 3) := by decide +kernel
theorem dL_law_839 : decode cL_law 839 = .ok (.iconst 0, 1) := by decide +kernel
theorem dL_law_840 : decode cL_law 840 = .ok (.ireturn, 1) := by decide +kernel
theorem dL_law_841 : decode cL_law 841 = .ok (.iload 5, 2) := by decide +kernel
theorem dL_law_843 : decode cL_law 843 = .ok (.ifCond .ne 15, 3) := by decide +kernel
theorem dL_law_846 : decode cL_law 846 = .ok (.aload_n 3, 1) := by decide +kernel
theorem dL_law_847 : decode cL_law 847 = .ok (.iconst 0, 1) := by decide +kernel
theorem dL_law_848 : decode cL_law 848 = .ok (.laload, 1) := by decide +kernel
theorem dL_law_849 : decode cL_law 849 = .ok (.iload 6, 2) := by decide +kernel
theorem dL_law_851 : decode cL_law 851 = .ok (.i2l, 1) := by decide +kernel
theorem dL_law_852 : decode cL_law 852 = .ok (.lcmp, 1) := by decide +kernel
theorem dL_law_853 : decode cL_law 853 = .ok (.ifCond .eq 5, 3) := by decide +kernel
theorem dL_law_856 : decode cL_law 856 = .ok (.iconst 0, 1) := by decide +kernel
theorem dL_law_857 : decode cL_law 857 = .ok (.ireturn, 1) := by decide +kernel
theorem dL_law_858 : decode cL_law 858 = .ok (.goto 1445, 3) := by decide +kernel
theorem dL_law_861 : decode cL_law 861 = .ok (.aload_n 1, 1) := by decide +kernel
theorem dL_law_862 : decode cL_law 862 = .ok (.invokevirtual 152, 3) := by decide +kernel
theorem dL_law_865 : decode cL_law 865 = .ok (.aload_n 2, 1) := by decide +kernel
theorem dL_law_866 : decode cL_law 866 = .ok (.invokevirtual 155, 3) := by decide +kernel
theorem dL_law_869 : decode cL_law 869 = .ok (.if_icmp .eq 1434, 3) := by decide +kernel
theorem dL_law_872 : decode cL_law 872 = .ok (.iconst 0, 1) := by decide +kernel
theorem dL_law_873 : decode cL_law 873 = .ok (.ireturn, 1) := by decide +kernel
theorem dL_law_874 : decode cL_law 874 = .ok (.aload_n 1, 1) := by decide +kernel
theorem dL_law_875 : decode cL_law 875 = .ok (.aload_n 3, 1) := by decide +kernel
theorem dL_law_876 : decode cL_law 876 = .ok (.invokestatic 156, 3) := by decide +kernel
theorem dL_law_879 : decode cL_law 879 = .ok (.istore 5, 2) := by decide +kernel
theorem dL_law_881 : decode cL_law 881 = .ok (.aload_n 2, 1) := by decide +kernel
theorem dL_law_882 : decode cL_law 882 = .ok (.invokevirtual 158, 3) := by decide +kernel
theorem dL_law_885 : decode cL_law 885 = .ok (.istore 6, 2) := by decide +kernel
theorem dL_law_887 : decode cL_law 887 = .ok (.aload_n 2, 1) := by decide +kernel
theorem dL_law_888 : decode cL_law 888 = .ok (.invokevirtual 113, 3) := by decide +kernel
theorem dL_law_891 : decode cL_law 891 = .ok (.iload 5, 2) := by decide +kernel
theorem dL_law_893 : decode cL_law 893 = .ok (.if_icmp .eq 5, 3) := by decide +kernel
theorem dL_law_896 : decode cL_law 896 = .ok (.iconst 0, 1) := by decide +kernel
theorem dL_law_897 : decode cL_law 897 = .ok (.ireturn, 1) := by decide +kernel
theorem dL_law_898 : decode cL_law 898 = .ok (.iload 5, 2) := by decide +kernel
theorem dL_law_900 : decode cL_law 900 = .ok (.ifCond .ne 15, 3) := by decide +kernel
theorem dL_law_903 : decode cL_law 903 = .ok (.aload_n 3, 1) := by decide +kernel
theorem dL_law_904 : decode cL_law 904 = .ok (.iconst 0, 1) := by decide +kernel
theorem dL_law_905 : decode cL_law 905 = .ok (.laload, 1) := by decide +kernel
theorem dL_law_906 : decode cL_law 906 = .ok (.iload 6, 2) := by decide +kernel
theorem dL_law_908 : decode cL_law 908 = .ok (.i2l, 1) := by decide +kernel
theorem dL_law_909 : decode cL_law 909 = .ok (.lcmp, 1) := by decide +kernel
theorem dL_law_910 : decode cL_law 910 = .ok (.ifCond .eq 5, 3) := by decide +kernel
theorem dL_law_913 : decode cL_law 913 = .ok (.iconst 0, 1) := by decide +kernel
theorem dL_law_914 : decode cL_law 914 = .ok (.ireturn, 1) := by decide +kernel
theorem dL_law_915 : decode cL_law 915 = .ok (.goto 1388, 3) := by decide +kernel
theorem dL_law_918 : decode cL_law 918 = .ok (.aload_n 1, 1) := by decide +kernel
theorem dL_law_919 : decode cL_law 919 = .ok (.aload_n 3, 1) := by decide +kernel
theorem dL_law_920 : decode cL_law 920 = .ok (.invokestatic 159, 3) := by decide +kernel
theorem dL_law_923 : decode cL_law 923 = .ok (.istore 5, 2) := by decide +kernel
theorem dL_law_925 : decode cL_law 925 = .ok (.aload_n 2, 1) := by decide +kernel
theorem dL_law_926 : decode cL_law 926 = .ok (.invokevirtual 161, 3) := by decide +kernel
theorem dL_law_929 : decode cL_law 929 = .ok (.istore 6, 2) := by decide +kernel
theorem dL_law_931 : decode cL_law 931 = .ok (.aload_n 2, 1) := by decide +kernel
theorem dL_law_932 : decode cL_law 932 = .ok (.invokevirtual 113, 3) := by decide +kernel
theorem dL_law_935 : decode cL_law 935 = .ok (.iload 5, 2) := by decide +kernel
theorem dL_law_937 : decode cL_law 937 = .ok (.if_icmp .eq 5, 3) := by decide +kernel
theorem dL_law_940 : decode cL_law 940 = .ok (.iconst 0, 1) := by decide +kernel
theorem dL_law_941 : decode cL_law 941 = .ok (.ireturn, 1) := by decide +kernel
theorem dL_law_942 : decode cL_law 942 = .ok (.iload 5, 2) := by decide +kernel
theorem dL_law_944 : decode cL_law 944 = .ok (.ifCond .ne 15, 3) := by decide +kernel
theorem dL_law_947 : decode cL_law 947 = .ok (.aload_n 3, 1) := by decide +kernel
theorem dL_law_948 : decode cL_law 948 = .ok (.iconst 0, 1) := by decide +kernel
theorem dL_law_949 : decode cL_law 949 = .ok (.laload, 1) := by decide +kernel
theorem dL_law_950 : decode cL_law 950 = .ok (.iload 6, 2) := by decide +kernel
theorem dL_law_952 : decode cL_law 952 = .ok (.i2l, 1) := by decide +kernel
theorem dL_law_953 : decode cL_law 953 = .ok (.lcmp, 1) := by decide +kernel
theorem dL_law_954 : decode cL_law 954 = .ok (.ifCond .eq 5, 3) := by decide +kernel
theorem dL_law_957 : decode cL_law 957 = .ok (.iconst 0, 1) := by decide +kernel
theorem dL_law_958 : decode cL_law 958 = .ok (.ireturn, 1) := by decide +kernel
theorem dL_law_959 : decode cL_law 959 = .ok (.goto 1344, 3) := by decide +kernel
theorem dL_law_962 : decode cL_law 962 = .ok (.aload_n 1, 1) := by decide +kernel
theorem dL_law_963 : decode cL_law 963 = .ok (.invokevirtual 162, 3) := by decide +kernel
theorem dL_law_966 : decode cL_law 966 = .ok (.aload_n 2, 1) := by decide +kernel
theorem dL_law_967 : decode cL_law 967 = .ok (.invokevirtual 165, 3) := by decide +kernel
theorem dL_law_970 : decode cL_law 970 = .ok (.if_icmp .eq 1333, 3) := by decide +kernel
theorem dL_law_973 : decode cL_law 973 = .ok (.iconst 0, 1) := by decide +kernel
theorem dL_law_974 : decode cL_law 974 = .ok (.ireturn, 1) := by decide +kernel
theorem dL_law_975 : decode cL_law 975 = .ok (.aload_n 1, 1) := by decide +kernel
theorem dL_law_976 : decode cL_law 976 = .ok (.aload_n 0, 1) := by decide +kernel
theorem dL_law_977 : decode cL_law 977 = .ok (.iload 4, 2) := by decide +kernel
theorem dL_law_979 : decode cL_law 979 = .ok (.iconst 1, 1) := by decide +kernel
theorem dL_law_980 : decode cL_law 980 = .ok (.iadd, 1) := by decide +kernel
theorem dL_law_981 : decode cL_law 981 = .ok (.iaload, 1) := by decide +kernel
theorem dL_law_982 : decode cL_law 982 = .ok (.aload_n 3, 1) := by decide +kernel
theorem dL_law_983 : decode cL_law 983 = .ok (.invokestatic 166, 3) := by decide +kernel
theorem dL_law_986 : decode cL_law 986 = .ok (.istore 5, 2) := by decide +kernel
theorem dL_law_988 : decode cL_law 988 = .ok (.aload_n 2, 1) := by decide +kernel
theorem dL_law_989 : decode cL_law 989 = .ok (.aload_n 0, 1) := by decide +kernel
theorem dL_law_990 : decode cL_law 990 = .ok (.iload 4, 2) := by decide +kernel
theorem dL_law_992 : decode cL_law 992 = .ok (.iconst 1, 1) := by decide +kernel
theorem dL_law_993 : decode cL_law 993 = .ok (.iadd, 1) := by decide +kernel
theorem dL_law_994 : decode cL_law 994 = .ok (.iaload, 1) := by decide +kernel
theorem dL_law_995 : decode cL_law 995 = .ok (.invokevirtual 168, 3) := by decide +kernel
theorem dL_law_998 : decode cL_law 998 = .ok (.istore 6, 2) := by decide +kernel
theorem dL_law_1000 : decode cL_law 1000 = .ok (.aload_n 2, 1) := by decide +kernel
theorem dL_law_1001 : decode cL_law 1001 = .ok (.invokevirtual 113, 3) := by decide +kernel
theorem dL_law_1004 : decode cL_law 1004 = .ok (.iload 5, 2) := by decide +kernel
theorem dL_law_1006 : decode cL_law 1006 = .ok (.if_icmp .eq 5, 3) := by decide +kernel
theorem dL_law_1009 : decode cL_law 1009 = .ok (.iconst 0, 1) := by decide +kernel
theorem dL_law_1010 : decode cL_law 1010 = .ok (.ireturn, 1) := by decide +kernel
theorem dL_law_1011 : decode cL_law 1011 = .ok (.iload 5, 2) := by decide +kernel
theorem dL_law_1013 : decode cL_law 1013 = .ok (.ifCond .ne 15, 3) := by decide +kernel
theorem dL_law_1016 : decode cL_law 1016 = .ok (.aload_n 3, 1) := by decide +kernel
theorem dL_law_1017 : decode cL_law 1017 = .ok (.iconst 0, 1) := by decide +kernel
theorem dL_law_1018 : decode cL_law 1018 = .ok (.laload, 1) := by decide +kernel
theorem dL_law_1019 : decode cL_law 1019 = .ok (.iload 6, 2) := by decide +kernel
theorem dL_law_1021 : decode cL_law 1021 = .ok (.i2l, 1) := by decide +kernel
theorem dL_law_1022 : decode cL_law 1022 = .ok (.lcmp, 1) := by decide +kernel
theorem dL_law_1023 : decode cL_law 1023 = .ok (.ifCond .eq 5, 3) := by decide +kernel
theorem dL_law_1026 : decode cL_law 1026 = .ok (.iconst 0, 1) := by decide +kernel
theorem dL_law_1027 : decode cL_law 1027 = .ok (.ireturn, 1) := by decide +kernel
theorem dL_law_1028 : decode cL_law 1028 = .ok (.goto 1275, 3) := by decide +kernel
theorem dL_law_1031 : decode cL_law 1031 = .ok (.aload_n 1, 1) := by decide +kernel
theorem dL_law_1032 : decode cL_law 1032 = .ok (.aload_n 0, 1) := by decide +kernel
theorem dL_law_1033 : decode cL_law 1033 = .ok (.iload 4, 2) := by decide +kernel
theorem dL_law_1035 : decode cL_law 1035 = .ok (.iconst 1, 1) := by decide +kernel
theorem dL_law_1036 : decode cL_law 1036 = .ok (.iadd, 1) := by decide +kernel
theorem dL_law_1037 : decode cL_law 1037 = .ok (.iaload, 1) := by decide +kernel
theorem dL_law_1038 : decode cL_law 1038 = .ok (.aload_n 3, 1) := by decide +kernel
theorem dL_law_1039 : decode cL_law 1039 = .ok (.invokestatic 169, 3) := by decide +kernel
theorem dL_law_1042 : decode cL_law 1042 = .ok (.istore 5, 2) := by decide +kernel
theorem dL_law_1044 : decode cL_law 1044 = .ok (.aload_n 2, 1) := by decide +kernel
theorem dL_law_1045 : decode cL_law 1045 = .ok (.aload_n 0, 1) := by decide +kernel
theorem dL_law_1046 : decode cL_law 1046 = .ok (.iload 4, 2) := by decide +kernel
theorem dL_law_1048 : decode cL_law 1048 = .ok (.iconst 1, 1) := by decide +kernel
theorem dL_law_1049 : decode cL_law 1049 = .ok (.iadd, 1) := by decide +kernel
theorem dL_law_1050 : decode cL_law 1050 = .ok (.iaload, 1) := by decide +kernel
theorem dL_law_1051 : decode cL_law 1051 = .ok (.invokevirtual 171, 3) := by decide +kernel
theorem dL_law_1054 : decode cL_law 1054 = .ok (.istore 6, 2) := by decide +kernel
theorem dL_law_1056 : decode cL_law 1056 = .ok (.aload_n 2, 1) := by decide +kernel
theorem dL_law_1057 : decode cL_law 1057 = .ok (.invokevirtual 113, 3) := by decide +kernel
theorem dL_law_1060 : decode cL_law 1060 = .ok (.iload 5, 2) := by decide +kernel
theorem dL_law_1062 : decode cL_law 1062 = .ok (.if_icmp .eq 5, 3) := by decide +kernel
theorem dL_law_1065 : decode cL_law 1065 = .ok (.iconst 0, 1) := by decide +kernel
theorem dL_law_1066 : decode cL_law 1066 = .ok (.ireturn, 1) := by decide +kernel
theorem dL_law_1067 : decode cL_law 1067 = .ok (.iload 5, 2) := by decide +kernel
theorem dL_law_1069 : decode cL_law 1069 = .ok (.ifCond .ne 15, 3) := by decide +kernel
theorem dL_law_1072 : decode cL_law 1072 = .ok (.aload_n 3, 1) := by decide +kernel
theorem dL_law_1073 : decode cL_law 1073 = .ok (.iconst 0, 1) := by decide +kernel
theorem dL_law_1074 : decode cL_law 1074 = .ok (.laload, 1) := by decide +kernel
theorem dL_law_1075 : decode cL_law 1075 = .ok (.iload 6, 2) := by decide +kernel
theorem dL_law_1077 : decode cL_law 1077 = .ok (.i2l, 1) := by decide +kernel
theorem dL_law_1078 : decode cL_law 1078 = .ok (.lcmp, 1) := by decide +kernel
theorem dL_law_1079 : decode cL_law 1079 = .ok (.ifCond .eq 5, 3) := by decide +kernel
theorem dL_law_1082 : decode cL_law 1082 = .ok (.iconst 0, 1) := by decide +kernel
theorem dL_law_1083 : decode cL_law 1083 = .ok (.ireturn, 1) := by decide +kernel
theorem dL_law_1084 : decode cL_law 1084 = .ok (.goto 1219, 3) := by decide +kernel
theorem dL_law_1087 : decode cL_law 1087 = .ok (.aload_n 1, 1) := by decide +kernel
theorem dL_law_1088 : decode cL_law 1088 = .ok (.aload_n 0, 1) := by decide +kernel
theorem dL_law_1089 : decode cL_law 1089 = .ok (.iload 4, 2) := by decide +kernel
theorem dL_law_1091 : decode cL_law 1091 = .ok (.iconst 1, 1) := by decide +kernel
theorem dL_law_1092 : decode cL_law 1092 = .ok (.iadd, 1) := by decide +kernel
theorem dL_law_1093 : decode cL_law 1093 = .ok (.iaload, 1) := by decide +kernel
theorem dL_law_1094 : decode cL_law 1094 = .ok (.aload_n 3, 1) := by decide +kernel
theorem dL_law_1095 : decode cL_law 1095 = .ok (.invokestatic 172, 3) := by decide +kernel
theorem dL_law_1098 : decode cL_law 1098 = .ok (.istore 5, 2) := by decide +kernel
theorem dL_law_1100 : decode cL_law 1100 = .ok (.aload_n 2, 1) := by decide +kernel
theorem dL_law_1101 : decode cL_law 1101 = .ok (.aload_n 0, 1) := by decide +kernel
theorem dL_law_1102 : decode cL_law 1102 = .ok (.iload 4, 2) := by decide +kernel
theorem dL_law_1104 : decode cL_law 1104 = .ok (.iconst 1, 1) := by decide +kernel
theorem dL_law_1105 : decode cL_law 1105 = .ok (.iadd, 1) := by decide +kernel
theorem dL_law_1106 : decode cL_law 1106 = .ok (.iaload, 1) := by decide +kernel
theorem dL_law_1107 : decode cL_law 1107 = .ok (.invokevirtual 174, 3) := by decide +kernel
theorem dL_law_1110 : decode cL_law 1110 = .ok (.istore 6, 2) := by decide +kernel
theorem dL_law_1112 : decode cL_law 1112 = .ok (.aload_n 2, 1) := by decide +kernel
theorem dL_law_1113 : decode cL_law 1113 = .ok (.invokevirtual 113, 3) := by decide +kernel
theorem dL_law_1116 : decode cL_law 1116 = .ok (.iload 5, 2) := by decide +kernel
theorem dL_law_1118 : decode cL_law 1118 = .ok (.if_icmp .eq 5, 3) := by decide +kernel
theorem dL_law_1121 : decode cL_law 1121 = .ok (.iconst 0, 1) := by decide +kernel
theorem dL_law_1122 : decode cL_law 1122 = .ok (.ireturn, 1) := by decide +kernel
theorem dL_law_1123 : decode cL_law 1123 = .ok (.iload 5, 2) := by decide +kernel
theorem dL_law_1125 : decode cL_law 1125 = .ok (.ifCond .ne 15, 3) := by decide +kernel
theorem dL_law_1128 : decode cL_law 1128 = .ok (.aload_n 3, 1) := by decide +kernel
theorem dL_law_1129 : decode cL_law 1129 = .ok (.iconst 0, 1) := by decide +kernel
theorem dL_law_1130 : decode cL_law 1130 = .ok (.laload, 1) := by decide +kernel
theorem dL_law_1131 : decode cL_law 1131 = .ok (.iload 6, 2) := by decide +kernel
theorem dL_law_1133 : decode cL_law 1133 = .ok (.i2l, 1) := by decide +kernel
theorem dL_law_1134 : decode cL_law 1134 = .ok (.lcmp, 1) := by decide +kernel
theorem dL_law_1135 : decode cL_law 1135 = .ok (.ifCond .eq 5, 3) := by decide +kernel
theorem dL_law_1138 : decode cL_law 1138 = .ok (.iconst 0, 1) := by decide +kernel
theorem dL_law_1139 : decode cL_law 1139 = .ok (.ireturn, 1) := by decide +kernel
theorem dL_law_1140 : decode cL_law 1140 = .ok (.goto 1163, 3) := by decide +kernel
theorem dL_law_1143 : decode cL_law 1143 = .ok (.aload_n 1, 1) := by decide +kernel
theorem dL_law_1144 : decode cL_law 1144 = .ok (.aload_n 0, 1) := by decide +kernel
theorem dL_law_1145 : decode cL_law 1145 = .ok (.iload 4, 2) := by decide +kernel
theorem dL_law_1147 : decode cL_law 1147 = .ok (.iconst 1, 1) := by decide +kernel
theorem dL_law_1148 : decode cL_law 1148 = .ok (.iadd, 1) := by decide +kernel
theorem dL_law_1149 : decode cL_law 1149 = .ok (.iaload, 1) := by decide +kernel
theorem dL_law_1150 : decode cL_law 1150 = .ok (.aload_n 3, 1) := by decide +kernel
theorem dL_law_1151 : decode cL_law 1151 = .ok (.invokestatic 175, 3) := by decide +kernel
theorem dL_law_1154 : decode cL_law 1154 = .ok (.istore 5, 2) := by decide +kernel
theorem dL_law_1156 : decode cL_law 1156 = .ok (.aload_n 2, 1) := by decide +kernel
theorem dL_law_1157 : decode cL_law 1157 = .ok (.aload_n 0, 1) := by decide +kernel
theorem dL_law_1158 : decode cL_law 1158 = .ok (.iload 4, 2) := by decide +kernel
theorem dL_law_1160 : decode cL_law 1160 = .ok (.iconst 1, 1) := by decide +kernel
theorem dL_law_1161 : decode cL_law 1161 = .ok (.iadd, 1) := by decide +kernel
theorem dL_law_1162 : decode cL_law 1162 = .ok (.iaload, 1) := by decide +kernel
theorem dL_law_1163 : decode cL_law 1163 = .ok (.invokevirtual 177, 3) := by decide +kernel
theorem dL_law_1166 : decode cL_law 1166 = .ok (.istore 6, 2) := by decide +kernel
theorem dL_law_1168 : decode cL_law 1168 = .ok (.aload_n 2, 1) := by decide +kernel
theorem dL_law_1169 : decode cL_law 1169 = .ok (.invokevirtual 113, 3) := by decide +kernel
theorem dL_law_1172 : decode cL_law 1172 = .ok (.iload 5, 2) := by decide +kernel
theorem dL_law_1174 : decode cL_law 1174 = .ok (.if_icmp .eq 5, 3) := by decide +kernel
theorem dL_law_1177 : decode cL_law 1177 = .ok (.iconst 0, 1) := by decide +kernel
theorem dL_law_1178 : decode cL_law 1178 = .ok (.ireturn, 1) := by decide +kernel
theorem dL_law_1179 : decode cL_law 1179 = .ok (.iload 5, 2) := by decide +kernel
theorem dL_law_1181 : decode cL_law 1181 = .ok (.ifCond .ne 22, 3) := by decide +kernel
theorem dL_law_1184 : decode cL_law 1184 = .ok (.aload_n 3, 1) := by decide +kernel
theorem dL_law_1185 : decode cL_law 1185 = .ok (.iconst 0, 1) := by decide +kernel
theorem dL_law_1186 : decode cL_law 1186 = .ok (.laload, 1) := by decide +kernel
theorem dL_law_1187 : decode cL_law 1187 = .ok (.iload 6, 2) := by decide +kernel
theorem dL_law_1189 : decode cL_law 1189 = .ok (.ifCond .eq 7, 3) := by decide +kernel
theorem dL_law_1192 : decode cL_law 1192 = .ok (.lconst 1, 1) := by decide +kernel
theorem dL_law_1193 : decode cL_law 1193 = .ok (.goto 4, 3) := by decide +kernel
theorem dL_law_1196 : decode cL_law 1196 = .ok (.lconst 0, 1) := by decide +kernel
theorem dL_law_1197 : decode cL_law 1197 = .ok (.lcmp, 1) := by decide +kernel
theorem dL_law_1198 : decode cL_law 1198 = .ok (.ifCond .eq 5, 3) := by decide +kernel
theorem dL_law_1201 : decode cL_law 1201 = .ok (.iconst 0, 1) := by decide +kernel
theorem dL_law_1202 : decode cL_law 1202 = .ok (.ireturn, 1) := by decide +kernel
theorem dL_law_1203 : decode cL_law 1203 = .ok (.goto 1100, 3) := by decide +kernel
theorem dL_law_1206 : decode cL_law 1206 = .ok (.aload_n 1, 1) := by decide +kernel
theorem dL_law_1207 : decode cL_law 1207 = .ok (.aload_n 0, 1) := by decide +kernel
theorem dL_law_1208 : decode cL_law 1208 = .ok (.iload 4, 2) := by decide +kernel
theorem dL_law_1210 : decode cL_law 1210 = .ok (.iconst 1, 1) := by decide +kernel
theorem dL_law_1211 : decode cL_law 1211 = .ok (.iadd, 1) := by decide +kernel
theorem dL_law_1212 : decode cL_law 1212 = .ok (.iaload, 1) := by decide +kernel
theorem dL_law_1213 : decode cL_law 1213 = .ok (.aload_n 3, 1) := by decide +kernel
theorem dL_law_1214 : decode cL_law 1214 = .ok (.invokestatic 178, 3) := by decide +kernel
theorem dL_law_1217 : decode cL_law 1217 = .ok (.istore 5, 2) := by decide +kernel
theorem dL_law_1219 : decode cL_law 1219 = .ok (.aload_n 2, 1) := by decide +kernel
theorem dL_law_1220 : decode cL_law 1220 = .ok (.aload_n 0, 1) := by decide +kernel
theorem dL_law_1221 : decode cL_law 1221 = .ok (.iload 4, 2) := by decide +kernel
theorem dL_law_1223 : decode cL_law 1223 = .ok (.iconst 1, 1) := by decide +kernel
theorem dL_law_1224 : decode cL_law 1224 = .ok (.iadd, 1) := by decide +kernel
theorem dL_law_1225 : decode cL_law 1225 = .ok (.iaload, 1) := by decide +kernel
theorem dL_law_1226 : decode cL_law 1226 = .ok (.invokevirtual 180, 3) := by decide +kernel
theorem dL_law_1229 : decode cL_law 1229 = .ok (.istore 6, 2) := by decide +kernel
theorem dL_law_1231 : decode cL_law 1231 = .ok (.aload_n 2, 1) := by decide +kernel
theorem dL_law_1232 : decode cL_law 1232 = .ok (.invokevirtual 113, 3) := by decide +kernel
theorem dL_law_1235 : decode cL_law 1235 = .ok (.iload 5, 2) := by decide +kernel
theorem dL_law_1237 : decode cL_law 1237 = .ok (.if_icmp .eq 5, 3) := by decide +kernel
theorem dL_law_1240 : decode cL_law 1240 = .ok (.iconst 0, 1) := by decide +kernel
theorem dL_law_1241 : decode cL_law 1241 = .ok (.ireturn, 1) := by decide +kernel
theorem dL_law_1242 : decode cL_law 1242 = .ok (.iload 5, 2) := by decide +kernel
theorem dL_law_1244 : decode cL_law 1244 = .ok (.ifCond .ne 15, 3) := by decide +kernel
theorem dL_law_1247 : decode cL_law 1247 = .ok (.aload_n 3, 1) := by decide +kernel
theorem dL_law_1248 : decode cL_law 1248 = .ok (.iconst 0, 1) := by decide +kernel
theorem dL_law_1249 : decode cL_law 1249 = .ok (.laload, 1) := by decide +kernel
theorem dL_law_1250 : decode cL_law 1250 = .ok (.iload 6, 2) := by decide +kernel
theorem dL_law_1252 : decode cL_law 1252 = .ok (.i2l, 1) := by decide +kernel
theorem dL_law_1253 : decode cL_law 1253 = .ok (.lcmp, 1) := by decide +kernel
theorem dL_law_1254 : decode cL_law 1254 = .ok (.ifCond .eq 5, 3) := by decide +kernel
theorem dL_law_1257 : decode cL_law 1257 = .ok (.iconst 0, 1) := by decide +kernel
theorem dL_law_1258 : decode cL_law 1258 = .ok (.ireturn, 1) := by decide +kernel
theorem dL_law_1259 : decode cL_law 1259 = .ok (.goto 1044, 3) := by decide +kernel
theorem dL_law_1262 : decode cL_law 1262 = .ok (.aload_n 1, 1) := by decide +kernel
theorem dL_law_1263 : decode cL_law 1263 = .ok (.aload_n 0, 1) := by decide +kernel
theorem dL_law_1264 : decode cL_law 1264 = .ok (.iload 4, 2) := by decide +kernel
theorem dL_law_1266 : decode cL_law 1266 = .ok (.iconst 1, 1) := by decide +kernel
theorem dL_law_1267 : decode cL_law 1267 = .ok (.iadd, 1) := by decide +kernel
theorem dL_law_1268 : decode cL_law 1268 = .ok (.iaload, 1) := by decide +kernel
theorem dL_law_1269 : decode cL_law 1269 = .ok (.aload_n 0, 1) := by decide +kernel
theorem dL_law_1270 : decode cL_law 1270 = .ok (.iload 4, 2) := by decide +kernel
theorem dL_law_1272 : decode cL_law 1272 = .ok (.iconst 2, 1) := by decide +kernel
theorem dL_law_1273 : decode cL_law 1273 = .ok (.iadd, 1) := by decide +kernel
theorem dL_law_1274 : decode cL_law 1274 = .ok (.iaload, 1) := by decide +kernel
theorem dL_law_1275 : decode cL_law 1275 = .ok (.aload_n 3, 1) := by decide +kernel
theorem dL_law_1276 : decode cL_law 1276 = .ok (.invokestatic 181, 3) := by decide +kernel
theorem dL_law_1279 : decode cL_law 1279 = .ok (.istore 5, 2) := by decide +kernel
theorem dL_law_1281 : decode cL_law 1281 = .ok (.aload_n 2, 1) := by decide +kernel
theorem dL_law_1282 : decode cL_law 1282 = .ok (.aload_n 0, 1) := by decide +kernel
theorem dL_law_1283 : decode cL_law 1283 = .ok (.iload 4, 2) := by decide +kernel
theorem dL_law_1285 : decode cL_law 1285 = .ok (.iconst 1, 1) := by decide +kernel
theorem dL_law_1286 : decode cL_law 1286 = .ok (.iadd, 1) := by decide +kernel
theorem dL_law_1287 : decode cL_law 1287 = .ok (.iaload, 1) := by decide +kernel
theorem dL_law_1288 : decode cL_law 1288 = .ok (.aload_n 0, 1) := by decide +kernel
theorem dL_law_1289 : decode cL_law 1289 = .ok (.iload 4, 2) := by decide +kernel
theorem dL_law_1291 : decode cL_law 1291 = .ok (.iconst 2, 1) := by decide +kernel
theorem dL_law_1292 : decode cL_law 1292 = .ok (.iadd, 1) := by decide +kernel
theorem dL_law_1293 : decode cL_law 1293 = .ok (.iaload, 1) := by decide +kernel
theorem dL_law_1294 : decode cL_law 1294 = .ok (.invokevirtual 183, 3) := by decide +kernel
theorem dL_law_1297 : decode cL_law 1297 = .ok (.istore 6, 2) := by decide +kernel
theorem dL_law_1299 : decode cL_law 1299 = .ok (.aload_n 2, 1) := by decide +kernel
theorem dL_law_1300 : decode cL_law 1300 = .ok (.invokevirtual 113, 3) := by decide +kernel
theorem dL_law_1303 : decode cL_law 1303 = .ok (.iload 5, 2) := by decide +kernel
theorem dL_law_1305 : decode cL_law 1305 = .ok (.if_icmp .eq 5, 3) := by decide +kernel
theorem dL_law_1308 : decode cL_law 1308 = .ok (.iconst 0, 1) := by decide +kernel
theorem dL_law_1309 : decode cL_law 1309 = .ok (.ireturn, 1) := by decide +kernel
theorem dL_law_1310 : decode cL_law 1310 = .ok (.iload 5, 2) := by decide +kernel
theorem dL_law_1312 : decode cL_law 1312 = .ok (.ifCond .ne 22, 3) := by decide +kernel
theorem dL_law_1315 : decode cL_law 1315 = .ok (.aload_n 3, 1) := by decide +kernel
theorem dL_law_1316 : decode cL_law 1316 = .ok (.iconst 0, 1) := by decide +kernel
theorem dL_law_1317 : decode cL_law 1317 = .ok (.laload, 1) := by decide +kernel
theorem dL_law_1318 : decode cL_law 1318 = .ok (.iload 6, 2) := by decide +kernel
theorem dL_law_1320 : decode cL_law 1320 = .ok (.ifCond .eq 7, 3) := by decide +kernel
theorem dL_law_1323 : decode cL_law 1323 = .ok (.lconst 1, 1) := by decide +kernel
theorem dL_law_1324 : decode cL_law 1324 = .ok (.goto 4, 3) := by decide +kernel
theorem dL_law_1327 : decode cL_law 1327 = .ok (.lconst 0, 1) := by decide +kernel
theorem dL_law_1328 : decode cL_law 1328 = .ok (.lcmp, 1) := by decide +kernel
theorem dL_law_1329 : decode cL_law 1329 = .ok (.ifCond .eq 5, 3) := by decide +kernel
theorem dL_law_1332 : decode cL_law 1332 = .ok (.iconst 0, 1) := by decide +kernel
theorem dL_law_1333 : decode cL_law 1333 = .ok (.ireturn, 1) := by decide +kernel
theorem dL_law_1334 : decode cL_law 1334 = .ok (.goto 969, 3) := by decide +kernel
theorem dL_law_1337 : decode cL_law 1337 = .ok (.aload_n 1, 1) := by decide +kernel
theorem dL_law_1338 : decode cL_law 1338 = .ok (.invokevirtual 184, 3) := by decide +kernel
theorem dL_law_1341 : decode cL_law 1341 = .ok (.aload_n 2, 1) := by decide +kernel
theorem dL_law_1342 : decode cL_law 1342 = .ok (.invokevirtual 187, 3) := by decide +kernel
theorem dL_law_1345 : decode cL_law 1345 = .ok (.if_icmp .eq 958, 3) := by decide +kernel
theorem dL_law_1348 : decode cL_law 1348 = .ok (.iconst 0, 1) := by decide +kernel
theorem dL_law_1349 : decode cL_law 1349 = .ok (.ireturn, 1) := by decide +kernel
theorem dL_law_1350 : decode cL_law 1350 = .ok (.aload_n 1, 1) := by decide +kernel
theorem dL_law_1351 : decode cL_law 1351 = .ok (.invokevirtual 188, 3) := by decide +kernel
theorem dL_law_1354 : decode cL_law 1354 = .ok (.aload_n 2, 1) := by decide +kernel
theorem dL_law_1355 : decode cL_law 1355 = .ok (.invokevirtual 191, 3) := by decide +kernel
theorem dL_law_1358 : decode cL_law 1358 = .ok (.if_icmp .eq 945, 3) := by decide +kernel
theorem dL_law_1361 : decode cL_law 1361 = .ok (.iconst 0, 1) := by decide +kernel
theorem dL_law_1362 : decode cL_law 1362 = .ok (.ireturn, 1) := by decide +kernel
theorem dL_law_1363 : decode cL_law 1363 = .ok (.aload_n 1, 1) := by decide +kernel
theorem dL_law_1364 : decode cL_law 1364 = .ok (.invokevirtual 192, 3) := by decide +kernel
theorem dL_law_1367 : decode cL_law 1367 = .ok (.aload_n 2, 1) := by decide +kernel
theorem dL_law_1368 : decode cL_law 1368 = .ok (.invokevirtual 195, 3) := by decide +kernel
theorem dL_law_1371 : decode cL_law 1371 = .ok (.if_icmp .eq 932, 3) := by decide +kernel
theorem dL_law_1374 : decode cL_law 1374 = .ok (.iconst 0, 1) := by decide +kernel
theorem dL_law_1375 : decode cL_law 1375 = .ok (.ireturn, 1) := by decide +kernel
theorem dL_law_1376 : decode cL_law 1376 = .ok (.aload_n 1, 1) := by decide +kernel
theorem dL_law_1377 : decode cL_law 1377 = .ok (.invokevirtual 196, 3) := by decide +kernel
theorem dL_law_1380 : decode cL_law 1380 = .ok (.aload_n 2, 1) := by decide +kernel
theorem dL_law_1381 : decode cL_law 1381 = .ok (.invokevirtual 199, 3) := by decide +kernel
theorem dL_law_1384 : decode cL_law 1384 = .ok (.if_icmp .eq 919, 3) := by decide +kernel
theorem dL_law_1387 : decode cL_law 1387 = .ok (.iconst 0, 1) := by decide +kernel
theorem dL_law_1388 : decode cL_law 1388 = .ok (.ireturn, 1) := by decide +kernel
theorem dL_law_1389 : decode cL_law 1389 = .ok (.aload_n 1, 1) := by decide +kernel
theorem dL_law_1390 : decode cL_law 1390 = .ok (.aload_n 0, 1) := by decide +kernel
theorem dL_law_1391 : decode cL_law 1391 = .ok (.iload 4, 2) := by decide +kernel
theorem dL_law_1393 : decode cL_law 1393 = .ok (.iconst 1, 1) := by decide +kernel
theorem dL_law_1394 : decode cL_law 1394 = .ok (.iadd, 1) := by decide +kernel
theorem dL_law_1395 : decode cL_law 1395 = .ok (.iaload, 1) := by decide +kernel
theorem dL_law_1396 : decode cL_law 1396 = .ok (.aload_n 3, 1) := by decide +kernel
theorem dL_law_1397 : decode cL_law 1397 = .ok (.invokestatic 200, 3) := by decide +kernel
theorem dL_law_1400 : decode cL_law 1400 = .ok (.istore 5, 2) := by decide +kernel
theorem dL_law_1402 : decode cL_law 1402 = .ok (.aload_n 2, 1) := by decide +kernel
theorem dL_law_1403 : decode cL_law 1403 = .ok (.aload_n 0, 1) := by decide +kernel
theorem dL_law_1404 : decode cL_law 1404 = .ok (.iload 4, 2) := by decide +kernel
theorem dL_law_1406 : decode cL_law 1406 = .ok (.iconst 1, 1) := by decide +kernel
theorem dL_law_1407 : decode cL_law 1407 = .ok (.iadd, 1) := by decide +kernel
theorem dL_law_1408 : decode cL_law 1408 = .ok (.iaload, 1) := by decide +kernel
theorem dL_law_1409 : decode cL_law 1409 = .ok (.invokevirtual 202, 3) := by decide +kernel
theorem dL_law_1412 : decode cL_law 1412 = .ok (.istore 6, 2) := by decide +kernel
theorem dL_law_1414 : decode cL_law 1414 = .ok (.aload_n 2, 1) := by decide +kernel
theorem dL_law_1415 : decode cL_law 1415 = .ok (.invokevirtual 113, 3) := by decide +kernel
theorem dL_law_1418 : decode cL_law 1418 = .ok (.iload 5, 2) := by decide +kernel
theorem dL_law_1420 : decode cL_law 1420 = .ok (.if_icmp .eq 5, 3) := by decide +kernel
theorem dL_law_1423 : decode cL_law 1423 = .ok (.iconst 0, 1) := by decide +kernel
theorem dL_law_1424 : decode cL_law 1424 = .ok (.ireturn, 1) := by decide +kernel
theorem dL_law_1425 : decode cL_law 1425 = .ok (.iload 5, 2) := by decide +kernel
theorem dL_law_1427 : decode cL_law 1427 = .ok (.ifCond .ne 15, 3) := by decide +kernel
theorem dL_law_1430 : decode cL_law 1430 = .ok (.aload_n 3, 1) := by decide +kernel
theorem dL_law_1431 : decode cL_law 1431 = .ok (.iconst 0, 1) := by decide +kernel
theorem dL_law_1432 : decode cL_law 1432 = .ok (.laload, 1) := by decide +kernel
theorem dL_law_1433 : decode cL_law 1433 = .ok (.iload 6, 2) := by decide +kernel
theorem dL_law_1435 : decode cL_law 1435 = .ok (.i2l, 1) := by decide +kernel
theorem dL_law_1436 : decode cL_law 1436 = .ok (.lcmp, 1) := by decide +kernel
theorem dL_law_1437 : decode cL_law 1437 = .ok (.ifCond .eq 5, 3) := by decide +kernel
theorem dL_law_1440 : decode cL_law 1440 = .ok (.iconst 0, 1) := by decide +kernel
theorem dL_law_1441 : decode cL_law 1441 = .ok (.ireturn, 1) := by decide +kernel
theorem dL_law_1442 : decode cL_law 1442 = .ok (.goto 861, 3) := by decide +kernel
theorem dL_law_1445 : decode cL_law 1445 = .ok (.aload_n 1, 1) := by decide +kernel
theorem dL_law_1446 : decode cL_law 1446 = .ok (.aload_n 0, 1) := by decide +kernel
theorem dL_law_1447 : decode cL_law 1447 = .ok (.iload 4, 2) := by decide +kernel
theorem dL_law_1449 : decode cL_law 1449 = .ok (.iconst 1, 1) := by decide +kernel
theorem dL_law_1450 : decode cL_law 1450 = .ok (.iadd, 1) := by decide +kernel
theorem dL_law_1451 : decode cL_law 1451 = .ok (.iaload, 1) := by decide +kernel
theorem dL_law_1452 : decode cL_law 1452 = .ok (.aload_n 3, 1) := by decide +kernel
theorem dL_law_1453 : decode cL_law 1453 = .ok (.invokestatic 203, 3) := by decide +kernel
theorem dL_law_1456 : decode cL_law 1456 = .ok (.istore 5, 2) := by decide +kernel
theorem dL_law_1458 : decode cL_law 1458 = .ok (.aload_n 2, 1) := by decide +kernel
theorem dL_law_1459 : decode cL_law 1459 = .ok (.aload_n 0, 1) := by decide +kernel
theorem dL_law_1460 : decode cL_law 1460 = .ok (.iload 4, 2) := by decide +kernel
theorem dL_law_1462 : decode cL_law 1462 = .ok (.iconst 1, 1) := by decide +kernel
theorem dL_law_1463 : decode cL_law 1463 = .ok (.iadd, 1) := by decide +kernel
theorem dL_law_1464 : decode cL_law 1464 = .ok (.iaload, 1) := by decide +kernel
theorem dL_law_1465 : decode cL_law 1465 = .ok (.invokevirtual 205, 3) := by decide +kernel
theorem dL_law_1468 : decode cL_law 1468 = .ok (.istore 6, 2) := by decide +kernel
theorem dL_law_1470 : decode cL_law 1470 = .ok (.aload_n 2, 1) := by decide +kernel
theorem dL_law_1471 : decode cL_law 1471 = .ok (.invokevirtual 113, 3) := by decide +kernel
theorem dL_law_1474 : decode cL_law 1474 = .ok (.iload 5, 2) := by decide +kernel
theorem dL_law_1476 : decode cL_law 1476 = .ok (.if_icmp .eq 5, 3) := by decide +kernel
theorem dL_law_1479 : decode cL_law 1479 = .ok (.iconst 0, 1) := by decide +kernel
theorem dL_law_1480 : decode cL_law 1480 = .ok (.ireturn, 1) := by decide +kernel
theorem dL_law_1481 : decode cL_law 1481 = .ok (.iload 5, 2) := by decide +kernel
theorem dL_law_1483 : decode cL_law 1483 = .ok (.ifCond .ne 15, 3) := by decide +kernel
theorem dL_law_1486 : decode cL_law 1486 = .ok (.aload_n 3, 1) := by decide +kernel
theorem dL_law_1487 : decode cL_law 1487 = .ok (.iconst 0, 1) := by decide +kernel
theorem dL_law_1488 : decode cL_law 1488 = .ok (.laload, 1) := by decide +kernel
theorem dL_law_1489 : decode cL_law 1489 = .ok (.iload 6, 2) := by decide +kernel
theorem dL_law_1491 : decode cL_law 1491 = .ok (.i2l, 1) := by decide +kernel
theorem dL_law_1492 : decode cL_law 1492 = .ok (.lcmp, 1) := by decide +kernel
theorem dL_law_1493 : decode cL_law 1493 = .ok (.ifCond .eq 5, 3) := by decide +kernel
theorem dL_law_1496 : decode cL_law 1496 = .ok (.iconst 0, 1) := by decide +kernel
theorem dL_law_1497 : decode cL_law 1497 = .ok (.ireturn, 1) := by decide +kernel
theorem dL_law_1498 : decode cL_law 1498 = .ok (.goto 805, 3) := by decide +kernel
theorem dL_law_1501 : decode cL_law 1501 = .ok (.aload_n 1, 1) := by decide +kernel
theorem dL_law_1502 : decode cL_law 1502 = .ok (.invokevirtual 206, 3) := by decide +kernel
theorem dL_law_1505 : decode cL_law 1505 = .ok (.aload_n 2, 1) := by decide +kernel
theorem dL_law_1506 : decode cL_law 1506 = .ok (.invokevirtual 209, 3) := by decide +kernel
theorem dL_law_1509 : decode cL_law 1509 = .ok (.if_icmp .eq 794, 3) := by decide +kernel
theorem dL_law_1512 : decode cL_law 1512 = .ok (.iconst 0, 1) := by decide +kernel
theorem dL_law_1513 : decode cL_law 1513 = .ok (.ireturn, 1) := by decide +kernel
theorem dL_law_1514 : decode cL_law 1514 = .ok (.aload_n 1, 1) := by decide +kernel
theorem dL_law_1515 : decode cL_law 1515 = .ok (.invokevirtual 210, 3) := by decide +kernel
theorem dL_law_1518 : decode cL_law 1518 = .ok (.aload_n 2, 1) := by decide +kernel
theorem dL_law_1519 : decode cL_law 1519 = .ok (.invokevirtual 213, 3) := by decide +kernel
theorem dL_law_1522 : decode cL_law 1522 = .ok (.if_icmp .eq 781, 3) := by decide +kernel
theorem dL_law_1525 : decode cL_law 1525 = .ok (.iconst 0, 1) := by decide +kernel
theorem dL_law_1526 : decode cL_law 1526 = .ok (.ireturn, 1) := by decide +kernel
theorem dL_law_1527 : decode cL_law 1527 = .ok (.aload_n 1, 1) := by decide +kernel
theorem dL_law_1528 : decode cL_law 1528 = .ok (.aload_n 0, 1) := by decide +kernel
theorem dL_law_1529 : decode cL_law 1529 = .ok (.iload 4, 2) := by decide +kernel
theorem dL_law_1531 : decode cL_law 1531 = .ok (.iconst 1, 1) := by decide +kernel
theorem dL_law_1532 : decode cL_law 1532 = .ok (.iadd, 1) := by decide +kernel
theorem dL_law_1533 : decode cL_law 1533 = .ok (.iaload, 1) := by decide +kernel
theorem dL_law_1534 : decode cL_law 1534 = .ok (.aload_n 3, 1) := by decide +kernel
theorem dL_law_1535 : decode cL_law 1535 = .ok (.invokestatic 214, 3) := by decide +kernel
theorem dL_law_1538 : decode cL_law 1538 = .ok (.istore 5, 2) := by decide +kernel
theorem dL_law_1540 : decode cL_law 1540 = .ok (.aload_n 2, 1) := by decide +kernel
theorem dL_law_1541 : decode cL_law 1541 = .ok (.aload_n 0, 1) := by decide +kernel
theorem dL_law_1542 : decode cL_law 1542 = .ok (.iload 4, 2) := by decide +kernel
theorem dL_law_1544 : decode cL_law 1544 = .ok (.iconst 1, 1) := by decide +kernel
theorem dL_law_1545 : decode cL_law 1545 = .ok (.iadd, 1) := by decide +kernel
theorem dL_law_1546 : decode cL_law 1546 = .ok (.iaload, 1) := by decide +kernel
theorem dL_law_1547 : decode cL_law 1547 = .ok (.invokevirtual 216, 3) := by decide +kernel
theorem dL_law_1550 : decode cL_law 1550 = .ok (.istore 6, 2) := by decide +kernel
theorem dL_law_1552 : decode cL_law 1552 = .ok (.aload_n 2, 1) := by decide +kernel
theorem dL_law_1553 : decode cL_law 1553 = .ok (.invokevirtual 113, 3) := by decide +kernel
theorem dL_law_1556 : decode cL_law 1556 = .ok (.iload 5, 2) := by decide +kernel
theorem dL_law_1558 : decode cL_law 1558 = .ok (.if_icmp .eq 5, 3) := by decide +kernel
theorem dL_law_1561 : decode cL_law 1561 = .ok (.iconst 0, 1) := by decide +kernel
theorem dL_law_1562 : decode cL_law 1562 = .ok (.ireturn, 1) := by decide +kernel
theorem dL_law_1563 : decode cL_law 1563 = .ok (.iload 5, 2) := by decide +kernel
theorem dL_law_1565 : decode cL_law 1565 = .ok (.ifCond .ne 22, 3) := by decide +kernel
theorem dL_law_1568 : decode cL_law 1568 = .ok (.aload_n 3, 1) := by decide +kernel
theorem dL_law_1569 : decode cL_law 1569 = .ok (.iconst 0, 1) := by decide +kernel
theorem dL_law_1570 : decode cL_law 1570 = .ok (.laload, 1) := by decide +kernel
theorem dL_law_1571 : decode cL_law 1571 = .ok (.iload 6, 2) := by decide +kernel
theorem dL_law_1573 : decode cL_law 1573 = .ok (.ifCond .eq 7, 3) := by decide +kernel
theorem dL_law_1576 : decode cL_law 1576 = .ok (.lconst 1, 1) := by decide +kernel
theorem dL_law_1577 : decode cL_law 1577 = .ok (.goto 4, 3) := by decide +kernel
theorem dL_law_1580 : decode cL_law 1580 = .ok (.lconst 0, 1) := by decide +kernel
theorem dL_law_1581 : decode cL_law 1581 = .ok (.lcmp, 1) := by decide +kernel
theorem dL_law_1582 : decode cL_law 1582 = .ok (.ifCond .eq 5, 3) := by decide +kernel
theorem dL_law_1585 : decode cL_law 1585 = .ok (.iconst 0, 1) := by decide +kernel
theorem dL_law_1586 : decode cL_law 1586 = .ok (.ireturn, 1) := by decide +kernel
theorem dL_law_1587 : decode cL_law 1587 = .ok (.goto 716, 3) := by decide +kernel
theorem dL_law_1590 : decode cL_law 1590 = .ok (.aload_n 1, 1) := by decide +kernel
theorem dL_law_1591 : decode cL_law 1591 = .ok (.aload_n 0, 1) := by decide +kernel
theorem dL_law_1592 : decode cL_law 1592 = .ok (.iload 4, 2) := by decide +kernel
theorem dL_law_1594 : decode cL_law 1594 = .ok (.iconst 1, 1) := by decide +kernel
theorem dL_law_1595 : decode cL_law 1595 = .ok (.iadd, 1) := by decide +kernel
theorem dL_law_1596 : decode cL_law 1596 = .ok (.iaload, 1) := by decide +kernel
theorem dL_law_1597 : decode cL_law 1597 = .ok (.aload_n 3, 1) := by decide +kernel
theorem dL_law_1598 : decode cL_law 1598 = .ok (.invokestatic 217, 3) := by decide +kernel
theorem dL_law_1601 : decode cL_law 1601 = .ok (.istore 5, 2) := by decide +kernel
theorem dL_law_1603 : decode cL_law 1603 = .ok (.aload_n 2, 1) := by decide +kernel
theorem dL_law_1604 : decode cL_law 1604 = .ok (.aload_n 0, 1) := by decide +kernel
theorem dL_law_1605 : decode cL_law 1605 = .ok (.iload 4, 2) := by decide +kernel
theorem dL_law_1607 : decode cL_law 1607 = .ok (.iconst 1, 1) := by decide +kernel
theorem dL_law_1608 : decode cL_law 1608 = .ok (.iadd, 1) := by decide +kernel
theorem dL_law_1609 : decode cL_law 1609 = .ok (.iaload, 1) := by decide +kernel
theorem dL_law_1610 : decode cL_law 1610 = .ok (.invokevirtual 219, 3) := by decide +kernel
theorem dL_law_1613 : decode cL_law 1613 = .ok (.istore 6, 2) := by decide +kernel
theorem dL_law_1615 : decode cL_law 1615 = .ok (.aload_n 2, 1) := by decide +kernel
theorem dL_law_1616 : decode cL_law 1616 = .ok (.invokevirtual 113, 3) := by decide +kernel
theorem dL_law_1619 : decode cL_law 1619 = .ok (.iload 5, 2) := by decide +kernel
theorem dL_law_1621 : decode cL_law 1621 = .ok (.if_icmp .eq 5, 3) := by decide +kernel
theorem dL_law_1624 : decode cL_law 1624 = .ok (.iconst 0, 1) := by decide +kernel
theorem dL_law_1625 : decode cL_law 1625 = .ok (.ireturn, 1) := by decide +kernel
theorem dL_law_1626 : decode cL_law 1626 = .ok (.iload 5, 2) := by decide +kernel
theorem dL_law_1628 : decode cL_law 1628 = .ok (.ifCond .ne 22, 3) := by decide +kernel
theorem dL_law_1631 : decode cL_law 1631 = .ok (.aload_n 3, 1) := by decide +kernel
theorem dL_law_1632 : decode cL_law 1632 = .ok (.iconst 0, 1) := by decide +kernel
theorem dL_law_1633 : decode cL_law 1633 = .ok (.laload, 1) := by decide +kernel
theorem dL_law_1634 : decode cL_law 1634 = .ok (.iload 6, 2) := by decide +kernel
theorem dL_law_1636 : decode cL_law 1636 = .ok (.ifCond .eq 7, 3) := by decide +kernel
theorem dL_law_1639 : decode cL_law 1639 = .ok (.lconst 1, 1) := by decide +kernel
theorem dL_law_1640 : decode cL_law 1640 = .ok (.goto 4, 3) := by decide +kernel
theorem dL_law_1643 : decode cL_law 1643 = .ok (.lconst 0, 1) := by decide +kernel
theorem dL_law_1644 : decode cL_law 1644 = .ok (.lcmp, 1) := by decide +kernel
theorem dL_law_1645 : decode cL_law 1645 = .ok (.ifCond .eq 5, 3) := by decide +kernel
theorem dL_law_1648 : decode cL_law 1648 = .ok (.iconst 0, 1) := by decide +kernel
theorem dL_law_1649 : decode cL_law 1649 = .ok (.ireturn, 1) := by decide +kernel
theorem dL_law_1650 : decode cL_law 1650 = .ok (.goto 653, 3) := by decide +kernel
theorem dL_law_1653 : decode cL_law 1653 = .ok (.aload_n 1, 1) := by decide +kernel
theorem dL_law_1654 : decode cL_law 1654 = .ok (.aload_n 0, 1) := by decide +kernel
theorem dL_law_1655 : decode cL_law 1655 = .ok (.iload 4, 2) := by decide +kernel
theorem dL_law_1657 : decode cL_law 1657 = .ok (.iconst 1, 1) := by decide +kernel
theorem dL_law_1658 : decode cL_law 1658 = .ok (.iadd, 1) := by decide +kernel
theorem dL_law_1659 : decode cL_law 1659 = .ok (.iaload, 1) := by decide +kernel
theorem dL_law_1660 : decode cL_law 1660 = .ok (.aload_n 3, 1) := by decide +kernel
theorem dL_law_1661 : decode cL_law 1661 = .ok (.invokestatic 220, 3) := by decide +kernel
theorem dL_law_1664 : decode cL_law 1664 = .ok (.istore 5, 2) := by decide +kernel
theorem dL_law_1666 : decode cL_law 1666 = .ok (.aload_n 2, 1) := by decide +kernel
theorem dL_law_1667 : decode cL_law 1667 = .ok (.aload_n 0, 1) := by decide +kernel
theorem dL_law_1668 : decode cL_law 1668 = .ok (.iload 4, 2) := by decide +kernel
theorem dL_law_1670 : decode cL_law 1670 = .ok (.iconst 1, 1) := by decide +kernel
theorem dL_law_1671 : decode cL_law 1671 = .ok (.iadd, 1) := by decide +kernel
theorem dL_law_1672 : decode cL_law 1672 = .ok (.iaload, 1) := by decide +kernel
theorem dL_law_1673 : decode cL_law 1673 = .ok (.invokevirtual 222, 3) := by decide +kernel
theorem dL_law_1676 : decode cL_law 1676 = .ok (.istore 6, 2) := by decide +kernel
theorem dL_law_1678 : decode cL_law 1678 = .ok (.aload_n 2, 1) := by decide +kernel
theorem dL_law_1679 : decode cL_law 1679 = .ok (.invokevirtual 113, 3) := by decide +kernel
theorem dL_law_1682 : decode cL_law 1682 = .ok (.iload 5, 2) := by decide +kernel
theorem dL_law_1684 : decode cL_law 1684 = .ok (.if_icmp .eq 5, 3) := by decide +kernel
theorem dL_law_1687 : decode cL_law 1687 = .ok (.iconst 0, 1) := by decide +kernel
theorem dL_law_1688 : decode cL_law 1688 = .ok (.ireturn, 1) := by decide +kernel
theorem dL_law_1689 : decode cL_law 1689 = .ok (.iload 5, 2) := by decide +kernel
theorem dL_law_1691 : decode cL_law 1691 = .ok (.ifCond .ne 22, 3) := by decide +kernel
theorem dL_law_1694 : decode cL_law 1694 = .ok (.aload_n 3, 1) := by decide +kernel
theorem dL_law_1695 : decode cL_law 1695 = .ok (.iconst 0, 1) := by decide +kernel
theorem dL_law_1696 : decode cL_law 1696 = .ok (.laload, 1) := by decide +kernel
theorem dL_law_1697 : decode cL_law 1697 = .ok (.iload 6, 2) := by decide +kernel
theorem dL_law_1699 : decode cL_law 1699 = .ok (.ifCond .eq 7, 3) := by decide +kernel
theorem dL_law_1702 : decode cL_law 1702 = .ok (.lconst 1, 1) := by decide +kernel
theorem dL_law_1703 : decode cL_law 1703 = .ok (.goto 4, 3) := by decide +kernel
theorem dL_law_1706 : decode cL_law 1706 = .ok (.lconst 0, 1) := by decide +kernel
theorem dL_law_1707 : decode cL_law 1707 = .ok (.lcmp, 1) := by decide +kernel
theorem dL_law_1708 : decode cL_law 1708 = .ok (.ifCond .eq 5, 3) := by decide +kernel
theorem dL_law_1711 : decode cL_law 1711 = .ok (.iconst 0, 1) := by decide +kernel
theorem dL_law_1712 : decode cL_law 1712 = .ok (.ireturn, 1) := by decide +kernel
theorem dL_law_1713 : decode cL_law 1713 = .ok (.goto 590, 3) := by decide +kernel
theorem dL_law_1716 : decode cL_law 1716 = .ok (.aload_n 1, 1) := by decide +kernel
theorem dL_law_1717 : decode cL_law 1717 = .ok (.aload_n 0, 1) := by decide +kernel
theorem dL_law_1718 : decode cL_law 1718 = .ok (.iload 4, 2) := by decide +kernel
theorem dL_law_1720 : decode cL_law 1720 = .ok (.iconst 1, 1) := by decide +kernel
theorem dL_law_1721 : decode cL_law 1721 = .ok (.iadd, 1) := by decide +kernel
theorem dL_law_1722 : decode cL_law 1722 = .ok (.iaload, 1) := by decide +kernel
theorem dL_law_1723 : decode cL_law 1723 = .ok (.aload_n 3, 1) := by decide +kernel
theorem dL_law_1724 : decode cL_law 1724 = .ok (.invokestatic 223, 3) := by decide +kernel
theorem dL_law_1727 : decode cL_law 1727 = .ok (.istore 5, 2) := by decide +kernel
theorem dL_law_1729 : decode cL_law 1729 = .ok (.aload_n 2, 1) := by decide +kernel
theorem dL_law_1730 : decode cL_law 1730 = .ok (.aload_n 0, 1) := by decide +kernel
theorem dL_law_1731 : decode cL_law 1731 = .ok (.iload 4, 2) := by decide +kernel
theorem dL_law_1733 : decode cL_law 1733 = .ok (.iconst 1, 1) := by decide +kernel
theorem dL_law_1734 : decode cL_law 1734 = .ok (.iadd, 1) := by decide +kernel
theorem dL_law_1735 : decode cL_law 1735 = .ok (.iaload, 1) := by decide +kernel
theorem dL_law_1736 : decode cL_law 1736 = .ok (.invokevirtual 225, 3) := by decide +kernel
theorem dL_law_1739 : decode cL_law 1739 = .ok (.istore 6, 2) := by decide +kernel
theorem dL_law_1741 : decode cL_law 1741 = .ok (.aload_n 2, 1) := by decide +kernel
theorem dL_law_1742 : decode cL_law 1742 = .ok (.invokevirtual 113, 3) := by decide +kernel
theorem dL_law_1745 : decode cL_law 1745 = .ok (.iload 5, 2) := by decide +kernel
theorem dL_law_1747 : decode cL_law 1747 = .ok (.if_icmp .eq 5, 3) := by decide +kernel
theorem dL_law_1750 : decode cL_law 1750 = .ok (.iconst 0, 1) := by decide +kernel
theorem dL_law_1751 : decode cL_law 1751 = .ok (.ireturn, 1) := by decide +kernel
theorem dL_law_1752 : decode cL_law 1752 = .ok (.iload 5, 2) := by decide +kernel
theorem dL_law_1754 : decode cL_law 1754 = .ok (.ifCond .ne 15, 3) := by decide +kernel
theorem dL_law_1757 : decode cL_law 1757 = .ok (.aload_n 3, 1) := by decide +kernel
theorem dL_law_1758 : decode cL_law 1758 = .ok (.iconst 0, 1) := by decide +kernel
theorem dL_law_1759 : decode cL_law 1759 = .ok (.laload, 1) := by decide +kernel
theorem dL_law_1760 : decode cL_law 1760 = .ok (.iload 6, 2) := by decide +kernel
theorem dL_law_1762 : decode cL_law 1762 = .ok (.i2l, 1) := by decide +kernel
theorem dL_law_1763 : decode cL_law 1763 = .ok (.lcmp, 1) := by decide +kernel
theorem dL_law_1764 : decode cL_law 1764 = .ok (.ifCond .eq 5, 3) := by decide +kernel
theorem dL_law_1767 : decode cL_law 1767 = .ok (.iconst 0, 1) := by decide +kernel
theorem dL_law_1768 : decode cL_law 1768 = .ok (.ireturn, 1) := by decide +kernel
theorem dL_law_1769 : decode cL_law 1769 = .ok (.goto 534, 3) := by decide +kernel
theorem dL_law_1772 : decode cL_law 1772 = .ok (.aload_n 1, 1) := by decide +kernel
theorem dL_law_1773 : decode cL_law 1773 = .ok (.invokevirtual 226, 3) := by decide +kernel
theorem dL_law_1776 : decode cL_law 1776 = .ok (.aload_n 2, 1) := by decide +kernel
theorem dL_law_1777 : decode cL_law 1777 = .ok (.invokevirtual 229, 3) := by decide +kernel
theorem dL_law_1780 : decode cL_law 1780 = .ok (.if_icmp .eq 523, 3) := by decide +kernel
theorem dL_law_1783 : decode cL_law 1783 = .ok (.iconst 0, 1) := by decide +kernel
theorem dL_law_1784 : decode cL_law 1784 = .ok (.ireturn, 1) := by decide +kernel
theorem dL_law_1785 : decode cL_law 1785 = .ok (.aload_n 1, 1) := by decide +kernel
theorem dL_law_1786 : decode cL_law 1786 = .ok (.invokevirtual 230, 3) := by decide +kernel
theorem dL_law_1789 : decode cL_law 1789 = .ok (.aload_n 2, 1) := by decide +kernel
theorem dL_law_1790 : decode cL_law 1790 = .ok (.invokevirtual 233, 3) := by decide +kernel
theorem dL_law_1793 : decode cL_law 1793 = .ok (.if_icmp .eq 510, 3) := by decide +kernel
theorem dL_law_1796 : decode cL_law 1796 = .ok (.iconst 0, 1) := by decide +kernel
theorem dL_law_1797 : decode cL_law 1797 = .ok (.ireturn, 1) := by decide +kernel
theorem dL_law_1798 : decode cL_law 1798 = .ok (.aload_n 1, 1) := by decide +kernel
theorem dL_law_1799 : decode cL_law 1799 = .ok (.invokevirtual 234, 3) := by decide +kernel
theorem dL_law_1802 : decode cL_law 1802 = .ok (.aload_n 2, 1) := by decide +kernel
theorem dL_law_1803 : decode cL_law 1803 = .ok (.invokevirtual 237, 3) := by decide +kernel
theorem dL_law_1806 : decode cL_law 1806 = .ok (.if_icmp .eq 497, 3) := by decide +kernel
theorem dL_law_1809 : decode cL_law 1809 = .ok (.iconst 0, 1) := by decide +kernel
theorem dL_law_1810 : decode cL_law 1810 = .ok (.ireturn, 1) := by decide +kernel
theorem dL_law_1811 : decode cL_law 1811 = .ok (.aload_n 1, 1) := by decide +kernel
theorem dL_law_1812 : decode cL_law 1812 = .ok (.aload_n 0, 1) := by decide +kernel
theorem dL_law_1813 : decode cL_law 1813 = .ok (.iload 4, 2) := by decide +kernel
theorem dL_law_1815 : decode cL_law 1815 = .ok (.iconst 1, 1) := by decide +kernel
theorem dL_law_1816 : decode cL_law 1816 = .ok (.iadd, 1) := by decide +kernel
theorem dL_law_1817 : decode cL_law 1817 = .ok (.iaload, 1) := by decide +kernel
theorem dL_law_1818 : decode cL_law 1818 = .ok (.aload_n 3, 1) := by decide +kernel
theorem dL_law_1819 : decode cL_law 1819 = .ok (.invokestatic 238, 3) := by decide +kernel
theorem dL_law_1822 : decode cL_law 1822 = .ok (.istore 5, 2) := by decide +kernel
theorem dL_law_1824 : decode cL_law 1824 = .ok (.aload_n 2, 1) := by decide +kernel
theorem dL_law_1825 : decode cL_law 1825 = .ok (.aload_n 0, 1) := by decide +kernel
theorem dL_law_1826 : decode cL_law 1826 = .ok (.iload 4, 2) := by decide +kernel
theorem dL_law_1828 : decode cL_law 1828 = .ok (.iconst 1, 1) := by decide +kernel
theorem dL_law_1829 : decode cL_law 1829 = .ok (.iadd, 1) := by decide +kernel
theorem dL_law_1830 : decode cL_law 1830 = .ok (.iaload, 1) := by decide +kernel
theorem dL_law_1831 : decode cL_law 1831 = .ok (.invokevirtual 240, 3) := by decide +kernel
theorem dL_law_1834 : decode cL_law 1834 = .ok (.istore 6, 2) := by decide +kernel
theorem dL_law_1836 : decode cL_law 1836 = .ok (.aload_n 2, 1) := by decide +kernel
theorem dL_law_1837 : decode cL_law 1837 = .ok (.invokevirtual 113, 3) := by decide +kernel
theorem dL_law_1840 : decode cL_law 1840 = .ok (.iload 5, 2) := by decide +kernel
theorem dL_law_1842 : decode cL_law 1842 = .ok (.if_icmp .eq 5, 3) := by decide +kernel
theorem dL_law_1845 : decode cL_law 1845 = .ok (.iconst 0, 1) := by decide +kernel
theorem dL_law_1846 : decode cL_law 1846 = .ok (.ireturn, 1) := by decide +kernel
theorem dL_law_1847 : decode cL_law 1847 = .ok (.iload 5, 2) := by decide +kernel
theorem dL_law_1849 : decode cL_law 1849 = .ok (.ifCond .ne 15, 3) := by decide +kernel
theorem dL_law_1852 : decode cL_law 1852 = .ok (.aload_n 3, 1) := by decide +kernel
theorem dL_law_1853 : decode cL_law 1853 = .ok (.iconst 0, 1) := by decide +kernel
theorem dL_law_1854 : decode cL_law 1854 = .ok (.laload, 1) := by decide +kernel
theorem dL_law_1855 : decode cL_law 1855 = .ok (.iload 6, 2) := by decide +kernel
theorem dL_law_1857 : decode cL_law 1857 = .ok (.i2l, 1) := by decide +kernel
theorem dL_law_1858 : decode cL_law 1858 = .ok (.lcmp, 1) := by decide +kernel
theorem dL_law_1859 : decode cL_law 1859 = .ok (.ifCond .eq 5, 3) := by decide +kernel
theorem dL_law_1862 : decode cL_law 1862 = .ok (.iconst 0, 1) := by decide +kernel
theorem dL_law_1863 : decode cL_law 1863 = .ok (.ireturn, 1) := by decide +kernel
theorem dL_law_1864 : decode cL_law 1864 = .ok (.goto 439, 3) := by decide +kernel
theorem dL_law_1867 : decode cL_law 1867 = .ok (.aload_n 1, 1) := by decide +kernel
theorem dL_law_1868 : decode cL_law 1868 = .ok (.aload_n 0, 1) := by decide +kernel
theorem dL_law_1869 : decode cL_law 1869 = .ok (.iload 4, 2) := by decide +kernel
theorem dL_law_1871 : decode cL_law 1871 = .ok (.iconst 1, 1) := by decide +kernel
theorem dL_law_1872 : decode cL_law 1872 = .ok (.iadd, 1) := by decide +kernel
theorem dL_law_1873 : decode cL_law 1873 = .ok (.iaload, 1) := by decide +kernel
theorem dL_law_1874 : decode cL_law 1874 = .ok (.aload_n 3, 1) := by decide +kernel
theorem dL_law_1875 : decode cL_law 1875 = .ok (.invokestatic 241, 3) := by decide +kernel
theorem dL_law_1878 : decode cL_law 1878 = .ok (.istore 5, 2) := by decide +kernel
theorem dL_law_1880 : decode cL_law 1880 = .ok (.aload_n 2, 1) := by decide +kernel
theorem dL_law_1881 : decode cL_law 1881 = .ok (.aload_n 0, 1) := by decide +kernel
theorem dL_law_1882 : decode cL_law 1882 = .ok (.iload 4, 2) := by decide +kernel
theorem dL_law_1884 : decode cL_law 1884 = .ok (.iconst 1, 1) := by decide +kernel
theorem dL_law_1885 : decode cL_law 1885 = .ok (.iadd, 1) := by decide +kernel
theorem dL_law_1886 : decode cL_law 1886 = .ok (.iaload, 1) := by decide +kernel
theorem dL_law_1887 : decode cL_law 1887 = .ok (.invokevirtual 243, 3) := by decide +kernel
theorem dL_law_1890 : decode cL_law 1890 = .ok (.istore 6, 2) := by decide +kernel
theorem dL_law_1892 : decode cL_law 1892 = .ok (.aload_n 2, 1) := by decide +kernel
theorem dL_law_1893 : decode cL_law 1893 = .ok (.invokevirtual 113, 3) := by decide +kernel
theorem dL_law_1896 : decode cL_law 1896 = .ok (.iload 5, 2) := by decide +kernel
theorem dL_law_1898 : decode cL_law 1898 = .ok (.if_icmp .eq 5, 3) := by decide +kernel
theorem dL_law_1901 : decode cL_law 1901 = .ok (.iconst 0, 1) := by decide +kernel
theorem dL_law_1902 : decode cL_law 1902 = .ok (.ireturn, 1) := by decide +kernel
theorem dL_law_1903 : decode cL_law 1903 = .ok (.iload 5, 2) := by decide +kernel
theorem dL_law_1905 : decode cL_law 1905 = .ok (.ifCond .ne 22, 3) := by decide +kernel
theorem dL_law_1908 : decode cL_law 1908 = .ok (.aload_n 3, 1) := by decide +kernel
theorem dL_law_1909 : decode cL_law 1909 = .ok (.iconst 0, 1) := by decide +kernel
theorem dL_law_1910 : decode cL_law 1910 = .ok (.laload, 1) := by decide +kernel
theorem dL_law_1911 : decode cL_law 1911 = .ok (.iload 6, 2) := by decide +kernel
theorem dL_law_1913 : decode cL_law 1913 = .ok (.ifCond .eq 7, 3) := by decide +kernel
theorem dL_law_1916 : decode cL_law 1916 = .ok (.lconst 1, 1) := by decide +kernel
theorem dL_law_1917 : decode cL_law 1917 = .ok (.goto 4, 3) := by decide +kernel
theorem dL_law_1920 : decode cL_law 1920 = .ok (.lconst 0, 1) := by decide +kernel
theorem dL_law_1921 : decode cL_law 1921 = .ok (.lcmp, 1) := by decide +kernel
theorem dL_law_1922 : decode cL_law 1922 = .ok (.ifCond .eq 5, 3) := by decide +kernel
theorem dL_law_1925 : decode cL_law 1925 = .ok (.iconst 0, 1) := by decide +kernel
theorem dL_law_1926 : decode cL_law 1926 = .ok (.ireturn, 1) := by decide +kernel
theorem dL_law_1927 : decode cL_law 1927 = .ok (.goto 376, 3) := by decide +kernel
theorem dL_law_1930 : decode cL_law 1930 = .ok (.aload_n 1, 1) := by decide +kernel
theorem dL_law_1931 : decode cL_law 1931 = .ok (.aload_n 0, 1) := by decide +kernel
theorem dL_law_1932 : decode cL_law 1932 = .ok (.iload 4, 2) := by decide +kernel
theorem dL_law_1934 : decode cL_law 1934 = .ok (.iconst 1, 1) := by decide +kernel
theorem dL_law_1935 : decode cL_law 1935 = .ok (.iadd, 1) := by decide +kernel
theorem dL_law_1936 : decode cL_law 1936 = .ok (.iaload, 1) := by decide +kernel
theorem dL_law_1937 : decode cL_law 1937 = .ok (.aload_n 3, 1) := by decide +kernel
theorem dL_law_1938 : decode cL_law 1938 = .ok (.invokestatic 244, 3) := by decide +kernel
theorem dL_law_1941 : decode cL_law 1941 = .ok (.istore 5, 2) := by decide +kernel
theorem dL_law_1943 : decode cL_law 1943 = .ok (.aload_n 2, 1) := by decide +kernel
theorem dL_law_1944 : decode cL_law 1944 = .ok (.aload_n 0, 1) := by decide +kernel
theorem dL_law_1945 : decode cL_law 1945 = .ok (.iload 4, 2) := by decide +kernel
theorem dL_law_1947 : decode cL_law 1947 = .ok (.iconst 1, 1) := by decide +kernel
theorem dL_law_1948 : decode cL_law 1948 = .ok (.iadd, 1) := by decide +kernel
theorem dL_law_1949 : decode cL_law 1949 = .ok (.iaload, 1) := by decide +kernel
theorem dL_law_1950 : decode cL_law 1950 = .ok (.invokevirtual 246, 3) := by decide +kernel
theorem dL_law_1953 : decode cL_law 1953 = .ok (.istore 6, 2) := by decide +kernel
theorem dL_law_1955 : decode cL_law 1955 = .ok (.aload_n 2, 1) := by decide +kernel
theorem dL_law_1956 : decode cL_law 1956 = .ok (.invokevirtual 113, 3) := by decide +kernel
theorem dL_law_1959 : decode cL_law 1959 = .ok (.iload 5, 2) := by decide +kernel
theorem dL_law_1961 : decode cL_law 1961 = .ok (.if_icmp .eq 5, 3) := by decide +kernel
theorem dL_law_1964 : decode cL_law 1964 = .ok (.iconst 0, 1) := by decide +kernel
theorem dL_law_1965 : decode cL_law 1965 = .ok (.ireturn, 1) := by decide +kernel
theorem dL_law_1966 : decode cL_law 1966 = .ok (.iload 5, 2) := by decide +kernel
theorem dL_law_1968 : decode cL_law 1968 = .ok (.ifCond .ne 22, 3) := by decide +kernel
theorem dL_law_1971 : decode cL_law 1971 = .ok (.aload_n 3, 1) := by decide +kernel
theorem dL_law_1972 : decode cL_law 1972 = .ok (.iconst 0, 1) := by decide +kernel
theorem dL_law_1973 : decode cL_law 1973 = .ok (.laload, 1) := by decide +kernel
theorem dL_law_1974 : decode cL_law 1974 = .ok (.iload 6, 2) := by decide +kernel
theorem dL_law_1976 : decode cL_law 1976 = .ok (.ifCond .eq 7, 3) := by decide +kernel
theorem dL_law_1979 : decode cL_law 1979 = .ok (.lconst 1, 1) := by decide +kernel
theorem dL_law_1980 : decode cL_law 1980 = .ok (.goto 4, 3) := by decide +kernel
theorem dL_law_1983 : decode cL_law 1983 = .ok (.lconst 0, 1) := by decide +kernel
theorem dL_law_1984 : decode cL_law 1984 = .ok (.lcmp, 1) := by decide +kernel
theorem dL_law_1985 : decode cL_law 1985 = .ok (.ifCond .eq 5, 3) := by decide +kernel
theorem dL_law_1988 : decode cL_law 1988 = .ok (.iconst 0, 1) := by decide +kernel
theorem dL_law_1989 : decode cL_law 1989 = .ok (.ireturn, 1) := by decide +kernel
theorem dL_law_1990 : decode cL_law 1990 = .ok (.goto 313, 3) := by decide +kernel
theorem dL_law_1993 : decode cL_law 1993 = .ok (.aload_n 1, 1) := by decide +kernel
theorem dL_law_1994 : decode cL_law 1994 = .ok (.invokevirtual 247, 3) := by decide +kernel
theorem dL_law_1997 : decode cL_law 1997 = .ok (.aload_n 2, 1) := by decide +kernel
theorem dL_law_1998 : decode cL_law 1998 = .ok (.invokevirtual 250, 3) := by decide +kernel
theorem dL_law_2001 : decode cL_law 2001 = .ok (.if_icmp .eq 302, 3) := by decide +kernel
theorem dL_law_2004 : decode cL_law 2004 = .ok (.iconst 0, 1) := by decide +kernel
theorem dL_law_2005 : decode cL_law 2005 = .ok (.ireturn, 1) := by decide +kernel
theorem dL_law_2006 : decode cL_law 2006 = .ok (.aload_n 1, 1) := by decide +kernel
theorem dL_law_2007 : decode cL_law 2007 = .ok (.invokevirtual 251, 3) := by decide +kernel
theorem dL_law_2010 : decode cL_law 2010 = .ok (.aload_n 2, 1) := by decide +kernel
theorem dL_law_2011 : decode cL_law 2011 = .ok (.invokevirtual 254, 3) := by decide +kernel
theorem dL_law_2014 : decode cL_law 2014 = .ok (.if_icmp .eq 289, 3) := by decide +kernel
theorem dL_law_2017 : decode cL_law 2017 = .ok (.iconst 0, 1) := by decide +kernel
theorem dL_law_2018 : decode cL_law 2018 = .ok (.ireturn, 1) := by decide +kernel
theorem dL_law_2019 : decode cL_law 2019 = .ok (.aload_n 1, 1) := by decide +kernel
theorem dL_law_2020 : decode cL_law 2020 = .ok (.invokevirtual 255, 3) := by decide +kernel
theorem dL_law_2023 : decode cL_law 2023 = .ok (.aload_n 2, 1) := by decide +kernel
theorem dL_law_2024 : decode cL_law 2024 = .ok (.invokevirtual 258, 3) := by decide +kernel
theorem dL_law_2027 : decode cL_law 2027 = .ok (.if_icmp .eq 276, 3) := by decide +kernel
theorem dL_law_2030 : decode cL_law 2030 = .ok (.iconst 0, 1) := by decide +kernel
theorem dL_law_2031 : decode cL_law 2031 = .ok (.ireturn, 1) := by decide +kernel
theorem dL_law_2032 : decode cL_law 2032 = .ok (.aload_n 1, 1) := by decide +kernel
theorem dL_law_2033 : decode cL_law 2033 = .ok (.invokevirtual 259, 3) := by decide +kernel
theorem dL_law_2036 : decode cL_law 2036 = .ok (.aload_n 2, 1) := by decide +kernel
theorem dL_law_2037 : decode cL_law 2037 = .ok (.invokevirtual 262, 3) := by decide +kernel
theorem dL_law_2040 : decode cL_law 2040 = .ok (.if_icmp .eq 263, 3) := by decide +kernel
theorem dL_law_2043 : decode cL_law 2043 = .ok (.iconst 0, 1) := by decide +kernel
theorem dL_law_2044 : decode cL_law 2044 = .ok (.ireturn, 1) := by decide +kernel
theorem dL_law_2045 : decode cL_law 2045 = .ok (.aload_n 1, 1) := by decide +kernel
theorem dL_law_2046 : decode cL_law 2046 = .ok (.invokevirtual 263, 3) := by decide +kernel
theorem dL_law_2049 : decode cL_law 2049 = .ok (.aload_n 2, 1) := by decide +kernel
theorem dL_law_2050 : decode cL_law 2050 = .ok (.invokevirtual 266, 3) := by decide +kernel
theorem dL_law_2053 : decode cL_law 2053 = .ok (.if_icmp .eq 250, 3) := by decide +kernel
theorem dL_law_2056 : decode cL_law 2056 = .ok (.iconst 0, 1) := by decide +kernel
theorem dL_law_2057 : decode cL_law 2057 = .ok (.ireturn, 1) := by decide +kernel
theorem dL_law_2058 : decode cL_law 2058 = .ok (.aload_n 1, 1) := by decide +kernel
theorem dL_law_2059 : decode cL_law 2059 = .ok (.invokevirtual 267, 3) := by decide +kernel
theorem dL_law_2062 : decode cL_law 2062 = .ok (.aload_n 2, 1) := by decide +kernel
theorem dL_law_2063 : decode cL_law 2063 = .ok (.invokevirtual 270, 3) := by decide +kernel
theorem dL_law_2066 : decode cL_law 2066 = .ok (.if_icmp .eq 237, 3) := by decide +kernel
theorem dL_law_2069 : decode cL_law 2069 = .ok (.iconst 0, 1) := by decide +kernel
theorem dL_law_2070 : decode cL_law 2070 = .ok (.ireturn, 1) := by decide +kernel
theorem dL_law_2071 : decode cL_law 2071 = .ok (.aload_n 1, 1) := by decide +kernel
theorem dL_law_2072 : decode cL_law 2072 = .ok (.invokevirtual 271, 3) := by decide +kernel
theorem dL_law_2075 : decode cL_law 2075 = .ok (.aload_n 2, 1) := by decide +kernel
theorem dL_law_2076 : decode cL_law 2076 = .ok (.invokevirtual 274, 3) := by decide +kernel
theorem dL_law_2079 : decode cL_law 2079 = .ok (.if_icmp .eq 224, 3) := by decide +kernel
theorem dL_law_2082 : decode cL_law 2082 = .ok (.iconst 0, 1) := by decide +kernel
theorem dL_law_2083 : decode cL_law 2083 = .ok (.ireturn, 1) := by decide +kernel
theorem dL_law_2084 : decode cL_law 2084 = .ok (.aload_n 1, 1) := by decide +kernel
theorem dL_law_2085 : decode cL_law 2085 = .ok (.invokevirtual 275, 3) := by decide +kernel
theorem dL_law_2088 : decode cL_law 2088 = .ok (.aload_n 2, 1) := by decide +kernel
theorem dL_law_2089 : decode cL_law 2089 = .ok (.invokevirtual 278, 3) := by decide +kernel
theorem dL_law_2092 : decode cL_law 2092 = .ok (.if_icmp .eq 211, 3) := by decide +kernel
theorem dL_law_2095 : decode cL_law 2095 = .ok (.iconst 0, 1) := by decide +kernel
theorem dL_law_2096 : decode cL_law 2096 = .ok (.ireturn, 1) := by decide +kernel
theorem dL_law_2097 : decode cL_law 2097 = .ok (.aload_n 1, 1) := by decide +kernel
theorem dL_law_2098 : decode cL_law 2098 = .ok (.invokevirtual 279, 3) := by decide +kernel
theorem dL_law_2101 : decode cL_law 2101 = .ok (.aload_n 2, 1) := by decide +kernel
theorem dL_law_2102 : decode cL_law 2102 = .ok (.invokevirtual 282, 3) := by decide +kernel
theorem dL_law_2105 : decode cL_law 2105 = .ok (.if_icmp .eq 198, 3) := by decide +kernel
theorem dL_law_2108 : decode cL_law 2108 = .ok (.iconst 0, 1) := by decide +kernel
theorem dL_law_2109 : decode cL_law 2109 = .ok (.ireturn, 1) := by decide +kernel
theorem dL_law_2110 : decode cL_law 2110 = .ok (.aload_n 1, 1) := by decide +kernel
theorem dL_law_2111 : decode cL_law 2111 = .ok (.invokevirtual 283, 3) := by decide +kernel
theorem dL_law_2114 : decode cL_law 2114 = .ok (.aload_n 2, 1) := by decide +kernel
theorem dL_law_2115 : decode cL_law 2115 = .ok (.invokevirtual 286, 3) := by decide +kernel
theorem dL_law_2118 : decode cL_law 2118 = .ok (.if_icmp .eq 185, 3) := by decide +kernel
theorem dL_law_2121 : decode cL_law 2121 = .ok (.iconst 0, 1) := by decide +kernel
theorem dL_law_2122 : decode cL_law 2122 = .ok (.ireturn, 1) := by decide +kernel
theorem dL_law_2123 : decode cL_law 2123 = .ok (.aload_n 1, 1) := by decide +kernel
theorem dL_law_2124 : decode cL_law 2124 = .ok (.invokevirtual 287, 3) := by decide +kernel
theorem dL_law_2127 : decode cL_law 2127 = .ok (.aload_n 2, 1) := by decide +kernel
theorem dL_law_2128 : decode cL_law 2128 = .ok (.invokevirtual 290, 3) := by decide +kernel
theorem dL_law_2131 : decode cL_law 2131 = .ok (.if_icmp .eq 172, 3) := by decide +kernel
theorem dL_law_2134 : decode cL_law 2134 = .ok (.iconst 0, 1) := by decide +kernel
theorem dL_law_2135 : decode cL_law 2135 = .ok (.ireturn, 1) := by decide +kernel
theorem dL_law_2136 : decode cL_law 2136 = .ok (.aload_n 1, 1) := by decide +kernel
theorem dL_law_2137 : decode cL_law 2137 = .ok (.invokevirtual 291, 3) := by decide +kernel
theorem dL_law_2140 : decode cL_law 2140 = .ok (.aload_n 2, 1) := by decide +kernel
theorem dL_law_2141 : decode cL_law 2141 = .ok (.invokevirtual 294, 3) := by decide +kernel
theorem dL_law_2144 : decode cL_law 2144 = .ok (.if_icmp .eq 159, 3) := by decide +kernel
theorem dL_law_2147 : decode cL_law 2147 = .ok (.iconst 0, 1) := by decide +kernel
theorem dL_law_2148 : decode cL_law 2148 = .ok (.ireturn, 1) := by decide +kernel
theorem dL_law_2149 : decode cL_law 2149 = .ok (.aload_n 1, 1) := by decide +kernel
theorem dL_law_2150 : decode cL_law 2150 = .ok (.aload_n 0, 1) := by decide +kernel
theorem dL_law_2151 : decode cL_law 2151 = .ok (.iload 4, 2) := by decide +kernel
theorem dL_law_2153 : decode cL_law 2153 = .ok (.iconst 1, 1) := by decide +kernel
theorem dL_law_2154 : decode cL_law 2154 = .ok (.iadd, 1) := by decide +kernel
theorem dL_law_2155 : decode cL_law 2155 = .ok (.iaload, 1) := by decide +kernel
theorem dL_law_2156 : decode cL_law 2156 = .ok (.aload_n 3, 1) := by decide +kernel
theorem dL_law_2157 : decode cL_law 2157 = .ok (.invokestatic 295, 3) := by decide +kernel
theorem dL_law_2160 : decode cL_law 2160 = .ok (.istore 5, 2) := by decide +kernel
theorem dL_law_2162 : decode cL_law 2162 = .ok (.aload_n 2, 1) := by decide +kernel
theorem dL_law_2163 : decode cL_law 2163 = .ok (.aload_n 0, 1) := by decide +kernel
theorem dL_law_2164 : decode cL_law 2164 = .ok (.iload 4, 2) := by decide +kernel
theorem dL_law_2166 : decode cL_law 2166 = .ok (.iconst 1, 1) := by decide +kernel
theorem dL_law_2167 : decode cL_law 2167 = .ok (.iadd, 1) := by decide +kernel
theorem dL_law_2168 : decode cL_law 2168 = .ok (.iaload, 1) := by decide +kernel
theorem dL_law_2169 : decode cL_law 2169 = .ok (.invokevirtual 297, 3) := by decide +kernel
theorem dL_law_2172 : decode cL_law 2172 = .ok (.istore 6, 2) := by decide +kernel
theorem dL_law_2174 : decode cL_law 2174 = .ok (.aload_n 2, 1) := by decide +kernel
theorem dL_law_2175 : decode cL_law 2175 = .ok (.invokevirtual 113, 3) := by decide +kernel
theorem dL_law_2178 : decode cL_law 2178 = .ok (.iload 5, 2) := by decide +kernel
theorem dL_law_2180 : decode cL_law 2180 = .ok (.if_icmp .eq 5, 3) := by decide +kernel
theorem dL_law_2183 : decode cL_law 2183 = .ok (.iconst 0, 1) := by decide +kernel
theorem dL_law_2184 : decode cL_law 2184 = .ok (.ireturn, 1) := by decide +kernel
theorem dL_law_2185 : decode cL_law 2185 = .ok (.iload 5, 2) := by decide +kernel
theorem dL_law_2187 : decode cL_law 2187 = .ok (.ifCond .ne 15, 3) := by decide +kernel
theorem dL_law_2190 : decode cL_law 2190 = .ok (.aload_n 3, 1) := by decide +kernel
theorem dL_law_2191 : decode cL_law 2191 = .ok (.iconst 0, 1) := by decide +kernel
theorem dL_law_2192 : decode cL_law 2192 = .ok (.laload, 1) := by decide +kernel
theorem dL_law_2193 : decode cL_law 2193 = .ok (.iload 6, 2) := by decide +kernel
theorem dL_law_2195 : decode cL_law 2195 = .ok (.i2l, 1) := by decide +kernel
theorem dL_law_2196 : decode cL_law 2196 = .ok (.lcmp, 1) := by decide +kernel
theorem dL_law_2197 : decode cL_law 2197 = .ok (.ifCond .eq 5, 3) := by decide +kernel
theorem dL_law_2200 : decode cL_law 2200 = .ok (.iconst 0, 1) := by decide +kernel
theorem dL_law_2201 : decode cL_law 2201 = .ok (.ireturn, 1) := by decide +kernel
theorem dL_law_2202 : decode cL_law 2202 = .ok (.goto 101, 3) := by decide +kernel
theorem dL_law_2205 : decode cL_law 2205 = .ok (.aload_n 1, 1) := by decide +kernel
theorem dL_law_2206 : decode cL_law 2206 = .ok (.invokevirtual 298, 3) := by decide +kernel
theorem dL_law_2209 : decode cL_law 2209 = .ok (.dstore 5, 2) := by decide +kernel
theorem dL_law_2211 : decode cL_law 2211 = .ok (.aload_n 2, 1) := by decide +kernel
theorem dL_law_2212 : decode cL_law 2212 = .ok (.invokevirtual 302, 3) := by decide +kernel
theorem dL_law_2215 : decode cL_law 2215 = .ok (.dstore 7, 2) := by decide +kernel
theorem dL_law_2217 : decode cL_law 2217 = .ok (.dload 5, 2) := by decide +kernel
theorem dL_law_2219 : decode cL_law 2219 = .ok (.dload 7, 2) := by decide +kernel
theorem dL_law_2221 : decode cL_law 2221 = .ok (.dcmp .l, 1) := by decide +kernel
theorem dL_law_2222 : decode cL_law 2222 = .ok (.ifCond .eq 21, 3) := by decide +kernel
theorem dL_law_2225 : decode cL_law 2225 = .ok (.dload 5, 2) := by decide +kernel
theorem dL_law_2227 : decode cL_law 2227 = .ok (.dload 5, 2) := by decide +kernel
theorem dL_law_2229 : decode cL_law 2229 = .ok (.dcmp .l, 1) := by decide +kernel
theorem dL_law_2230 : decode cL_law 2230 = .ok (.ifCond .eq 11, 3) := by decide +kernel
theorem dL_law_2233 : decode cL_law 2233 = .ok (.dload 7, 2) := by decide +kernel
theorem dL_law_2235 : decode cL_law 2235 = .ok (.dload 7, 2) := by decide +kernel
theorem dL_law_2237 : decode cL_law 2237 = .ok (.dcmp .l, 1) := by decide +kernel
theorem dL_law_2238 : decode cL_law 2238 = .ok (.ifCond .ne 5, 3) := by decide +kernel
theorem dL_law_2241 : decode cL_law 2241 = .ok (.iconst 0, 1) := by decide +kernel
theorem dL_law_2242 : decode cL_law 2242 = .ok (.ireturn, 1) := by decide +kernel
theorem dL_law_2243 : decode cL_law 2243 = .ok (.goto 60, 3) := by decide +kernel
theorem dL_law_2246 : decode cL_law 2246 = .ok (.aload_n 1, 1) := by decide +kernel
theorem dL_law_2247 : decode cL_law 2247 = .ok (.invokevirtual 303, 3) := by decide +kernel
theorem dL_law_2250 : decode cL_law 2250 = .ok (.f2d, 1) := by decide +kernel
theorem dL_law_2251 : decode cL_law 2251 = .ok (.dstore 5, 2) := by decide +kernel
theorem dL_law_2253 : decode cL_law 2253 = .ok (.aload_n 2, 1) := by decide +kernel
theorem dL_law_2254 : decode cL_law 2254 = .ok (.invokevirtual 307, 3) := by decide +kernel
theorem dL_law_2257 : decode cL_law 2257 = .ok (.f2d, 1) := by decide +kernel
theorem dL_law_2258 : decode cL_law 2258 = .ok (.dstore 7, 2) := by decide +kernel
theorem dL_law_2260 : decode cL_law 2260 = .ok (.dload 5, 2) := by decide +kernel
theorem dL_law_2262 : decode cL_law 2262 = .ok (.dload 7, 2) := by decide +kernel
theorem dL_law_2264 : decode cL_law 2264 = .ok (.dcmp .l, 1) := by decide +kernel
theorem dL_law_2265 : decode cL_law 2265 = .ok (.ifCond .eq 21, 3) := by decide +kernel
theorem dL_law_2268 : decode cL_law 2268 = .ok (.dload 5, 2) := by decide +kernel
theorem dL_law_2270 : decode cL_law 2270 = .ok (.dload 5, 2) := by decide +kernel
theorem dL_law_2272 : decode cL_law 2272 = .ok (.dcmp .l, 1) := by decide +kernel
theorem dL_law_2273 : decode cL_law 2273 = .ok (.ifCond .eq 11, 3) := by decide +kernel
theorem dL_law_2276 : decode cL_law 2276 = .ok (.dload 7, 2) := by decide +kernel
theorem dL_law_2278 : decode cL_law 2278 = .ok (.dload 7, 2) := by decide +kernel
theorem dL_law_2280 : decode cL_law 2280 = .ok (.dcmp .l, 1) := by decide +kernel
theorem dL_law_2281 : decode cL_law 2281 = .ok (.ifCond .ne 5, 3) := by decide +kernel
theorem dL_law_2284 : decode cL_law 2284 = .ok (.iconst 0, 1) := by decide +kernel
theorem dL_law_2285 : decode cL_law 2285 = .ok (.ireturn, 1) := by decide +kernel
theorem dL_law_2286 : decode cL_law 2286 = .ok (.goto 17, 3) := by decide +kernel
theorem dL_law_2289 : decode cL_law 2289 = .ok (.aload_n 1, 1) := by decide +kernel
theorem dL_law_2290 : decode cL_law 2290 = .ok (.invokevirtual 308, 3) := by decide +kernel
theorem dL_law_2293 : decode cL_law 2293 = .ok (.aload_n 2, 1) := by decide +kernel
theorem dL_law_2294 : decode cL_law 2294 = .ok (.invokevirtual 312, 3) := by decide +kernel
theorem dL_law_2297 : decode cL_law 2297 = .ok (.lcmp, 1) := by decide +kernel
theorem dL_law_2298 : decode cL_law 2298 = .ok (.ifCond .eq 5, 3) := by decide +kernel
theorem dL_law_2301 : decode cL_law 2301 = .ok (.iconst 0, 1) := by decide +kernel
theorem dL_law_2302 : decode cL_law 2302 = .ok (.ireturn, 1) := by decide +kernel
theorem dL_law_2303 : decode cL_law 2303 = .ok (.iinc 4 4, 3) := by decide +kernel
theorem dL_law_2306 : decode cL_law 2306 = .ok (.goto (-2283), 3) := by decide +kernel
theorem dL_law_2309 : decode cL_law 2309 = .ok (.iconst 1, 1) := by decide +kernel
theorem dL_law_2310 : decode cL_law 2310 = .ok (.ireturn, 1) := by decide +kernel
end
