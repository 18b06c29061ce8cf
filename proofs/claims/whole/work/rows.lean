section
-- ===== PART A: goes FIRST, ahead of the names: the tables' words, and 'selects' of the private methods out of them =====
/-- a private method of a class that the tables say can be made, by its rows of tables_1 -/
def lw_okq (q : MethodName × Nat) : Prop := (q.1.cls ≠ "java/lang/invoke/MethodHandle" ∧ q.1.cls ≠ "java/lang/invoke/VarHandle") ∧ Cond.instantiable q.1.cls q.2 ∈ tables_1 ∧ Cond.privateMethod q.1 ∈ tables_1 ∧ Cond.instanceMethod q.1 ∈ tables_1
theorem lw_p0 : lw_okq (⟨"Raidhall$Pad", "readWord", "()Z"⟩, 6) := ⟨⟨by decide +kernel, by decide +kernel⟩, List.mem_of_getElem? (i := 174) (by decide +kernel), List.mem_of_getElem? (i := 304) (by decide +kernel), List.mem_of_getElem? (i := 305) (by decide +kernel)⟩
theorem lw_p1 : lw_okq (⟨"Raidhall$Pad", "keepFitting", "(II)I"⟩, 6) := ⟨⟨by decide +kernel, by decide +kernel⟩, List.mem_of_getElem? (i := 174) (by decide +kernel), List.mem_of_getElem? (i := 308) (by decide +kernel), List.mem_of_getElem? (i := 309) (by decide +kernel)⟩
theorem lw_p2 : lw_okq (⟨"Raidhall$Pad", "nextSign", "()I"⟩, 6) := ⟨⟨by decide +kernel, by decide +kernel⟩, List.mem_of_getElem? (i := 174) (by decide +kernel), List.mem_of_getElem? (i := 312) (by decide +kernel), List.mem_of_getElem? (i := 313) (by decide +kernel)⟩
theorem lw_p3 : lw_okq (⟨"Raidhall$Pad", "readPlayer", "()Z"⟩, 6) := ⟨⟨by decide +kernel, by decide +kernel⟩, List.mem_of_getElem? (i := 174) (by decide +kernel), List.mem_of_getElem? (i := 375) (by decide +kernel), List.mem_of_getElem? (i := 376) (by decide +kernel)⟩
theorem lw_p4 : lw_okq (⟨"Raidhall$Pad", "isAtDigit", "()Z"⟩, 6) := ⟨⟨by decide +kernel, by decide +kernel⟩, List.mem_of_getElem? (i := 174) (by decide +kernel), List.mem_of_getElem? (i := 379) (by decide +kernel), List.mem_of_getElem? (i := 380) (by decide +kernel)⟩
theorem lw_p5 : lw_okq (⟨"Raidhall$Pad", "readSign", "(I)Z"⟩, 6) := ⟨⟨by decide +kernel, by decide +kernel⟩, List.mem_of_getElem? (i := 174) (by decide +kernel), List.mem_of_getElem? (i := 386) (by decide +kernel), List.mem_of_getElem? (i := 387) (by decide +kernel)⟩
theorem lw_p6 : lw_okq (⟨"Raidhall$Pad", "readNumber", "()Z"⟩, 6) := ⟨⟨by decide +kernel, by decide +kernel⟩, List.mem_of_getElem? (i := 174) (by decide +kernel), List.mem_of_getElem? (i := 390) (by decide +kernel), List.mem_of_getElem? (i := 391) (by decide +kernel)⟩
theorem lw_p7 : lw_okq (⟨"java/lang/Throwable", "fillInStackTrace", "(I)Ljava/lang/Throwable;"⟩, 6) := ⟨⟨by decide +kernel, by decide +kernel⟩, List.mem_of_getElem? (i := 446) (by decide +kernel), List.mem_of_getElem? (i := 444) (by decide +kernel), List.mem_of_getElem? (i := 445) (by decide +kernel)⟩
theorem lw_p8 : lw_okq (⟨"Raidhall$Contest", "mayAdd", "()Z"⟩, 11) := ⟨⟨by decide +kernel, by decide +kernel⟩, List.mem_of_getElem? (i := 30) (by decide +kernel), List.mem_of_getElem? (i := 541) (by decide +kernel), List.mem_of_getElem? (i := 542) (by decide +kernel)⟩
theorem lw_p9 : lw_okq (⟨"Raidhall$Contest", "addEvent", "(IIII)LRaidhall$Event;"⟩, 11) := ⟨⟨by decide +kernel, by decide +kernel⟩, List.mem_of_getElem? (i := 30) (by decide +kernel), List.mem_of_getElem? (i := 568) (by decide +kernel), List.mem_of_getElem? (i := 569) (by decide +kernel)⟩
theorem lw_p10 : lw_okq (⟨"Raidhall$Contest", "raidGoingOn", "()LRaidhall$Event;"⟩, 11) := ⟨⟨by decide +kernel, by decide +kernel⟩, List.mem_of_getElem? (i := 30) (by decide +kernel), List.mem_of_getElem? (i := 591) (by decide +kernel), List.mem_of_getElem? (i := 592) (by decide +kernel)⟩
theorem lw_p11 : lw_okq (⟨"Raidhall$Contest", "eventAt", "(I)LRaidhall$Event;"⟩, 11) := ⟨⟨by decide +kernel, by decide +kernel⟩, List.mem_of_getElem? (i := 30) (by decide +kernel), List.mem_of_getElem? (i := 595) (by decide +kernel), List.mem_of_getElem? (i := 596) (by decide +kernel)⟩
theorem lw_p12 : lw_okq (⟨"Raidhall$Event", "isPlace", "(I)Z"⟩, 10) := ⟨⟨by decide +kernel, by decide +kernel⟩, List.mem_of_getElem? (i := 97) (by decide +kernel), List.mem_of_getElem? (i := 607) (by decide +kernel), List.mem_of_getElem? (i := 608) (by decide +kernel)⟩
theorem lw_p13 : lw_okq (⟨"Raidhall$Mats", "playCard", "(LRaidhall$Event;)V"⟩, 4) := ⟨⟨by decide +kernel, by decide +kernel⟩, List.mem_of_getElem? (i := 38) (by decide +kernel), List.mem_of_getElem? (i := 642) (by decide +kernel), List.mem_of_getElem? (i := 643) (by decide +kernel)⟩
theorem lw_p14 : lw_okq (⟨"Raidhall$Mats", "endAllOut", "(I)V"⟩, 4) := ⟨⟨by decide +kernel, by decide +kernel⟩, List.mem_of_getElem? (i := 38) (by decide +kernel), List.mem_of_getElem? (i := 654) (by decide +kernel), List.mem_of_getElem? (i := 655) (by decide +kernel)⟩
theorem lw_p15 : lw_okq (⟨"Raidhall$Mats", "playRaid", "(LRaidhall$Event;)V"⟩, 4) := ⟨⟨by decide +kernel, by decide +kernel⟩, List.mem_of_getElem? (i := 38) (by decide +kernel), List.mem_of_getElem? (i := 670) (by decide +kernel), List.mem_of_getElem? (i := 671) (by decide +kernel)⟩
def lw_privs_1 : List (MethodName × Nat) := [(⟨"Raidhall$Pad", "readWord", "()Z"⟩, 6), (⟨"Raidhall$Pad", "keepFitting", "(II)I"⟩, 6), (⟨"Raidhall$Pad", "nextSign", "()I"⟩, 6), (⟨"Raidhall$Pad", "readPlayer", "()Z"⟩, 6), (⟨"Raidhall$Pad", "isAtDigit", "()Z"⟩, 6), (⟨"Raidhall$Pad", "readSign", "(I)Z"⟩, 6), (⟨"Raidhall$Pad", "readNumber", "()Z"⟩, 6), (⟨"java/lang/Throwable", "fillInStackTrace", "(I)Ljava/lang/Throwable;"⟩, 6), (⟨"Raidhall$Contest", "mayAdd", "()Z"⟩, 11), (⟨"Raidhall$Contest", "addEvent", "(IIII)LRaidhall$Event;"⟩, 11), (⟨"Raidhall$Contest", "raidGoingOn", "()LRaidhall$Event;"⟩, 11), (⟨"Raidhall$Contest", "eventAt", "(I)LRaidhall$Event;"⟩, 11), (⟨"Raidhall$Event", "isPlace", "(I)Z"⟩, 10), (⟨"Raidhall$Mats", "playCard", "(LRaidhall$Event;)V"⟩, 4), (⟨"Raidhall$Mats", "endAllOut", "(I)V"⟩, 4), (⟨"Raidhall$Mats", "playRaid", "(LRaidhall$Event;)V"⟩, 4)]
theorem lw_r1 : ∀ q ∈ lw_privs_1, lw_okq q := List.forall_mem_cons.mpr ⟨lw_p0, List.forall_mem_cons.mpr ⟨lw_p1, List.forall_mem_cons.mpr ⟨lw_p2, List.forall_mem_cons.mpr ⟨lw_p3, List.forall_mem_cons.mpr ⟨lw_p4, List.forall_mem_cons.mpr ⟨lw_p5, List.forall_mem_cons.mpr ⟨lw_p6, List.forall_mem_cons.mpr ⟨lw_p7, List.forall_mem_cons.mpr ⟨lw_p8, List.forall_mem_cons.mpr ⟨lw_p9, List.forall_mem_cons.mpr ⟨lw_p10, List.forall_mem_cons.mpr ⟨lw_p11, List.forall_mem_cons.mpr ⟨lw_p12, List.forall_mem_cons.mpr ⟨lw_p13, List.forall_mem_cons.mpr ⟨lw_p14, List.forall_mem_cons.mpr ⟨lw_p15, fun _ h => absurd h List.not_mem_nil⟩⟩⟩⟩⟩⟩⟩⟩⟩⟩⟩⟩⟩⟩⟩⟩
theorem lw_p16 : lw_okq (⟨"Raidhall$Mats", "passTime", "(I)V"⟩, 4) := ⟨⟨by decide +kernel, by decide +kernel⟩, List.mem_of_getElem? (i := 38) (by decide +kernel), List.mem_of_getElem? (i := 720) (by decide +kernel), List.mem_of_getElem? (i := 721) (by decide +kernel)⟩
theorem lw_p17 : lw_okq (⟨"Raidhall$Contest", "goThrough", "(I)I"⟩, 11) := ⟨⟨by decide +kernel, by decide +kernel⟩, List.mem_of_getElem? (i := 30) (by decide +kernel), List.mem_of_getElem? (i := 816) (by decide +kernel), List.mem_of_getElem? (i := 817) (by decide +kernel)⟩
theorem lw_p18 : lw_okq (⟨"Raidhall$Mats", "mayStandAsRaid", "(LRaidhall$Event;)Z"⟩, 4) := ⟨⟨by decide +kernel, by decide +kernel⟩, List.mem_of_getElem? (i := 38) (by decide +kernel), List.mem_of_getElem? (i := 826) (by decide +kernel), List.mem_of_getElem? (i := 827) (by decide +kernel)⟩
theorem lw_p19 : lw_okq (⟨"Raidhall$Contest", "leadOf", "(I)I"⟩, 11) := ⟨⟨by decide +kernel, by decide +kernel⟩, List.mem_of_getElem? (i := 30) (by decide +kernel), List.mem_of_getElem? (i := 836) (by decide +kernel), List.mem_of_getElem? (i := 837) (by decide +kernel)⟩
theorem lw_p20 : lw_okq (⟨"Raidhall$Contest", "playAllAnew", "()V"⟩, 11) := ⟨⟨by decide +kernel, by decide +kernel⟩, List.mem_of_getElem? (i := 30) (by decide +kernel), List.mem_of_getElem? (i := 840) (by decide +kernel), List.mem_of_getElem? (i := 841) (by decide +kernel)⟩
theorem lw_p21 : lw_okq (⟨"Raidhall$League", "noteFor", "(III)V"⟩, 6) := ⟨⟨by decide +kernel, by decide +kernel⟩, List.mem_of_getElem? (i := 202) (by decide +kernel), List.mem_of_getElem? (i := 886) (by decide +kernel), List.mem_of_getElem? (i := 887) (by decide +kernel)⟩
theorem lw_p22 : lw_okq (⟨"Raidhall", "isDone", "()Z"⟩, 4) := ⟨⟨by decide +kernel, by decide +kernel⟩, List.mem_of_getElem? (i := 22) (by decide +kernel), List.mem_of_getElem? (i := 921) (by decide +kernel), List.mem_of_getElem? (i := 922) (by decide +kernel)⟩
theorem lw_p23 : lw_okq (⟨"Raidhall$League", "rankOf", "(I)I"⟩, 6) := ⟨⟨by decide +kernel, by decide +kernel⟩, List.mem_of_getElem? (i := 202) (by decide +kernel), List.mem_of_getElem? (i := 1054) (by decide +kernel), List.mem_of_getElem? (i := 1055) (by decide +kernel)⟩
theorem lw_p24 : lw_okq (⟨"Raidhall$League", "isAhead", "(II)Z"⟩, 6) := ⟨⟨by decide +kernel, by decide +kernel⟩, List.mem_of_getElem? (i := 202) (by decide +kernel), List.mem_of_getElem? (i := 1058) (by decide +kernel), List.mem_of_getElem? (i := 1059) (by decide +kernel)⟩
theorem lw_p25 : lw_okq (⟨"Raidhall$League", "upper", "(I)J"⟩, 6) := ⟨⟨by decide +kernel, by decide +kernel⟩, List.mem_of_getElem? (i := 202) (by decide +kernel), List.mem_of_getElem? (i := 1062) (by decide +kernel), List.mem_of_getElem? (i := 1063) (by decide +kernel)⟩
theorem lw_p26 : lw_okq (⟨"Raidhall$League", "lower", "(I)J"⟩, 6) := ⟨⟨by decide +kernel, by decide +kernel⟩, List.mem_of_getElem? (i := 202) (by decide +kernel), List.mem_of_getElem? (i := 1066) (by decide +kernel), List.mem_of_getElem? (i := 1067) (by decide +kernel)⟩
theorem lw_p27 : lw_okq (⟨"Raidhall$Auction", "rightOn", "(I)I"⟩, 11) := ⟨⟨by decide +kernel, by decide +kernel⟩, List.mem_of_getElem? (i := 227) (by decide +kernel), List.mem_of_getElem? (i := 1092) (by decide +kernel), List.mem_of_getElem? (i := 1093) (by decide +kernel)⟩
theorem lw_p28 : lw_okq (⟨"Raidhall$Auction", "sellTo", "(I)I"⟩, 11) := ⟨⟨by decide +kernel, by decide +kernel⟩, List.mem_of_getElem? (i := 227) (by decide +kernel), List.mem_of_getElem? (i := 1154) (by decide +kernel), List.mem_of_getElem? (i := 1155) (by decide +kernel)⟩
theorem lw_p29 : lw_okq (⟨"RaidhallModel", "holds", "(I)Z"⟩, 38) := ⟨⟨by decide +kernel, by decide +kernel⟩, List.mem_of_getElem? (i := 1196) (by decide +kernel), List.mem_of_getElem? (i := 1332) (by decide +kernel), List.mem_of_getElem? (i := 1333) (by decide +kernel)⟩
theorem lw_p30 : lw_okq (⟨"RaidhallModel", "starts", "()V"⟩, 38) := ⟨⟨by decide +kernel, by decide +kernel⟩, List.mem_of_getElem? (i := 1196) (by decide +kernel), List.mem_of_getElem? (i := 1336) (by decide +kernel), List.mem_of_getElem? (i := 1337) (by decide +kernel)⟩
theorem lw_p31 : lw_okq (⟨"RaidhallModel", "isBetween", "()Z"⟩, 38) := ⟨⟨by decide +kernel, by decide +kernel⟩, List.mem_of_getElem? (i := 1196) (by decide +kernel), List.mem_of_getElem? (i := 1347) (by decide +kernel), List.mem_of_getElem? (i := 1348) (by decide +kernel)⟩
def lw_privs_2 : List (MethodName × Nat) := [(⟨"Raidhall$Mats", "passTime", "(I)V"⟩, 4), (⟨"Raidhall$Contest", "goThrough", "(I)I"⟩, 11), (⟨"Raidhall$Mats", "mayStandAsRaid", "(LRaidhall$Event;)Z"⟩, 4), (⟨"Raidhall$Contest", "leadOf", "(I)I"⟩, 11), (⟨"Raidhall$Contest", "playAllAnew", "()V"⟩, 11), (⟨"Raidhall$League", "noteFor", "(III)V"⟩, 6), (⟨"Raidhall", "isDone", "()Z"⟩, 4), (⟨"Raidhall$League", "rankOf", "(I)I"⟩, 6), (⟨"Raidhall$League", "isAhead", "(II)Z"⟩, 6), (⟨"Raidhall$League", "upper", "(I)J"⟩, 6), (⟨"Raidhall$League", "lower", "(I)J"⟩, 6), (⟨"Raidhall$Auction", "rightOn", "(I)I"⟩, 11), (⟨"Raidhall$Auction", "sellTo", "(I)I"⟩, 11), (⟨"RaidhallModel", "holds", "(I)Z"⟩, 38), (⟨"RaidhallModel", "starts", "()V"⟩, 38), (⟨"RaidhallModel", "isBetween", "()Z"⟩, 38)]
theorem lw_r2 : ∀ q ∈ lw_privs_2, lw_okq q := List.forall_mem_cons.mpr ⟨lw_p16, List.forall_mem_cons.mpr ⟨lw_p17, List.forall_mem_cons.mpr ⟨lw_p18, List.forall_mem_cons.mpr ⟨lw_p19, List.forall_mem_cons.mpr ⟨lw_p20, List.forall_mem_cons.mpr ⟨lw_p21, List.forall_mem_cons.mpr ⟨lw_p22, List.forall_mem_cons.mpr ⟨lw_p23, List.forall_mem_cons.mpr ⟨lw_p24, List.forall_mem_cons.mpr ⟨lw_p25, List.forall_mem_cons.mpr ⟨lw_p26, List.forall_mem_cons.mpr ⟨lw_p27, List.forall_mem_cons.mpr ⟨lw_p28, List.forall_mem_cons.mpr ⟨lw_p29, List.forall_mem_cons.mpr ⟨lw_p30, List.forall_mem_cons.mpr ⟨lw_p31, fun _ h => absurd h List.not_mem_nil⟩⟩⟩⟩⟩⟩⟩⟩⟩⟩⟩⟩⟩⟩⟩⟩
theorem lw_p32 : lw_okq (⟨"RaidhallModel", "canRaid", "(I)Z"⟩, 38) := ⟨⟨by decide +kernel, by decide +kernel⟩, List.mem_of_getElem? (i := 1196) (by decide +kernel), List.mem_of_getElem? (i := 1351) (by decide +kernel), List.mem_of_getElem? (i := 1352) (by decide +kernel)⟩
theorem lw_p33 : lw_okq (⟨"RaidhallModel", "turn", "()I"⟩, 38) := ⟨⟨by decide +kernel, by decide +kernel⟩, List.mem_of_getElem? (i := 1196) (by decide +kernel), List.mem_of_getElem? (i := 1355) (by decide +kernel), List.mem_of_getElem? (i := 1356) (by decide +kernel)⟩
theorem lw_p34 : lw_okq (⟨"RaidhallModel", "is", "(III)Z"⟩, 38) := ⟨⟨by decide +kernel, by decide +kernel⟩, List.mem_of_getElem? (i := 1196) (by decide +kernel), List.mem_of_getElem? (i := 1359) (by decide +kernel), List.mem_of_getElem? (i := 1360) (by decide +kernel)⟩
theorem lw_p35 : lw_okq (⟨"RaidhallModel", "adds", "(IIII)I"⟩, 38) := ⟨⟨by decide +kernel, by decide +kernel⟩, List.mem_of_getElem? (i := 1196) (by decide +kernel), List.mem_of_getElem? (i := 1363) (by decide +kernel), List.mem_of_getElem? (i := 1364) (by decide +kernel)⟩
theorem lw_p36 : lw_okq (⟨"RaidhallModel", "canTell", "(III)Z"⟩, 38) := ⟨⟨by decide +kernel, by decide +kernel⟩, List.mem_of_getElem? (i := 1196) (by decide +kernel), List.mem_of_getElem? (i := 1374) (by decide +kernel), List.mem_of_getElem? (i := 1375) (by decide +kernel)⟩
theorem lw_p37 : lw_okq (⟨"RaidhallModel", "canStep", "(II)Z"⟩, 38) := ⟨⟨by decide +kernel, by decide +kernel⟩, List.mem_of_getElem? (i := 1196) (by decide +kernel), List.mem_of_getElem? (i := 1378) (by decide +kernel), List.mem_of_getElem? (i := 1379) (by decide +kernel)⟩
theorem lw_p38 : lw_okq (⟨"RaidhallModel", "endsRaid", "(I)V"⟩, 38) := ⟨⟨by decide +kernel, by decide +kernel⟩, List.mem_of_getElem? (i := 1196) (by decide +kernel), List.mem_of_getElem? (i := 1382) (by decide +kernel), List.mem_of_getElem? (i := 1383) (by decide +kernel)⟩
theorem lw_p39 : lw_okq (⟨"RaidhallModel", "manyThat", "(III)I"⟩, 38) := ⟨⟨by decide +kernel, by decide +kernel⟩, List.mem_of_getElem? (i := 1196) (by decide +kernel), List.mem_of_getElem? (i := 1386) (by decide +kernel), List.mem_of_getElem? (i := 1387) (by decide +kernel)⟩
theorem lw_p40 : lw_okq (⟨"RaidhallModel", "stepsThat", "(II)I"⟩, 38) := ⟨⟨by decide +kernel, by decide +kernel⟩, List.mem_of_getElem? (i := 1196) (by decide +kernel), List.mem_of_getElem? (i := 1390) (by decide +kernel), List.mem_of_getElem? (i := 1391) (by decide +kernel)⟩
theorem lw_p41 : lw_okq (⟨"RaidhallModel", "comesHome", "(III)V"⟩, 38) := ⟨⟨by decide +kernel, by decide +kernel⟩, List.mem_of_getElem? (i := 1196) (by decide +kernel), List.mem_of_getElem? (i := 1394) (by decide +kernel), List.mem_of_getElem? (i := 1395) (by decide +kernel)⟩
theorem lw_p42 : lw_okq (⟨"RaidhallModel", "raiderIsOut", "(III)V"⟩, 38) := ⟨⟨by decide +kernel, by decide +kernel⟩, List.mem_of_getElem? (i := 1196) (by decide +kernel), List.mem_of_getElem? (i := 1398) (by decide +kernel), List.mem_of_getElem? (i := 1399) (by decide +kernel)⟩
theorem lw_p43 : lw_okq (⟨"RaidhallModel", "goesOut", "(II)V"⟩, 38) := ⟨⟨by decide +kernel, by decide +kernel⟩, List.mem_of_getElem? (i := 1196) (by decide +kernel), List.mem_of_getElem? (i := 1402) (by decide +kernel), List.mem_of_getElem? (i := 1403) (by decide +kernel)⟩
theorem lw_p44 : lw_okq (⟨"RaidhallModel", "comesBack", "(I)V"⟩, 38) := ⟨⟨by decide +kernel, by decide +kernel⟩, List.mem_of_getElem? (i := 1196) (by decide +kernel), List.mem_of_getElem? (i := 1406) (by decide +kernel), List.mem_of_getElem? (i := 1407) (by decide +kernel)⟩
theorem lw_p45 : lw_okq (⟨"RaidhallModel", "looksAtMat", "(I)V"⟩, 38) := ⟨⟨by decide +kernel, by decide +kernel⟩, List.mem_of_getElem? (i := 1196) (by decide +kernel), List.mem_of_getElem? (i := 1410) (by decide +kernel), List.mem_of_getElem? (i := 1411) (by decide +kernel)⟩
theorem lw_p46 : lw_okq (⟨"RaidhallModel", "notes", "(I)V"⟩, 38) := ⟨⟨by decide +kernel, by decide +kernel⟩, List.mem_of_getElem? (i := 1196) (by decide +kernel), List.mem_of_getElem? (i := 1414) (by decide +kernel), List.mem_of_getElem? (i := 1415) (by decide +kernel)⟩
theorem lw_p47 : lw_okq (⟨"RaidhallModel", "canCard", "(III)Z"⟩, 38) := ⟨⟨by decide +kernel, by decide +kernel⟩, List.mem_of_getElem? (i := 1196) (by decide +kernel), List.mem_of_getElem? (i := 1425) (by decide +kernel), List.mem_of_getElem? (i := 1426) (by decide +kernel)⟩
def lw_privs_3 : List (MethodName × Nat) := [(⟨"RaidhallModel", "canRaid", "(I)Z"⟩, 38), (⟨"RaidhallModel", "turn", "()I"⟩, 38), (⟨"RaidhallModel", "is", "(III)Z"⟩, 38), (⟨"RaidhallModel", "adds", "(IIII)I"⟩, 38), (⟨"RaidhallModel", "canTell", "(III)Z"⟩, 38), (⟨"RaidhallModel", "canStep", "(II)Z"⟩, 38), (⟨"RaidhallModel", "endsRaid", "(I)V"⟩, 38), (⟨"RaidhallModel", "manyThat", "(III)I"⟩, 38), (⟨"RaidhallModel", "stepsThat", "(II)I"⟩, 38), (⟨"RaidhallModel", "comesHome", "(III)V"⟩, 38), (⟨"RaidhallModel", "raiderIsOut", "(III)V"⟩, 38), (⟨"RaidhallModel", "goesOut", "(II)V"⟩, 38), (⟨"RaidhallModel", "comesBack", "(I)V"⟩, 38), (⟨"RaidhallModel", "looksAtMat", "(I)V"⟩, 38), (⟨"RaidhallModel", "notes", "(I)V"⟩, 38), (⟨"RaidhallModel", "canCard", "(III)Z"⟩, 38)]
theorem lw_r3 : ∀ q ∈ lw_privs_3, lw_okq q := List.forall_mem_cons.mpr ⟨lw_p32, List.forall_mem_cons.mpr ⟨lw_p33, List.forall_mem_cons.mpr ⟨lw_p34, List.forall_mem_cons.mpr ⟨lw_p35, List.forall_mem_cons.mpr ⟨lw_p36, List.forall_mem_cons.mpr ⟨lw_p37, List.forall_mem_cons.mpr ⟨lw_p38, List.forall_mem_cons.mpr ⟨lw_p39, List.forall_mem_cons.mpr ⟨lw_p40, List.forall_mem_cons.mpr ⟨lw_p41, List.forall_mem_cons.mpr ⟨lw_p42, List.forall_mem_cons.mpr ⟨lw_p43, List.forall_mem_cons.mpr ⟨lw_p44, List.forall_mem_cons.mpr ⟨lw_p45, List.forall_mem_cons.mpr ⟨lw_p46, List.forall_mem_cons.mpr ⟨lw_p47, fun _ h => absurd h List.not_mem_nil⟩⟩⟩⟩⟩⟩⟩⟩⟩⟩⟩⟩⟩⟩⟩⟩
theorem lw_p48 : lw_okq (⟨"RaidhallModel", "colourFor", "(III)I"⟩, 38) := ⟨⟨by decide +kernel, by decide +kernel⟩, List.mem_of_getElem? (i := 1196) (by decide +kernel), List.mem_of_getElem? (i := 1429) (by decide +kernel), List.mem_of_getElem? (i := 1430) (by decide +kernel)⟩
theorem lw_p49 : lw_okq (⟨"RaidhallModel", "follows", "(I)Z"⟩, 38) := ⟨⟨by decide +kernel, by decide +kernel⟩, List.mem_of_getElem? (i := 1196) (by decide +kernel), List.mem_of_getElem? (i := 1433) (by decide +kernel), List.mem_of_getElem? (i := 1434) (by decide +kernel)⟩
theorem lw_p50 : lw_okq (⟨"RaidhallModel", "givesCard", "(III)V"⟩, 38) := ⟨⟨by decide +kernel, by decide +kernel⟩, List.mem_of_getElem? (i := 1196) (by decide +kernel), List.mem_of_getElem? (i := 1437) (by decide +kernel), List.mem_of_getElem? (i := 1438) (by decide +kernel)⟩
theorem lw_p51 : lw_okq (⟨"RaidhallModel", "canChange", "(III)Z"⟩, 38) := ⟨⟨by decide +kernel, by decide +kernel⟩, List.mem_of_getElem? (i := 1196) (by decide +kernel), List.mem_of_getElem? (i := 1441) (by decide +kernel), List.mem_of_getElem? (i := 1442) (by decide +kernel)⟩
theorem lw_p52 : lw_okq (⟨"RaidhallModel", "isStep", "(II)Z"⟩, 38) := ⟨⟨by decide +kernel, by decide +kernel⟩, List.mem_of_getElem? (i := 1196) (by decide +kernel), List.mem_of_getElem? (i := 1453) (by decide +kernel), List.mem_of_getElem? (i := 1454) (by decide +kernel)⟩
theorem lw_p53 : lw_okq (⟨"RaidhallModel", "ended", "()I"⟩, 38) := ⟨⟨by decide +kernel, by decide +kernel⟩, List.mem_of_getElem? (i := 1196) (by decide +kernel), List.mem_of_getElem? (i := 1457) (by decide +kernel), List.mem_of_getElem? (i := 1458) (by decide +kernel)⟩
theorem lw_p54 : lw_okq (⟨"RaidhallModel", "falls", "(IIII)I"⟩, 38) := ⟨⟨by decide +kernel, by decide +kernel⟩, List.mem_of_getElem? (i := 1196) (by decide +kernel), List.mem_of_getElem? (i := 1461) (by decide +kernel), List.mem_of_getElem? (i := 1462) (by decide +kernel)⟩
theorem lw_p55 : lw_okq (⟨"RaidhallModel", "canBeSaid", "(III)Z"⟩, 38) := ⟨⟨by decide +kernel, by decide +kernel⟩, List.mem_of_getElem? (i := 1196) (by decide +kernel), List.mem_of_getElem? (i := 1465) (by decide +kernel), List.mem_of_getElem? (i := 1466) (by decide +kernel)⟩
theorem lw_p56 : lw_okq (⟨"RaidhallModel", "says", "(III)V"⟩, 38) := ⟨⟨by decide +kernel, by decide +kernel⟩, List.mem_of_getElem? (i := 1196) (by decide +kernel), List.mem_of_getElem? (i := 1469) (by decide +kernel), List.mem_of_getElem? (i := 1470) (by decide +kernel)⟩
theorem lw_p57 : lw_okq (⟨"RaidhallModel", "plays", "()I"⟩, 38) := ⟨⟨by decide +kernel, by decide +kernel⟩, List.mem_of_getElem? (i := 1196) (by decide +kernel), List.mem_of_getElem? (i := 1473) (by decide +kernel), List.mem_of_getElem? (i := 1474) (by decide +kernel)⟩
theorem lw_p58 : lw_okq (⟨"RaidhallModel", "faultOf", "()I"⟩, 38) := ⟨⟨by decide +kernel, by decide +kernel⟩, List.mem_of_getElem? (i := 1196) (by decide +kernel), List.mem_of_getElem? (i := 1501) (by decide +kernel), List.mem_of_getElem? (i := 1502) (by decide +kernel)⟩
theorem lw_p59 : lw_okq (⟨"RaidhallModel", "readOrder", "()V"⟩, 38) := ⟨⟨by decide +kernel, by decide +kernel⟩, List.mem_of_getElem? (i := 1196) (by decide +kernel), List.mem_of_getElem? (i := 1505) (by decide +kernel), List.mem_of_getElem? (i := 1506) (by decide +kernel)⟩
theorem lw_p60 : lw_okq (⟨"RaidhallModel", "readWord", "()V"⟩, 38) := ⟨⟨by decide +kernel, by decide +kernel⟩, List.mem_of_getElem? (i := 1196) (by decide +kernel), List.mem_of_getElem? (i := 1509) (by decide +kernel), List.mem_of_getElem? (i := 1510) (by decide +kernel)⟩
theorem lw_p61 : lw_okq (⟨"RaidhallModel", "takesAll", "(IIII)V"⟩, 38) := ⟨⟨by decide +kernel, by decide +kernel⟩, List.mem_of_getElem? (i := 1196) (by decide +kernel), List.mem_of_getElem? (i := 1513) (by decide +kernel), List.mem_of_getElem? (i := 1514) (by decide +kernel)⟩
theorem lw_p62 : lw_okq (⟨"RaidhallModel", "takes", "(II)I"⟩, 38) := ⟨⟨by decide +kernel, by decide +kernel⟩, List.mem_of_getElem? (i := 1196) (by decide +kernel), List.mem_of_getElem? (i := 1517) (by decide +kernel), List.mem_of_getElem? (i := 1518) (by decide +kernel)⟩
theorem lw_p63 : lw_okq (⟨"RaidhallModel", "isNext", "(II)Z"⟩, 38) := ⟨⟨by decide +kernel, by decide +kernel⟩, List.mem_of_getElem? (i := 1196) (by decide +kernel), List.mem_of_getElem? (i := 1521) (by decide +kernel), List.mem_of_getElem? (i := 1522) (by decide +kernel)⟩
def lw_privs_4 : List (MethodName × Nat) := [(⟨"RaidhallModel", "colourFor", "(III)I"⟩, 38), (⟨"RaidhallModel", "follows", "(I)Z"⟩, 38), (⟨"RaidhallModel", "givesCard", "(III)V"⟩, 38), (⟨"RaidhallModel", "canChange", "(III)Z"⟩, 38), (⟨"RaidhallModel", "isStep", "(II)Z"⟩, 38), (⟨"RaidhallModel", "ended", "()I"⟩, 38), (⟨"RaidhallModel", "falls", "(IIII)I"⟩, 38), (⟨"RaidhallModel", "canBeSaid", "(III)Z"⟩, 38), (⟨"RaidhallModel", "says", "(III)V"⟩, 38), (⟨"RaidhallModel", "plays", "()I"⟩, 38), (⟨"RaidhallModel", "faultOf", "()I"⟩, 38), (⟨"RaidhallModel", "readOrder", "()V"⟩, 38), (⟨"RaidhallModel", "readWord", "()V"⟩, 38), (⟨"RaidhallModel", "takesAll", "(IIII)V"⟩, 38), (⟨"RaidhallModel", "takes", "(II)I"⟩, 38), (⟨"RaidhallModel", "isNext", "(II)Z"⟩, 38)]
theorem lw_r4 : ∀ q ∈ lw_privs_4, lw_okq q := List.forall_mem_cons.mpr ⟨lw_p48, List.forall_mem_cons.mpr ⟨lw_p49, List.forall_mem_cons.mpr ⟨lw_p50, List.forall_mem_cons.mpr ⟨lw_p51, List.forall_mem_cons.mpr ⟨lw_p52, List.forall_mem_cons.mpr ⟨lw_p53, List.forall_mem_cons.mpr ⟨lw_p54, List.forall_mem_cons.mpr ⟨lw_p55, List.forall_mem_cons.mpr ⟨lw_p56, List.forall_mem_cons.mpr ⟨lw_p57, List.forall_mem_cons.mpr ⟨lw_p58, List.forall_mem_cons.mpr ⟨lw_p59, List.forall_mem_cons.mpr ⟨lw_p60, List.forall_mem_cons.mpr ⟨lw_p61, List.forall_mem_cons.mpr ⟨lw_p62, List.forall_mem_cons.mpr ⟨lw_p63, fun _ h => absurd h List.not_mem_nil⟩⟩⟩⟩⟩⟩⟩⟩⟩⟩⟩⟩⟩⟩⟩⟩
theorem lw_p64 : lw_okq (⟨"RaidhallModel", "errorOfMatch", "(Z)I"⟩, 38) := ⟨⟨by decide +kernel, by decide +kernel⟩, List.mem_of_getElem? (i := 1196) (by decide +kernel), List.mem_of_getElem? (i := 1535) (by decide +kernel), List.mem_of_getElem? (i := 1536) (by decide +kernel)⟩
theorem lw_p65 : lw_okq (⟨"RaidhallModel", "outAt", "(II)I"⟩, 38) := ⟨⟨by decide +kernel, by decide +kernel⟩, List.mem_of_getElem? (i := 1196) (by decide +kernel), List.mem_of_getElem? (i := 1543) (by decide +kernel), List.mem_of_getElem? (i := 1544) (by decide +kernel)⟩
theorem lw_p66 : lw_okq (⟨"RaidhallModel", "hasEnded", "(II)Z"⟩, 38) := ⟨⟨by decide +kernel, by decide +kernel⟩, List.mem_of_getElem? (i := 1196) (by decide +kernel), List.mem_of_getElem? (i := 1567) (by decide +kernel), List.mem_of_getElem? (i := 1568) (by decide +kernel)⟩
theorem lw_p67 : lw_okq (⟨"RaidhallModel", "rankOf", "(I)I"⟩, 38) := ⟨⟨by decide +kernel, by decide +kernel⟩, List.mem_of_getElem? (i := 1196) (by decide +kernel), List.mem_of_getElem? (i := 1588) (by decide +kernel), List.mem_of_getElem? (i := 1589) (by decide +kernel)⟩
theorem lw_p68 : lw_okq (⟨"RaidhallModel", "isAhead", "(II)Z"⟩, 38) := ⟨⟨by decide +kernel, by decide +kernel⟩, List.mem_of_getElem? (i := 1196) (by decide +kernel), List.mem_of_getElem? (i := 1592) (by decide +kernel), List.mem_of_getElem? (i := 1593) (by decide +kernel)⟩
theorem lw_p69 : lw_okq (⟨"RaidhallModel", "canBid", "(III)Z"⟩, 38) := ⟨⟨by decide +kernel, by decide +kernel⟩, List.mem_of_getElem? (i := 1196) (by decide +kernel), List.mem_of_getElem? (i := 1614) (by decide +kernel), List.mem_of_getElem? (i := 1615) (by decide +kernel)⟩
theorem lw_p70 : lw_okq (⟨"RaidhallModel", "sells", "(I)I"⟩, 38) := ⟨⟨by decide +kernel, by decide +kernel⟩, List.mem_of_getElem? (i := 1196) (by decide +kernel), List.mem_of_getElem? (i := 1625) (by decide +kernel), List.mem_of_getElem? (i := 1626) (by decide +kernel)⟩
def lw_privs_5 : List (MethodName × Nat) := [(⟨"RaidhallModel", "errorOfMatch", "(Z)I"⟩, 38), (⟨"RaidhallModel", "outAt", "(II)I"⟩, 38), (⟨"RaidhallModel", "hasEnded", "(II)Z"⟩, 38), (⟨"RaidhallModel", "rankOf", "(I)I"⟩, 38), (⟨"RaidhallModel", "isAhead", "(II)Z"⟩, 38), (⟨"RaidhallModel", "canBid", "(III)Z"⟩, 38), (⟨"RaidhallModel", "sells", "(I)I"⟩, 38)]
theorem lw_r5 : ∀ q ∈ lw_privs_5, lw_okq q := List.forall_mem_cons.mpr ⟨lw_p64, List.forall_mem_cons.mpr ⟨lw_p65, List.forall_mem_cons.mpr ⟨lw_p66, List.forall_mem_cons.mpr ⟨lw_p67, List.forall_mem_cons.mpr ⟨lw_p68, List.forall_mem_cons.mpr ⟨lw_p69, List.forall_mem_cons.mpr ⟨lw_p70, fun _ h => absurd h List.not_mem_nil⟩⟩⟩⟩⟩⟩⟩
def lw_privs : List (MethodName × Nat) := lw_privs_1 ++ (lw_privs_2 ++ (lw_privs_3 ++ (lw_privs_4 ++ (lw_privs_5))))
def lw_tbl : List Cond := k2_sels lw_privs ++ tables_1
theorem lw_privs_ok : ∀ q ∈ lw_privs, lw_okq q := by
  show ∀ q ∈ lw_privs_1 ++ (lw_privs_2 ++ (lw_privs_3 ++ (lw_privs_4 ++ (lw_privs_5)))), lw_okq q
  exact List.forall_mem_append.mpr ⟨lw_r1, List.forall_mem_append.mpr ⟨lw_r2, List.forall_mem_append.mpr ⟨lw_r3, List.forall_mem_append.mpr ⟨lw_r4, lw_r5⟩⟩⟩⟩

/-! ===== BEGIN words of one list among another's, by their places ===== -/
theorem goodIn_r {big : List Cond} (ws : List Cond) (ps : List Nat) (hp : ws = ps.filterMap (fun i => big[i]?)) (h : ws.all goodWord = true) : GoodIn big ws := by
  intro w hw
  have h1 := List.all_eq_true.mp h w hw
  rw [hp] at hw
  obtain ⟨i, -, hi⟩ := List.mem_filterMap.mp hw
  have hm : w ∈ big := by first | exact List.mem_of_getElem? hi | exact List.getElem?_mem hi
  exact ⟨hm, good_of_word h1⟩
theorem goodIn_app {big a b : List Cond} (ha : GoodIn big a) (hb : GoodIn big b) : GoodIn big (a ++ b) := fun w h => (List.mem_append.mp h).elim (ha w) (hb w)
theorem goodIn_ca {big a b : List Cond} {c : Cond} (ha : GoodIn big (c :: a)) (hb : GoodIn big b) : GoodIn big (c :: (a ++ b)) := fun w h => (List.mem_cons.mp h).elim (fun e => ha w (List.mem_cons.mpr (Or.inl e))) (fun h => (List.mem_append.mp h).elim (fun h => ha w (List.mem_cons.mpr (Or.inr h))) (hb w))
theorem goodIn_sub {big ws : List Cond} (hm : ∀ w ∈ ws, w ∈ big) (h : ws.all goodWord = true) : GoodIn big ws := fun w hw => ⟨hm w hw, good_of_word (List.all_eq_true.mp h w hw)⟩
/-! ===== END ===== -/

/-! ===== BEGIN exceptions that leave a method, and their catching by the caller (launches without stack traces) ===== -/
section VXA
/-! The laws vx_back, vx_callV, vx_callS, vx_callSW, vx_throw0, vx_throwS follow proofs of the library, with one case more: JvmDerived/Free/Laws.lean (Back.of_free), Shelf42/LK1.lean (callV, callS), Shelf/KitTraced.lean (throwNew0V, throwNewS). -/
/-- where a method has thrown q: the class by its name, the cell, what was written, the world -/
def vx_T (XC : String → State → State → Prop) (st : State) (q : Addr) (t : State) (mc ms : Nat) (free : Addr → Prop) : Prop :=
  ∃ (E : String) (ce : Cell) (L : List Loc), XC E st t ∧ t.heap[q]? = some ce ∧ ce.vm = .none ∧ st.vm.findClass E = some ce.cls ∧ st.WarmedH t.vm ∧ st.sameButNew ({ t with vm := st.vm } : State) L mc ms ∧ ∀ z ∈ L, free z.base
def vx_Q (Qc : Array Value → State → Outcome → State → Prop) (XC : String → State → State → Prop) (mc ms : Nat) (free : Addr → Prop) : Array Value → State → Outcome → State → Prop := fun a st o t =>
  (Qc a st o t ∧ ∃ L, FrameEnd st o t L mc ms ∧ ∀ q ∈ L, free q.base) ∨ ∃ q, o = .threw q ∧ vx_T XC st q t mc ms free
/-- a callee that returns or throws -/
def vx_Met (l : Launch) (y : MethodName) (ws : List Cond) (rm : Room) (Pc : Array Value → State → Prop) (Qc : Array Value → State → Outcome → State → Prop) (XC : String → State → State → Prop) (mc ms : Nat) (free : Addr → Prop) : Prop :=
  MetFree l y (headSpec ws rm) Pc (fun _ _ _ _ _ => True) (vx_Q Qc XC mc ms free)
def vx_Post (XC : String → State → State → Prop) (mc ms : Nat) (free : Addr → Prop) : Pt → Array Value → Addr → Pt → Prop := fun A a q B =>
  ∃ (g : JFrame) (mk : MethodId) (t : State) (L : List Loc) (E : String) (ce : Cell), B.U.heap = t.heap ∧ B.U.vm = t.vm ∧ XC E (A.U.calling g mk a) t ∧ t.heap[q]? = some ce ∧ ce.vm = .none ∧ A.U.vm.findClass E = some ce.cls ∧ B.locs = A.locs ++ L ∧ (∀ z ∈ L, free z.base) ∧ B.cells = A.cells + mc ∧ B.slots = A.slots + ms
def vx_Back (l : Launch) (R : Room) (p : Program) (e : Env) (below : List Frame) (s : State) (sargs : Array Value) (y : MethodName) (len W9 : Nat)
    (Pre : Pt → Array Value → Prop) (Post : Pt → Array Value → Option Value → Pt → Prop) (PostX : Pt → Array Value → Addr → Pt → Prop) : Prop :=
  ∀ (m : MethodId) (meth : Method) (c : Code) (A : Pt) (g : JFrame) (ig : Instr) (mk : MethodId) (a : Array Value),
    Stand p l e R s m sargs below meth c A.U A.locs A.cells A.slots → g.method = m → g.locals.size = c.maxLocals → decode c.code g.pc = .ok (ig, len) →
    2 * g.monitorRoom + (g.stack.map fun v => v.category).sum ≤ W9 → A.U.methodNamed? y = some mk → Pre A a →
    (∃ (v : Option Value) (B : Pt), Stand p l e R s m sargs below meth c B.U B.locs B.cells B.slots ∧ Post A a v B ∧
      Steps p.tables e below (doInvoke e (A.U.setTop g) [] mk a).1 (B.U.setTop { g with pc := g.pc + len, stack := v.toList ++ g.stack })) ∨
    (∃ (q : Addr) (B : Pt), Stand p l e R s m sargs below meth c B.U B.locs B.cells B.slots ∧ PostX A a q B ∧
      Steps p.tables e below (doInvoke e (A.U.setTop g) [] mk a).1 ((B.U.setTop g).pushFrame (.throwing q)))
section Payer
variable {l : Launch} {R : Room} {p : Program} {e : Env} {below : List Frame} {s : State} {sargs : Array Value} {y : MethodName} {len W9 : Nat}
theorem vx_back {ws : List Cond} {rm : Room} {Pc : Array Value → State → Prop} {Qc : Array Value → State → Outcome → State → Prop} {XC : String → State → State → Prop} {mc ms : Nat} {free : Addr → Prop} {bytes : ByteArray} {maxL : Nat} {ret : Option FieldType}
    (hM : vx_Met l y ws rm Pc Qc XC mc ms free) (hblind : FrameBlind Pc) (hrc : rm.cells = mc) (hrs : rm.slots = ms)
    (hframes : rm.frames + 1 ≤ R.frames) (hlocals : W9 + (maxL + 11) + rm.locals ≤ R.locals)
    (hws : ∀ w ∈ ws, ∀ a' U, s.WarmedH U.vm → w.before a' U = true) (hcode : Cond.code y bytes maxL ret ∈ ws) (hinit : ∀ a' U, s.WarmedH U.vm → (Cond.initialized y.cls).before a' U = true) :
    vx_Back l R p e below s sargs y len W9 (PreOf R mc ms Pc) (PostOf Qc mc ms free) (vx_Post XC mc ms free) := by
  intro m meth c A g ig mk a X hg hsize hdg hW hn hp
  have h1 : (headSpec ws rm).pre.before a A.U = true := atoms_intro fun w hw => hws w hw _ _ X.warmed
  have h2 : (Cond.code y bytes maxL ret).before a A.U = true := hws _ hcode _ _ X.warmed
  have h3 : (Cond.initialized y.cls).before a A.U = true := hinit _ _ X.warmed
  have h4 : A.cells + (headSpec ws rm).room.cells ≤ R.cells := by rw [show (headSpec ws rm).room.cells = mc from hrc]; exact hp.1
  have h5 : A.slots + (headSpec ws rm).room.slots ≤ R.slots := by rw [show (headSpec ws rm).room.slots = ms from hrs]; exact hp.2.1
  have hPc : Pc a (A.U.calling g mk a) := hblind _ _ _ _ hp.2.2
  obtain ⟨U, Ls, c0, s0⟩ := A
  dsimp only [Pt.U, Pt.locs, Pt.cells, Pt.slots] at h1 h2 h3 h4 h5 X hn hPc ⊢
  obtain ⟨methY, cY, hmY, hcY, -, hlY, -, -, -, -⟩ := Cond.code_spec hn h2
  obtain ⟨kY, hkY, -⟩ := className_of_methodNamed hn
  have hinitY : kY.init = .initialized := Cond.initialized_spec (findClass_of_methodNamed hn) hkY h3
  have h : At U g.method c below := by rw [hg]; exact X.here
  have hlocals9 : W9 + (maxL + 11) + (headSpec ws rm).room.locals ≤ R.locals := hlocals
  have happ : (headSpec ws rm).appliesLoose y e.platform (U.calling g mk a) = true :=
    Spec.appliesLoose_calling (g := g) h hdg hn hkY hinitY
      (X.room_calling (g := g) (R' := (headSpec ws rm).room) hsize hmY hcY hframes (by rw [hlY]; omega) h4 h5) h1
  obtain ⟨mid, hmid⟩ := h.above
  have hfr : (U.setTop g).frames = (.java g :: mid) ++ below := by rw [State.frames_setTop' g h.top, hmid]; rfl
  obtain ⟨o, s₂, hsteps, -, hend, hq⟩ := Steps.callFree hM p X.admits X.cas X.clock (acts := []) hfr happ hPc trivial
  have hq' : vx_Q Qc XC mc ms free a (U.calling g mk a) o s₂ := hq
  rw [State.frames_setTop' g h.top] at hend
  obtain ⟨g₀, hg0⟩ := Option.isSome_iff_exists.mp h.top
  obtain ⟨r, hr⟩ := State.topJava?_eq_some.mp hg0
  have hr' : (({ U with heap := s₂.heap, slotsUsed := s₂.slotsUsed } : State).setVm s₂.vm).frames = .java g₀ :: r := hr
  rcases hq' with ⟨hqc, L, hfe, hL⟩ | ⟨q, rfl, E, ce, L, hx, hce, hcv, hcl, hW₂, hsm, hL⟩
  · obtain ⟨⟨v, rfl⟩, hW₂, e2, q2, q3, q4, q5, q6⟩ := id hfe
    have e3 : s₂ = ({ (U.calling g mk a).setFrames s₂.frames with heap := s₂.heap, slotsUsed := s₂.slotsUsed } : State).setVm s₂.vm := by
      have : s₂ = ({ s₂ with vm := (U.calling g mk a).vm } : State).setVm s₂.vm := rfl
      rw [e2] at this
      exact this
    obtain ⟨c₂, i₂, len₂, hc₂, hd₂, hf₂⟩ := hend
    have hW' : U.WarmedH s₂.vm := hW₂
    have hcc : c₂ = c := by
      have h1 : s₂.code? g.method = U.code? g.method := by
        rw [State.code?_eq, State.code?_eq, hW'.alike.method?]
      exact Option.some.inj (hc₂.symm.trans (h1.trans h.code))
    subst hcc
    have hlen : len₂ = len := by rw [hdg] at hd₂; cases hd₂; rfl
    subst hlen
    have hs₂ : s₂ = (({ U with heap := s₂.heap, slotsUsed := s₂.slotsUsed } : State).setVm s₂.vm).setTop { g with pc := g.pc + len₂, stack := v.toList ++ g.stack } := by
      refine e3.trans ?_
      rw [hf₂, State.calling_eq h.top, State.setFrames_setFrames, State.setTop_of_frames _ hr', hr]
      rfl
    have hsame : U.sameButNew ({ U with heap := s₂.heap, slotsUsed := s₂.slotsUsed } : State) L mc ms := by
      refine ⟨?_, q2, q3, q4, q5, q6⟩
      obtain ⟨t, ht, -⟩ := State.frames_cons hr
      show ({ U with heap := s₂.heap, slotsUsed := s₂.slotsUsed } : State) = { U.setFrames U.frames with heap := s₂.heap, slotsUsed := s₂.slotsUsed }
      rw [State.setFrames_self ht]
    subst hg
    refine Or.inl ⟨v, ⟨(({ U with heap := s₂.heap, slotsUsed := s₂.slotsUsed } : State).setVm s₂.vm), Ls ++ L, c0 + mc, s0 + ms⟩,
      ⟨X.admits, X.cas, X.clock, X.frames, X.room, X.hears, X.method, X.code, (X.here.setHeapUsed s₂.heap s₂.slotsUsed).setVm hW'.alike, X.tail, State.WarmedH.trans X.warmed hW', X.limits, X.bytes, X.same.trans (hsame.setVm s.vm)⟩,
      ⟨g, mk, s₂, L, rfl, rfl, hqc, rfl, hL, rfl, rfl⟩, ?_⟩
    show Steps p.tables e below _ ((({ U with heap := s₂.heap, slotsUsed := s₂.slotsUsed } : State).setVm s₂.vm).setTop { g with pc := g.pc + len₂, stack := v.toList ++ g.stack })
    rw [← hs₂]
    exact hsteps
  · obtain ⟨e2, q2, q3, q4, q5, q6⟩ := id hsm
    have e3 : s₂ = ({ (U.calling g mk a).setFrames s₂.frames with heap := s₂.heap, slotsUsed := s₂.slotsUsed } : State).setVm s₂.vm := by
      have : s₂ = ({ s₂ with vm := (U.calling g mk a).vm } : State).setVm s₂.vm := rfl
      rw [e2] at this
      exact this
    have hf₂ : s₂.frames = .throwing q :: .java g :: U.frames.tail := hend
    have hW' : U.WarmedH s₂.vm := hW₂
    have hs₂ : s₂ = ((({ U with heap := s₂.heap, slotsUsed := s₂.slotsUsed } : State).setVm s₂.vm).setTop g).pushFrame (.throwing q) := by
      refine e3.trans ?_
      rw [hf₂, State.calling_eq h.top, State.setFrames_setFrames, State.pushFrame, State.frames_setTop _ hr', State.setTop_of_frames _ hr', State.setFrames_setFrames, hr]
      rfl
    have hsame : U.sameButNew ({ U with heap := s₂.heap, slotsUsed := s₂.slotsUsed } : State) L mc ms := by
      refine ⟨?_, q2, q3, q4, q5, q6⟩
      obtain ⟨t, ht, -⟩ := State.frames_cons hr
      show ({ U with heap := s₂.heap, slotsUsed := s₂.slotsUsed } : State) = { U.setFrames U.frames with heap := s₂.heap, slotsUsed := s₂.slotsUsed }
      rw [State.setFrames_self ht]
    subst hg
    refine Or.inr ⟨q, ⟨(({ U with heap := s₂.heap, slotsUsed := s₂.slotsUsed } : State).setVm s₂.vm), Ls ++ L, c0 + mc, s0 + ms⟩,
      ⟨X.admits, X.cas, X.clock, X.frames, X.room, X.hears, X.method, X.code, (X.here.setHeapUsed s₂.heap s₂.slotsUsed).setVm hW'.alike, X.tail, State.WarmedH.trans X.warmed hW', X.limits, X.bytes, X.same.trans (hsame.setVm s.vm)⟩,
      ⟨g, mk, s₂, L, E, ce, rfl, rfl, hx, hce, hcv, hcl, rfl, hL, rfl, rfl⟩, ?_⟩
    show Steps p.tables e below _ (((({ U with heap := s₂.heap, slotsUsed := s₂.slotsUsed } : State).setVm s₂.vm).setTop g).pushFrame (.throwing q))
    rw [← hs₂]
    exact hsteps
end Payer
section Calls
variable {p : Program} {l : Launch} {e : Env} {R : Room} {s : State} {m : MethodId} {args : Array Value} {below : List Frame} {meth : Method} {c : Code} {T : State} {locs : List Loc} {cells slots : Nat}
theorem vx_callV (X : Stand p l e R s m args below meth c T locs cells slots) (hexec : p.tables.exec = Jvm.exec) {own C : String} {index : Nat} {y : MethodName} {bytes : ByteArray} {maxL : Nat} {ret : Option FieldType}
    (hown : s.vm.findClass own = some m.cls) (hlink : (Cond.methodLink own index y).before args s = true) (hinst : (Cond.instanceMethod y).before args s = true) (hsel : (Cond.selects C y y).before args s = true)
    (hcode : (Cond.code y bytes maxL ret).before args s = true) (hy : y.cls ≠ "java/lang/invoke/MethodHandle" ∧ y.cls ≠ "java/lang/invoke/VarHandle")
    {W9 : Nat} {Pre : Pt → Array Value → Prop} {Post : Pt → Array Value → Option Value → Pt → Prop} {PostX : Pt → Array Value → Addr → Pt → Prop} (hK : vx_Back l R p e below s args y 3 W9 Pre Post PostX)
    {b : Addr} {cellB : Cell} (hcell : T.heap[b]? = some cellB) (hobj : cellB.vm.isStatics = false) (hcls : s.vm.findClass C = some cellB.cls)
    {g : JFrame} (hg : g.method = m) (hsize : g.locals.size = c.maxLocals) {argsL rest : List Value} (hlen : ∀ sig, parseMethodDescriptor y.desc = some sig → argsL.length = sig.parameters.length)
    (hstack : g.stack = argsL.reverse ++ .ref b :: rest) (hW : 2 * g.monitorRoom + (rest.map fun v => v.category).sum ≤ W9) (hdg : decode c.code g.pc = .ok (.invokevirtual index, 3))
    (hpre : ∀ vm₁, s.WarmedH vm₁ → Pre ⟨T.setVm vm₁, locs, cells, slots⟩ (Value.ref b :: argsL).toArray) :
    (∃ (v : Option Value) (vm₁ : Vm) (B : Pt), s.WarmedH vm₁ ∧ Stand p l e R s m args below meth c B.U B.locs B.cells B.slots ∧ Post ⟨T.setVm vm₁, locs, cells, slots⟩ (Value.ref b :: argsL).toArray v B ∧
      ∀ target, Steps p.tables e below (B.U.setTop { g with pc := g.pc + 3, stack := v.toList ++ rest }) target → Steps p.tables e below (T.setTop g) target) ∨
    (∃ (q : Addr) (vm₁ : Vm) (B : Pt), s.WarmedH vm₁ ∧ Stand p l e R s m args below meth c B.U B.locs B.cells B.slots ∧ PostX ⟨T.setVm vm₁, locs, cells, slots⟩ (Value.ref b :: argsL).toArray q B ∧
      Steps p.tables e below (T.setTop g) ((B.U.setTop { g with stack := rest }).pushFrame (.throwing q))) := by
  obtain ⟨mk, methM, hnamed, hmethM, hstM, habM⟩ := Cond.instanceMethod_spec hinst
  obtain ⟨methM', cM, hmethM', -, -, -, -, -, -, hsigM⟩ := Cond.code_spec hnamed hcode
  cases hmethM.symm.trans hmethM'
  obtain ⟨c2, r2, m2, q1, q2, q3, q4, kP, hkP, hkPi⟩ := Cond.selects_spec hsel
  cases hcls.symm.trans q1
  cases (State.methodFound?_of_named hnamed hy).symm.trans q2
  cases hnamed.symm.trans q3
  have hselP : selectMethod e.platform s.vm cellB.cls mk = .method mk := by rw [Launch.admits_selectMethod X.admits]; exact q4
  obtain ⟨vm₁, X₁, hstep₁⟩ := X.invokevirtual hexec hown hlink hnamed hmethM hstM hkP hkPi hy (a := b) (cell := cellB) hcell
    (fun z h => by rw [h] at hobj; cases hobj) hselP hmethM habM hkP hkPi (g := g) hg (argsL := argsL) (rest := rest) (hlen _ hsigM) hstack hdg
  rcases hK m meth c ⟨T.setVm vm₁, locs, cells, slots⟩ { g with stack := rest } (.invokevirtual index) mk (Value.ref b :: argsL).toArray X₁ hg hsize hdg hW (X₁.named hnamed) (hpre vm₁ X₁.warmed) with ⟨v, B, X', hpost, hsteps⟩ | ⟨q, B, X', hpost, hsteps⟩
  · exact Or.inl ⟨v, vm₁, B, X₁.warmed, X', hpost, fun target h => hstep₁ _ fun acts => by rw [doInvoke_state]; exact hsteps.trans h⟩
  · exact Or.inr ⟨q, vm₁, B, X₁.warmed, X', hpost, hstep₁ _ fun acts => by rw [doInvoke_state]; exact hsteps⟩
theorem vx_callS (X : Stand p l e R s m args below meth c T locs cells slots) (hexec : p.tables.exec = Jvm.exec) {own : String} {index : Nat} {y : MethodName} {bytes : ByteArray} {maxL : Nat} {ret : Option FieldType}
    (hown : s.vm.findClass own = some m.cls) (hlink : (Cond.methodLink own index y).before args s = true) (hstat : (Cond.static y).before args s = true) (hinit : (Cond.initialized y.cls).before args s = true)
    (hcode : (Cond.code y bytes maxL ret).before args s = true) (hy : y.cls ≠ "java/lang/invoke/MethodHandle" ∧ y.cls ≠ "java/lang/invoke/VarHandle")
    {W9 : Nat} {Pre : Pt → Array Value → Prop} {Post : Pt → Array Value → Option Value → Pt → Prop} {PostX : Pt → Array Value → Addr → Pt → Prop} (hK : vx_Back l R p e below s args y 3 W9 Pre Post PostX)
    {g : JFrame} (hg : g.method = m) (hsize : g.locals.size = c.maxLocals) {argsL rest : List Value} (hlen : ∀ sig, parseMethodDescriptor y.desc = some sig → argsL.length = sig.parameters.length)
    (hstack : g.stack = argsL.reverse ++ rest) (hW : 2 * g.monitorRoom + (rest.map fun v => v.category).sum ≤ W9) (hdg : decode c.code g.pc = .ok (.invokestatic index, 3))
    (hpre : ∀ vm₁, s.WarmedH vm₁ → Pre ⟨T.setVm vm₁, locs, cells, slots⟩ argsL.toArray) :
    (∃ (v : Option Value) (vm₁ : Vm) (B : Pt), s.WarmedH vm₁ ∧ Stand p l e R s m args below meth c B.U B.locs B.cells B.slots ∧ Post ⟨T.setVm vm₁, locs, cells, slots⟩ argsL.toArray v B ∧
      ∀ target, Steps p.tables e below (B.U.setTop { g with pc := g.pc + 3, stack := v.toList ++ rest }) target → Steps p.tables e below (T.setTop g) target) ∨
    (∃ (q : Addr) (vm₁ : Vm) (B : Pt), s.WarmedH vm₁ ∧ Stand p l e R s m args below meth c B.U B.locs B.cells B.slots ∧ PostX ⟨T.setVm vm₁, locs, cells, slots⟩ argsL.toArray q B ∧
      Steps p.tables e below (T.setTop g) ((B.U.setTop { g with stack := rest }).pushFrame (.throwing q))) := by
  obtain ⟨mk, hnamed⟩ := Cond.code_named hcode
  obtain ⟨methM, cM, hmethM, -, -, -, -, -, -, hsigM⟩ := Cond.code_spec hnamed hcode
  have hstatic : methM.isStatic = true := Cond.static_spec hnamed hmethM hstat
  obtain ⟨kP, hkP, -⟩ := className_of_methodNamed hnamed
  have hinitP : kP.init = .initialized := Cond.initialized_spec (findClass_of_methodNamed hnamed) hkP hinit
  obtain ⟨vm₁, X₁, hstep₁⟩ := X.invokestatic hexec hown hlink hnamed hmethM hstatic hkP hinitP hy (g := g) hg (argsL := argsL) (rest := rest) (hlen _ hsigM) hstack hdg
  rcases hK m meth c ⟨T.setVm vm₁, locs, cells, slots⟩ { g with stack := rest } (.invokestatic index) mk argsL.toArray X₁ hg hsize hdg hW (X₁.named hnamed) (hpre vm₁ X₁.warmed) with ⟨v, B, X', hpost, hsteps⟩ | ⟨q, B, X', hpost, hsteps⟩
  · exact Or.inl ⟨v, vm₁, B, X₁.warmed, X', hpost, fun target h => hstep₁ _ fun acts => by rw [doInvoke_state]; exact hsteps.trans h⟩
  · exact Or.inr ⟨q, vm₁, B, X₁.warmed, X', hpost, hstep₁ _ fun acts => by rw [doInvoke_state]; exact hsteps⟩
end Calls
theorem vx_cls {s : State} {T : State} {vm₁ : Vm} {E : String} {k : ClassId} (hW : s.WarmedH vm₁) (h : (T.setVm vm₁).vm.findClass E = some k) : s.vm.findClass E = some k := by
  have h1 : vm₁.findClass E = some k := h
  rw [hW.alike.findClass] at h1
  exact h1
/-- the method's frame g, with q thrown over it -/
def vx_W (p : Program) (l : Launch) (e : Env) (R : Room) (s : State) (m : MethodId) (args : Array Value) (below : List Frame) (meth : Method) (c : Code) (H : Heap) (locs : List Loc) (cells slots : Nat) (Q : State → Prop) (g : JFrame) (q : Addr) : Prop :=
  ∀ T : State, T.heap = H → Stand p l e R s m args below meth c T locs cells slots → ∃ t, Steps p.tables e below ((T.setTop g).pushFrame (.throwing q)) t ∧ Q t
def vx_Run (p : Program) (l : Launch) (e : Env) (R : Room) (s : State) (m : MethodId) (args : Array Value) (below : List Frame) (meth : Method) (c : Code) (H : Heap) (locs : List Loc) (cells slots mc ms : Nat) (g : JFrame) (rest : List Value) (Qa : State → Outcome → State → Prop) (XC : String → State → State → Prop) (free : Addr → Prop) : Prop :=
  ∀ T : State, T.heap = H → Stand p l e R s m args below meth c T locs cells slots →
    (∃ (v : Option Value) (st₀ t T' : State) (L : List Loc), st₀.heap = H ∧ Stand p l e R s m args below meth c T' (locs ++ L) (cells + mc) (slots + ms) ∧ (∀ q ∈ L, free q.base) ∧ T'.heap = t.heap ∧ T'.vm = t.vm ∧ Qa st₀ (.returned v) t ∧
      Goes p e below T g T' { g with pc := g.pc + 3, stack := v.toList ++ rest }) ∨
    (∃ (q : Addr) (st₀ t T' : State) (L : List Loc) (E : String) (ce : Cell), st₀.heap = H ∧ Stand p l e R s m args below meth c T' (locs ++ L) (cells + mc) (slots + ms) ∧ (∀ z ∈ L, free z.base) ∧ T'.heap = t.heap ∧ T'.vm = t.vm ∧ XC E st₀ t ∧ t.heap[q]? = some ce ∧ ce.vm = .none ∧ s.vm.findClass E = some ce.cls ∧
      Steps p.tables e below (T.setTop g) ((T'.setTop { g with stack := rest }).pushFrame (.throwing q)))
def vx_X {S : Type} (px : S → Prop) (B : String → S → State → Prop) (A : Nat → Prop) : String → State → State → Prop := fun E st t => ∃ u : S, px u ∧ B E u t ∧ va_F A st t
section Runs
variable {p : Program} {l : Launch} {e : Env} {R : Room} {s : State} {m : MethodId} {args : Array Value} {below : List Frame} {meth : Method} {c : Code} {H : Heap} {locs : List Loc} {cells slots : Nat}
variable {y : MethodName} {bytes cc : ByteArray} {maxL nL mc ms n index : Nat} {ret : Option FieldType} {ws : List Cond} {rm : Room} {Pc : Array Value → State → Prop} {Qc : Array Value → State → Outcome → State → Prop} {XC : String → State → State → Prop} {free : Addr → Prop} {Ts : List Cond} {own C : String} {b : Addr} {As rest : List Value} {g : JFrame}
theorem vx_callBack (cb : CallB R s args own index y bytes maxL ret ws rm mc ms n) (hM : vx_Met l y ws rm Pc Qc XC mc ms free) (hbl : FrameBlind Pc) : vx_Back l R p e below s args y 3 8 (PreOf R mc ms Pc) (PostOf Qc mc ms free) (vx_Post XC mc ms free) := by
  obtain ⟨hrc, hrs, hfr, hlo, hws, hcw, -, hini, -⟩ := cb
  exact vx_back (bytes := bytes) (maxL := maxL) (ret := ret) hM hbl hrc hrs hfr hlo hws hcw (fun a' U hW => word_at hW (Or.inl (by first | rfl | simp [Cond.onTables, Cond.keeps, Cond.steady])) hini)
theorem vx_runV (S : CallFix p m c cc nL s args Ts own) (hM : vx_Met l y ws rm Pc Qc XC mc ms free) (cw : CallW R s args own C index y bytes maxL ret ws rm mc ms n) (hp : PreV s H C b Pc As)
    (hg : g.method = m) (hn : As.length = n) (hsize : g.locals.size = nL) (hstack : g.stack = As.reverse ++ .ref b :: rest) (hW : 2 * g.monitorRoom + (rest.map fun v => v.category).sum ≤ 8) (hdg : decode cc g.pc = .ok (.invokevirtual index, 3)) (hf : cells + mc ≤ R.cells ∧ slots + ms ≤ R.slots) :
    vx_Run p l e R s m args below meth c H locs cells slots mc ms g rest (Qc (Value.ref b :: As).toArray) XC free := by
  have hK : vx_Back l R p e below s args y 3 8 (PreOf R mc ms Pc) (PostOf Qc mc ms free) (vx_Post XC mc ms free) := vx_callBack cw.1 hM hp.1
  obtain ⟨⟨-, -, -, -, -, -, hcode, -, hy, hlen, hl⟩, hin, hse⟩ := cw
  obtain ⟨hx, hb, hml, ho, -⟩ := S
  obtain ⟨-, ⟨cellB, hcB, hoB, hclB⟩, hPc⟩ := hp
  intro T hT X
  rcases vx_callV X hx (C := C) (bytes := bytes) (maxL := maxL) (ret := ret) ho hl hin hse hcode hy hK (by rw [hT]; exact hcB) hoB hclB hg (hsize.trans hml.symm) (argsL := As) (rest := rest) (fun sig h => hn.trans (hlen sig h)) hstack hW (by rw [hb]; exact hdg)
    (fun vm₁ hW₁ => ⟨hf.1, hf.2, hPc (T.setVm vm₁) hT hW₁⟩) with ⟨v, vm₁, ⟨U', l2, c2, s2⟩, hW₁, X', ⟨g', mk, t, L, e1, e2, hq, h1, hL, h2, h3⟩, st⟩ | ⟨q, vm₁, ⟨U', l2, c2, s2⟩, hW₁, X', ⟨g', mk, t, L, E, ce, e1, e2, hq, hce, hcv, hcl, h1, hL, h2, h3⟩, st⟩
  · dsimp only [Pt.U, Pt.locs, Pt.cells, Pt.slots] at X' e1 e2 h1 h2 h3 st
    subst h1; subst h2; subst h3
    exact Or.inl ⟨v, (T.setVm vm₁).calling g' mk (Value.ref b :: As).toArray, t, U', L, hT, X', hL, e1, e2, hq, st⟩
  · dsimp only [Pt.U, Pt.locs, Pt.cells, Pt.slots] at X' e1 e2 h1 h2 h3 st hcl
    subst h1; subst h2; subst h3
    exact Or.inr ⟨q, (T.setVm vm₁).calling g' mk (Value.ref b :: As).toArray, t, U', L, E, ce, hT, X', hL, e1, e2, hq, hce, hcv, vx_cls hW₁ hcl, st⟩
theorem vx_runS (S : CallFix p m c cc nL s args Ts own) (hM : vx_Met l y ws rm Pc Qc XC mc ms free) (cw : CallB R s args own index y bytes maxL ret ws rm mc ms n ∧ (Cond.static y).before args s = true) (hp : PreS s H Pc As)
    (hg : g.method = m) (hn : As.length = n) (hsize : g.locals.size = nL) (hstack : g.stack = As.reverse ++ rest) (hW : 2 * g.monitorRoom + (rest.map fun v => v.category).sum ≤ 8) (hdg : decode cc g.pc = .ok (.invokestatic index, 3)) (hf : cells + mc ≤ R.cells ∧ slots + ms ≤ R.slots) :
    vx_Run p l e R s m args below meth c H locs cells slots mc ms g rest (Qc As.toArray) XC free := by
  have hK : vx_Back l R p e below s args y 3 8 (PreOf R mc ms Pc) (PostOf Qc mc ms free) (vx_Post XC mc ms free) := vx_callBack cw.1 hM hp.1
  obtain ⟨⟨-, -, -, -, -, -, hcode, hini, hy, hlen, hl⟩, hstt⟩ := cw
  obtain ⟨hx, hb, hml, ho, -⟩ := S
  intro T hT X
  rcases vx_callS X hx (bytes := bytes) (maxL := maxL) (ret := ret) ho hl hstt hini hcode hy hK hg (hsize.trans hml.symm) (argsL := As) (rest := rest) (fun sig h => hn.trans (hlen sig h)) hstack hW (by rw [hb]; exact hdg)
    (fun vm₁ hW₁ => ⟨hf.1, hf.2, hp.2 (T.setVm vm₁) hT hW₁⟩) with ⟨v, vm₁, ⟨U', l2, c2, s2⟩, hW₁, X', ⟨g', mk, t, L, e1, e2, hq, h1, hL, h2, h3⟩, st⟩ | ⟨q, vm₁, ⟨U', l2, c2, s2⟩, hW₁, X', ⟨g', mk, t, L, E, ce, e1, e2, hq, hce, hcv, hcl, h1, hL, h2, h3⟩, st⟩
  · dsimp only [Pt.U, Pt.locs, Pt.cells, Pt.slots] at X' e1 e2 h1 h2 h3 st
    subst h1; subst h2; subst h3
    exact Or.inl ⟨v, (T.setVm vm₁).calling g' mk As.toArray, t, U', L, hT, X', hL, e1, e2, hq, st⟩
  · dsimp only [Pt.U, Pt.locs, Pt.cells, Pt.slots] at X' e1 e2 h1 h2 h3 st hcl
    subst h1; subst h2; subst h3
    exact Or.inr ⟨q, (T.setVm vm₁).calling g' mk As.toArray, t, U', L, E, ce, hT, X', hL, e1, e2, hq, hce, hcv, vx_cls hW₁ hcl, st⟩
end Runs
section Rows
variable {p : Program} {l : Launch} {e : Env} {R : Room} {s : State} {m : MethodId} {args : Array Value} {below : List Frame} {meth : Method} {c : Code} {H : Heap} {locs : List Loc} {cells slots : Nat} {Q : State → Prop}
variable {mc ms : Nat} {free : Addr → Prop} {A0 A1 : Nat → Prop} {H0 : Heap} {a : Array Value} {pc : Nat} {ls : Array Slot} {st0 rest : List Value}
theorem vx_keep {st₀ t T' : State} {L : List Loc} (h0 : st₀.heap = H) (e1 : T'.heap = t.heap) (hS : va_S A0 H0 H locs) (hA : ∀ q, q < H.size → A1 q → A0 q) (hf : ∀ q, free q → A0 q) (hL : ∀ q ∈ L, free q.base) (hF : va_F A1 st₀ t) :
    H.size ≤ T'.heap.size ∧ (∀ q : Nat, q < H.size → ¬ A1 q → T'.heap[q]? = H[q]?) ∧ va_S A0 H0 T'.heap (locs ++ L) := by
  obtain ⟨hz, hk⟩ := hF
  rw [h0] at hz hk
  exact ⟨by rw [e1]; exact hz, fun q h1 h2 => by rw [e1]; exact hk q h1 h2,
    ⟨Nat.le_trans hS.1 (by rw [e1]; exact hz), fun q h1 h2 => by rw [e1, hk q (Nat.lt_of_lt_of_le h1 hS.1) (fun z => h2 (hA q (Nat.lt_of_lt_of_le h1 hS.1) z))]; exact hS.2.1 q h1 h2, fun q hq => by
      rcases List.mem_append.mp hq with h | h
      · exact hS.2.2 q h
      · exact hf _ (hL q h)⟩⟩
theorem vx_calli {S SX : Type} {post : Int32 → S → Prop} {px : SX → Prop} {B : S → State → Prop} {BX : String → SX → State → Prop} {AX : Nat → Prop} (hr : vx_Run p l e R s m args below meth c H locs cells slots mc ms (F0 m pc ls st0) rest (va_Qi post B A1 a) (vx_X px BX AX) free) (hS : va_S A0 H0 H locs) (hA : ∀ q, q < H.size → A1 q → A0 q) (hf : ∀ q, free q → A0 q) (hAX : ∀ q, q < H.size → AX q → A0 q)
    (kx : ∀ (E : String) (ce : Cell) (q9 : Addr) (u : SX) (t : State) (H1 : Heap) (locs1 : List Loc), t.heap = H1 → s.vm.Alike t.vm → px u → BX E u t → H.size ≤ H1.size → (∀ q : Nat, q < H.size → ¬ AX q → H1[q]? = H[q]?) → va_S A0 H0 H1 locs1 → H1[q9]? = some ce → ce.vm = .none → s.vm.findClass E = some ce.cls → vx_W p l e R s m args below meth c H1 locs1 (cells + mc) (slots + ms) Q (F0 m pc ls rest) q9)
    (kk : ∀ (r : Int32) (u : S) (t : State) (H1 : Heap) (locs1 : List Loc), t.heap = H1 → s.vm.Alike t.vm → post r u → B u t → H.size ≤ H1.size → (∀ q : Nat, q < H.size → ¬ A1 q → H1[q]? = H[q]?) → va_S A0 H0 H1 locs1 → W p l e R s m args below meth c H1 locs1 (cells + mc) (slots + ms) Q (F0 m (pc + 3) ls (.int r :: rest))) : W p l e R s m args below meth c H locs cells slots Q (F0 m pc ls st0) := by
  intro T hT X
  rcases hr T hT X with ⟨v, st₀, t, T', L, h0, X', hL, e1, e2, ⟨⟨r, u, hv, hp, hb⟩, hF⟩, st⟩ | ⟨q, st₀, t, T', L, E, ce, h0, X', hL, e1, e2, ⟨u, hp, hb, hF⟩, hce, hcv, hcl, st⟩
  · cases hv
    obtain ⟨k1, k2, k3⟩ := vx_keep h0 e1 hS hA hf hL hF
    obtain ⟨t2, a1, b1⟩ := kk r u t T'.heap (locs ++ L) e1.symm (by rw [← e2]; exact X'.warmed.alike) hp hb k1 k2 k3 T' rfl X'
    exact ⟨t2, st t2 a1, b1⟩
  · obtain ⟨k1, k2, k3⟩ := vx_keep h0 e1 hS hAX hf hL hF
    obtain ⟨t2, a1, b1⟩ := kx E ce q u t T'.heap (locs ++ L) e1.symm (by rw [← e2]; exact X'.warmed.alike) hp hb k1 k2 k3 (by rw [e1]; exact hce) hcv hcl T' rfl X'
    exact ⟨t2, st.trans a1, b1⟩
theorem vx_calll {S SX : Type} {post : Int64 → S → Prop} {px : SX → Prop} {B : S → State → Prop} {BX : String → SX → State → Prop} {AX : Nat → Prop} (hr : vx_Run p l e R s m args below meth c H locs cells slots mc ms (F0 m pc ls st0) rest (va_Ql post B A1 a) (vx_X px BX AX) free) (hS : va_S A0 H0 H locs) (hA : ∀ q, q < H.size → A1 q → A0 q) (hf : ∀ q, free q → A0 q) (hAX : ∀ q, q < H.size → AX q → A0 q)
    (kx : ∀ (E : String) (ce : Cell) (q9 : Addr) (u : SX) (t : State) (H1 : Heap) (locs1 : List Loc), t.heap = H1 → s.vm.Alike t.vm → px u → BX E u t → H.size ≤ H1.size → (∀ q : Nat, q < H.size → ¬ AX q → H1[q]? = H[q]?) → va_S A0 H0 H1 locs1 → H1[q9]? = some ce → ce.vm = .none → s.vm.findClass E = some ce.cls → vx_W p l e R s m args below meth c H1 locs1 (cells + mc) (slots + ms) Q (F0 m pc ls rest) q9)
    (kk : ∀ (r : Int64) (u : S) (t : State) (H1 : Heap) (locs1 : List Loc), t.heap = H1 → s.vm.Alike t.vm → post r u → B u t → H.size ≤ H1.size → (∀ q : Nat, q < H.size → ¬ A1 q → H1[q]? = H[q]?) → va_S A0 H0 H1 locs1 → W p l e R s m args below meth c H1 locs1 (cells + mc) (slots + ms) Q (F0 m (pc + 3) ls (.long r :: rest))) : W p l e R s m args below meth c H locs cells slots Q (F0 m pc ls st0) := by
  intro T hT X
  rcases hr T hT X with ⟨v, st₀, t, T', L, h0, X', hL, e1, e2, ⟨⟨r, u, hv, hp, hb⟩, hF⟩, st⟩ | ⟨q, st₀, t, T', L, E, ce, h0, X', hL, e1, e2, ⟨u, hp, hb, hF⟩, hce, hcv, hcl, st⟩
  · cases hv
    obtain ⟨k1, k2, k3⟩ := vx_keep h0 e1 hS hA hf hL hF
    obtain ⟨t2, a1, b1⟩ := kk r u t T'.heap (locs ++ L) e1.symm (by rw [← e2]; exact X'.warmed.alike) hp hb k1 k2 k3 T' rfl X'
    exact ⟨t2, st t2 a1, b1⟩
  · obtain ⟨k1, k2, k3⟩ := vx_keep h0 e1 hS hAX hf hL hF
    obtain ⟨t2, a1, b1⟩ := kx E ce q u t T'.heap (locs ++ L) e1.symm (by rw [← e2]; exact X'.warmed.alike) hp hb k1 k2 k3 (by rw [e1]; exact hce) hcv hcl T' rfl X'
    exact ⟨t2, st.trans a1, b1⟩
theorem vx_callf {S SX : Type} {post : UInt32 → S → Prop} {px : SX → Prop} {B : S → State → Prop} {BX : String → SX → State → Prop} {AX : Nat → Prop} (hr : vx_Run p l e R s m args below meth c H locs cells slots mc ms (F0 m pc ls st0) rest (va_Qf post B A1 a) (vx_X px BX AX) free) (hS : va_S A0 H0 H locs) (hA : ∀ q, q < H.size → A1 q → A0 q) (hf : ∀ q, free q → A0 q) (hAX : ∀ q, q < H.size → AX q → A0 q)
    (kx : ∀ (E : String) (ce : Cell) (q9 : Addr) (u : SX) (t : State) (H1 : Heap) (locs1 : List Loc), t.heap = H1 → s.vm.Alike t.vm → px u → BX E u t → H.size ≤ H1.size → (∀ q : Nat, q < H.size → ¬ AX q → H1[q]? = H[q]?) → va_S A0 H0 H1 locs1 → H1[q9]? = some ce → ce.vm = .none → s.vm.findClass E = some ce.cls → vx_W p l e R s m args below meth c H1 locs1 (cells + mc) (slots + ms) Q (F0 m pc ls rest) q9)
    (kk : ∀ (r : UInt32) (u : S) (t : State) (H1 : Heap) (locs1 : List Loc), t.heap = H1 → s.vm.Alike t.vm → post r u → B u t → H.size ≤ H1.size → (∀ q : Nat, q < H.size → ¬ A1 q → H1[q]? = H[q]?) → va_S A0 H0 H1 locs1 → W p l e R s m args below meth c H1 locs1 (cells + mc) (slots + ms) Q (F0 m (pc + 3) ls (.float r :: rest))) : W p l e R s m args below meth c H locs cells slots Q (F0 m pc ls st0) := by
  intro T hT X
  rcases hr T hT X with ⟨v, st₀, t, T', L, h0, X', hL, e1, e2, ⟨⟨r, u, hv, hp, hb⟩, hF⟩, st⟩ | ⟨q, st₀, t, T', L, E, ce, h0, X', hL, e1, e2, ⟨u, hp, hb, hF⟩, hce, hcv, hcl, st⟩
  · cases hv
    obtain ⟨k1, k2, k3⟩ := vx_keep h0 e1 hS hA hf hL hF
    obtain ⟨t2, a1, b1⟩ := kk r u t T'.heap (locs ++ L) e1.symm (by rw [← e2]; exact X'.warmed.alike) hp hb k1 k2 k3 T' rfl X'
    exact ⟨t2, st t2 a1, b1⟩
  · obtain ⟨k1, k2, k3⟩ := vx_keep h0 e1 hS hAX hf hL hF
    obtain ⟨t2, a1, b1⟩ := kx E ce q u t T'.heap (locs ++ L) e1.symm (by rw [← e2]; exact X'.warmed.alike) hp hb k1 k2 k3 (by rw [e1]; exact hce) hcv hcl T' rfl X'
    exact ⟨t2, st.trans a1, b1⟩
theorem vx_calld {S SX : Type} {post : UInt64 → S → Prop} {px : SX → Prop} {B : S → State → Prop} {BX : String → SX → State → Prop} {AX : Nat → Prop} (hr : vx_Run p l e R s m args below meth c H locs cells slots mc ms (F0 m pc ls st0) rest (va_Qd post B A1 a) (vx_X px BX AX) free) (hS : va_S A0 H0 H locs) (hA : ∀ q, q < H.size → A1 q → A0 q) (hf : ∀ q, free q → A0 q) (hAX : ∀ q, q < H.size → AX q → A0 q)
    (kx : ∀ (E : String) (ce : Cell) (q9 : Addr) (u : SX) (t : State) (H1 : Heap) (locs1 : List Loc), t.heap = H1 → s.vm.Alike t.vm → px u → BX E u t → H.size ≤ H1.size → (∀ q : Nat, q < H.size → ¬ AX q → H1[q]? = H[q]?) → va_S A0 H0 H1 locs1 → H1[q9]? = some ce → ce.vm = .none → s.vm.findClass E = some ce.cls → vx_W p l e R s m args below meth c H1 locs1 (cells + mc) (slots + ms) Q (F0 m pc ls rest) q9)
    (kk : ∀ (r : UInt64) (u : S) (t : State) (H1 : Heap) (locs1 : List Loc), t.heap = H1 → s.vm.Alike t.vm → post r u → B u t → H.size ≤ H1.size → (∀ q : Nat, q < H.size → ¬ A1 q → H1[q]? = H[q]?) → va_S A0 H0 H1 locs1 → W p l e R s m args below meth c H1 locs1 (cells + mc) (slots + ms) Q (F0 m (pc + 3) ls (.double r :: rest))) : W p l e R s m args below meth c H locs cells slots Q (F0 m pc ls st0) := by
  intro T hT X
  rcases hr T hT X with ⟨v, st₀, t, T', L, h0, X', hL, e1, e2, ⟨⟨r, u, hv, hp, hb⟩, hF⟩, st⟩ | ⟨q, st₀, t, T', L, E, ce, h0, X', hL, e1, e2, ⟨u, hp, hb, hF⟩, hce, hcv, hcl, st⟩
  · cases hv
    obtain ⟨k1, k2, k3⟩ := vx_keep h0 e1 hS hA hf hL hF
    obtain ⟨t2, a1, b1⟩ := kk r u t T'.heap (locs ++ L) e1.symm (by rw [← e2]; exact X'.warmed.alike) hp hb k1 k2 k3 T' rfl X'
    exact ⟨t2, st t2 a1, b1⟩
  · obtain ⟨k1, k2, k3⟩ := vx_keep h0 e1 hS hAX hf hL hF
    obtain ⟨t2, a1, b1⟩ := kx E ce q u t T'.heap (locs ++ L) e1.symm (by rw [← e2]; exact X'.warmed.alike) hp hb k1 k2 k3 (by rw [e1]; exact hce) hcv hcl T' rfl X'
    exact ⟨t2, st.trans a1, b1⟩
theorem vx_callv {S SX : Type} {post : S → Prop} {px : SX → Prop} {B : S → State → Prop} {BX : String → SX → State → Prop} {AX : Nat → Prop} (hr : vx_Run p l e R s m args below meth c H locs cells slots mc ms (F0 m pc ls st0) rest (va_Qv post B A1 a) (vx_X px BX AX) free) (hS : va_S A0 H0 H locs) (hA : ∀ q, q < H.size → A1 q → A0 q) (hf : ∀ q, free q → A0 q) (hAX : ∀ q, q < H.size → AX q → A0 q)
    (kx : ∀ (E : String) (ce : Cell) (q9 : Addr) (u : SX) (t : State) (H1 : Heap) (locs1 : List Loc), t.heap = H1 → s.vm.Alike t.vm → px u → BX E u t → H.size ≤ H1.size → (∀ q : Nat, q < H.size → ¬ AX q → H1[q]? = H[q]?) → va_S A0 H0 H1 locs1 → H1[q9]? = some ce → ce.vm = .none → s.vm.findClass E = some ce.cls → vx_W p l e R s m args below meth c H1 locs1 (cells + mc) (slots + ms) Q (F0 m pc ls rest) q9)
    (kk : ∀ (u : S) (t : State) (H1 : Heap) (locs1 : List Loc), t.heap = H1 → s.vm.Alike t.vm → post u → B u t → H.size ≤ H1.size → (∀ q : Nat, q < H.size → ¬ A1 q → H1[q]? = H[q]?) → va_S A0 H0 H1 locs1 → W p l e R s m args below meth c H1 locs1 (cells + mc) (slots + ms) Q (F0 m (pc + 3) ls (rest))) : W p l e R s m args below meth c H locs cells slots Q (F0 m pc ls st0) := by
  intro T hT X
  rcases hr T hT X with ⟨v, st₀, t, T', L, h0, X', hL, e1, e2, ⟨⟨u, hv, hp, hb⟩, hF⟩, st⟩ | ⟨q, st₀, t, T', L, E, ce, h0, X', hL, e1, e2, ⟨u, hp, hb, hF⟩, hce, hcv, hcl, st⟩
  · cases hv
    obtain ⟨k1, k2, k3⟩ := vx_keep h0 e1 hS hA hf hL hF
    obtain ⟨t2, a1, b1⟩ := kk u t T'.heap (locs ++ L) e1.symm (by rw [← e2]; exact X'.warmed.alike) hp hb k1 k2 k3 T' rfl X'
    exact ⟨t2, st t2 a1, b1⟩
  · obtain ⟨k1, k2, k3⟩ := vx_keep h0 e1 hS hAX hf hL hF
    obtain ⟨t2, a1, b1⟩ := kx E ce q u t T'.heap (locs ++ L) e1.symm (by rw [← e2]; exact X'.warmed.alike) hp hb k1 k2 k3 (by rw [e1]; exact hce) hcv hcl T' rfl X'
    exact ⟨t2, st.trans a1, b1⟩
/-- caught by the row x of this method's table; the rows ahead don't take it -/
theorem vx_catch {own name : String} {E : String} {ce : Cell} {q : Addr} (hown : s.vm.findClass own = some m.cls) (pre : List ExceptionTableEntry) (x : ExceptionTableEntry) (suf : List ExceptionTableEntry) (hsplit : c.exceptionTable.toList = pre ++ x :: suf)
    (hpass : ∀ z ∈ pre, covers z pc = false ∨ (z.catchType ≠ 0 ∧ ∃ nm : String, (Cond.classLink own z.catchType nm).before args s = true ∧ va_Nc E nm s)) (hx : covers x pc = true) (h0 : x.catchType ≠ 0)
    (hlink : (Cond.classLink own x.catchType name).before args s = true) (hcast : (Cond.castable E name).before args s = true) (hcell : H[q]? = some ce) (hv : ce.vm = .none) (hcl : s.vm.findClass E = some ce.cls)
    (kk : W p l e R s m args below meth c H locs cells slots Q (F0 m x.handlerPc ls [.ref q])) : vx_W p l e R s m args below meth c H locs cells slots Q (F0 m pc ls rest) q := by
  intro T hT X
  have hpl : e.platform.magicAccessors = ({} : Platform).magicAccessors := by rw [X.admits.platform]
  obtain ⟨c3, c4, hc3, hc4, hasg⟩ := Cond.castable_spec hcast
  cases Option.some.inj (hc3.symm.trans hcl)
  obtain ⟨c5, hc5, hcl5⟩ := Cond.classLink_spec hown hlink e.platform hpl
  cases Option.some.inj (hc4.symm.trans hc5)
  obtain ⟨vm', X', st⟩ := X.thenCaughtThrough q (g := F0 m pc ls rest) rfl (Steps.refl _) (by rw [hT]; exact hcell) (by rw [hv]; rfl) (by obtain ⟨k9, h9, -⟩ := Vm.findClass_spec hcl; exact ⟨k9, h9⟩) pre x suf hsplit
    (fun z hz => by
      rcases hpass z hz with h | ⟨hz0, nm, hl1, hn1⟩
      · exact Or.inl h
      · obtain ⟨c6, hc6, hcl6⟩ := Cond.classLink_spec hown hl1 e.platform hpl
        obtain ⟨a8, b8, h1, h2, h3⟩ := hn1
        cases Option.some.inj (h1.symm.trans hcl)
        cases Option.some.inj (h2.symm.trans hc6)
        exact Or.inr ⟨hz0, _, hcl6, h3⟩) hx (Or.inr ⟨h0, c4, hcl5, hasg⟩)
  obtain ⟨t, a1, b1⟩ := kk (T.setVm vm') hT X'
  exact ⟨t, st.trans a1, b1⟩
end Rows
section Ends
variable {p : Program} {l : Launch} {e : Env} {R : Room} {s : State} {m : MethodId} {args : Array Value} {below : List Frame} {meth : Method} {c : Code} {H : Heap} {locs : List Loc} {cells slots : Nat} {Q : State → Prop}
variable {mc ms : Nat} {free : Addr → Prop} {A0 A1 : Nat → Prop} {H0 : Heap} {a : Array Value} {ls : Array Slot} {st0 rest : List Value}
variable {Qc : Array Value → State → Outcome → State → Prop} {XC : String → State → State → Prop}
/-- what a body that may throw owes at its end -/
def vx_MQ (below : List Frame) (Qc : Array Value → State → Outcome → State → Prop) (XC : String → State → State → Prop) (a : Array Value) (s : State) (mc ms : Nat) (free : Addr → Prop) : State → Prop := fun t =>
  ∃ o, t.status = .running ∧ Ended t below o ∧ vx_Q Qc XC mc ms free a s o t
theorem vx_ret {g : JFrame} {mc ms : Nat} (k : W p l e R s m args below meth c H locs cells slots (MQ below Qc args s mc ms free) g) : W p l e R s m args below meth c H locs cells slots (vx_MQ below Qc XC args s mc ms free) g := by
  intro T hT X
  obtain ⟨t, a1, o, b1, b2, b3, b4⟩ := k T hT X
  exact ⟨t, a1, o, b1, b2, Or.inl ⟨b3, b4⟩⟩
/-- not caught here: it goes on to the caller -/
theorem vx_widen {g : JFrame} {q : Addr} {k n : Nat} (h1 : cells ≤ k) (h2 : slots ≤ n) (kk : vx_W p l e R s m args below meth c H locs k n Q g q) : vx_W p l e R s m args below meth c H locs cells slots Q g q := fun T hT X => kk T hT (stand_widen X h1 h2)
theorem vx_out {pc : Nat} {E : String} {ce : Cell} {q : Addr} {mc ms : Nat} (hout : ∀ x ∈ c.exceptionTable.toList, covers x pc = false) (hlocks : meth.locks = false) (hcell : H[q]? = some ce) (hv : ce.vm = .none) (hcl : s.vm.findClass E = some ce.cls)
    (hx : ∀ t : State, t.heap = H → s.vm.Alike t.vm → XC E s t) (hf : ∀ z ∈ locs, free z.base) (hc : cells ≤ mc) (hs : slots ≤ ms) :
    vx_W p l e R s m args below meth c H locs cells slots (vx_MQ below Qc XC args s mc ms free) (F0 m pc ls rest) q := by
  intro T hT X
  obtain ⟨st1, hrun, hend, hW, hsm⟩ := X.leaveThrown q (g := F0 m pc ls rest) rfl rfl rfl hout hlocks
  have hcell9 : (T.setFrames (.throwing q :: below)).heap[q]? = some ce := by
    show T.heap[q]? = some ce
    rw [hT]; exact hcell
  exact ⟨_, st1, .threw q, hrun, hend, Or.inr ⟨q, rfl, E, ce, locs, hx _ hT hW.alike, hcell9, hv, hcl, hW, hsm.mono hc hs, hf⟩⟩
theorem vx_frame {U : State} {k n : Nat} (h : s.sameButNew ({ U with vm := s.vm } : State) locs k n) : s.heap.size ≤ U.heap.size ∧ ∀ q : Nat, q < s.heap.size → (∀ z ∈ locs, z.base ≠ q) → U.heap[q]? = s.heap[q]? := by
  obtain ⟨-, h2, -, -, -, h6⟩ := h
  refine ⟨h2, fun q hq hz => ?_⟩
  obtain ⟨c9, e1, e2, e3, e4⟩ := h6 q _ (Array.getElem?_eq_getElem hq)
  have hs : c9.slots = (s.heap[q]).slots := Array.ext_getElem? fun i => e4 i fun hm => hz _ hm rfl
  have h9 : c9 = s.heap[q] := by
    rw [hs] at e2
    exact e2
  have e5 : U.heap[q]? = some c9 := e1
  rw [e5, h9, Array.getElem?_eq_getElem hq]
/-- the words of a throw but the four that speak of the heap -/
def vx_no (w : Cond) : Bool := decide (w ≠ .isRef (.static Bundle.tN "UNASSIGNED_STACK" Bundle.steD)) && decide (w ≠ .isRef (.static Bundle.tN "SUPPRESSED_SENTINEL" Bundle.listD)) && decide (w ≠ .laysStatic Bundle.tN "UNASSIGNED_STACK" Bundle.steD) && decide (w ≠ .laysStatic Bundle.tN "SUPPRESSED_SENTINEL" Bundle.listD)
def vx_at0 (own : String) (ic : Nat) (X : String) (names : List String) : List Cond := (Bundle.ownAtoms0 own ic X names).filter vx_no
def vx_atS (own : String) (ic : Nat) (X : String) (names : List String) : List Cond := (Bundle.ownAtoms own ic X names).filter vx_no
/-- a word that the tables alone decide, or a good one -/
def vx_ot (w : Cond) : Bool := w.onTables || goodWord w
theorem vx_ot_at {args a' : Array Value} {s U : State} {w : Cond} (hW : s.WarmedH U.vm) (hvm : s.vm = U.vm) (hg : vx_ot w = true) (h : w.before args s = true) : w.before a' U = true := by
  simp only [vx_ot, Bool.or_eq_true] at hg
  rcases hg with hg | hg
  · exact va_tabs hg hvm h
  · exact word_at hW (good_of_word hg) h
/-- a list's words: the good ones out of the method's own list, the others by premises of their own -/
theorem vx_hat {args : Array Value} {s : State} {L B : List Cond} (h1 : ∀ w ∈ L.filter goodWord, w.before args s = true) (h2 : ∀ w ∈ L.filter (fun w => !goodWord w), w ∈ B) (h3 : ∀ w ∈ B, w.before args s = true) : ∀ w ∈ L, w.before args s = true := by
  intro w hw
  by_cases g : goodWord w = true
  · exact h1 w (List.mem_filter.mpr ⟨hw, g⟩)
  · refine h3 w (h2 w (List.mem_filter.mpr ⟨hw, ?_⟩))
    show (!goodWord w) = true
    cases hgw : goodWord w
    · rfl
    · exact absurd hgw g
theorem vx_c {args : Array Value} {s : State} {w : Cond} {B : List Cond} (h : w.before args s = true) (t : ∀ w ∈ B, w.before args s = true) : ∀ w' ∈ w :: B, w'.before args s = true := fun w' h' => (List.mem_cons.mp h').elim (fun e => by rw [e]; exact h) (t w')
theorem vx_n {args : Array Value} {s : State} : ∀ w ∈ ([] : List Cond), w.before args s = true := fun _ h => nomatch h
theorem vx_own {args : Array Value} {s : State} {L : List Cond} (h1 : ∀ w ∈ L.filter vx_no, w.before args s = true)
    (hU : (Cond.isRef (.static Bundle.tN "UNASSIGNED_STACK" Bundle.steD)).before args s = true) (hN : (Cond.isRef (.static Bundle.tN "SUPPRESSED_SENTINEL" Bundle.listD)).before args s = true)
    (lU : (Cond.laysStatic Bundle.tN "UNASSIGNED_STACK" Bundle.steD).before args s = true) (lN : (Cond.laysStatic Bundle.tN "SUPPRESSED_SENTINEL" Bundle.listD).before args s = true) : ∀ w ∈ L, w.before args s = true := by
  intro w hw
  by_cases e1 : w = .isRef (.static Bundle.tN "UNASSIGNED_STACK" Bundle.steD)
  · rw [e1]; exact hU
  · by_cases e2 : w = .isRef (.static Bundle.tN "SUPPRESSED_SENTINEL" Bundle.listD)
    · rw [e2]; exact hN
    · by_cases e3 : w = .laysStatic Bundle.tN "UNASSIGNED_STACK" Bundle.steD
      · rw [e3]; exact lU
      · by_cases e4 : w = .laysStatic Bundle.tN "SUPPRESSED_SENTINEL" Bundle.listD
        · rw [e4]; exact lN
        · exact h1 w (List.mem_filter.mpr ⟨hw, by unfold vx_no; rw [decide_eq_true e1, decide_eq_true e2, decide_eq_true e3, decide_eq_true e4]; rfl⟩)
/-- where a static field lies, its class's statics cell in H -/
def vx_L (C n d : String) (A : Nat → Prop) (U : State) (H : Heap) : Prop := ∃ (c : ClassId) (k : Class) (i : Nat) (f : Field) (a : Nat) (cell : Cell), U.vm.findClass C = some c ∧ U.fieldFound? C n d = some (c, k, i, f) ∧ f.isStatic = true ∧ k.statics = some a ∧ H[a]? = some cell ∧ cell.vm.isStatics = true ∧ cell.cls = c ∧ f.slot < cell.slots.size ∧ k.staticTypes[f.slot]? = some f.type ∧ ¬ A a
theorem vx_L.moved {C n d : String} {A : Nat → Prop} {u U : State} {H : Heap} (hvm : u.vm.Alike U.vm) (h : vx_L C n d A u H) : vx_L C n d A U H := by
  obtain ⟨c, k, i, f, a, cell, h1, h2, h3, h4, h5, h6, h7, h8, h9, h10⟩ := h
  obtain ⟨k', hi', he⟩ := State.fieldFound?_setVm hvm h2
  exact ⟨c, k', i, f, a, cell, by rw [hvm.findClass]; exact h1, hi', h3, by rw [he]; exact h4, h5, h6, h7, h8, by rw [he]; exact h9, h10⟩
theorem vx_L.kept {C n d : String} {A : Nat → Prop} {U : State} {H H1 : Heap} (h : vx_L C n d A U H) (hq : ∀ a : Nat, a < H.size → ¬ A a → H1[a]? = H[a]?) : vx_L C n d A U H1 := by
  obtain ⟨c, k, i, f, a, cell, h1, h2, h3, h4, h5, h6, h7, h8, h9, h10⟩ := h
  exact ⟨c, k, i, f, a, cell, h1, h2, h3, h4, by rw [hq a (Array.getElem?_eq_some_iff.mp h5).1 h10]; exact h5, h6, h7, h8, h9, h10⟩
theorem vx_L.narrow {C n d : String} {A B : Nat → Prop} {U : State} {H : Heap} (h : vx_L C n d A U H) (hAB : ∀ q, B q → A q) : vx_L C n d B U H := by
  obtain ⟨c, k, i, f, a, cell, h1, h2, h3, h4, h5, h6, h7, h8, h9, h10⟩ := h
  exact ⟨c, k, i, f, a, cell, h1, h2, h3, h4, h5, h6, h7, h8, h9, fun z => h10 (hAB _ z)⟩
theorem vx_L.word {C n d : String} {A : Nat → Prop} {s : State} {args : Array Value} (h : vx_L C n d A s s.heap) : (Cond.laysStatic C n d).before args s = true := by
  obtain ⟨c, k, i, f, a, cell, h1, h2, h3, h4, h5, h6, h7, h8, h9, -⟩ := h
  show (Cond.laysStatic C n d).holds args s none s [] = true
  exact Cond.laysStatic_of h1 h2 h3 h4 h5 h6 h7 h8 h9
/-- .. and what it holds: null or some reference -/
def vx_Zq (C n d : String) (A : Nat → Prop) (U : State) (H : Heap) : Prop := va_Zq C n d A U H ∧ vx_L C n d A U H
theorem vx_Zq.moved {C n d : String} {A : Nat → Prop} {u U : State} {H : Heap} (hvm : u.vm.Alike U.vm) (h : vx_Zq C n d A u H) : vx_Zq C n d A U H := ⟨va_Zq.moved hvm h.1, vx_L.moved hvm h.2⟩
theorem vx_Zq.kept {C n d : String} {A : Nat → Prop} {U : State} {H H1 : Heap} (h : vx_Zq C n d A U H) (hq : ∀ a : Nat, a < H.size → ¬ A a → H1[a]? = H[a]?) : vx_Zq C n d A U H1 := ⟨va_Zq.kept h.1 hq, vx_L.kept h.2 hq⟩
theorem vx_Zq.narrow {C n d : String} {A B : Nat → Prop} {U : State} {H : Heap} (h : vx_Zq C n d A U H) (hAB : ∀ q, B q → A q) : vx_Zq C n d B U H := ⟨va_Zq.narrow h.1 hAB, vx_L.narrow h.2 hAB⟩
theorem vx_Zqof {args : Array Value} {s : State} {C n d : String} {A : Nat → Prop} (hl : (Cond.laysStatic C n d).before args s = true) (hini : (Cond.initialized C).before args s = true) (h : (Cond.isRef (.static C n d)).before args s = true) (hA : ∀ a : Nat, a < s.heap.size → ¬ A a) : vx_Zq C n d A s s.heap := by
  refine ⟨va_Zqof hl hini h hA, ?_⟩
  obtain ⟨c, k, i, f, a, cell, h1, h2, h3, h4, h5, h6, h7, h8, h9⟩ := Cond.laysStatic_spec hl
  exact ⟨c, k, i, f, a, cell, h1, h2, h3, h4, h5, h6, h7, h8, h9, hA a (Array.getElem?_eq_some_iff.mp h5).1⟩
theorem vx_isRef {C n d : String} {v : Value} {A : Nat → Prop} {s : State} {args : Array Value} (h : va_Z C n d v A s s.heap) (hv : v.isRef = true) : (Cond.isRef (.static C n d)).before args s = true := by
  obtain ⟨cf, kf, fi, f, a, cell, h1, h2, h3, h4, h5, h6, h7, -⟩ := h
  have he : (Term.static C n d).eval args s none [] s = some v := by
    simp [Term.eval, State.fieldNamed?, h1, h2, h4, h5, h6, h7]
  simp only [Cond.before, Cond.holds, Cond.value, he]
  cases v <;> simp_all [Value.isRef]
theorem vx_isRefq {C n d : String} {A : Nat → Prop} {s : State} {args : Array Value} (h : va_Zq C n d A s s.heap) : (Cond.isRef (.static C n d)).before args s = true := by
  rcases h with h | ⟨t, h⟩
  · exact vx_isRef h rfl
  · exact vx_isRef h rfl
/-- the same frame, seen from here: as if the method were called anew in this heap -/
theorem vx_rebase {T : State} (X : Stand p l e R s m args below meth c T locs cells slots) {R' : Room} (hf : R'.frames ≤ R.frames) (hl : R'.locals ≤ R.locals) (hc : cells + R'.cells ≤ R.cells) (hs : slots + R'.slots ≤ R.slots) :
    Stand p l e R' ((T.setVm s.vm).setFrames (.invoking m args :: below)) m args below meth c T [] 0 0 := by
  have htop : (T.setVm s.vm).topJava?.isSome := X.here.top
  have hF : ((T.setVm s.vm).setFrames (.invoking m args :: below)).frames = .invoking m args :: below := State.frames_setFrames _ (State.cur_lt_of_top htop)
  obtain ⟨g₀, hg0⟩ := Option.isSome_iff_exists.mp htop
  obtain ⟨r, hr⟩ := State.topJava?_eq_some.mp hg0
  have hl9 : e.platform.stackLimits (T.setVm s.vm).me = e.platform.stackLimits s.me := X.limits
  have hb9 : (T.setVm s.vm).me.stackBytes = s.me.stackBytes := X.bytes
  refine ⟨X.admits, X.cas, X.clock, hF, ?_, X.hears, X.method, X.code, X.here, X.tail, X.warmed, ?_, ?_, ?_⟩
  · have h := X.room
    have hU : ((T.setVm s.vm).setFrames (.invoking m args :: below)).localsInUse = s.localsInUse := by
      rw [State.localsInUse_invoking hF (meth := meth) (c := c) X.method X.code, State.localsInUse_invoking X.frames X.method X.code]
    simp only [State.hasRoom, Bool.and_eq_true, decide_eq_true_eq] at h ⊢
    obtain ⟨⟨⟨⟨h1, h2, h3, h4, h5, h6⟩, h7⟩, h8⟩, h9⟩ := h
    rw [X.frames, List.length_cons] at h2 h3
    have q1 := X.heapSize
    have q2 := X.used
    simp only [hF, hU, List.length_cons, State.stackLimits_setFrames, State.stackBytes_setFrames, hl9, hb9]
    refine ⟨⟨⟨⟨by omega, by omega, by omega, by omega, by omega, h6⟩, ?_⟩, ?_⟩, X.book⟩
    · show T.heap.size + R'.cells ≤ e.platform.maxCells
      omega
    · show T.slotsUsed + R'.slots ≤ e.platform.maxSlots
      omega
  · rw [State.stackLimits_setFrames]; rfl
  · rw [State.stackBytes_setFrames]; rfl
  · refine ⟨?_, Nat.le_refl _, Nat.le_refl _, ?_, ?_, fun a c9 h9 => ⟨c9, h9, rfl, rfl, fun _ _ => rfl⟩⟩
    · obtain ⟨t, ht, -⟩ := State.frames_cons hr
      show T.setVm s.vm = { ((T.setVm s.vm).setFrames (.invoking m args :: below)).setFrames (T.setVm s.vm).frames with heap := T.heap, slotsUsed := T.slotsUsed }
      rw [State.setFrames_setFrames, State.setFrames_self ht]
      rfl
    · show T.slotsUsed = T.slotsUsed + ((T.heap.toList.drop T.heap.size).map (·.slots.size)).sum
      rw [List.drop_eq_nil_of_le (Nat.le_of_eq Array.length_toList)]
      rfl
    · show ((T.heap.toList.drop T.heap.size).map (·.slots.size)).sum ≤ 0
      rw [List.drop_eq_nil_of_le (Nat.le_of_eq Array.length_toList)]
      exact Nat.le_refl _
/-- 'throw new E()': new; dup; invokespecial; athrow -/
theorem vx_throw0 {cc : ByteArray} {pc : Nat} (hexec : p.tables.exec = Jvm.exec) (hb : c.code = cc) (hl : l.stackTraces = false) {own cls : String} {names : List String} {ik ic mc ms : Nat} {A : Nat → Prop}
    (hown : s.vm.findClass own = some m.cls) (hcls : Bundle.fit cls = true) (hnames : ∀ n ∈ names, Bundle.fit n = true)
    (hk : (Cond.classLink own ik cls).before args s = true) (hini : (Cond.initialized cls).before args s = true) (hat : ∀ w ∈ vx_at0 own ic cls names, w.before args s = true)
    (hgood : ∀ w ∈ Cond.classLink own ik cls :: Cond.initialized cls :: vx_at0 own ic cls names, vx_ot w = true)
    (hU : vx_Zq Bundle.tN "UNASSIGNED_STACK" Bundle.steD A s s.heap) (hN : vx_Zq Bundle.tN "SUPPRESSED_SENTINEL" Bundle.listD A s s.heap) (hS : va_S A s.heap H locs) (hsize : ls.size = c.maxLocals)
    (d0 : decode cc pc = .ok (.new ik, 3)) (d3 : decode cc (pc + 3) = .ok (.dup, 1)) (d4 : decode cc (pc + 4) = .ok (.invokespecial ic, 3)) (d7 : decode cc (pc + 7) = .ok (.athrow, 1))
    (hout : ∀ x ∈ c.exceptionTable.toList, covers x (pc + 7) = false)
    (hRframes : names.length + 3 < R.frames) (hRlocals : (rest.map fun v => v.category).sum + (13 * (names.length + 1) + 42) ≤ R.locals) (hRcells : cells + 1 ≤ R.cells) (hRslots : slots + 6 ≤ R.slots) (hlocks : meth.locks = false)
    (hx : ∀ t : State, s.vm.Alike t.vm → H.size ≤ t.heap.size → (∀ q : Nat, q < H.size → t.heap[q]? = H[q]?) → XC cls s t)
    (hf : ∀ z ∈ locs, free z.base) (hc : cells + 1 ≤ mc) (hs : slots + 6 ≤ ms) :
    W p l e R s m args below meth c H locs cells slots (vx_MQ below Qc XC args s mc ms free) (F0 m pc ls rest) := by
  intro T hT X
  have htr : e.platform.stackTraces = false := (show e.platform.stackTraces = l.stackTraces by rw [X.admits.platform]).trans hl
  have Y := vx_rebase X (R' := { frames := R.frames, locals := R.locals, cells := 1, slots := 6 }) (Nat.le_refl _) (Nat.le_refl _) hRcells hRslots
  obtain ⟨s', hA⟩ : ∃ z, z = (T.setVm s.vm).setFrames (.invoking m args :: below) := ⟨_, rfl⟩
  rw [← hA] at Y
  have hvm : s'.vm = s.vm := by rw [hA]; rfl
  have hhp : s'.heap = H := by rw [hA]; exact hT
  have hW0 : s.WarmedH s'.vm := by rw [hvm]; exact State.WarmedH.refl s
  have hat' : ∀ w ∈ vx_at0 own ic cls names, w.before args s' = true := fun w hw => vx_ot_at hW0 hvm.symm (hgood w (List.mem_cons_of_mem _ (List.mem_cons_of_mem _ hw))) (hat w hw)
  have hk' : (Cond.classLink own ik cls).before args s' = true := vx_ot_at hW0 hvm.symm (hgood _ List.mem_cons_self) hk
  have hini' : (Cond.initialized cls).before args s' = true := vx_ot_at hW0 hvm.symm (hgood _ (List.mem_cons_of_mem _ List.mem_cons_self)) hini
  have hU' : vx_Zq Bundle.tN "UNASSIGNED_STACK" Bundle.steD A s' s'.heap := by rw [hhp]; exact vx_Zq.moved hW0.alike (hU.kept hS.2.1)
  have hN' : vx_Zq Bundle.tN "SUPPRESSED_SENTINEL" Bundle.listD A s' s'.heap := by rw [hhp]; exact vx_Zq.moved hW0.alike (hN.kept hS.2.1)
  have h : ∀ w ∈ Bundle.ownAtoms0 own ic cls names, w.before args s' = true := vx_own hat' (vx_isRefq hU'.1) (vx_isRefq hN'.1) hU'.2.word hN'.2.word
  have hown' : s'.vm.findClass own = some m.cls := by rw [hvm]; exact hown
  have hins : (Cond.instantiable cls 6).before args s' = true := h _ (by simp [Bundle.ownAtoms0])
  obtain ⟨vm₁, cX, kX, hfX, hkX, -, -, X₁, st1⟩ := Y.newCold hexec (own := own) (C := cls) (index := ik) (n := 6) hown' hk' hins hini'
    (g := F0 m pc ls rest) rfl (by rw [hb]; exact d0) (Nat.le_refl _) (Nat.le_refl _)
  generalize hT1 : (T.setVm vm₁).pushCell { cls := cX, slots := kX.instanceTypes.map defaultValue, vm := .none } = T1 at X₁ st1
  have hcat : (Value.ref T.heap.size).category = 1 := rfl
  have hcellA : T1.heap[T.heap.size]? = some (freshCell cX kX) := by rw [← hT1]; exact State.heap_pushCell_size _ _
  have d3' : decode c.code (pc + 3) = .ok (.dup, 1) := by rw [hb]; exact d3
  obtain ⟨U, hsteps, hrun, hend, hW, hsame, ce, hce, hO⟩ := X₁.ctorThrow0 hexec htr (own := own) (cls := cls) (names := names) (ic := ic) hown' hcls hnames h (fun x hx => nomatch hx) hfX hkX hcellA (by rw [hhp, hT]; exact Nat.le_refl _)
    (g := { method := m, pc := pc + 4, locals := ls, stack := .ref T.heap.size :: .ref T.heap.size :: rest, locked := none }) rfl hsize rfl rfl (rest := rest) rfl
    (by rw [hb]; exact d4) (by rw [hb]; exact d7) hout hRframes (by simp only [List.map_cons, List.sum_cons, hcat]; omega) hlocks
  obtain ⟨f1, f2⟩ := vx_frame hsame
  rw [hhp] at f1 f2
  have hWs : s.WarmedH U.vm := State.WarmedH.trans hW0 hW
  have hcl : s.vm.findClass cls = some ce.cls := by
    have h9 := hO.cls
    rw [hvm] at h9
    exact h9
  have hall : s.sameButNew ({ U with vm := s.vm } : State) locs mc ms := by
    subst hA
    obtain ⟨e1, e2⟩ := hsame
    rw [State.setFrames_setFrames] at e1
    have h2 : (T.setVm s.vm).sameButNew ({ U with vm := s.vm } : State) [] (0 + 1) (0 + 6) := ⟨e1, e2⟩
    have h3 := X.same.trans h2
    rw [List.append_nil] at h3
    exact h3.mono hc hs
  refine ⟨U, ?_, .threw T.heap.size, hrun, hend, Or.inr ⟨T.heap.size, rfl, cls, ce, locs, hx U hWs.alike f1 (fun q hq => f2 q hq (fun z hz => nomatch hz)), hce, hO.vm, hcl, hWs, hall, hf⟩⟩
  refine st1 _ ?_
  show Steps p.tables e below (T1.setTop { method := m, pc := pc + 3, locals := ls, stack := .ref T.heap.size :: rest, locked := none }) _
  jvm_step X₁.here [X₁.here.top, hexec, d3', Value.category]
  exact hsteps
/-- 'throw new E("text")': new; dup; ldc; invokespecial; athrow -/
theorem vx_throwS {cc : ByteArray} {pc : Nat} (hexec : p.tables.exec = Jvm.exec) (hb : c.code = cc) (hl : l.stackTraces = false) {own cls text : String} {names : List String} {ik is ic mc ms sa : Nat} {A : Nat → Prop}
    (hown : s.vm.findClass own = some m.cls) (hcls : Bundle.fit cls = true) (hnames : ∀ n ∈ names, Bundle.fit n = true)
    (hk : (Cond.classLink own ik cls).before args s = true) (hini : (Cond.initialized cls).before args s = true) (hstr : vk_R own is text sa s) (hat : ∀ w ∈ vx_atS own ic cls names, w.before args s = true)
    (hgood : ∀ w ∈ Cond.classLink own ik cls :: Cond.initialized cls :: vx_atS own ic cls names, vx_ot w = true)
    (hU : vx_Zq Bundle.tN "UNASSIGNED_STACK" Bundle.steD A s s.heap) (hN : vx_Zq Bundle.tN "SUPPRESSED_SENTINEL" Bundle.listD A s s.heap) (hS : va_S A s.heap H locs) (hsize : ls.size = c.maxLocals)
    (d0 : decode cc pc = .ok (.new ik, 3)) (d3 : decode cc (pc + 3) = .ok (.dup, 1)) (d4 : decode cc (pc + 4) = .ok (.ldc is, 2)) (d6 : decode cc (pc + 6) = .ok (.invokespecial ic, 3)) (d9 : decode cc (pc + 9) = .ok (.athrow, 1))
    (hout : ∀ x ∈ c.exceptionTable.toList, covers x (pc + 9) = false)
    (hRframes : names.length + 3 < R.frames) (hRlocals : (rest.map fun v => v.category).sum + (13 * (names.length + 1) + 43) ≤ R.locals) (hRcells : cells + 1 ≤ R.cells) (hRslots : slots + 6 ≤ R.slots) (hlocks : meth.locks = false)
    (hx : ∀ t : State, s.vm.Alike t.vm → H.size ≤ t.heap.size → (∀ q : Nat, q < H.size → t.heap[q]? = H[q]?) → XC cls s t)
    (hf : ∀ z ∈ locs, free z.base) (hc : cells + 1 ≤ mc) (hs : slots + 6 ≤ ms) :
    W p l e R s m args below meth c H locs cells slots (vx_MQ below Qc XC args s mc ms free) (F0 m pc ls rest) := by
  intro T hT X
  have htr : e.platform.stackTraces = false := (show e.platform.stackTraces = l.stackTraces by rw [X.admits.platform]).trans hl
  have Y := vx_rebase X (R' := { frames := R.frames, locals := R.locals, cells := 1, slots := 6 }) (Nat.le_refl _) (Nat.le_refl _) hRcells hRslots
  obtain ⟨s', hA⟩ : ∃ z, z = (T.setVm s.vm).setFrames (.invoking m args :: below) := ⟨_, rfl⟩
  rw [← hA] at Y
  have hvm : s'.vm = s.vm := by rw [hA]; rfl
  have hhp : s'.heap = H := by rw [hA]; exact hT
  have hW0 : s.WarmedH s'.vm := by rw [hvm]; exact State.WarmedH.refl s
  have hat' : ∀ w ∈ vx_atS own ic cls names, w.before args s' = true := fun w hw => vx_ot_at hW0 hvm.symm (hgood w (List.mem_cons_of_mem _ (List.mem_cons_of_mem _ hw))) (hat w hw)
  have hk' : (Cond.classLink own ik cls).before args s' = true := vx_ot_at hW0 hvm.symm (hgood _ List.mem_cons_self) hk
  have hini' : (Cond.initialized cls).before args s' = true := vx_ot_at hW0 hvm.symm (hgood _ (List.mem_cons_of_mem _ List.mem_cons_self)) hini
  have hU' : vx_Zq Bundle.tN "UNASSIGNED_STACK" Bundle.steD A s' s'.heap := by rw [hhp]; exact vx_Zq.moved hW0.alike (hU.kept hS.2.1)
  have hN' : vx_Zq Bundle.tN "SUPPRESSED_SENTINEL" Bundle.listD A s' s'.heap := by rw [hhp]; exact vx_Zq.moved hW0.alike (hN.kept hS.2.1)
  have h : ∀ w ∈ Bundle.ownAtoms own ic cls names, w.before args s' = true := vx_own hat' (vx_isRefq hU'.1) (vx_isRefq hN'.1) hU'.2.word hN'.2.word
  have hown' : s'.vm.findClass own = some m.cls := by rw [hvm]; exact hown
  have hins : (Cond.instantiable cls 6).before args s' = true := h _ (by simp [Bundle.ownAtoms])
  obtain ⟨vm₁, cX, kX, hfX, hkX, -, -, X₁, st1⟩ := Y.newCold hexec (own := own) (C := cls) (index := ik) (n := 6) hown' hk' hins hini'
    (g := F0 m pc ls rest) rfl (by rw [hb]; exact d0) (Nat.le_refl _) (Nat.le_refl _)
  generalize hT1 : (T.setVm vm₁).pushCell { cls := cX, slots := kX.instanceTypes.map defaultValue, vm := .none } = T1 at X₁ st1
  have hcat : (Value.ref T.heap.size).category = 1 := rfl
  have hcellA : T1.heap[T.heap.size]? = some (freshCell cX kX) := by rw [← hT1]; exact State.heap_pushCell_size _ _
  have d3' : decode c.code (pc + 3) = .ok (.dup, 1) := by rw [hb]; exact d3
  have d4' : decode c.code (pc + 4) = .ok (.ldc is, 2) := by rw [hb]; exact d4
  have hstr' : vk_R own is text sa s' := vk_R.warm hW0 hstr
  obtain ⟨U, hsteps, hrun, hend, hW, hsame, ce, hce, hO⟩ := X₁.ctorThrowS hexec htr (own := own) (cls := cls) (names := names) (ic := ic) hown' hcls hnames h (fun x hx => nomatch hx) hfX hkX hcellA (by rw [hhp, hT]; exact Nat.le_refl _) (msg := .ref sa) rfl
    (g := { method := m, pc := pc + 6, locals := ls, stack := .ref sa :: .ref T.heap.size :: .ref T.heap.size :: rest, locked := none }) rfl hsize rfl rfl (rest := rest) rfl
    (by rw [hb]; exact d6) (by rw [hb]; exact d9) hout hRframes (by simp only [List.map_cons, List.sum_cons, hcat]; omega) hlocks
  obtain ⟨f1, f2⟩ := vx_frame hsame
  rw [hhp] at f1 f2
  have hWs : s.WarmedH U.vm := State.WarmedH.trans hW0 hW
  have hcl : s.vm.findClass cls = some ce.cls := by
    have h9 := hO.cls
    rw [hvm] at h9
    exact h9
  have hall : s.sameButNew ({ U with vm := s.vm } : State) locs mc ms := by
    subst hA
    obtain ⟨e1, e2⟩ := hsame
    rw [State.setFrames_setFrames] at e1
    have h2 : (T.setVm s.vm).sameButNew ({ U with vm := s.vm } : State) [] (0 + 1) (0 + 6) := ⟨e1, e2⟩
    have h3 := X.same.trans h2
    rw [List.append_nil] at h3
    exact h3.mono hc hs
  refine ⟨U, ?_, .threw T.heap.size, hrun, hend, Or.inr ⟨T.heap.size, rfl, cls, ce, locs, hx U hWs.alike f1 (fun q hq => f2 q hq (fun z hz => nomatch hz)), hce, hO.vm, hcl, hWs, hall, hf⟩⟩
  refine st1 _ ?_
  show Steps p.tables e below (T1.setTop { method := m, pc := pc + 3, locals := ls, stack := .ref T.heap.size :: rest, locked := none }) _
  jvm_step X₁.here [X₁.here.top, hexec, d3', Value.category]
  exact X₁.ldcString hexec (own := own) (text := text) (index := is) (a := sa) hown' hstr'.1 hstr'.2
    (g := { method := m, pc := pc + 4, locals := ls, stack := .ref T.heap.size :: .ref T.heap.size :: rest, locked := none }) rfl d4' _ hsteps
/-- 'throw new E("text")', the text by a wide index -/
theorem vx_throwSW {cc : ByteArray} {pc : Nat} (hexec : p.tables.exec = Jvm.exec) (hb : c.code = cc) (hl : l.stackTraces = false) {own cls text : String} {names : List String} {ik is ic mc ms sa : Nat} {A : Nat → Prop}
    (hown : s.vm.findClass own = some m.cls) (hcls : Bundle.fit cls = true) (hnames : ∀ n ∈ names, Bundle.fit n = true)
    (hk : (Cond.classLink own ik cls).before args s = true) (hini : (Cond.initialized cls).before args s = true) (hstr : vk_R own is text sa s) (hat : ∀ w ∈ vx_atS own ic cls names, w.before args s = true)
    (hgood : ∀ w ∈ Cond.classLink own ik cls :: Cond.initialized cls :: vx_atS own ic cls names, vx_ot w = true)
    (hU : vx_Zq Bundle.tN "UNASSIGNED_STACK" Bundle.steD A s s.heap) (hN : vx_Zq Bundle.tN "SUPPRESSED_SENTINEL" Bundle.listD A s s.heap) (hS : va_S A s.heap H locs) (hsize : ls.size = c.maxLocals)
    (d0 : decode cc pc = .ok (.new ik, 3)) (d3 : decode cc (pc + 3) = .ok (.dup, 1)) (d4 : decode cc (pc + 4) = .ok (.ldc_w is, 3)) (d7 : decode cc (pc + 7) = .ok (.invokespecial ic, 3)) (d10 : decode cc (pc + 10) = .ok (.athrow, 1))
    (hout : ∀ x ∈ c.exceptionTable.toList, covers x (pc + 10) = false)
    (hRframes : names.length + 3 < R.frames) (hRlocals : (rest.map fun v => v.category).sum + (13 * (names.length + 1) + 43) ≤ R.locals) (hRcells : cells + 1 ≤ R.cells) (hRslots : slots + 6 ≤ R.slots) (hlocks : meth.locks = false)
    (hx : ∀ t : State, s.vm.Alike t.vm → H.size ≤ t.heap.size → (∀ q : Nat, q < H.size → t.heap[q]? = H[q]?) → XC cls s t)
    (hf : ∀ z ∈ locs, free z.base) (hc : cells + 1 ≤ mc) (hs : slots + 6 ≤ ms) :
    W p l e R s m args below meth c H locs cells slots (vx_MQ below Qc XC args s mc ms free) (F0 m pc ls rest) := by
  intro T hT X
  have htr : e.platform.stackTraces = false := (show e.platform.stackTraces = l.stackTraces by rw [X.admits.platform]).trans hl
  have Y := vx_rebase X (R' := { frames := R.frames, locals := R.locals, cells := 1, slots := 6 }) (Nat.le_refl _) (Nat.le_refl _) hRcells hRslots
  obtain ⟨s', hA⟩ : ∃ z, z = (T.setVm s.vm).setFrames (.invoking m args :: below) := ⟨_, rfl⟩
  rw [← hA] at Y
  have hvm : s'.vm = s.vm := by rw [hA]; rfl
  have hhp : s'.heap = H := by rw [hA]; exact hT
  have hW0 : s.WarmedH s'.vm := by rw [hvm]; exact State.WarmedH.refl s
  have hat' : ∀ w ∈ vx_atS own ic cls names, w.before args s' = true := fun w hw => vx_ot_at hW0 hvm.symm (hgood w (List.mem_cons_of_mem _ (List.mem_cons_of_mem _ hw))) (hat w hw)
  have hk' : (Cond.classLink own ik cls).before args s' = true := vx_ot_at hW0 hvm.symm (hgood _ List.mem_cons_self) hk
  have hini' : (Cond.initialized cls).before args s' = true := vx_ot_at hW0 hvm.symm (hgood _ (List.mem_cons_of_mem _ List.mem_cons_self)) hini
  have hU' : vx_Zq Bundle.tN "UNASSIGNED_STACK" Bundle.steD A s' s'.heap := by rw [hhp]; exact vx_Zq.moved hW0.alike (hU.kept hS.2.1)
  have hN' : vx_Zq Bundle.tN "SUPPRESSED_SENTINEL" Bundle.listD A s' s'.heap := by rw [hhp]; exact vx_Zq.moved hW0.alike (hN.kept hS.2.1)
  have h : ∀ w ∈ Bundle.ownAtoms own ic cls names, w.before args s' = true := vx_own hat' (vx_isRefq hU'.1) (vx_isRefq hN'.1) hU'.2.word hN'.2.word
  have hown' : s'.vm.findClass own = some m.cls := by rw [hvm]; exact hown
  have hins : (Cond.instantiable cls 6).before args s' = true := h _ (by simp [Bundle.ownAtoms])
  obtain ⟨vm₁, cX, kX, hfX, hkX, -, -, X₁, st1⟩ := Y.newCold hexec (own := own) (C := cls) (index := ik) (n := 6) hown' hk' hins hini'
    (g := F0 m pc ls rest) rfl (by rw [hb]; exact d0) (Nat.le_refl _) (Nat.le_refl _)
  generalize hT1 : (T.setVm vm₁).pushCell { cls := cX, slots := kX.instanceTypes.map defaultValue, vm := .none } = T1 at X₁ st1
  have hcat : (Value.ref T.heap.size).category = 1 := rfl
  have hcellA : T1.heap[T.heap.size]? = some (freshCell cX kX) := by rw [← hT1]; exact State.heap_pushCell_size _ _
  have d3' : decode c.code (pc + 3) = .ok (.dup, 1) := by rw [hb]; exact d3
  have d4' : decode c.code (pc + 4) = .ok (.ldc_w is, 3) := by rw [hb]; exact d4
  have hstr' : vk_R own is text sa s' := vk_R.warm hW0 hstr
  obtain ⟨U, hsteps, hrun, hend, hW, hsame, ce, hce, hO⟩ := X₁.ctorThrowS hexec htr (own := own) (cls := cls) (names := names) (ic := ic) hown' hcls hnames h (fun x hx => nomatch hx) hfX hkX hcellA (by rw [hhp, hT]; exact Nat.le_refl _) (msg := .ref sa) rfl
    (g := { method := m, pc := pc + 7, locals := ls, stack := .ref sa :: .ref T.heap.size :: .ref T.heap.size :: rest, locked := none }) rfl hsize rfl rfl (rest := rest) rfl
    (by rw [hb]; exact d7) (by rw [hb]; exact d10) hout hRframes (by simp only [List.map_cons, List.sum_cons, hcat]; omega) hlocks
  obtain ⟨f1, f2⟩ := vx_frame hsame
  rw [hhp] at f1 f2
  have hWs : s.WarmedH U.vm := State.WarmedH.trans hW0 hW
  have hcl : s.vm.findClass cls = some ce.cls := by
    have h9 := hO.cls
    rw [hvm] at h9
    exact h9
  have hall : s.sameButNew ({ U with vm := s.vm } : State) locs mc ms := by
    subst hA
    obtain ⟨e1, e2⟩ := hsame
    rw [State.setFrames_setFrames] at e1
    have h2 : (T.setVm s.vm).sameButNew ({ U with vm := s.vm } : State) [] (0 + 1) (0 + 6) := ⟨e1, e2⟩
    have h3 := X.same.trans h2
    rw [List.append_nil] at h3
    exact h3.mono hc hs
  refine ⟨U, ?_, .threw T.heap.size, hrun, hend, Or.inr ⟨T.heap.size, rfl, cls, ce, locs, hx U hWs.alike f1 (fun q hq => f2 q hq (fun z hz => nomatch hz)), hce, hO.vm, hcl, hWs, hall, hf⟩⟩
  refine st1 _ ?_
  show Steps p.tables e below (T1.setTop { method := m, pc := pc + 3, locals := ls, stack := .ref T.heap.size :: rest, locked := none }) _
  jvm_step X₁.here [X₁.here.top, hexec, d3', Value.category]
  exact X₁.ldcStringW hexec (own := own) (text := text) (index := is) (a := sa) hown' hstr'.1 hstr'.2
    (g := { method := m, pc := pc + 4, locals := ls, stack := .ref T.heap.size :: .ref T.heap.size :: rest, locked := none }) rfl d4' _ hsteps
end Ends
section Bodies
variable {l : Launch}
theorem vx_ofW {y : MethodName} {ws ws' : List Cond} {rm : Room} {Pc : Array Value → State → Prop} {Qc : Array Value → State → Outcome → State → Prop} {XC : String → State → State → Prop} {mc ms : Nat} {free : Addr → Prop} {cc : ByteArray} {maxL : Nat} {ret : Option FieldType}
    (hy : plainName y.cls = true) (hw : ws = Cond.code y cc maxL ret :: ws')
    (body : ∀ p e s m args below meth c s₁, BodyLoose p l y (headSpec ws rm) cc maxL ret e s m args below meth c s₁ → c.maxLocals = maxL → (∀ x ∈ c.exceptionTable.toList, False) → Pc args s →
      W p l e (headSpec ws rm).room s m args below meth c s.heap [] 0 0 (vx_MQ below Qc XC args s mc ms free) (entryFrame m args maxL)) : vx_Met l y ws rm Pc Qc XC mc ms free := by
  refine MetFree.of_bodyS (code := cc) (maxLocals := maxL) (ret := ret) hy ?_ ?_
  · intro args s m h hn
    obtain ⟨meth, c, h1, h2, h3, h4, h5, h6, -, -⟩ := Cond.code_spec hn (atoms_spec (ws := ws) h _ (by rw [hw]; exact List.mem_cons_self))
    exact ⟨meth, c, h1, h2, h3, h4, h5, h6⟩
  · intro p e s m args below meth c s₁ B hml hP _
    have hh0 : s₁.heap = s.heap := by rw [B.state]; rfl
    have ht : ∀ x ∈ c.exceptionTable.toList, False := by
      obtain ⟨meth9, c9, h1, h2, -, -, -, -, h7, -⟩ := Cond.code_spec B.named (atoms_spec (ws := ws) B.pre _ (by rw [hw]; exact List.mem_cons_self))
      cases Option.some.inj (h1.symm.trans B.method)
      cases Option.some.inj (h2.symm.trans (Stand.of_body B).code)
      intro x hx
      rw [Array.isEmpty_iff.mp h7] at hx
      cases hx
    obtain ⟨t, a1, o, b1, b2, b3⟩ := body p e s m args below meth c s₁ B hml ht hP s₁ hh0 (Stand.of_body B)
    exact ⟨t, o, a1, b1, b2, b3⟩
/-- the table of a body with handlers -/
theorem vx_table {p : Program} {x y : MethodName} {S : Spec} {cc bytes : ByteArray} {maxL maxL' : Nat} {ret ret' : Option FieldType} {e : Env} {s s₁ : State} {m : MethodId} {args : Array Value} {below : List Frame} {meth : Method} {c : Code} {hh : List (Nat × Nat × Nat × Nat)}
    (B : BodyLoose p l y S cc maxL ret e s m args below meth c s₁) (h : (Cond.codeWith y bytes maxL' ret' hh).before args s = true) : c.exceptionTable.toList = tableOf hh := by
  obtain ⟨m9, meth9, c9, hn9, h1, h2, -, -, h6, -⟩ := Cond.codeWith_spec h
  cases Option.some.inj (hn9.symm.trans B.named)
  cases Option.some.inj (h1.symm.trans B.method)
  cases Option.some.inj (h2.symm.trans (Stand.of_body B).code)
  rw [← h6, table_eq]
end Bodies
end VXA
/-! ===== END ===== -/
/-! ===== BEGIN a static call of a method with an exception table ===== -/
section VXS
variable {p : Program} {l : Launch} {e : Env} {R : Room} {s : State} {m : MethodId} {args : Array Value} {below : List Frame} {meth : Method} {c : Code} {T : State} {H : Heap} {locs : List Loc} {cells slots : Nat}
abbrev vx_CSW (R : Room) (s : State) (args : Array Value) (own : String) (index : Nat) (y : MethodName) (bytes : ByteArray) (maxL : Nat) (ret : Option FieldType) (hh : List (Nat × Nat × Nat × Nat)) (ws : List Cond) (rm : Room) (mc ms n : Nat) : Prop :=
  (rm.cells = mc ∧ rm.slots = ms ∧ rm.frames + 1 ≤ R.frames ∧ 8 + (maxL + 11) + rm.locals ≤ R.locals ∧ (∀ w ∈ ws, ∀ (a' : Array Value) (U : State), s.WarmedH U.vm → w.before a' U = true) ∧ Cond.codeWith y bytes maxL ret hh ∈ ws) ∧
  (Cond.codeWith y bytes maxL ret hh).before args s = true ∧ (Cond.initialized y.cls).before args s = true ∧ (y.cls ≠ "java/lang/invoke/MethodHandle" ∧ y.cls ≠ "java/lang/invoke/VarHandle") ∧
  (∀ sig, parseMethodDescriptor y.desc = some sig → n = sig.parameters.length) ∧ (Cond.methodLink own index y).before args s = true ∧ (Cond.static y).before args s = true
theorem vx_cwSW {own : String} {index maxL mc ms : Nat} {y : MethodName} {bytes : ByteArray} {ret : Option FieldType} {hh : List (Nat × Nat × Nat × Nat)} {Ts ws ws' : List Cond} {rm : Room} (n : Nat) (ht : ∀ w ∈ Ts, w.before args s = true) (hT : GoodIn Ts (va_wsS own index y ws)) (hw : ws = Cond.codeWith y bytes maxL ret hh :: ws') (hrc : rm.cells = mc) (hrs : rm.slots = ms)
    (hd : y.cls ≠ "java/lang/invoke/MethodHandle" ∧ y.cls ≠ "java/lang/invoke/VarHandle" ∧ (parseMethodDescriptor y.desc).map (fun d => d.parameters.length) = some n) (hR : rm.frames + 1 ≤ R.frames ∧ 8 + (maxL + 11) + rm.locals ≤ R.locals) :
    vx_CSW R s args own index y bytes maxL ret hh ws rm mc ms n := by
  have ok : ∀ w ∈ va_wsS own index y ws, w.before args s = true := fun w h => ht w (hT w h).1
  have hG : GoodIn Ts ws := fun w h => hT w (by unfold va_wsS; exact List.mem_append_right _ h)
  have hc : Cond.codeWith y bytes maxL ret hh ∈ ws := by rw [hw]; exact List.mem_cons_self
  refine ⟨⟨hrc, hrs, hR.1, hR.2, pay_in ht hG, hc⟩, ht _ (hG _ hc).1, ok _ (by simp [va_wsS]), ⟨hd.1, hd.2.1⟩, fun sig h => ?_, ok _ (by simp [va_wsS]), ok _ (by simp [va_wsS])⟩
  have h2 := hd.2.2
  rw [h] at h2
  exact (Option.some.inj h2).symm
theorem vx_callSW (X : Stand p l e R s m args below meth c T locs cells slots) (hexec : p.tables.exec = Jvm.exec) {own : String} {index : Nat} {y : MethodName} {bytes : ByteArray} {maxL : Nat} {ret : Option FieldType} {hh : List (Nat × Nat × Nat × Nat)}
    (hown : s.vm.findClass own = some m.cls) (hlink : (Cond.methodLink own index y).before args s = true) (hstat : (Cond.static y).before args s = true) (hinit : (Cond.initialized y.cls).before args s = true)
    (hcode : (Cond.codeWith y bytes maxL ret hh).before args s = true) (hy : y.cls ≠ "java/lang/invoke/MethodHandle" ∧ y.cls ≠ "java/lang/invoke/VarHandle")
    {W9 : Nat} {Pre : Pt → Array Value → Prop} {Post : Pt → Array Value → Option Value → Pt → Prop} (hK : Back l R p e below s args y 3 W9 Pre Post)
    {g : JFrame} (hg : g.method = m) (hsize : g.locals.size = c.maxLocals) {argsL rest : List Value} (hlen : ∀ sig, parseMethodDescriptor y.desc = some sig → argsL.length = sig.parameters.length)
    (hstack : g.stack = argsL.reverse ++ rest) (hW : 2 * g.monitorRoom + (rest.map fun v => v.category).sum ≤ W9) (hdg : decode c.code g.pc = .ok (.invokestatic index, 3))
    (hpre : ∀ vm₁, s.WarmedH vm₁ → Pre ⟨T.setVm vm₁, locs, cells, slots⟩ argsL.toArray) :
    ∃ (v : Option Value) (vm₁ : Vm) (B : Pt), s.WarmedH vm₁ ∧ Stand p l e R s m args below meth c B.U B.locs B.cells B.slots ∧ Post ⟨T.setVm vm₁, locs, cells, slots⟩ argsL.toArray v B ∧
      ∀ target, Steps p.tables e below (B.U.setTop { g with pc := g.pc + 3, stack := v.toList ++ rest }) target → Steps p.tables e below (T.setTop g) target := by
  obtain ⟨mk, methM, cM, hnamed, hmethM, -, -, -, -, -, -, hsigM⟩ := Cond.codeWith_spec hcode
  have hstatic : methM.isStatic = true := Cond.static_spec hnamed hmethM hstat
  obtain ⟨kP, hkP, -⟩ := className_of_methodNamed hnamed
  have hinitP : kP.init = .initialized := Cond.initialized_spec (findClass_of_methodNamed hnamed) hkP hinit
  obtain ⟨vm₁, X₁, hstep₁⟩ := X.invokestatic hexec hown hlink hnamed hmethM hstatic hkP hinitP hy (g := g) hg (argsL := argsL) (rest := rest) (hlen _ hsigM) hstack hdg
  obtain ⟨v, B, X', hpost, hsteps⟩ := hK m meth c ⟨T.setVm vm₁, locs, cells, slots⟩ { g with stack := rest } (.invokestatic index) mk argsL.toArray X₁ hg hsize hdg hW (X₁.named hnamed) (hpre vm₁ X₁.warmed)
  exact ⟨v, vm₁, B, X₁.warmed, X', hpost, fun target h => hstep₁ _ fun acts => by rw [doInvoke_state]; exact hsteps.trans h⟩
theorem vx_runSW {y : MethodName} {bytes cc : ByteArray} {maxL nL mc ms n index : Nat} {ret : Option FieldType} {hh : List (Nat × Nat × Nat × Nat)} {ws : List Cond} {rm : Room} {Pc : Array Value → State → Prop} {Qc : Array Value → State → Outcome → State → Prop} {free : Addr → Prop} {Ts : List Cond} {own : String} {As rest : List Value} {g : JFrame}
    (S : CallFix p m c cc nL s args Ts own) (hM : Met l y ws rm Pc Qc mc ms free) (cw : vx_CSW R s args own index y bytes maxL ret hh ws rm mc ms n) (hp : PreS s H Pc As)
    (hg : g.method = m) (hn : As.length = n) (hsize : g.locals.size = nL) (hstack : g.stack = As.reverse ++ rest) (hW : 2 * g.monitorRoom + (rest.map fun v => v.category).sum ≤ 8) (hdg : decode cc g.pc = .ok (.invokestatic index, 3)) (hf : cells + mc ≤ R.cells ∧ slots + ms ≤ R.slots) :
    va_Run p l e R s m args below meth c H locs cells slots mc ms g rest (Qc As.toArray) (free) := by
  obtain ⟨⟨hrc, hrs, hfr, hlo, hws, hcw⟩, hcode, hini, hy, hlen, hl, hstt⟩ := cw
  have hK : Back l R p e below s args y 3 8 (PreOf R mc ms Pc) (PostOf Qc mc ms free) := va_backW (hh := hh) (bytes := bytes) (maxL := maxL) (ret := ret) hM hp.1 hrc hrs hfr hlo hws hcw (fun a' U hW => word_at hW (Or.inl (by first | rfl | simp [Cond.onTables, Cond.keeps, Cond.steady])) hini)
  obtain ⟨hx, hb, hml, ho, -⟩ := S
  intro T hT X
  obtain ⟨v, vm₁, ⟨U', l2, c2, s2⟩, hW₁, X', ⟨g', mk, t, L, e1, e2, hq, h1, hL, h2, h3⟩, st⟩ := vx_callSW X hx (hh := hh) (bytes := bytes) (maxL := maxL) (ret := ret) ho hl hstt hini hcode hy hK hg (hsize.trans hml.symm) (argsL := As) (rest := rest) (fun sig h => hn.trans (hlen sig h)) hstack hW (by rw [hb]; exact hdg)
    (fun vm₁ hW₁ => ⟨hf.1, hf.2, hp.2 (T.setVm vm₁) hT hW₁⟩)
  dsimp only [Pt.U, Pt.locs, Pt.cells, Pt.slots] at X' e1 e2 h1 h2 h3 st
  subst h1; subst h2; subst h3
  exact ⟨v, (T.setVm vm₁).calling g' mk As.toArray, t, U', L, hT, X', hL, e1, e2, hq, st⟩
/-- not caught here, past rows that name other classes: it goes on to the caller -/
theorem vx_outP {p : Program} {l : Launch} {e : Env} {R : Room} {s : State} {m : MethodId} {args : Array Value} {below : List Frame} {meth : Method} {c : Code} {H : Heap} {locs : List Loc} {cells slots : Nat} {free : Addr → Prop} {ls : Array Slot} {rest : List Value} {Qc : Array Value → State → Outcome → State → Prop} {XC : String → State → State → Prop}
    {pc : Nat} {own E : String} {ce : Cell} {q : Addr} {mc ms : Nat} (hown : s.vm.findClass own = some m.cls) (hlocks : meth.locks = false)
    (hpass : ∀ z ∈ c.exceptionTable.toList, covers z pc = false ∨ (z.catchType ≠ 0 ∧ ∃ nm : String, (Cond.classLink own z.catchType nm).before args s = true ∧ va_Nc E nm s)) (hcell : H[q]? = some ce) (hv : ce.vm = .none) (hcl : s.vm.findClass E = some ce.cls)
    (hx : ∀ t : State, t.heap = H → s.vm.Alike t.vm → XC E s t) (hf : ∀ z ∈ locs, free z.base) (hc : cells ≤ mc) (hs : slots ≤ ms) :
    vx_W p l e R s m args below meth c H locs cells slots (vx_MQ below Qc XC args s mc ms free) (F0 m pc ls rest) q := by
  intro T hT X
  have hpl : e.platform.magicAccessors = ({} : Platform).magicAccessors := by rw [X.admits.platform]
  obtain ⟨vm', hW', X', st⟩ := X.outThrough hlocks q (g := F0 m pc ls rest) rfl rfl rfl (cell := ce) (by rw [hT]; exact hcell) (by rw [hv]; rfl)
    (by obtain ⟨k9, h9, -⟩ := Vm.findClass_spec hcl; exact ⟨k9, h9⟩) (fun z hz => by
      rcases hpass z hz with h | ⟨hz0, nm, hl1, hn1⟩
      · exact Or.inl h
      · obtain ⟨c6, hc6, hcl6⟩ := Cond.classLink_spec hown hl1 e.platform hpl
        obtain ⟨a8, b8, h1, h2, h3⟩ := hn1
        cases Option.some.inj (h1.symm.trans hcl)
        cases Option.some.inj (h2.symm.trans hc6)
        exact Or.inr ⟨hz0, _, hcl6, h3⟩)
  obtain ⟨g₀, hfr⟩ := X'.frames_eq
  have hcell9 : ((T.setVm vm').setFrames (.throwing q :: below)).heap[q]? = some ce := by
    show T.heap[q]? = some ce
    rw [hT]; exact hcell
  have hend : Ended ((T.setVm vm').setFrames (.throwing q :: below)) below (.threw q) := State.frames_setFrames _ (State.cur_lt_of_frames hfr)
  refine ⟨(T.setVm vm').setFrames (.throwing q :: below), ?_, .threw q, X'.here.running, hend, Or.inr ⟨q, rfl, E, ce, locs, hx _ hT (X'.ends _).1.alike, hcell9, hv, hcl, (X'.ends _).1, (X'.ends _).2.mono hc hs, hf⟩⟩
  rw [X.pushThrowing_eq]
  exact st
/-- a thing of a world lies in the heap -/
theorem vx_lt {D : va_G} {cl : List vw_C} {ws : va_W} {H1 : Heap} (h : va_P D cl ws H1) {k : Nat} {q : Nat × va_E} (hk : ws[k]? = some q) : q.1 < H1.size := (h k q hk).lt
end VXS
/-! ===== END ===== -/
/-! ===== BEGIN methods with a table of their own: called by a name, returning or throwing ===== -/
section VXH
/-! vx_backW, vx_callVX, vx_callSX, vx_callVW, vx_runVW, vx_runVX, vx_runSX, vx_ofWH follow the same proofs as their sisters above (Free/Laws.lean, Shelf42/LK1.lean); vx_outP calls Shelf42/NT130.lean (outThrough). -/
section
variable {l : Launch} {R : Room} {p : Program} {e : Env} {below : List Frame} {s : State} {sargs : Array Value} {y : MethodName} {len W9 : Nat}
theorem vx_backW {ws : List Cond} {rm : Room} {Pc : Array Value → State → Prop} {Qc : Array Value → State → Outcome → State → Prop} {XC : String → State → State → Prop} {mc ms : Nat} {free : Addr → Prop} {bytes : ByteArray} {maxL : Nat} {ret : Option FieldType} {hh : List (Nat × Nat × Nat × Nat)}
    (hM : vx_Met l y ws rm Pc Qc XC mc ms free) (hblind : FrameBlind Pc) (hrc : rm.cells = mc) (hrs : rm.slots = ms)
    (hframes : rm.frames + 1 ≤ R.frames) (hlocals : W9 + (maxL + 11) + rm.locals ≤ R.locals)
    (hws : ∀ w ∈ ws, ∀ a' U, s.WarmedH U.vm → w.before a' U = true) (hcode : Cond.codeWith y bytes maxL ret hh ∈ ws) (hinit : ∀ a' U, s.WarmedH U.vm → (Cond.initialized y.cls).before a' U = true) :
    vx_Back l R p e below s sargs y len W9 (PreOf R mc ms Pc) (PostOf Qc mc ms free) (vx_Post XC mc ms free) := by
  intro m meth c A g ig mk a X hg hsize hdg hW hn hp
  have h1 : (headSpec ws rm).pre.before a A.U = true := atoms_intro fun w hw => hws w hw _ _ X.warmed
  have h2 : (Cond.codeWith y bytes maxL ret hh).before a A.U = true := hws _ hcode _ _ X.warmed
  have h3 : (Cond.initialized y.cls).before a A.U = true := hinit _ _ X.warmed
  have h4 : A.cells + (headSpec ws rm).room.cells ≤ R.cells := by rw [show (headSpec ws rm).room.cells = mc from hrc]; exact hp.1
  have h5 : A.slots + (headSpec ws rm).room.slots ≤ R.slots := by rw [show (headSpec ws rm).room.slots = ms from hrs]; exact hp.2.1
  have hPc : Pc a (A.U.calling g mk a) := hblind _ _ _ _ hp.2.2
  obtain ⟨U, Ls, c0, s0⟩ := A
  dsimp only [Pt.U, Pt.locs, Pt.cells, Pt.slots] at h1 h2 h3 h4 h5 X hn hPc ⊢
  obtain ⟨m9, methY, cY, hn9, hmY, hcY, -, hlY, -⟩ := Cond.codeWith_spec h2
  cases Option.some.inj (hn9.symm.trans hn)
  obtain ⟨kY, hkY, -⟩ := className_of_methodNamed hn
  have hinitY : kY.init = .initialized := Cond.initialized_spec (findClass_of_methodNamed hn) hkY h3
  have h : At U g.method c below := by rw [hg]; exact X.here
  have hlocals9 : W9 + (maxL + 11) + (headSpec ws rm).room.locals ≤ R.locals := hlocals
  have happ : (headSpec ws rm).appliesLoose y e.platform (U.calling g mk a) = true :=
    Spec.appliesLoose_calling (g := g) h hdg hn hkY hinitY
      (X.room_calling (g := g) (R' := (headSpec ws rm).room) hsize hmY hcY hframes (by rw [hlY]; omega) h4 h5) h1
  obtain ⟨mid, hmid⟩ := h.above
  have hfr : (U.setTop g).frames = (.java g :: mid) ++ below := by rw [State.frames_setTop' g h.top, hmid]; rfl
  obtain ⟨o, s₂, hsteps, -, hend, hq⟩ := Steps.callFree hM p X.admits X.cas X.clock (acts := []) hfr happ hPc trivial
  have hq' : vx_Q Qc XC mc ms free a (U.calling g mk a) o s₂ := hq
  rw [State.frames_setTop' g h.top] at hend
  obtain ⟨g₀, hg0⟩ := Option.isSome_iff_exists.mp h.top
  obtain ⟨r, hr⟩ := State.topJava?_eq_some.mp hg0
  have hr' : (({ U with heap := s₂.heap, slotsUsed := s₂.slotsUsed } : State).setVm s₂.vm).frames = .java g₀ :: r := hr
  rcases hq' with ⟨hqc, L, hfe, hL⟩ | ⟨q, rfl, E, ce, L, hx, hce, hcv, hcl, hW₂, hsm, hL⟩
  · obtain ⟨⟨v, rfl⟩, hW₂, e2, q2, q3, q4, q5, q6⟩ := id hfe
    have e3 : s₂ = ({ (U.calling g mk a).setFrames s₂.frames with heap := s₂.heap, slotsUsed := s₂.slotsUsed } : State).setVm s₂.vm := by
      have : s₂ = ({ s₂ with vm := (U.calling g mk a).vm } : State).setVm s₂.vm := rfl
      rw [e2] at this
      exact this
    obtain ⟨c₂, i₂, len₂, hc₂, hd₂, hf₂⟩ := hend
    have hW' : U.WarmedH s₂.vm := hW₂
    have hcc : c₂ = c := by
      have h1 : s₂.code? g.method = U.code? g.method := by
        rw [State.code?_eq, State.code?_eq, hW'.alike.method?]
      exact Option.some.inj (hc₂.symm.trans (h1.trans h.code))
    subst hcc
    have hlen : len₂ = len := by rw [hdg] at hd₂; cases hd₂; rfl
    subst hlen
    have hs₂ : s₂ = (({ U with heap := s₂.heap, slotsUsed := s₂.slotsUsed } : State).setVm s₂.vm).setTop { g with pc := g.pc + len₂, stack := v.toList ++ g.stack } := by
      refine e3.trans ?_
      rw [hf₂, State.calling_eq h.top, State.setFrames_setFrames, State.setTop_of_frames _ hr', hr]
      rfl
    have hsame : U.sameButNew ({ U with heap := s₂.heap, slotsUsed := s₂.slotsUsed } : State) L mc ms := by
      refine ⟨?_, q2, q3, q4, q5, q6⟩
      obtain ⟨t, ht, -⟩ := State.frames_cons hr
      show ({ U with heap := s₂.heap, slotsUsed := s₂.slotsUsed } : State) = { U.setFrames U.frames with heap := s₂.heap, slotsUsed := s₂.slotsUsed }
      rw [State.setFrames_self ht]
    subst hg
    refine Or.inl ⟨v, ⟨(({ U with heap := s₂.heap, slotsUsed := s₂.slotsUsed } : State).setVm s₂.vm), Ls ++ L, c0 + mc, s0 + ms⟩,
      ⟨X.admits, X.cas, X.clock, X.frames, X.room, X.hears, X.method, X.code, (X.here.setHeapUsed s₂.heap s₂.slotsUsed).setVm hW'.alike, X.tail, State.WarmedH.trans X.warmed hW', X.limits, X.bytes, X.same.trans (hsame.setVm s.vm)⟩,
      ⟨g, mk, s₂, L, rfl, rfl, hqc, rfl, hL, rfl, rfl⟩, ?_⟩
    show Steps p.tables e below _ ((({ U with heap := s₂.heap, slotsUsed := s₂.slotsUsed } : State).setVm s₂.vm).setTop { g with pc := g.pc + len₂, stack := v.toList ++ g.stack })
    rw [← hs₂]
    exact hsteps
  · obtain ⟨e2, q2, q3, q4, q5, q6⟩ := id hsm
    have e3 : s₂ = ({ (U.calling g mk a).setFrames s₂.frames with heap := s₂.heap, slotsUsed := s₂.slotsUsed } : State).setVm s₂.vm := by
      have : s₂ = ({ s₂ with vm := (U.calling g mk a).vm } : State).setVm s₂.vm := rfl
      rw [e2] at this
      exact this
    have hf₂ : s₂.frames = .throwing q :: .java g :: U.frames.tail := hend
    have hW' : U.WarmedH s₂.vm := hW₂
    have hs₂ : s₂ = ((({ U with heap := s₂.heap, slotsUsed := s₂.slotsUsed } : State).setVm s₂.vm).setTop g).pushFrame (.throwing q) := by
      refine e3.trans ?_
      rw [hf₂, State.calling_eq h.top, State.setFrames_setFrames, State.pushFrame, State.frames_setTop _ hr', State.setTop_of_frames _ hr', State.setFrames_setFrames, hr]
      rfl
    have hsame : U.sameButNew ({ U with heap := s₂.heap, slotsUsed := s₂.slotsUsed } : State) L mc ms := by
      refine ⟨?_, q2, q3, q4, q5, q6⟩
      obtain ⟨t, ht, -⟩ := State.frames_cons hr
      show ({ U with heap := s₂.heap, slotsUsed := s₂.slotsUsed } : State) = { U.setFrames U.frames with heap := s₂.heap, slotsUsed := s₂.slotsUsed }
      rw [State.setFrames_self ht]
    subst hg
    refine Or.inr ⟨q, ⟨(({ U with heap := s₂.heap, slotsUsed := s₂.slotsUsed } : State).setVm s₂.vm), Ls ++ L, c0 + mc, s0 + ms⟩,
      ⟨X.admits, X.cas, X.clock, X.frames, X.room, X.hears, X.method, X.code, (X.here.setHeapUsed s₂.heap s₂.slotsUsed).setVm hW'.alike, X.tail, State.WarmedH.trans X.warmed hW', X.limits, X.bytes, X.same.trans (hsame.setVm s.vm)⟩,
      ⟨g, mk, s₂, L, E, ce, rfl, rfl, hx, hce, hcv, hcl, rfl, hL, rfl, rfl⟩, ?_⟩
    show Steps p.tables e below _ (((({ U with heap := s₂.heap, slotsUsed := s₂.slotsUsed } : State).setVm s₂.vm).setTop g).pushFrame (.throwing q))
    rw [← hs₂]
    exact hsteps
end
variable {p : Program} {l : Launch} {e : Env} {R : Room} {s : State} {m : MethodId} {args : Array Value} {below : List Frame} {meth : Method} {c : Code} {T : State} {H : Heap} {locs : List Loc} {cells slots : Nat}
theorem vx_callVX (X : Stand p l e R s m args below meth c T locs cells slots) (hexec : p.tables.exec = Jvm.exec) {own C : String} {index : Nat} {y : MethodName} {bytes : ByteArray} {maxL : Nat} {ret : Option FieldType} {hh : List (Nat × Nat × Nat × Nat)}
    (hown : s.vm.findClass own = some m.cls) (hlink : (Cond.methodLink own index y).before args s = true) (hinst : (Cond.instanceMethod y).before args s = true) (hsel : (Cond.selects C y y).before args s = true)
    (hcode : (Cond.codeWith y bytes maxL ret hh).before args s = true) (hy : y.cls ≠ "java/lang/invoke/MethodHandle" ∧ y.cls ≠ "java/lang/invoke/VarHandle")
    {W9 : Nat} {Pre : Pt → Array Value → Prop} {Post : Pt → Array Value → Option Value → Pt → Prop} {PostX : Pt → Array Value → Addr → Pt → Prop} (hK : vx_Back l R p e below s args y 3 W9 Pre Post PostX)
    {b : Addr} {cellB : Cell} (hcell : T.heap[b]? = some cellB) (hobj : cellB.vm.isStatics = false) (hcls : s.vm.findClass C = some cellB.cls)
    {g : JFrame} (hg : g.method = m) (hsize : g.locals.size = c.maxLocals) {argsL rest : List Value} (hlen : ∀ sig, parseMethodDescriptor y.desc = some sig → argsL.length = sig.parameters.length)
    (hstack : g.stack = argsL.reverse ++ .ref b :: rest) (hW : 2 * g.monitorRoom + (rest.map fun v => v.category).sum ≤ W9) (hdg : decode c.code g.pc = .ok (.invokevirtual index, 3))
    (hpre : ∀ vm₁, s.WarmedH vm₁ → Pre ⟨T.setVm vm₁, locs, cells, slots⟩ (Value.ref b :: argsL).toArray) :
    (∃ (v : Option Value) (vm₁ : Vm) (B : Pt), s.WarmedH vm₁ ∧ Stand p l e R s m args below meth c B.U B.locs B.cells B.slots ∧ Post ⟨T.setVm vm₁, locs, cells, slots⟩ (Value.ref b :: argsL).toArray v B ∧
      ∀ target, Steps p.tables e below (B.U.setTop { g with pc := g.pc + 3, stack := v.toList ++ rest }) target → Steps p.tables e below (T.setTop g) target) ∨
    (∃ (q : Addr) (vm₁ : Vm) (B : Pt), s.WarmedH vm₁ ∧ Stand p l e R s m args below meth c B.U B.locs B.cells B.slots ∧ PostX ⟨T.setVm vm₁, locs, cells, slots⟩ (Value.ref b :: argsL).toArray q B ∧
      Steps p.tables e below (T.setTop g) ((B.U.setTop { g with stack := rest }).pushFrame (.throwing q))) := by
  obtain ⟨mk, methM, hnamed, hmethM, hstM, habM⟩ := Cond.instanceMethod_spec hinst
  obtain ⟨m8, methM', cM, hn8, hmethM', -, -, -, -, -, -, hsigM⟩ := Cond.codeWith_spec hcode
  cases Option.some.inj (hn8.symm.trans hnamed)
  cases hmethM.symm.trans hmethM'
  obtain ⟨c2, r2, m2, q1, q2, q3, q4, kP, hkP, hkPi⟩ := Cond.selects_spec hsel
  cases hcls.symm.trans q1
  cases (State.methodFound?_of_named hnamed hy).symm.trans q2
  cases hnamed.symm.trans q3
  have hselP : selectMethod e.platform s.vm cellB.cls mk = .method mk := by rw [Launch.admits_selectMethod X.admits]; exact q4
  obtain ⟨vm₁, X₁, hstep₁⟩ := X.invokevirtual hexec hown hlink hnamed hmethM hstM hkP hkPi hy (a := b) (cell := cellB) hcell
    (fun z h => by rw [h] at hobj; cases hobj) hselP hmethM habM hkP hkPi (g := g) hg (argsL := argsL) (rest := rest) (hlen _ hsigM) hstack hdg
  rcases hK m meth c ⟨T.setVm vm₁, locs, cells, slots⟩ { g with stack := rest } (.invokevirtual index) mk (Value.ref b :: argsL).toArray X₁ hg hsize hdg hW (X₁.named hnamed) (hpre vm₁ X₁.warmed) with ⟨v, B, X', hpost, hsteps⟩ | ⟨q, B, X', hpost, hsteps⟩
  · exact Or.inl ⟨v, vm₁, B, X₁.warmed, X', hpost, fun target h => hstep₁ _ fun acts => by rw [doInvoke_state]; exact hsteps.trans h⟩
  · exact Or.inr ⟨q, vm₁, B, X₁.warmed, X', hpost, hstep₁ _ fun acts => by rw [doInvoke_state]; exact hsteps⟩
theorem vx_callSX (X : Stand p l e R s m args below meth c T locs cells slots) (hexec : p.tables.exec = Jvm.exec) {own : String} {index : Nat} {y : MethodName} {bytes : ByteArray} {maxL : Nat} {ret : Option FieldType} {hh : List (Nat × Nat × Nat × Nat)}
    (hown : s.vm.findClass own = some m.cls) (hlink : (Cond.methodLink own index y).before args s = true) (hstat : (Cond.static y).before args s = true) (hinit : (Cond.initialized y.cls).before args s = true)
    (hcode : (Cond.codeWith y bytes maxL ret hh).before args s = true) (hy : y.cls ≠ "java/lang/invoke/MethodHandle" ∧ y.cls ≠ "java/lang/invoke/VarHandle")
    {W9 : Nat} {Pre : Pt → Array Value → Prop} {Post : Pt → Array Value → Option Value → Pt → Prop} {PostX : Pt → Array Value → Addr → Pt → Prop} (hK : vx_Back l R p e below s args y 3 W9 Pre Post PostX)
    {g : JFrame} (hg : g.method = m) (hsize : g.locals.size = c.maxLocals) {argsL rest : List Value} (hlen : ∀ sig, parseMethodDescriptor y.desc = some sig → argsL.length = sig.parameters.length)
    (hstack : g.stack = argsL.reverse ++ rest) (hW : 2 * g.monitorRoom + (rest.map fun v => v.category).sum ≤ W9) (hdg : decode c.code g.pc = .ok (.invokestatic index, 3))
    (hpre : ∀ vm₁, s.WarmedH vm₁ → Pre ⟨T.setVm vm₁, locs, cells, slots⟩ argsL.toArray) :
    (∃ (v : Option Value) (vm₁ : Vm) (B : Pt), s.WarmedH vm₁ ∧ Stand p l e R s m args below meth c B.U B.locs B.cells B.slots ∧ Post ⟨T.setVm vm₁, locs, cells, slots⟩ argsL.toArray v B ∧
      ∀ target, Steps p.tables e below (B.U.setTop { g with pc := g.pc + 3, stack := v.toList ++ rest }) target → Steps p.tables e below (T.setTop g) target) ∨
    (∃ (q : Addr) (vm₁ : Vm) (B : Pt), s.WarmedH vm₁ ∧ Stand p l e R s m args below meth c B.U B.locs B.cells B.slots ∧ PostX ⟨T.setVm vm₁, locs, cells, slots⟩ argsL.toArray q B ∧
      Steps p.tables e below (T.setTop g) ((B.U.setTop { g with stack := rest }).pushFrame (.throwing q))) := by
  obtain ⟨mk, methM, cM, hnamed, hmethM, -, -, -, -, -, -, hsigM⟩ := Cond.codeWith_spec hcode
  have hstatic : methM.isStatic = true := Cond.static_spec hnamed hmethM hstat
  obtain ⟨kP, hkP, -⟩ := className_of_methodNamed hnamed
  have hinitP : kP.init = .initialized := Cond.initialized_spec (findClass_of_methodNamed hnamed) hkP hinit
  obtain ⟨vm₁, X₁, hstep₁⟩ := X.invokestatic hexec hown hlink hnamed hmethM hstatic hkP hinitP hy (g := g) hg (argsL := argsL) (rest := rest) (hlen _ hsigM) hstack hdg
  rcases hK m meth c ⟨T.setVm vm₁, locs, cells, slots⟩ { g with stack := rest } (.invokestatic index) mk argsL.toArray X₁ hg hsize hdg hW (X₁.named hnamed) (hpre vm₁ X₁.warmed) with ⟨v, B, X', hpost, hsteps⟩ | ⟨q, B, X', hpost, hsteps⟩
  · exact Or.inl ⟨v, vm₁, B, X₁.warmed, X', hpost, fun target h => hstep₁ _ fun acts => by rw [doInvoke_state]; exact hsteps.trans h⟩
  · exact Or.inr ⟨q, vm₁, B, X₁.warmed, X', hpost, hstep₁ _ fun acts => by rw [doInvoke_state]; exact hsteps⟩
theorem vx_callVW (X : Stand p l e R s m args below meth c T locs cells slots) (hexec : p.tables.exec = Jvm.exec) {own C : String} {index : Nat} {y : MethodName} {bytes : ByteArray} {maxL : Nat} {ret : Option FieldType} {hh : List (Nat × Nat × Nat × Nat)}
    (hown : s.vm.findClass own = some m.cls) (hlink : (Cond.methodLink own index y).before args s = true) (hinst : (Cond.instanceMethod y).before args s = true) (hsel : (Cond.selects C y y).before args s = true)
    (hcode : (Cond.codeWith y bytes maxL ret hh).before args s = true) (hy : y.cls ≠ "java/lang/invoke/MethodHandle" ∧ y.cls ≠ "java/lang/invoke/VarHandle")
    {W9 : Nat} {Pre : Pt → Array Value → Prop} {Post : Pt → Array Value → Option Value → Pt → Prop} (hK : Back l R p e below s args y 3 W9 Pre Post)
    {b : Addr} {cellB : Cell} (hcell : T.heap[b]? = some cellB) (hobj : cellB.vm.isStatics = false) (hcls : s.vm.findClass C = some cellB.cls)
    {g : JFrame} (hg : g.method = m) (hsize : g.locals.size = c.maxLocals) {argsL rest : List Value} (hlen : ∀ sig, parseMethodDescriptor y.desc = some sig → argsL.length = sig.parameters.length)
    (hstack : g.stack = argsL.reverse ++ .ref b :: rest) (hW : 2 * g.monitorRoom + (rest.map fun v => v.category).sum ≤ W9) (hdg : decode c.code g.pc = .ok (.invokevirtual index, 3))
    (hpre : ∀ vm₁, s.WarmedH vm₁ → Pre ⟨T.setVm vm₁, locs, cells, slots⟩ (Value.ref b :: argsL).toArray) :
    ∃ (v : Option Value) (vm₁ : Vm) (B : Pt), s.WarmedH vm₁ ∧ Stand p l e R s m args below meth c B.U B.locs B.cells B.slots ∧ Post ⟨T.setVm vm₁, locs, cells, slots⟩ (Value.ref b :: argsL).toArray v B ∧
      ∀ target, Steps p.tables e below (B.U.setTop { g with pc := g.pc + 3, stack := v.toList ++ rest }) target → Steps p.tables e below (T.setTop g) target := by
  obtain ⟨mk, methM, hnamed, hmethM, hstM, habM⟩ := Cond.instanceMethod_spec hinst
  obtain ⟨m8, methM', cM, hn8, hmethM', -, -, -, -, -, -, hsigM⟩ := Cond.codeWith_spec hcode
  cases Option.some.inj (hn8.symm.trans hnamed)
  cases hmethM.symm.trans hmethM'
  obtain ⟨c2, r2, m2, q1, q2, q3, q4, kP, hkP, hkPi⟩ := Cond.selects_spec hsel
  cases hcls.symm.trans q1
  cases (State.methodFound?_of_named hnamed hy).symm.trans q2
  cases hnamed.symm.trans q3
  have hselP : selectMethod e.platform s.vm cellB.cls mk = .method mk := by rw [Launch.admits_selectMethod X.admits]; exact q4
  obtain ⟨vm₁, X₁, hstep₁⟩ := X.invokevirtual hexec hown hlink hnamed hmethM hstM hkP hkPi hy (a := b) (cell := cellB) hcell
    (fun z h => by rw [h] at hobj; cases hobj) hselP hmethM habM hkP hkPi (g := g) hg (argsL := argsL) (rest := rest) (hlen _ hsigM) hstack hdg
  obtain ⟨v, B, X', hpost, hsteps⟩ := hK m meth c ⟨T.setVm vm₁, locs, cells, slots⟩ { g with stack := rest } (.invokevirtual index) mk (Value.ref b :: argsL).toArray X₁ hg hsize hdg hW (X₁.named hnamed) (hpre vm₁ X₁.warmed)
  exact ⟨v, vm₁, B, X₁.warmed, X', hpost, fun target h => hstep₁ _ fun acts => by rw [doInvoke_state]; exact hsteps.trans h⟩
abbrev vx_CVW (R : Room) (s : State) (args : Array Value) (own C : String) (index : Nat) (y : MethodName) (bytes : ByteArray) (maxL : Nat) (ret : Option FieldType) (hh : List (Nat × Nat × Nat × Nat)) (ws : List Cond) (rm : Room) (mc ms n : Nat) : Prop :=
  (rm.cells = mc ∧ rm.slots = ms ∧ rm.frames + 1 ≤ R.frames ∧ 8 + (maxL + 11) + rm.locals ≤ R.locals ∧ (∀ w ∈ ws, ∀ (a' : Array Value) (U : State), s.WarmedH U.vm → w.before a' U = true) ∧ Cond.codeWith y bytes maxL ret hh ∈ ws) ∧
  (Cond.codeWith y bytes maxL ret hh).before args s = true ∧ (Cond.initialized y.cls).before args s = true ∧ (y.cls ≠ "java/lang/invoke/MethodHandle" ∧ y.cls ≠ "java/lang/invoke/VarHandle") ∧
  (∀ sig, parseMethodDescriptor y.desc = some sig → n = sig.parameters.length) ∧ (Cond.methodLink own index y).before args s = true ∧ (Cond.instanceMethod y).before args s = true ∧ (Cond.selects C y y).before args s = true
theorem vx_cwVW {own C : String} {index maxL mc ms : Nat} {y : MethodName} {bytes : ByteArray} {ret : Option FieldType} {hh : List (Nat × Nat × Nat × Nat)} {Ts ws ws' : List Cond} {rm : Room} (n : Nat) (ht : ∀ w ∈ Ts, w.before args s = true) (hT : GoodIn Ts (wsV own index C y ws)) (hw : ws = Cond.codeWith y bytes maxL ret hh :: ws') (hrc : rm.cells = mc) (hrs : rm.slots = ms)
    (hd : y.cls = C ∧ y.cls ≠ "java/lang/invoke/MethodHandle" ∧ y.cls ≠ "java/lang/invoke/VarHandle" ∧ (parseMethodDescriptor y.desc).map (fun d => d.parameters.length) = some n) (hR : rm.frames + 1 ≤ R.frames ∧ 8 + (maxL + 11) + rm.locals ≤ R.locals) :
    vx_CVW R s args own C index y bytes maxL ret hh ws rm mc ms n := by
  obtain ⟨hC, hd⟩ := hd
  subst hC
  have ok : ∀ w ∈ wsV own index y.cls y ws, w.before args s = true := fun w h => ht w (hT w h).1
  have hG : GoodIn Ts ws := fun w h => hT w (by unfold wsV; exact List.mem_append_right _ h)
  have hc : Cond.codeWith y bytes maxL ret hh ∈ ws := by rw [hw]; exact List.mem_cons_self
  refine ⟨⟨hrc, hrs, hR.1, hR.2, pay_in ht hG, hc⟩, ht _ (hG _ hc).1, ok _ (by simp [wsV]), ⟨hd.1, hd.2.1⟩, fun sig h => ?_, ok _ (by simp [wsV]), ok _ (by simp [wsV]), ok _ (by simp [wsV])⟩
  have h2 := hd.2.2
  rw [h] at h2
  exact (Option.some.inj h2).symm
theorem vx_runVW {y : MethodName} {bytes cc : ByteArray} {maxL nL mc ms n index : Nat} {ret : Option FieldType} {hh : List (Nat × Nat × Nat × Nat)} {ws : List Cond} {rm : Room} {Pc : Array Value → State → Prop} {Qc : Array Value → State → Outcome → State → Prop} {free : Addr → Prop} {Ts : List Cond} {own C : String} {b : Addr} {As rest : List Value} {g : JFrame}
    (S : CallFix p m c cc nL s args Ts own) (hM : Met l y ws rm Pc Qc mc ms free) (cw : vx_CVW R s args own C index y bytes maxL ret hh ws rm mc ms n) (hp : PreV s H C b Pc As)
    (hg : g.method = m) (hn : As.length = n) (hsize : g.locals.size = nL) (hstack : g.stack = As.reverse ++ .ref b :: rest) (hW : 2 * g.monitorRoom + (rest.map fun v => v.category).sum ≤ 8) (hdg : decode cc g.pc = .ok (.invokevirtual index, 3)) (hf : cells + mc ≤ R.cells ∧ slots + ms ≤ R.slots) :
    va_Run p l e R s m args below meth c H locs cells slots mc ms g rest (Qc (Value.ref b :: As).toArray) free := by
  obtain ⟨⟨hrc, hrs, hfr, hlo, hws, hcw⟩, hcode, hini, hy, hlen, hl, hin, hse⟩ := cw
  have hK : Back l R p e below s args y 3 8 (PreOf R mc ms Pc) (PostOf Qc mc ms free) := va_backW (hh := hh) (bytes := bytes) (maxL := maxL) (ret := ret) hM hp.1 hrc hrs hfr hlo hws hcw (fun a' U hW => word_at hW (Or.inl (by first | rfl | simp [Cond.onTables, Cond.keeps, Cond.steady])) hini)
  obtain ⟨hx, hb, hml, ho, -⟩ := S
  obtain ⟨-, ⟨cellB, hcB, hoB, hclB⟩, hPc⟩ := hp
  intro T hT X
  obtain ⟨v, vm₁, ⟨U', l2, c2, s2⟩, hW₁, X', ⟨g', mk, t, L, e1, e2, hq, h1, hL, h2, h3⟩, st⟩ := vx_callVW X hx (C := C) (hh := hh) (bytes := bytes) (maxL := maxL) (ret := ret) ho hl hin hse hcode hy hK (by rw [hT]; exact hcB) hoB hclB hg (hsize.trans hml.symm) (argsL := As) (rest := rest) (fun sig h => hn.trans (hlen sig h)) hstack hW (by rw [hb]; exact hdg)
    (fun vm₁ hW₁ => ⟨hf.1, hf.2, hPc (T.setVm vm₁) hT hW₁⟩)
  dsimp only [Pt.U, Pt.locs, Pt.cells, Pt.slots] at X' e1 e2 h1 h2 h3 st
  subst h1; subst h2; subst h3
  exact ⟨v, (T.setVm vm₁).calling g' mk (Value.ref b :: As).toArray, t, U', L, hT, X', hL, e1, e2, hq, st⟩
section
variable {y : MethodName} {bytes cc : ByteArray} {maxL nL mc ms n index : Nat} {ret : Option FieldType} {ws : List Cond} {rm : Room} {Pc : Array Value → State → Prop} {Qc : Array Value → State → Outcome → State → Prop} {XC : String → State → State → Prop} {free : Addr → Prop} {Ts : List Cond} {own C : String} {b : Addr} {As rest : List Value} {g : JFrame}
theorem vx_runVX {hh : List (Nat × Nat × Nat × Nat)} (S : CallFix p m c cc nL s args Ts own) (hM : vx_Met l y ws rm Pc Qc XC mc ms free) (cw : vx_CVW R s args own C index y bytes maxL ret hh ws rm mc ms n) (hp : PreV s H C b Pc As)
    (hg : g.method = m) (hn : As.length = n) (hsize : g.locals.size = nL) (hstack : g.stack = As.reverse ++ .ref b :: rest) (hW : 2 * g.monitorRoom + (rest.map fun v => v.category).sum ≤ 8) (hdg : decode cc g.pc = .ok (.invokevirtual index, 3)) (hf : cells + mc ≤ R.cells ∧ slots + ms ≤ R.slots) :
    vx_Run p l e R s m args below meth c H locs cells slots mc ms g rest (Qc (Value.ref b :: As).toArray) XC free := by
  obtain ⟨⟨hrc, hrs, hfr, hlo, hws, hcw⟩, hcode, hini, hy, hlen, hl, hin, hse⟩ := cw
  have hK : vx_Back l R p e below s args y 3 8 (PreOf R mc ms Pc) (PostOf Qc mc ms free) (vx_Post XC mc ms free) := vx_backW (hh := hh) (bytes := bytes) (maxL := maxL) (ret := ret) hM hp.1 hrc hrs hfr hlo hws hcw (fun a' U hW => word_at hW (Or.inl (by first | rfl | simp [Cond.onTables, Cond.keeps, Cond.steady])) hini)
  obtain ⟨hx, hb, hml, ho, -⟩ := S
  obtain ⟨-, ⟨cellB, hcB, hoB, hclB⟩, hPc⟩ := hp
  intro T hT X
  rcases vx_callVX X hx (C := C) (hh := hh) (bytes := bytes) (maxL := maxL) (ret := ret) ho hl hin hse hcode hy hK (by rw [hT]; exact hcB) hoB hclB hg (hsize.trans hml.symm) (argsL := As) (rest := rest) (fun sig h => hn.trans (hlen sig h)) hstack hW (by rw [hb]; exact hdg)
    (fun vm₁ hW₁ => ⟨hf.1, hf.2, hPc (T.setVm vm₁) hT hW₁⟩) with ⟨v, vm₁, ⟨U', l2, c2, s2⟩, hW₁, X', ⟨g', mk, t, L, e1, e2, hq, h1, hL, h2, h3⟩, st⟩ | ⟨q, vm₁, ⟨U', l2, c2, s2⟩, hW₁, X', ⟨g', mk, t, L, E, ce, e1, e2, hq, hce, hcv, hcl, h1, hL, h2, h3⟩, st⟩
  · dsimp only [Pt.U, Pt.locs, Pt.cells, Pt.slots] at X' e1 e2 h1 h2 h3 st
    subst h1; subst h2; subst h3
    exact Or.inl ⟨v, (T.setVm vm₁).calling g' mk (Value.ref b :: As).toArray, t, U', L, hT, X', hL, e1, e2, hq, st⟩
  · dsimp only [Pt.U, Pt.locs, Pt.cells, Pt.slots] at X' e1 e2 h1 h2 h3 st hcl
    subst h1; subst h2; subst h3
    exact Or.inr ⟨q, (T.setVm vm₁).calling g' mk (Value.ref b :: As).toArray, t, U', L, E, ce, hT, X', hL, e1, e2, hq, hce, hcv, vx_cls hW₁ hcl, st⟩
theorem vx_runSX {hh : List (Nat × Nat × Nat × Nat)} (S : CallFix p m c cc nL s args Ts own) (hM : vx_Met l y ws rm Pc Qc XC mc ms free) (cw : vx_CSW R s args own index y bytes maxL ret hh ws rm mc ms n) (hp : PreS s H Pc As)
    (hg : g.method = m) (hn : As.length = n) (hsize : g.locals.size = nL) (hstack : g.stack = As.reverse ++ rest) (hW : 2 * g.monitorRoom + (rest.map fun v => v.category).sum ≤ 8) (hdg : decode cc g.pc = .ok (.invokestatic index, 3)) (hf : cells + mc ≤ R.cells ∧ slots + ms ≤ R.slots) :
    vx_Run p l e R s m args below meth c H locs cells slots mc ms g rest (Qc As.toArray) XC free := by
  obtain ⟨⟨hrc, hrs, hfr, hlo, hws, hcw⟩, hcode, hini, hy, hlen, hl, hstt⟩ := cw
  have hK : vx_Back l R p e below s args y 3 8 (PreOf R mc ms Pc) (PostOf Qc mc ms free) (vx_Post XC mc ms free) := vx_backW (hh := hh) (bytes := bytes) (maxL := maxL) (ret := ret) hM hp.1 hrc hrs hfr hlo hws hcw (fun a' U hW => word_at hW (Or.inl (by first | rfl | simp [Cond.onTables, Cond.keeps, Cond.steady])) hini)
  obtain ⟨hx, hb, hml, ho, -⟩ := S
  intro T hT X
  rcases vx_callSX X hx (hh := hh) (bytes := bytes) (maxL := maxL) (ret := ret) ho hl hstt hini hcode hy hK hg (hsize.trans hml.symm) (argsL := As) (rest := rest) (fun sig h => hn.trans (hlen sig h)) hstack hW (by rw [hb]; exact hdg)
    (fun vm₁ hW₁ => ⟨hf.1, hf.2, hp.2 (T.setVm vm₁) hT hW₁⟩) with ⟨v, vm₁, ⟨U', l2, c2, s2⟩, hW₁, X', ⟨g', mk, t, L, e1, e2, hq, h1, hL, h2, h3⟩, st⟩ | ⟨q, vm₁, ⟨U', l2, c2, s2⟩, hW₁, X', ⟨g', mk, t, L, E, ce, e1, e2, hq, hce, hcv, hcl, h1, hL, h2, h3⟩, st⟩
  · dsimp only [Pt.U, Pt.locs, Pt.cells, Pt.slots] at X' e1 e2 h1 h2 h3 st
    subst h1; subst h2; subst h3
    exact Or.inl ⟨v, (T.setVm vm₁).calling g' mk As.toArray, t, U', L, hT, X', hL, e1, e2, hq, st⟩
  · dsimp only [Pt.U, Pt.locs, Pt.cells, Pt.slots] at X' e1 e2 h1 h2 h3 st hcl
    subst h1; subst h2; subst h3
    exact Or.inr ⟨q, (T.setVm vm₁).calling g' mk As.toArray, t, U', L, E, ce, hT, X', hL, e1, e2, hq, hce, hcv, vx_cls hW₁ hcl, st⟩
end
end VXH
theorem vx_ofWH {l : Launch} {y : MethodName} {ws ws' : List Cond} {rm : Room} {Pc : Array Value → State → Prop} {Qc : Array Value → State → Outcome → State → Prop} {XC : String → State → State → Prop} {mc ms : Nat} {free : Addr → Prop} {cc : ByteArray} {maxL : Nat} {ret : Option FieldType} {hh : List (Nat × Nat × Nat × Nat)}
    (hy : plainName y.cls = true) (hw : ws = Cond.codeWith y cc maxL ret hh :: ws')
    (body : ∀ p e s m args below meth c s₁, BodyLoose p l y (headSpec ws rm) cc maxL ret e s m args below meth c s₁ → c.maxLocals = maxL → Pc args s →
      W p l e (headSpec ws rm).room s m args below meth c s.heap [] 0 0 (vx_MQ below Qc XC args s mc ms free) (entryFrame m args maxL)) : vx_Met l y ws rm Pc Qc XC mc ms free := by
  refine MetFree.of_bodyS (code := cc) (maxLocals := maxL) (ret := ret) hy ?_ ?_
  · intro args s m h hn
    obtain ⟨m9, meth, c, hn9, h1, h2, h3, h4, -, h5, h6, -⟩ := Cond.codeWith_spec (atoms_spec (ws := ws) h _ (by rw [hw]; exact List.mem_cons_self))
    cases hn.symm.trans hn9
    exact ⟨meth, c, h1, h2, h3, h4, h5, h6⟩
  · intro p e s m args below meth c s₁ B hml hP _
    have hh0 : s₁.heap = s.heap := by rw [B.state]; rfl
    obtain ⟨t, a1, o, b1, b2, b3⟩ := body p e s m args below meth c s₁ B hml hP s₁ hh0 (Stand.of_body B)
    exact ⟨t, o, a1, b1, b2, b3⟩
/-! ===== END ===== -/
end
section
def RX0 : String := "Raidhall$Auction"
def TX0 : u_T := fun k => match k with
  | 0 => ("Raidhall$Auction", "purses", "[I", true)
  | 1 => ("Raidhall$Auction", "sizes", "[I", true)
  | 2 => ("Raidhall$Auction", "foreigns", "[I", true)
  | 3 => ("Raidhall$Auction", "owners", "[I", true)
  | 4 => ("Raidhall$Auction", "prices", "[I", true)
  | 5 => ("Raidhall$Auction", "rights", "[I", true)
  | 6 => ("Raidhall$Auction", "called", "I", false)
  | 7 => ("Raidhall$Auction", "bids", "I", false)
  | 8 => ("Raidhall$Auction", "highest", "I", false)
  | 9 => ("Raidhall$Auction", "bidder", "I", false)
  | _ => ("Raidhall$Auction", "isAsking", "Z", false)
def tyX0 : Nat → FieldType := fun k => match k with
  | 0 => .array .int
  | 1 => .array .int
  | 2 => .array .int
  | 3 => .array .int
  | 4 => .array .int
  | 5 => .array .int
  | 6 => .int
  | 7 => .int
  | 8 => .int
  | 9 => .int
  | _ => .boolean
abbrev wsX00 : List Cond := u_ws RX0 TX0 11
theorem nmX0 : ∀ a, a < 11 → ∀ b, b < 11 → a ≠ b → (TX0 a).2.1 ≠ (TX0 b).2.1 := by decide +kernel
theorem tyX0_ok : ∀ k, k < 11 → parseFieldDescriptor (TX0 k).2.2.1 = some (tyX0 k) := by decide +kernel
abbrev cX0_init : ByteArray := prog_2_method_1_code
def yX0_init : MethodName := ⟨RX0, "<init>", "()V"⟩
abbrev cX0_isCalled : ByteArray := prog_2_method_2_code
def yX0_isCalled : MethodName := ⟨RX0, "isCalled", "(I)Z"⟩
abbrev cX0_isBusy : ByteArray := prog_2_method_3_code
def yX0_isBusy : MethodName := ⟨RX0, "isBusy", "()Z"⟩
abbrev cX0_isOpen : ByteArray := prog_2_method_4_code
def yX0_isOpen : MethodName := ⟨RX0, "isOpen", "()Z"⟩
abbrev cX0_isAsking : ByteArray := prog_2_method_5_code
def yX0_isAsking : MethodName := ⟨RX0, "isAsking", "()Z"⟩
abbrev cX0_isSold : ByteArray := prog_2_method_6_code
def yX0_isSold : MethodName := ⟨RX0, "isSold", "(I)Z"⟩
abbrev cX0_basePrice : ByteArray := prog_2_method_7_code
def yX0_basePrice : MethodName := ⟨RX0, "basePrice", "(I)I"⟩
abbrev cX0_isForeign : ByteArray := prog_2_method_8_code
def yX0_isForeign : MethodName := ⟨RX0, "isForeign", "(I)Z"⟩
abbrev cX0_rightOn : ByteArray := prog_2_method_9_code
def yX0_rightOn : MethodName := ⟨RX0, "rightOn", "(I)I"⟩
abbrev cX0_giveRight : ByteArray := prog_2_method_10_code
def yX0_giveRight : MethodName := ⟨RX0, "giveRight", "(II)I"⟩
abbrev cX0_callUp : ByteArray := prog_2_method_11_code
def yX0_callUp : MethodName := ⟨RX0, "callUp", "(I)I"⟩
abbrev cX0_leastBid : ByteArray := prog_2_method_12_code
def yX0_leastBid : MethodName := ⟨RX0, "leastBid", "()I"⟩
abbrev cX0_canPay : ByteArray := prog_2_method_13_code
def yX0_canPay : MethodName := ⟨RX0, "canPay", "(II)Z"⟩
abbrev cX0_takeBid : ByteArray := prog_2_method_14_code
def yX0_takeBid : MethodName := ⟨RX0, "takeBid", "(II)I"⟩
abbrev cX0_strike : ByteArray := prog_2_method_15_code
def yX0_strike : MethodName := ⟨RX0, "strike", "()I"⟩
abbrev cX0_settle : ByteArray := prog_2_method_16_code
def yX0_settle : MethodName := ⟨RX0, "settle", "(Z)I"⟩
abbrev cX0_sellTo : ByteArray := prog_2_method_17_code
def yX0_sellTo : MethodName := ⟨RX0, "sellTo", "(I)I"⟩
abbrev cX0_tellOfLot : ByteArray := prog_2_method_18_code
def yX0_tellOfLot : MethodName := ⟨RX0, "tellOfLot", "(II)I"⟩
abbrev cX0_tellOfClub : ByteArray := prog_2_method_19_code
def yX0_tellOfClub : MethodName := ⟨RX0, "tellOfClub", "(II)I"⟩
def RX1 : String := "Raidhall$Contest"
def TX1 : u_T := fun k => match k with
  | 0 => ("Raidhall$Contest", "events", "[LRaidhall$Event;", true)
  | 1 => ("Raidhall$Contest", "now", "LRaidhall$Mats;", true)
  | 2 => ("Raidhall$Contest", "draft", "LRaidhall$Mats;", true)
  | 3 => ("Raidhall$Contest", "size", "I", false)
  | 4 => ("Raidhall$Contest", "isThere", "Z", false)
  | 5 => ("Raidhall$Contest", "isRaiding", "Z", false)
  | 6 => ("Raidhall$Contest", "firstClub", "I", false)
  | 7 => ("Raidhall$Contest", "secondClub", "I", false)
  | 8 => ("Raidhall$Contest", "lasts", "I", false)
  | 9 => ("Raidhall$Contest", "begun", "I", false)
  | _ => ("Raidhall$Contest", "lostReviews", "I", false)
def tyX1 : Nat → FieldType := fun k => match k with
  | 0 => .array (.object "Raidhall$Event")
  | 1 => .object "Raidhall$Mats"
  | 2 => .object "Raidhall$Mats"
  | 3 => .int
  | 4 => .boolean
  | 5 => .boolean
  | 6 => .int
  | 7 => .int
  | 8 => .int
  | 9 => .int
  | _ => .int
abbrev wsX10 : List Cond := u_ws RX1 TX1 11
theorem nmX1 : ∀ a, a < 11 → ∀ b, b < 11 → a ≠ b → (TX1 a).2.1 ≠ (TX1 b).2.1 := by decide +kernel
theorem tyX1_ok : ∀ k, k < 11 → parseFieldDescriptor (TX1 k).2.2.1 = some (tyX1 k) := by decide +kernel
abbrev cX1_init : ByteArray := prog_3_method_1_code
def yX1_init : MethodName := ⟨RX1, "<init>", "()V"⟩
abbrev cX1_isThere : ByteArray := prog_3_method_2_code
def yX1_isThere : MethodName := ⟨RX1, "isThere", "()Z"⟩
abbrev cX1_open : ByteArray := prog_3_method_3_code
def yX1_open : MethodName := ⟨RX1, "open", "(III)I"⟩
abbrev cX1_close : ByteArray := prog_3_method_4_code
def yX1_close : MethodName := ⟨RX1, "close", "()V"⟩
abbrev cX1_countEvents : ByteArray := prog_3_method_5_code
def yX1_countEvents : MethodName := ⟨RX1, "countEvents", "()I"⟩
abbrev cX1_countEnded : ByteArray := prog_3_method_6_code
def yX1_countEnded : MethodName := ⟨RX1, "countEnded", "()I"⟩
abbrev cX1_isBetweenRaids : ByteArray := prog_3_method_7_code
def yX1_isBetweenRaids : MethodName := ⟨RX1, "isBetweenRaids", "()Z"⟩
abbrev cX1_isOver : ByteArray := prog_3_method_8_code
def yX1_isOver : MethodName := ⟨RX1, "isOver", "()Z"⟩
abbrev cX1_eventAt : ByteArray := prog_3_method_9_code
def yX1_eventAt : MethodName := ⟨RX1, "eventAt", "(I)LRaidhall$Event;"⟩
abbrev cX1_raidGoingOn : ByteArray := prog_3_method_10_code
def yX1_raidGoingOn : MethodName := ⟨RX1, "raidGoingOn", "()LRaidhall$Event;"⟩
abbrev cX1_addEvent : ByteArray := prog_3_method_11_code
def yX1_addEvent : MethodName := ⟨RX1, "addEvent", "(IIII)LRaidhall$Event;"⟩
abbrev cX1_mayAdd : ByteArray := prog_3_method_12_code
def yX1_mayAdd : MethodName := ⟨RX1, "mayAdd", "()Z"⟩
abbrev cX1_mayStartRaid : ByteArray := prog_3_method_13_code
def yX1_mayStartRaid : MethodName := ⟨RX1, "mayStartRaid", "(I)Z"⟩
abbrev cX1_startRaid : ByteArray := prog_3_method_14_code
def yX1_startRaid : MethodName := ⟨RX1, "startRaid", "(I)I"⟩
abbrev cX1_mayTell : ByteArray := prog_3_method_15_code
def yX1_mayTell : MethodName := ⟨RX1, "mayTell", "(III)Z"⟩
abbrev cX1_tell : ByteArray := prog_3_method_16_code
def yX1_tell : MethodName := ⟨RX1, "tell", "(III)I"⟩
abbrev cX1_mayShowCard : ByteArray := prog_3_method_17_code
def yX1_mayShowCard : MethodName := ⟨RX1, "mayShowCard", "(III)Z"⟩
abbrev cX1_showCard : ByteArray := prog_3_method_18_code
def yX1_showCard : MethodName := ⟨RX1, "showCard", "(III)I"⟩
abbrev cX1_maySwap : ByteArray := prog_3_method_19_code
def yX1_maySwap : MethodName := ⟨RX1, "maySwap", "(III)Z"⟩
abbrev cX1_swap : ByteArray := prog_3_method_20_code
def yX1_swap : MethodName := ⟨RX1, "swap", "(III)I"⟩
abbrev cX1_stepsOf : ByteArray := prog_3_method_21_code
def yX1_stepsOf : MethodName := ⟨RX1, "stepsOf", "(I)I"⟩
abbrev cX1_keepsReview : ByteArray := prog_3_method_22_code
def yX1_keepsReview : MethodName := ⟨RX1, "keepsReview", "(I)Z"⟩
abbrev cX1_firstFallen : ByteArray := prog_3_method_23_code
def yX1_firstFallen : MethodName := ⟨RX1, "firstFallen", "(IIII)I"⟩
abbrev cX1_goThrough : ByteArray := prog_3_method_24_code
def yX1_goThrough : MethodName := ⟨RX1, "goThrough", "(I)I"⟩
abbrev cX1_playAllAnew : ByteArray := prog_3_method_25_code
def yX1_playAllAnew : MethodName := ⟨RX1, "playAllAnew", "()V"⟩
abbrev cX1_amend : ByteArray := prog_3_method_26_code
def yX1_amend : MethodName := ⟨RX1, "amend", "(IIIII)I"⟩
abbrev cX1_leadOf : ByteArray := prog_3_method_27_code
def yX1_leadOf : MethodName := ⟨RX1, "leadOf", "(I)I"⟩
abbrev cX1_dropFrom : ByteArray := prog_3_method_28_code
def yX1_dropFrom : MethodName := ⟨RX1, "dropFrom", "(I)I"⟩
abbrev cX1_sideNow : ByteArray := prog_3_method_29_code
def yX1_sideNow : MethodName := ⟨RX1, "sideNow", "(I)LRaidhall$Side;"⟩
abbrev cX1_pointsOf : ByteArray := prog_3_method_30_code
def yX1_pointsOf : MethodName := ⟨RX1, "pointsOf", "(I)I"⟩
abbrev cX1_clubOf : ByteArray := prog_3_method_31_code
def yX1_clubOf : MethodName := ⟨RX1, "clubOf", "(I)I"⟩
abbrev cX1_tellOf : ByteArray := prog_3_method_32_code
def yX1_tellOf : MethodName := ⟨RX1, "tellOf", "(I)I"⟩
abbrev cX1_onAfter : ByteArray := prog_3_method_33_code
def yX1_onAfter : MethodName := ⟨RX1, "onAfter", "(II)I"⟩
abbrev cX1_onAnew : ByteArray := prog_3_method_34_code
def yX1_onAnew : MethodName := ⟨RX1, "onAnew", "(II)I"⟩
abbrev cX1_pointsBehind : ByteArray := prog_3_method_35_code
def yX1_pointsBehind : MethodName := ⟨RX1, "pointsBehind", "(II)I"⟩
def RX2 : String := "Raidhall$Event"
def TX2 : u_T := fun k => match k with
  | 0 => ("Raidhall$Event", "kinds", "[I", true)
  | 1 => ("Raidhall$Event", "whos", "[I", true)
  | 2 => ("Raidhall$Event", "tenths", "[I", true)
  | 3 => ("Raidhall$Event", "onBits", "[I", true)
  | 4 => ("Raidhall$Event", "scores", "[I", true)
  | 5 => ("Raidhall$Event", "sort", "I", false)
  | 6 => ("Raidhall$Event", "side", "I", false)
  | 7 => ("Raidhall$Event", "player", "I", false)
  | 8 => ("Raidhall$Event", "detail", "I", false)
  | _ => ("Raidhall$Event", "size", "I", false)
def tyX2 : Nat → FieldType := fun k => match k with
  | 0 => .array .int
  | 1 => .array .int
  | 2 => .array .int
  | 3 => .array .int
  | 4 => .array .int
  | 5 => .int
  | 6 => .int
  | 7 => .int
  | 8 => .int
  | _ => .int
abbrev wsX20 : List Cond := u_ws RX2 TX2 10
theorem nmX2 : ∀ a, a < 10 → ∀ b, b < 10 → a ≠ b → (TX2 a).2.1 ≠ (TX2 b).2.1 := by decide +kernel
theorem tyX2_ok : ∀ k, k < 10 → parseFieldDescriptor (TX2 k).2.2.1 = some (tyX2 k) := by decide +kernel
abbrev cX2_init : ByteArray := prog_4_method_1_code
def yX2_init : MethodName := ⟨RX2, "<init>", "()V"⟩
abbrev cX2_fill : ByteArray := prog_4_method_2_code
def yX2_fill : MethodName := ⟨RX2, "fill", "(IIII)V"⟩
abbrev cX2_isRaid : ByteArray := prog_4_method_3_code
def yX2_isRaid : MethodName := ⟨RX2, "isRaid", "()Z"⟩
abbrev cX2_isPlace : ByteArray := prog_4_method_4_code
def yX2_isPlace : MethodName := ⟨RX2, "isPlace", "(I)Z"⟩
abbrev cX2_kindAt : ByteArray := prog_4_method_5_code
def yX2_kindAt : MethodName := ⟨RX2, "kindAt", "(I)I"⟩
abbrev cX2_whoAt : ByteArray := prog_4_method_6_code
def yX2_whoAt : MethodName := ⟨RX2, "whoAt", "(I)I"⟩
abbrev cX2_tenthAt : ByteArray := prog_4_method_7_code
def yX2_tenthAt : MethodName := ⟨RX2, "tenthAt", "(I)I"⟩
abbrev cX2_add : ByteArray := prog_4_method_8_code
def yX2_add : MethodName := ⟨RX2, "add", "(III)V"⟩
abbrev cX2_correct : ByteArray := prog_4_method_9_code
def yX2_correct : MethodName := ⟨RX2, "correct", "(III)V"⟩
abbrev cX2_hasAmongFirst : ByteArray := prog_4_method_10_code
def yX2_hasAmongFirst : MethodName := ⟨RX2, "hasAmongFirst", "(III)Z"⟩
abbrev cX2_has : ByteArray := prog_4_method_11_code
def yX2_has : MethodName := ⟨RX2, "has", "(I)Z"⟩
abbrev cX2_countTouches : ByteArray := prog_4_method_12_code
def yX2_countTouches : MethodName := ⟨RX2, "countTouches", "()I"⟩
abbrev cX2_lastTenth : ByteArray := prog_4_method_13_code
def yX2_lastTenth : MethodName := ⟨RX2, "lastTenth", "()I"⟩
abbrev cX2_lastKind : ByteArray := prog_4_method_14_code
def yX2_lastKind : MethodName := ⟨RX2, "lastKind", "()I"⟩
abbrev cX2_keepWhatStands : ByteArray := prog_4_method_15_code
def yX2_keepWhatStands : MethodName := ⟨RX2, "keepWhatStands", "(LRaidhall$Mats;)V"⟩
abbrev cX2_onBitsOf : ByteArray := prog_4_method_16_code
def yX2_onBitsOf : MethodName := ⟨RX2, "onBitsOf", "(I)I"⟩
abbrev cX2_scoreOf : ByteArray := prog_4_method_17_code
def yX2_scoreOf : MethodName := ⟨RX2, "scoreOf", "(I)I"⟩
def RX3 : String := "Raidhall$League"
def TX3 : u_T := fun k => match k with
  | 0 => ("Raidhall$League", "matches", "[I", true)
  | 1 => ("Raidhall$League", "won", "[I", true)
  | 2 => ("Raidhall$League", "even", "[I", true)
  | 3 => ("Raidhall$League", "gained", "[I", true)
  | 4 => ("Raidhall$League", "made", "[I", true)
  | _ => ("Raidhall$League", "let", "[I", true)
def tyX3 : Nat → FieldType := fun k => match k with
  | 0 => .array .int
  | 1 => .array .int
  | 2 => .array .int
  | 3 => .array .int
  | 4 => .array .int
  | _ => .array .int
abbrev wsX30 : List Cond := u_ws RX3 TX3 6
theorem nmX3 : ∀ a, a < 6 → ∀ b, b < 6 → a ≠ b → (TX3 a).2.1 ≠ (TX3 b).2.1 := by decide +kernel
theorem tyX3_ok : ∀ k, k < 6 → parseFieldDescriptor (TX3 k).2.2.1 = some (tyX3 k) := by decide +kernel
abbrev cX3_init : ByteArray := prog_5_method_1_code
def yX3_init : MethodName := ⟨RX3, "<init>", "()V"⟩
abbrev cX3_note : ByteArray := prog_5_method_2_code
def yX3_note : MethodName := ⟨RX3, "note", "(IIII)I"⟩
abbrev cX3_noteFor : ByteArray := prog_5_method_3_code
def yX3_noteFor : MethodName := ⟨RX3, "noteFor", "(III)V"⟩
abbrev cX3_tellOf : ByteArray := prog_5_method_4_code
def yX3_tellOf : MethodName := ⟨RX3, "tellOf", "(II)I"⟩
abbrev cX3_rankOf : ByteArray := prog_5_method_5_code
def yX3_rankOf : MethodName := ⟨RX3, "rankOf", "(I)I"⟩
abbrev cX3_isAhead : ByteArray := prog_5_method_6_code
def yX3_isAhead : MethodName := ⟨RX3, "isAhead", "(II)Z"⟩
abbrev cX3_upper : ByteArray := prog_5_method_7_code
def yX3_upper : MethodName := ⟨RX3, "upper", "(I)J"⟩
abbrev cX3_lower : ByteArray := prog_5_method_8_code
def yX3_lower : MethodName := ⟨RX3, "lower", "(I)J"⟩
def RX4 : String := "Raidhall$Mats"
def TX4 : u_T := fun k => match k with
  | 0 => ("Raidhall$Mats", "first", "LRaidhall$Side;", true)
  | 1 => ("Raidhall$Mats", "second", "LRaidhall$Side;", true)
  | 2 => ("Raidhall$Mats", "time", "I", false)
  | _ => ("Raidhall$Mats", "raids", "I", false)
def tyX4 : Nat → FieldType := fun k => match k with
  | 0 => .object "Raidhall$Side"
  | 1 => .object "Raidhall$Side"
  | 2 => .int
  | _ => .int
abbrev wsX40 : List Cond := u_ws RX4 TX4 4
theorem nmX4 : ∀ a, a < 4 → ∀ b, b < 4 → a ≠ b → (TX4 a).2.1 ≠ (TX4 b).2.1 := by decide +kernel
theorem tyX4_ok : ∀ k, k < 4 → parseFieldDescriptor (TX4 k).2.2.1 = some (tyX4 k) := by decide +kernel
abbrev cX4_init : ByteArray := prog_6_method_1_code
def yX4_init : MethodName := ⟨RX4, "<init>", "()V"⟩
abbrev cX4_reset : ByteArray := prog_6_method_2_code
def yX4_reset : MethodName := ⟨RX4, "reset", "()V"⟩
abbrev cX4_sideAt : ByteArray := prog_6_method_3_code
def yX4_sideAt : MethodName := ⟨RX4, "sideAt", "(I)LRaidhall$Side;"⟩
abbrev cX4_turn : ByteArray := prog_6_method_4_code
def yX4_turn : MethodName := ⟨RX4, "turn", "()I"⟩
abbrev cX4_isDoOrDie : ByteArray := prog_6_method_5_code
def yX4_isDoOrDie : MethodName := ⟨RX4, "isDoOrDie", "()Z"⟩
abbrev cX4_mayStep : ByteArray := prog_6_method_6_code
def yX4_mayStep : MethodName := ⟨RX4, "mayStep", "(LRaidhall$Event;IIII)Z"⟩
abbrev cX4_mayStand : ByteArray := prog_6_method_7_code
def yX4_mayStand : MethodName := ⟨RX4, "mayStand", "(LRaidhall$Event;)Z"⟩
abbrev cX4_mayStandAsRaid : ByteArray := prog_6_method_8_code
def yX4_mayStandAsRaid : MethodName := ⟨RX4, "mayStandAsRaid", "(LRaidhall$Event;)Z"⟩
abbrev cX4_play : ByteArray := prog_6_method_9_code
def yX4_play : MethodName := ⟨RX4, "play", "(LRaidhall$Event;)V"⟩
abbrev cX4_playCard : ByteArray := prog_6_method_10_code
def yX4_playCard : MethodName := ⟨RX4, "playCard", "(LRaidhall$Event;)V"⟩
abbrev cX4_playRaid : ByteArray := prog_6_method_11_code
def yX4_playRaid : MethodName := ⟨RX4, "playRaid", "(LRaidhall$Event;)V"⟩
abbrev cX4_loseRaider : ByteArray := prog_6_method_12_code
def yX4_loseRaider : MethodName := ⟨RX4, "loseRaider", "(LRaidhall$Side;LRaidhall$Side;II)V"⟩
abbrev cX4_sendTouchedOut : ByteArray := prog_6_method_13_code
def yX4_sendTouchedOut : MethodName := ⟨RX4, "sendTouchedOut", "(LRaidhall$Event;LRaidhall$Side;)V"⟩
abbrev cX4_passTime : ByteArray := prog_6_method_14_code
def yX4_passTime : MethodName := ⟨RX4, "passTime", "(I)V"⟩
abbrev cX4_endAllOut : ByteArray := prog_6_method_15_code
def yX4_endAllOut : MethodName := ⟨RX4, "endAllOut", "(I)V"⟩
def RX5 : String := "Raidhall$Pad"
def TX5 : u_T := fun k => match k with
  | 0 => ("Raidhall$Pad", "signs", "[I", true)
  | 1 => ("Raidhall$Pad", "size", "I", false)
  | 2 => ("Raidhall$Pad", "at", "I", false)
  | 3 => ("Raidhall$Pad", "word", "I", false)
  | 4 => ("Raidhall$Pad", "who", "I", false)
  | _ => ("Raidhall$Pad", "number", "I", false)
def tyX5 : Nat → FieldType := fun k => match k with
  | 0 => .array .int
  | 1 => .int
  | 2 => .int
  | 3 => .int
  | 4 => .int
  | _ => .int
abbrev wsX50 : List Cond := u_ws RX5 TX5 6
theorem nmX5 : ∀ a, a < 6 → ∀ b, b < 6 → a ≠ b → (TX5 a).2.1 ≠ (TX5 b).2.1 := by decide +kernel
theorem tyX5_ok : ∀ k, k < 6 → parseFieldDescriptor (TX5 k).2.2.1 = some (tyX5 k) := by decide +kernel
abbrev cX5_init : ByteArray := prog_7_method_1_code
def yX5_init : MethodName := ⟨RX5, "<init>", "()V"⟩
abbrev cX5_hasRoom : ByteArray := prog_7_method_2_code
def yX5_hasRoom : MethodName := ⟨RX5, "hasRoom", "()Z"⟩
abbrev cX5_put : ByteArray := prog_7_method_3_code
def yX5_put : MethodName := ⟨RX5, "put", "(I)I"⟩
abbrev cX5_wipe : ByteArray := prog_7_method_4_code
def yX5_wipe : MethodName := ⟨RX5, "wipe", "()I"⟩
abbrev cX5_rewind : ByteArray := prog_7_method_5_code
def yX5_rewind : MethodName := ⟨RX5, "rewind", "()V"⟩
abbrev cX5_findFault : ByteArray := prog_7_method_6_code
def yX5_findFault : MethodName := ⟨RX5, "findFault", "()I"⟩
abbrev cX5_readOrder : ByteArray := prog_7_method_7_code
def yX5_readOrder : MethodName := ⟨RX5, "readOrder", "()Z"⟩
abbrev cX5_readWord : ByteArray := prog_7_method_8_code
def yX5_readWord : MethodName := ⟨RX5, "readWord", "()Z"⟩
abbrev cX5_keepFitting : ByteArray := prog_7_method_9_code
def yX5_keepFitting : MethodName := ⟨RX5, "keepFitting", "(II)I"⟩
abbrev cX5_textOf : ByteArray := prog_7_method_10_code
def yX5_textOf : MethodName := ⟨RX5, "textOf", "(I)Ljava/lang/String;"⟩
abbrev cX5_nextSign : ByteArray := prog_7_method_11_code
def yX5_nextSign : MethodName := ⟨RX5, "nextSign", "()I"⟩
abbrev cX5_isAtDigit : ByteArray := prog_7_method_12_code
def yX5_isAtDigit : MethodName := ⟨RX5, "isAtDigit", "()Z"⟩
abbrev cX5_readSign : ByteArray := prog_7_method_13_code
def yX5_readSign : MethodName := ⟨RX5, "readSign", "(I)Z"⟩
abbrev cX5_readPlayer : ByteArray := prog_7_method_14_code
def yX5_readPlayer : MethodName := ⟨RX5, "readPlayer", "()Z"⟩
abbrev cX5_readNumber : ByteArray := prog_7_method_15_code
def yX5_readNumber : MethodName := ⟨RX5, "readNumber", "()Z"⟩
def RX6 : String := "Raidhall$Side"
def TX6 : u_T := fun k => match k with
  | 0 => ("Raidhall$Side", "states", "[I", true)
  | 1 => ("Raidhall$Side", "untils", "[I", true)
  | 2 => ("Raidhall$Side", "cards", "[I", true)
  | 3 => ("Raidhall$Side", "made", "[I", true)
  | 4 => ("Raidhall$Side", "row", "[I", true)
  | 5 => ("Raidhall$Side", "rowSize", "I", false)
  | 6 => ("Raidhall$Side", "changes", "I", false)
  | 7 => ("Raidhall$Side", "score", "I", false)
  | _ => ("Raidhall$Side", "empties", "I", false)
def tyX6 : Nat → FieldType := fun k => match k with
  | 0 => .array .int
  | 1 => .array .int
  | 2 => .array .int
  | 3 => .array .int
  | 4 => .array .int
  | 5 => .int
  | 6 => .int
  | 7 => .int
  | _ => .int
abbrev wsX60 : List Cond := u_ws RX6 TX6 9
theorem nmX6 : ∀ a, a < 9 → ∀ b, b < 9 → a ≠ b → (TX6 a).2.1 ≠ (TX6 b).2.1 := by decide +kernel
theorem tyX6_ok : ∀ k, k < 9 → parseFieldDescriptor (TX6 k).2.2.1 = some (tyX6 k) := by decide +kernel
abbrev cX6_init : ByteArray := prog_8_method_1_code
def yX6_init : MethodName := ⟨RX6, "<init>", "()V"⟩
abbrev cX6_reset : ByteArray := prog_8_method_2_code
def yX6_reset : MethodName := ⟨RX6, "reset", "()V"⟩
abbrev cX6_stateOf : ByteArray := prog_8_method_3_code
def yX6_stateOf : MethodName := ⟨RX6, "stateOf", "(I)I"⟩
abbrev cX6_isOn : ByteArray := prog_8_method_4_code
def yX6_isOn : MethodName := ⟨RX6, "isOn", "(I)Z"⟩
abbrev cX6_count : ByteArray := prog_8_method_5_code
def yX6_count : MethodName := ⟨RX6, "count", "(I)I"⟩
abbrev cX6_countStanding : ByteArray := prog_8_method_6_code
def yX6_countStanding : MethodName := ⟨RX6, "countStanding", "()I"⟩
abbrev cX6_onBits : ByteArray := prog_8_method_7_code
def yX6_onBits : MethodName := ⟨RX6, "onBits", "()I"⟩
abbrev cX6_outAt : ByteArray := prog_8_method_8_code
def yX6_outAt : MethodName := ⟨RX6, "outAt", "(I)I"⟩
abbrev cX6_madeBy : ByteArray := prog_8_method_9_code
def yX6_madeBy : MethodName := ⟨RX6, "madeBy", "(I)I"⟩
abbrev cX6_scoreBy : ByteArray := prog_8_method_10_code
def yX6_scoreBy : MethodName := ⟨RX6, "scoreBy", "(II)V"⟩
abbrev cX6_sendOut : ByteArray := prog_8_method_11_code
def yX6_sendOut : MethodName := ⟨RX6, "sendOut", "(I)V"⟩
abbrev cX6_comeBack : ByteArray := prog_8_method_12_code
def yX6_comeBack : MethodName := ⟨RX6, "comeBack", "(I)V"⟩
abbrev cX6_endSuspensions : ByteArray := prog_8_method_13_code
def yX6_endSuspensions : MethodName := ⟨RX6, "endSuspensions", "(I)V"⟩
abbrev cX6_colourFor : ByteArray := prog_8_method_14_code
def yX6_colourFor : MethodName := ⟨RX6, "colourFor", "(II)I"⟩
abbrev cX6_mayGet : ByteArray := prog_8_method_15_code
def yX6_mayGet : MethodName := ⟨RX6, "mayGet", "(II)Z"⟩
abbrev cX6_takeCard : ByteArray := prog_8_method_16_code
def yX6_takeCard : MethodName := ⟨RX6, "takeCard", "(III)V"⟩
abbrev cX6_mayChange : ByteArray := prog_8_method_17_code
def yX6_mayChange : MethodName := ⟨RX6, "mayChange", "(II)Z"⟩
abbrev cX6_swapPlayers : ByteArray := prog_8_method_18_code
def yX6_swapPlayers : MethodName := ⟨RX6, "swapPlayers", "(II)V"⟩
def RX7 : String := "Raidhall"
def TX7 : u_T := fun k => match k with
  | 0 => ("Raidhall", "contest", "LRaidhall$Contest;", true)
  | 1 => ("Raidhall", "pad", "LRaidhall$Pad;", true)
  | 2 => ("Raidhall", "league", "LRaidhall$League;", true)
  | _ => ("Raidhall", "auction", "LRaidhall$Auction;", true)
def tyX7 : Nat → FieldType := fun k => match k with
  | 0 => .object "Raidhall$Contest"
  | 1 => .object "Raidhall$Pad"
  | 2 => .object "Raidhall$League"
  | _ => .object "Raidhall$Auction"
abbrev wsX70 : List Cond := u_ws RX7 TX7 4
theorem nmX7 : ∀ a, a < 4 → ∀ b, b < 4 → a ≠ b → (TX7 a).2.1 ≠ (TX7 b).2.1 := by decide +kernel
theorem tyX7_ok : ∀ k, k < 4 → parseFieldDescriptor (TX7 k).2.2.1 = some (tyX7 k) := by decide +kernel
abbrev cX7_init : ByteArray := prog_1_method_1_code
def yX7_init : MethodName := ⟨RX7, "<init>", "()V"⟩
abbrev cX7_begin : ByteArray := prog_1_method_2_code
def yX7_begin : MethodName := ⟨RX7, "begin", "(III)I"⟩
abbrev cX7_raid : ByteArray := prog_1_method_3_code
def yX7_raid : MethodName := ⟨RX7, "raid", "(I)I"⟩
abbrev cX7_step : ByteArray := prog_1_method_4_code
def yX7_step : MethodName := ⟨RX7, "step", "(III)I"⟩
abbrev cX7_card : ByteArray := prog_1_method_5_code
def yX7_card : MethodName := ⟨RX7, "card", "(III)I"⟩
abbrev cX7_change : ByteArray := prog_1_method_6_code
def yX7_change : MethodName := ⟨RX7, "change", "(III)I"⟩
abbrev cX7_review : ByteArray := prog_1_method_7_code
def yX7_review : MethodName := ⟨RX7, "review", "(IIIII)I"⟩
abbrev cX7_wouldFall : ByteArray := prog_1_method_8_code
def yX7_wouldFall : MethodName := ⟨RX7, "wouldFall", "(IIII)I"⟩
abbrev cX7_takeBack : ByteArray := prog_1_method_9_code
def yX7_takeBack : MethodName := ⟨RX7, "takeBack", "(I)I"⟩
abbrev cX7_enter : ByteArray := prog_1_method_10_code
def yX7_enter : MethodName := ⟨RX7, "enter", "()I"⟩
abbrev cX7_type : ByteArray := prog_1_method_11_code
def yX7_type : MethodName := ⟨RX7, "type", "(I)I"⟩
abbrev cX7_clear : ByteArray := prog_1_method_12_code
def yX7_clear : MethodName := ⟨RX7, "clear", "()I"⟩
abbrev cX7_fault : ByteArray := prog_1_method_13_code
def yX7_fault : MethodName := ⟨RX7, "fault", "()I"⟩
abbrev cX7_run : ByteArray := prog_1_method_14_code
def yX7_run : MethodName := ⟨RX7, "run", "()I"⟩
abbrev cX7_player : ByteArray := prog_1_method_15_code
def yX7_player : MethodName := ⟨RX7, "player", "(II)I"⟩
abbrev cX7_out : ByteArray := prog_1_method_16_code
def yX7_out : MethodName := ⟨RX7, "out", "(II)I"⟩
abbrev cX7_next : ByteArray := prog_1_method_17_code
def yX7_next : MethodName := ⟨RX7, "next", "(I)I"⟩
abbrev cX7_points : ByteArray := prog_1_method_18_code
def yX7_points : MethodName := ⟨RX7, "points", "(I)I"⟩
abbrev cX7_match : ByteArray := prog_1_method_19_code
def yX7_match : MethodName := ⟨RX7, "match", "(I)I"⟩
abbrev cX7_hasReview : ByteArray := prog_1_method_20_code
def yX7_hasReview : MethodName := ⟨RX7, "hasReview", "(I)Z"⟩
abbrev cX7_matAfter : ByteArray := prog_1_method_21_code
def yX7_matAfter : MethodName := ⟨RX7, "matAfter", "(II)I"⟩
abbrev cX7_matAnew : ByteArray := prog_1_method_22_code
def yX7_matAnew : MethodName := ⟨RX7, "matAnew", "(II)I"⟩
abbrev cX7_pointsAfter : ByteArray := prog_1_method_23_code
def yX7_pointsAfter : MethodName := ⟨RX7, "pointsAfter", "(II)I"⟩
abbrev cX7_raidPoints : ByteArray := prog_1_method_24_code
def yX7_raidPoints : MethodName := ⟨RX7, "raidPoints", "(II)I"⟩
abbrev cX7_club : ByteArray := prog_1_method_25_code
def yX7_club : MethodName := ⟨RX7, "club", "(II)I"⟩
abbrev cX7_right : ByteArray := prog_1_method_26_code
def yX7_right : MethodName := ⟨RX7, "right", "(II)I"⟩
abbrev cX7_call : ByteArray := prog_1_method_27_code
def yX7_call : MethodName := ⟨RX7, "call", "(I)I"⟩
abbrev cX7_bid : ByteArray := prog_1_method_28_code
def yX7_bid : MethodName := ⟨RX7, "bid", "(II)I"⟩
abbrev cX7_hammer : ByteArray := prog_1_method_29_code
def yX7_hammer : MethodName := ⟨RX7, "hammer", "()I"⟩
abbrev cX7_answer : ByteArray := prog_1_method_30_code
def yX7_answer : MethodName := ⟨RX7, "answer", "(Z)I"⟩
abbrev cX7_lot : ByteArray := prog_1_method_31_code
def yX7_lot : MethodName := ⟨RX7, "lot", "(II)I"⟩
abbrev cX7_squad : ByteArray := prog_1_method_32_code
def yX7_squad : MethodName := ⟨RX7, "squad", "(II)I"⟩
abbrev cX7_needIndex : ByteArray := prog_1_method_33_code
def yX7_needIndex : MethodName := ⟨RX7, "needIndex", "(II)V"⟩
abbrev cX7_needArgument : ByteArray := prog_1_method_34_code
def yX7_needArgument : MethodName := ⟨RX7, "needArgument", "(Z)V"⟩
abbrev cX7_needState : ByteArray := prog_1_method_35_code
def yX7_needState : MethodName := ⟨RX7, "needState", "(Z)V"⟩
abbrev cX7_isWithin : ByteArray := prog_1_method_36_code
def yX7_isWithin : MethodName := ⟨RX7, "isWithin", "(III)Z"⟩
abbrev cX7_isPlayer : ByteArray := prog_1_method_37_code
def yX7_isPlayer : MethodName := ⟨RX7, "isPlayer", "(I)Z"⟩
abbrev cX7_isSide : ByteArray := prog_1_method_38_code
def yX7_isSide : MethodName := ⟨RX7, "isSide", "(I)Z"⟩
abbrev cX7_isClub : ByteArray := prog_1_method_39_code
def yX7_isClub : MethodName := ⟨RX7, "isClub", "(I)Z"⟩
abbrev cX7_isLot : ByteArray := prog_1_method_40_code
def yX7_isLot : MethodName := ⟨RX7, "isLot", "(I)Z"⟩
abbrev cX7_isStep : ByteArray := prog_1_method_41_code
def yX7_isStep : MethodName := ⟨RX7, "isStep", "(III)Z"⟩
abbrev cX7_isEnd : ByteArray := prog_1_method_42_code
def yX7_isEnd : MethodName := ⟨RX7, "isEnd", "(I)Z"⟩
abbrev cX7_isDone : ByteArray := prog_1_method_43_code
def yX7_isDone : MethodName := ⟨RX7, "isDone", "()Z"⟩
def RX8 : String := "RaidhallModel"
def TX8 : u_T := fun k => match k with
  | 0 => ("RaidhallModel", "thrown", "I", false)
  | 1 => ("RaidhallModel", "begun", "I", false)
  | 2 => ("RaidhallModel", "isMatch", "Z", false)
  | 3 => ("RaidhallModel", "isRaid", "Z", false)
  | 4 => ("RaidhallModel", "clubs", "[I", true)
  | 5 => ("RaidhallModel", "lasts", "I", false)
  | 6 => ("RaidhallModel", "areLost", "[Z", true)
  | 7 => ("RaidhallModel", "events", "I", false)
  | 8 => ("RaidhallModel", "kinds", "[I", true)
  | 9 => ("RaidhallModel", "first", "[I", true)
  | 10 => ("RaidhallModel", "second", "[I", true)
  | 11 => ("RaidhallModel", "third", "[I", true)
  | 12 => ("RaidhallModel", "stepMany", "[I", true)
  | 13 => ("RaidhallModel", "stepKind", "[I", true)
  | 14 => ("RaidhallModel", "stepWho", "[I", true)
  | 15 => ("RaidhallModel", "stepTenth", "[I", true)
  | 16 => ("RaidhallModel", "s", "[I", true)
  | 17 => ("RaidhallModel", "mats", "[I", true)
  | 18 => ("RaidhallModel", "pointsThen", "[I", true)
  | 19 => ("RaidhallModel", "pad", "[I", true)
  | 20 => ("RaidhallModel", "length", "I", false)
  | 21 => ("RaidhallModel", "spot", "I", false)
  | 22 => ("RaidhallModel", "isBad", "Z", false)
  | 23 => ("RaidhallModel", "readKind", "I", false)
  | 24 => ("RaidhallModel", "readWho", "I", false)
  | 25 => ("RaidhallModel", "readTenth", "I", false)
  | 26 => ("RaidhallModel", "league", "[I", true)
  | 27 => ("RaidhallModel", "purses", "[I", true)
  | 28 => ("RaidhallModel", "squads", "[I", true)
  | 29 => ("RaidhallModel", "foreigners", "[I", true)
  | 30 => ("RaidhallModel", "owners", "[I", true)
  | 31 => ("RaidhallModel", "prices", "[I", true)
  | 32 => ("RaidhallModel", "rights", "[I", true)
  | 33 => ("RaidhallModel", "called", "I", false)
  | 34 => ("RaidhallModel", "bids", "I", false)
  | 35 => ("RaidhallModel", "best", "I", false)
  | 36 => ("RaidhallModel", "bidder", "I", false)
  | _ => ("RaidhallModel", "isAsked", "Z", false)
def tyX8 : Nat → FieldType := fun k => match k with
  | 0 => .int
  | 1 => .int
  | 2 => .boolean
  | 3 => .boolean
  | 4 => .array .int
  | 5 => .int
  | 6 => .array .boolean
  | 7 => .int
  | 8 => .array .int
  | 9 => .array .int
  | 10 => .array .int
  | 11 => .array .int
  | 12 => .array .int
  | 13 => .array .int
  | 14 => .array .int
  | 15 => .array .int
  | 16 => .array .int
  | 17 => .array .int
  | 18 => .array .int
  | 19 => .array .int
  | 20 => .int
  | 21 => .int
  | 22 => .boolean
  | 23 => .int
  | 24 => .int
  | 25 => .int
  | 26 => .array .int
  | 27 => .array .int
  | 28 => .array .int
  | 29 => .array .int
  | 30 => .array .int
  | 31 => .array .int
  | 32 => .array .int
  | 33 => .int
  | 34 => .int
  | 35 => .int
  | 36 => .int
  | _ => .boolean
abbrev wsX80 : List Cond := u_ws RX8 TX8 38
theorem nmX8 : ∀ a, a < 38 → ∀ b, b < 38 → a ≠ b → (TX8 a).2.1 ≠ (TX8 b).2.1 := by decide +kernel
theorem tyX8_ok : ∀ k, k < 38 → parseFieldDescriptor (TX8 k).2.2.1 = some (tyX8 k) := by decide +kernel
abbrev cX8_init : ByteArray := prog_10_method_1_code
def yX8_init : MethodName := ⟨RX8, "<init>", "()V"⟩
abbrev cX8_thrown : ByteArray := prog_10_method_2_code
def yX8_thrown : MethodName := ⟨RX8, "thrown", "()I"⟩
abbrev cX8_holds : ByteArray := prog_10_method_3_code
def yX8_holds : MethodName := ⟨RX8, "holds", "(I)Z"⟩
abbrev cX8_in : ByteArray := prog_10_method_4_code
def yX8_in : MethodName := ⟨RX8, "in", "(III)Z"⟩
abbrev cX8_isClub : ByteArray := prog_10_method_5_code
def yX8_isClub : MethodName := ⟨RX8, "isClub", "(I)Z"⟩
abbrev cX8_isSide : ByteArray := prog_10_method_6_code
def yX8_isSide : MethodName := ⟨RX8, "isSide", "(I)Z"⟩
abbrev cX8_isPlayer : ByteArray := prog_10_method_7_code
def yX8_isPlayer : MethodName := ⟨RX8, "isPlayer", "(I)Z"⟩
abbrev cX8_isLot : ByteArray := prog_10_method_8_code
def yX8_isLot : MethodName := ⟨RX8, "isLot", "(I)Z"⟩
abbrev cX8_starts : ByteArray := prog_10_method_9_code
def yX8_starts : MethodName := ⟨RX8, "starts", "()V"⟩
abbrev cX8_is : ByteArray := prog_10_method_10_code
def yX8_is : MethodName := ⟨RX8, "is", "(III)Z"⟩
abbrev cX8_manyThat : ByteArray := prog_10_method_11_code
def yX8_manyThat : MethodName := ⟨RX8, "manyThat", "(III)I"⟩
abbrev cX8_turn : ByteArray := prog_10_method_12_code
def yX8_turn : MethodName := ⟨RX8, "turn", "()I"⟩
abbrev cX8_goesOut : ByteArray := prog_10_method_13_code
def yX8_goesOut : MethodName := ⟨RX8, "goesOut", "(II)V"⟩
abbrev cX8_comesBack : ByteArray := prog_10_method_14_code
def yX8_comesBack : MethodName := ⟨RX8, "comesBack", "(I)V"⟩
abbrev cX8_looksAtMat : ByteArray := prog_10_method_15_code
def yX8_looksAtMat : MethodName := ⟨RX8, "looksAtMat", "(I)V"⟩
abbrev cX8_stepsThat : ByteArray := prog_10_method_16_code
def yX8_stepsThat : MethodName := ⟨RX8, "stepsThat", "(II)I"⟩
abbrev cX8_raiderIsOut : ByteArray := prog_10_method_17_code
def yX8_raiderIsOut : MethodName := ⟨RX8, "raiderIsOut", "(III)V"⟩
abbrev cX8_comesHome : ByteArray := prog_10_method_18_code
def yX8_comesHome : MethodName := ⟨RX8, "comesHome", "(III)V"⟩
abbrev cX8_endsRaid : ByteArray := prog_10_method_19_code
def yX8_endsRaid : MethodName := ⟨RX8, "endsRaid", "(I)V"⟩
abbrev cX8_canStep : ByteArray := prog_10_method_20_code
def yX8_canStep : MethodName := ⟨RX8, "canStep", "(II)Z"⟩
abbrev cX8_canRaid : ByteArray := prog_10_method_21_code
def yX8_canRaid : MethodName := ⟨RX8, "canRaid", "(I)Z"⟩
abbrev cX8_colourFor : ByteArray := prog_10_method_22_code
def yX8_colourFor : MethodName := ⟨RX8, "colourFor", "(III)I"⟩
abbrev cX8_canCard : ByteArray := prog_10_method_23_code
def yX8_canCard : MethodName := ⟨RX8, "canCard", "(III)Z"⟩
abbrev cX8_canChange : ByteArray := prog_10_method_24_code
def yX8_canChange : MethodName := ⟨RX8, "canChange", "(III)Z"⟩
abbrev cX8_givesCard : ByteArray := prog_10_method_25_code
def yX8_givesCard : MethodName := ⟨RX8, "givesCard", "(III)V"⟩
abbrev cX8_follows : ByteArray := prog_10_method_26_code
def yX8_follows : MethodName := ⟨RX8, "follows", "(I)Z"⟩
abbrev cX8_notes : ByteArray := prog_10_method_27_code
def yX8_notes : MethodName := ⟨RX8, "notes", "(I)V"⟩
abbrev cX8_ended : ByteArray := prog_10_method_28_code
def yX8_ended : MethodName := ⟨RX8, "ended", "()I"⟩
abbrev cX8_plays : ByteArray := prog_10_method_29_code
def yX8_plays : MethodName := ⟨RX8, "plays", "()I"⟩
abbrev cX8_begin : ByteArray := prog_10_method_30_code
def yX8_begin : MethodName := ⟨RX8, "begin", "(III)I"⟩
abbrev cX8_isBetween : ByteArray := prog_10_method_31_code
def yX8_isBetween : MethodName := ⟨RX8, "isBetween", "()Z"⟩
abbrev cX8_adds : ByteArray := prog_10_method_32_code
def yX8_adds : MethodName := ⟨RX8, "adds", "(IIII)I"⟩
abbrev cX8_raid : ByteArray := prog_10_method_33_code
def yX8_raid : MethodName := ⟨RX8, "raid", "(I)I"⟩
abbrev cX8_isWho : ByteArray := prog_10_method_34_code
def yX8_isWho : MethodName := ⟨RX8, "isWho", "(II)Z"⟩
abbrev cX8_canTell : ByteArray := prog_10_method_35_code
def yX8_canTell : MethodName := ⟨RX8, "canTell", "(III)Z"⟩
abbrev cX8_step : ByteArray := prog_10_method_36_code
def yX8_step : MethodName := ⟨RX8, "step", "(III)I"⟩
abbrev cX8_card : ByteArray := prog_10_method_37_code
def yX8_card : MethodName := ⟨RX8, "card", "(III)I"⟩
abbrev cX8_change : ByteArray := prog_10_method_38_code
def yX8_change : MethodName := ⟨RX8, "change", "(III)I"⟩
abbrev cX8_isStep : ByteArray := prog_10_method_39_code
def yX8_isStep : MethodName := ⟨RX8, "isStep", "(II)Z"⟩
abbrev cX8_canBeSaid : ByteArray := prog_10_method_40_code
def yX8_canBeSaid : MethodName := ⟨RX8, "canBeSaid", "(III)Z"⟩
abbrev cX8_says : ByteArray := prog_10_method_41_code
def yX8_says : MethodName := ⟨RX8, "says", "(III)V"⟩
abbrev cX8_falls : ByteArray := prog_10_method_42_code
def yX8_falls : MethodName := ⟨RX8, "falls", "(IIII)I"⟩
abbrev cX8_review : ByteArray := prog_10_method_43_code
def yX8_review : MethodName := ⟨RX8, "review", "(IIIII)I"⟩
abbrev cX8_wouldFall : ByteArray := prog_10_method_44_code
def yX8_wouldFall : MethodName := ⟨RX8, "wouldFall", "(IIII)I"⟩
abbrev cX8_takeBack : ByteArray := prog_10_method_45_code
def yX8_takeBack : MethodName := ⟨RX8, "takeBack", "(I)I"⟩
abbrev cX8_enter : ByteArray := prog_10_method_46_code
def yX8_enter : MethodName := ⟨RX8, "enter", "()I"⟩
abbrev cX8_type : ByteArray := prog_10_method_47_code
def yX8_type : MethodName := ⟨RX8, "type", "(I)I"⟩
abbrev cX8_clear : ByteArray := prog_10_method_48_code
def yX8_clear : MethodName := ⟨RX8, "clear", "()I"⟩
abbrev cX8_isNext : ByteArray := prog_10_method_49_code
def yX8_isNext : MethodName := ⟨RX8, "isNext", "(II)Z"⟩
abbrev cX8_takes : ByteArray := prog_10_method_50_code
def yX8_takes : MethodName := ⟨RX8, "takes", "(II)I"⟩
abbrev cX8_takesAll : ByteArray := prog_10_method_51_code
def yX8_takesAll : MethodName := ⟨RX8, "takesAll", "(IIII)V"⟩
abbrev cX8_readWord : ByteArray := prog_10_method_52_code
def yX8_readWord : MethodName := ⟨RX8, "readWord", "()V"⟩
abbrev cX8_readOrder : ByteArray := prog_10_method_53_code
def yX8_readOrder : MethodName := ⟨RX8, "readOrder", "()V"⟩
abbrev cX8_faultOf : ByteArray := prog_10_method_54_code
def yX8_faultOf : MethodName := ⟨RX8, "faultOf", "()I"⟩
abbrev cX8_fault : ByteArray := prog_10_method_55_code
def yX8_fault : MethodName := ⟨RX8, "fault", "()I"⟩
abbrev cX8_run : ByteArray := prog_10_method_56_code
def yX8_run : MethodName := ⟨RX8, "run", "()I"⟩
abbrev cX8_errorOfMatch : ByteArray := prog_10_method_57_code
def yX8_errorOfMatch : MethodName := ⟨RX8, "errorOfMatch", "(Z)I"⟩
abbrev cX8_player : ByteArray := prog_10_method_58_code
def yX8_player : MethodName := ⟨RX8, "player", "(II)I"⟩
abbrev cX8_outAt : ByteArray := prog_10_method_59_code
def yX8_outAt : MethodName := ⟨RX8, "outAt", "(II)I"⟩
abbrev cX8_out : ByteArray := prog_10_method_60_code
def yX8_out : MethodName := ⟨RX8, "out", "(II)I"⟩
abbrev cX8_next : ByteArray := prog_10_method_61_code
def yX8_next : MethodName := ⟨RX8, "next", "(I)I"⟩
abbrev cX8_points : ByteArray := prog_10_method_62_code
def yX8_points : MethodName := ⟨RX8, "points", "(I)I"⟩
abbrev cX8_match : ByteArray := prog_10_method_63_code
def yX8_match : MethodName := ⟨RX8, "match", "(I)I"⟩
abbrev cX8_hasReview : ByteArray := prog_10_method_64_code
def yX8_hasReview : MethodName := ⟨RX8, "hasReview", "(I)Z"⟩
abbrev cX8_hasEnded : ByteArray := prog_10_method_65_code
def yX8_hasEnded : MethodName := ⟨RX8, "hasEnded", "(II)Z"⟩
abbrev cX8_matAfter : ByteArray := prog_10_method_66_code
def yX8_matAfter : MethodName := ⟨RX8, "matAfter", "(II)I"⟩
abbrev cX8_matAnew : ByteArray := prog_10_method_67_code
def yX8_matAnew : MethodName := ⟨RX8, "matAnew", "(II)I"⟩
abbrev cX8_pointsAfter : ByteArray := prog_10_method_68_code
def yX8_pointsAfter : MethodName := ⟨RX8, "pointsAfter", "(II)I"⟩
abbrev cX8_raidPoints : ByteArray := prog_10_method_69_code
def yX8_raidPoints : MethodName := ⟨RX8, "raidPoints", "(II)I"⟩
abbrev cX8_isAhead : ByteArray := prog_10_method_70_code
def yX8_isAhead : MethodName := ⟨RX8, "isAhead", "(II)Z"⟩
abbrev cX8_rankOf : ByteArray := prog_10_method_71_code
def yX8_rankOf : MethodName := ⟨RX8, "rankOf", "(I)I"⟩
abbrev cX8_club : ByteArray := prog_10_method_72_code
def yX8_club : MethodName := ⟨RX8, "club", "(II)I"⟩
abbrev cX8_baseOf : ByteArray := prog_10_method_73_code
def yX8_baseOf : MethodName := ⟨RX8, "baseOf", "(I)I"⟩
abbrev cX8_isForeign : ByteArray := prog_10_method_74_code
def yX8_isForeign : MethodName := ⟨RX8, "isForeign", "(I)Z"⟩
abbrev cX8_canBid : ByteArray := prog_10_method_75_code
def yX8_canBid : MethodName := ⟨RX8, "canBid", "(III)Z"⟩
abbrev cX8_right : ByteArray := prog_10_method_76_code
def yX8_right : MethodName := ⟨RX8, "right", "(II)I"⟩
abbrev cX8_call : ByteArray := prog_10_method_77_code
def yX8_call : MethodName := ⟨RX8, "call", "(I)I"⟩
abbrev cX8_bid : ByteArray := prog_10_method_78_code
def yX8_bid : MethodName := ⟨RX8, "bid", "(II)I"⟩
abbrev cX8_sells : ByteArray := prog_10_method_79_code
def yX8_sells : MethodName := ⟨RX8, "sells", "(I)I"⟩
abbrev cX8_hammer : ByteArray := prog_10_method_80_code
def yX8_hammer : MethodName := ⟨RX8, "hammer", "()I"⟩
abbrev cX8_answer : ByteArray := prog_10_method_81_code
def yX8_answer : MethodName := ⟨RX8, "answer", "(Z)I"⟩
abbrev cX8_lot : ByteArray := prog_10_method_82_code
def yX8_lot : MethodName := ⟨RX8, "lot", "(II)I"⟩
abbrev cX8_squad : ByteArray := prog_10_method_83_code
def yX8_squad : MethodName := ⟨RX8, "squad", "(II)I"⟩
def RJ9 : String := "java/lang/Math"
def TJ9 : u_T := fun k => match k with
  | _ => ("", "", "", false)
def tyJ9 : Nat → FieldType := fun k => match k with
  | _ => .int
theorem nmJ9 : ∀ a, a < 0 → ∀ b, b < 0 → a ≠ b → (TJ9 a).2.1 ≠ (TJ9 b).2.1 := by decide +kernel
theorem tyJ9_ok : ∀ k, k < 0 → parseFieldDescriptor (TJ9 k).2.2.1 = some (tyJ9 k) := by decide +kernel
abbrev cJ9_min_7cf53 : ByteArray := prog_15_method_69_code
def yJ9_min_7cf53 : MethodName := ⟨RJ9, "min", "(II)I"⟩
def RJ0 : String := "java/lang/String"
def TJ0 : u_T := fun k => match k with
  | _ => ("", "", "", false)
def tyJ0 : Nat → FieldType := fun k => match k with
  | _ => .int
theorem nmJ0 : ∀ a, a < 0 → ∀ b, b < 0 → a ≠ b → (TJ0 a).2.1 ≠ (TJ0 b).2.1 := by decide +kernel
theorem tyJ0_ok : ∀ k, k < 0 → parseFieldDescriptor (TJ0 k).2.2.1 = some (tyJ0 k) := by decide +kernel
abbrev cJ0_length_8abf5 : ByteArray := prog_17_method_54_code
def yJ0_length_8abf5 : MethodName := ⟨RJ0, "length", "()I"⟩
abbrev cJ0_charAt_5068e : ByteArray := prog_17_method_56_code
def yJ0_charAt_5068e : MethodName := ⟨RJ0, "charAt", "(I)C"⟩
abbrev cJ0_coder_7d493 : ByteArray := prog_17_method_152_code
def yJ0_coder_7d493 : MethodName := ⟨RJ0, "coder", "()B"⟩
abbrev cJ0_isLatin1_aae02 : ByteArray := prog_17_method_154_code
def yJ0_isLatin1_aae02 : MethodName := ⟨RJ0, "isLatin1", "()Z"⟩
abbrev cJ0_checkIndex_df160 : ByteArray := prog_17_method_155_code
def yJ0_checkIndex_df160 : MethodName := ⟨RJ0, "checkIndex", "(II)V"⟩
def RJ1 : String := "java/lang/StringLatin1"
def TJ1 : u_T := fun k => match k with
  | _ => ("", "", "", false)
def tyJ1 : Nat → FieldType := fun k => match k with
  | _ => .int
theorem nmJ1 : ∀ a, a < 0 → ∀ b, b < 0 → a ≠ b → (TJ1 a).2.1 ≠ (TJ1 b).2.1 := by decide +kernel
theorem tyJ1_ok : ∀ k, k < 0 → parseFieldDescriptor (TJ1 k).2.2.1 = some (tyJ1 k) := by decide +kernel
abbrev cJ1_charAt_3b067 : ByteArray := prog_18_method_2_code
def yJ1_charAt_3b067 : MethodName := ⟨RJ1, "charAt", "([BI)C"⟩
def RJ2 : String := "java/lang/StringUTF16"
def TJ2 : u_T := fun k => match k with
  | _ => ("", "", "", false)
def tyJ2 : Nat → FieldType := fun k => match k with
  | _ => .int
theorem nmJ2 : ∀ a, a < 0 → ∀ b, b < 0 → a ≠ b → (TJ2 a).2.1 ≠ (TJ2 b).2.1 := by decide +kernel
theorem tyJ2_ok : ∀ k, k < 0 → parseFieldDescriptor (TJ2 k).2.2.1 = some (tyJ2 k) := by decide +kernel
abbrev cJ2_getChar_3b067 : ByteArray := prog_19_method_5_code
def yJ2_getChar_3b067 : MethodName := ⟨RJ2, "getChar", "([BI)C"⟩
abbrev cJ2_length_9d52b : ByteArray := prog_19_method_6_code
def yJ2_length_9d52b : MethodName := ⟨RJ2, "length", "([B)I"⟩
abbrev cJ2_charAt_3b067 : ByteArray := prog_19_method_83_code
def yJ2_charAt_3b067 : MethodName := ⟨RJ2, "charAt", "([BI)C"⟩
abbrev cJ2_checkIndex_2214a : ByteArray := prog_19_method_91_code
def yJ2_checkIndex_2214a : MethodName := ⟨RJ2, "checkIndex", "(I[B)V"⟩
def RJ3 : String := "jdk/internal/util/Preconditions"
def TJ3 : u_T := fun k => match k with
  | _ => ("", "", "", false)
def tyJ3 : Nat → FieldType := fun k => match k with
  | _ => .int
theorem nmJ3 : ∀ a, a < 0 → ∀ b, b < 0 → a ≠ b → (TJ3 a).2.1 ≠ (TJ3 b).2.1 := by decide +kernel
theorem tyJ3_ok : ∀ k, k < 0 → parseFieldDescriptor (TJ3 k).2.2.1 = some (tyJ3 k) := by decide +kernel
abbrev cJ3_checkIndex_8e157 : ByteArray := prog_21_method_11_code
def yJ3_checkIndex_8e157 : MethodName := ⟨RJ3, "checkIndex", "(IILjava/util/function/BiFunction;)I"⟩
def RL : String := "RaidhallLaw"
abbrev cL_begin : ByteArray := method_3_code
def yL_begin : MethodName := ⟨RL, "begin", "(LRaidhall;III[J)I"⟩
abbrev cL_raid : ByteArray := method_4_code
def yL_raid : MethodName := ⟨RL, "raid", "(LRaidhall;I[J)I"⟩
abbrev cL_step : ByteArray := method_5_code
def yL_step : MethodName := ⟨RL, "step", "(LRaidhall;III[J)I"⟩
abbrev cL_card : ByteArray := method_6_code
def yL_card : MethodName := ⟨RL, "card", "(LRaidhall;III[J)I"⟩
abbrev cL_change : ByteArray := method_7_code
def yL_change : MethodName := ⟨RL, "change", "(LRaidhall;III[J)I"⟩
abbrev cL_review : ByteArray := method_8_code
def yL_review : MethodName := ⟨RL, "review", "(LRaidhall;IIIII[J)I"⟩
abbrev cL_wouldFall : ByteArray := method_9_code
def yL_wouldFall : MethodName := ⟨RL, "wouldFall", "(LRaidhall;IIII[J)I"⟩
abbrev cL_takeBack : ByteArray := method_10_code
def yL_takeBack : MethodName := ⟨RL, "takeBack", "(LRaidhall;I[J)I"⟩
abbrev cL_enter : ByteArray := method_11_code
def yL_enter : MethodName := ⟨RL, "enter", "(LRaidhall;[J)I"⟩
abbrev cL_type : ByteArray := method_12_code
def yL_type : MethodName := ⟨RL, "type", "(LRaidhall;I[J)I"⟩
abbrev cL_run : ByteArray := method_13_code
def yL_run : MethodName := ⟨RL, "run", "(LRaidhall;[J)I"⟩
abbrev cL_player : ByteArray := method_14_code
def yL_player : MethodName := ⟨RL, "player", "(LRaidhall;II[J)I"⟩
abbrev cL_out : ByteArray := method_15_code
def yL_out : MethodName := ⟨RL, "out", "(LRaidhall;II[J)I"⟩
abbrev cL_next : ByteArray := method_16_code
def yL_next : MethodName := ⟨RL, "next", "(LRaidhall;I[J)I"⟩
abbrev cL_points : ByteArray := method_17_code
def yL_points : MethodName := ⟨RL, "points", "(LRaidhall;I[J)I"⟩
abbrev cL_match : ByteArray := method_18_code
def yL_match : MethodName := ⟨RL, "match", "(LRaidhall;I[J)I"⟩
abbrev cL_hasReview : ByteArray := method_19_code
def yL_hasReview : MethodName := ⟨RL, "hasReview", "(LRaidhall;I[J)I"⟩
abbrev cL_matAfter : ByteArray := method_20_code
def yL_matAfter : MethodName := ⟨RL, "matAfter", "(LRaidhall;II[J)I"⟩
abbrev cL_matAnew : ByteArray := method_21_code
def yL_matAnew : MethodName := ⟨RL, "matAnew", "(LRaidhall;II[J)I"⟩
abbrev cL_pointsAfter : ByteArray := method_22_code
def yL_pointsAfter : MethodName := ⟨RL, "pointsAfter", "(LRaidhall;II[J)I"⟩
abbrev cL_raidPoints : ByteArray := method_23_code
def yL_raidPoints : MethodName := ⟨RL, "raidPoints", "(LRaidhall;II[J)I"⟩
abbrev cL_club : ByteArray := method_24_code
def yL_club : MethodName := ⟨RL, "club", "(LRaidhall;II[J)I"⟩
abbrev cL_right : ByteArray := method_25_code
def yL_right : MethodName := ⟨RL, "right", "(LRaidhall;II[J)I"⟩
abbrev cL_call : ByteArray := method_26_code
def yL_call : MethodName := ⟨RL, "call", "(LRaidhall;I[J)I"⟩
abbrev cL_bid : ByteArray := method_27_code
def yL_bid : MethodName := ⟨RL, "bid", "(LRaidhall;II[J)I"⟩
abbrev cL_hammer : ByteArray := method_28_code
def yL_hammer : MethodName := ⟨RL, "hammer", "(LRaidhall;[J)I"⟩
abbrev cL_answer : ByteArray := method_29_code
def yL_answer : MethodName := ⟨RL, "answer", "(LRaidhall;Z[J)I"⟩
abbrev cL_lot : ByteArray := method_30_code
def yL_lot : MethodName := ⟨RL, "lot", "(LRaidhall;II[J)I"⟩
abbrev cL_squad : ByteArray := method_31_code
def yL_squad : MethodName := ⟨RL, "squad", "(LRaidhall;II[J)I"⟩
abbrev cL_law : ByteArray := code
def yL_law : MethodName := ⟨RL, "law", "([I)Z"⟩
abbrev vwCl : List vw_C := [(RX0, TX0, 11), (RX1, TX1, 11), (RX2, TX2, 10), (RX3, TX3, 6), (RX4, TX4, 4), (RX5, TX5, 6), (RX6, TX6, 9), (RX7, TX7, 4), (RX8, TX8, 38)]
end
section
theorem dX8_init_0 : decode cX8_init 0 = .ok (.aload_n 0, 1) := by decide +kernel
theorem dX8_init_1 : decode cX8_init 1 = .ok (.invokespecial 1, 3) := by decide +kernel
theorem dX8_init_4 : decode cX8_init 4 = .ok (.aload_n 0, 1) := by decide +kernel
theorem dX8_init_5 : decode cX8_init 5 = .ok (.iconst 2, 1) := by decide +kernel
theorem dX8_init_6 : decode cX8_init 6 = .ok (.newarray .int, 2) := by decide +kernel
theorem dX8_init_8 : decode cX8_init 8 = .ok (.putfield 7, 3) := by decide +kernel
theorem dX8_init_11 : decode cX8_init 11 = .ok (.aload_n 0, 1) := by decide +kernel
theorem dX8_init_12 : decode cX8_init 12 = .ok (.iconst 2, 1) := by decide +kernel
theorem dX8_init_13 : decode cX8_init 13 = .ok (.newarray .boolean, 2) := by decide +kernel
theorem dX8_init_15 : decode cX8_init 15 = .ok (.putfield 13, 3) := by decide +kernel
theorem dX8_init_18 : decode cX8_init 18 = .ok (.aload_n 0, 1) := by decide +kernel
theorem dX8_init_19 : decode cX8_init 19 = .ok (.bipush 60, 2) := by decide +kernel
theorem dX8_init_21 : decode cX8_init 21 = .ok (.newarray .int, 2) := by decide +kernel
theorem dX8_init_23 : decode cX8_init 23 = .ok (.putfield 17, 3) := by decide +kernel
theorem dX8_init_26 : decode cX8_init 26 = .ok (.aload_n 0, 1) := by decide +kernel
theorem dX8_init_27 : decode cX8_init 27 = .ok (.bipush 60, 2) := by decide +kernel
theorem dX8_init_29 : decode cX8_init 29 = .ok (.newarray .int, 2) := by decide +kernel
theorem dX8_init_31 : decode cX8_init 31 = .ok (.putfield 20, 3) := by decide +kernel
theorem dX8_init_34 : decode cX8_init 34 = .ok (.aload_n 0, 1) := by decide +kernel
theorem dX8_init_35 : decode cX8_init 35 = .ok (.bipush 60, 2) := by decide +kernel
theorem dX8_init_37 : decode cX8_init 37 = .ok (.newarray .int, 2) := by decide +kernel
theorem dX8_init_39 : decode cX8_init 39 = .ok (.putfield 23, 3) := by decide +kernel
theorem dX8_init_42 : decode cX8_init 42 = .ok (.aload_n 0, 1) := by decide +kernel
theorem dX8_init_43 : decode cX8_init 43 = .ok (.bipush 60, 2) := by decide +kernel
theorem dX8_init_45 : decode cX8_init 45 = .ok (.newarray .int, 2) := by decide +kernel
theorem dX8_init_47 : decode cX8_init 47 = .ok (.putfield 26, 3) := by decide +kernel
theorem dX8_init_50 : decode cX8_init 50 = .ok (.aload_n 0, 1) := by decide +kernel
theorem dX8_init_51 : decode cX8_init 51 = .ok (.bipush 60, 2) := by decide +kernel
theorem dX8_init_53 : decode cX8_init 53 = .ok (.newarray .int, 2) := by decide +kernel
theorem dX8_init_55 : decode cX8_init 55 = .ok (.putfield 29, 3) := by decide +kernel
theorem dX8_init_58 : decode cX8_init 58 = .ok (.aload_n 0, 1) := by decide +kernel
theorem dX8_init_59 : decode cX8_init 59 = .ok (.sipush 840, 3) := by decide +kernel
theorem dX8_init_62 : decode cX8_init 62 = .ok (.newarray .int, 2) := by decide +kernel
theorem dX8_init_64 : decode cX8_init 64 = .ok (.putfield 32, 3) := by decide +kernel
theorem dX8_init_67 : decode cX8_init 67 = .ok (.aload_n 0, 1) := by decide +kernel
theorem dX8_init_68 : decode cX8_init 68 = .ok (.sipush 840, 3) := by decide +kernel
theorem dX8_init_71 : decode cX8_init 71 = .ok (.newarray .int, 2) := by decide +kernel
theorem dX8_init_73 : decode cX8_init 73 = .ok (.putfield 35, 3) := by decide +kernel
theorem dX8_init_76 : decode cX8_init 76 = .ok (.aload_n 0, 1) := by decide +kernel
theorem dX8_init_77 : decode cX8_init 77 = .ok (.sipush 840, 3) := by decide +kernel
theorem dX8_init_80 : decode cX8_init 80 = .ok (.newarray .int, 2) := by decide +kernel
theorem dX8_init_82 : decode cX8_init 82 = .ok (.putfield 38, 3) := by decide +kernel
theorem dX8_init_85 : decode cX8_init 85 = .ok (.aload_n 0, 1) := by decide +kernel
theorem dX8_init_86 : decode cX8_init 86 = .ok (.bipush 110, 2) := by decide +kernel
theorem dX8_init_88 : decode cX8_init 88 = .ok (.newarray .int, 2) := by decide +kernel
theorem dX8_init_90 : decode cX8_init 90 = .ok (.putfield 41, 3) := by decide +kernel
theorem dX8_init_93 : decode cX8_init 93 = .ok (.aload_n 0, 1) := by decide +kernel
theorem dX8_init_94 : decode cX8_init 94 = .ok (.bipush 120, 2) := by decide +kernel
theorem dX8_init_96 : decode cX8_init 96 = .ok (.newarray .int, 2) := by decide +kernel
theorem dX8_init_98 : decode cX8_init 98 = .ok (.putfield 44, 3) := by decide +kernel
theorem dX8_init_101 : decode cX8_init 101 = .ok (.aload_n 0, 1) := by decide +kernel
theorem dX8_init_102 : decode cX8_init 102 = .ok (.bipush 120, 2) := by decide +kernel
theorem dX8_init_104 : decode cX8_init 104 = .ok (.newarray .int, 2) := by decide +kernel
theorem dX8_init_106 : decode cX8_init 106 = .ok (.putfield 47, 3) := by decide +kernel
theorem dX8_init_109 : decode cX8_init 109 = .ok (.aload_n 0, 1) := by decide +kernel
theorem dX8_init_110 : decode cX8_init 110 = .ok (.bipush 60, 2) := by decide +kernel
theorem dX8_init_112 : decode cX8_init 112 = .ok (.newarray .int, 2) := by decide +kernel
theorem dX8_init_114 : decode cX8_init 114 = .ok (.putfield 50, 3) := by decide +kernel
theorem dX8_init_117 : decode cX8_init 117 = .ok (.aload_n 0, 1) := by decide +kernel
theorem dX8_init_118 : decode cX8_init 118 = .ok (.bipush 48, 2) := by decide +kernel
theorem dX8_init_120 : decode cX8_init 120 = .ok (.newarray .int, 2) := by decide +kernel
theorem dX8_init_122 : decode cX8_init 122 = .ok (.putfield 53, 3) := by decide +kernel
theorem dX8_init_125 : decode cX8_init 125 = .ok (.aload_n 0, 1) := by decide +kernel
theorem dX8_init_126 : decode cX8_init 126 = .ok (.bipush 8, 2) := by decide +kernel
theorem dX8_init_128 : decode cX8_init 128 = .ok (.newarray .int, 2) := by decide +kernel
theorem dX8_init_130 : decode cX8_init 130 = .ok (.putfield 56, 3) := by decide +kernel
theorem dX8_init_133 : decode cX8_init 133 = .ok (.aload_n 0, 1) := by decide +kernel
theorem dX8_init_134 : decode cX8_init 134 = .ok (.bipush 8, 2) := by decide +kernel
theorem dX8_init_136 : decode cX8_init 136 = .ok (.newarray .int, 2) := by decide +kernel
theorem dX8_init_138 : decode cX8_init 138 = .ok (.putfield 59, 3) := by decide +kernel
theorem dX8_init_141 : decode cX8_init 141 = .ok (.aload_n 0, 1) := by decide +kernel
theorem dX8_init_142 : decode cX8_init 142 = .ok (.bipush 8, 2) := by decide +kernel
theorem dX8_init_144 : decode cX8_init 144 = .ok (.newarray .int, 2) := by decide +kernel
theorem dX8_init_146 : decode cX8_init 146 = .ok (.putfield 62, 3) := by decide +kernel
theorem dX8_init_149 : decode cX8_init 149 = .ok (.aload_n 0, 1) := by decide +kernel
theorem dX8_init_150 : decode cX8_init 150 = .ok (.bipush 24, 2) := by decide +kernel
theorem dX8_init_152 : decode cX8_init 152 = .ok (.newarray .int, 2) := by decide +kernel
theorem dX8_init_154 : decode cX8_init 154 = .ok (.putfield 65, 3) := by decide +kernel
theorem dX8_init_157 : decode cX8_init 157 = .ok (.aload_n 0, 1) := by decide +kernel
theorem dX8_init_158 : decode cX8_init 158 = .ok (.bipush 24, 2) := by decide +kernel
theorem dX8_init_160 : decode cX8_init 160 = .ok (.newarray .int, 2) := by decide +kernel
theorem dX8_init_162 : decode cX8_init 162 = .ok (.putfield 68, 3) := by decide +kernel
theorem dX8_init_165 : decode cX8_init 165 = .ok (.aload_n 0, 1) := by decide +kernel
theorem dX8_init_166 : decode cX8_init 166 = .ok (.bipush 24, 2) := by decide +kernel
theorem dX8_init_168 : decode cX8_init 168 = .ok (.newarray .int, 2) := by decide +kernel
theorem dX8_init_170 : decode cX8_init 170 = .ok (.putfield 71, 3) := by decide +kernel
theorem dX8_init_173 : decode cX8_init 173 = .ok (.iconst 0, 1) := by decide +kernel
theorem dX8_init_174 : decode cX8_init 174 = .ok (.istore_n 1, 1) := by decide +kernel
theorem dX8_init_175 : decode cX8_init 175 = .ok (.iload_n 1, 1) := by decide +kernel
theorem dX8_init_176 : decode cX8_init 176 = .ok (.bipush 8, 2) := by decide +kernel
theorem dX8_init_178 : decode cX8_init 178 = .ok (.if_icmp .ge 18, 3) := by decide +kernel
theorem dX8_init_181 : decode cX8_init 181 = .ok (.aload_n 0, 1) := by decide +kernel
theorem dX8_init_182 : decode cX8_init 182 = .ok (.getfield 56, 3) := by decide +kernel
theorem dX8_init_185 : decode cX8_init 185 = .ok (.iload_n 1, 1) := by decide +kernel
theorem dX8_init_186 : decode cX8_init 186 = .ok (.sipush 1000, 3) := by decide +kernel
theorem dX8_init_189 : decode cX8_init 189 = .ok (.iastore, 1) := by decide +kernel
theorem dX8_init_190 : decode cX8_init 190 = .ok (.iinc 1 1, 3) := by decide +kernel
theorem dX8_init_193 : decode cX8_init 193 = .ok (.goto (-18), 3) := by decide +kernel
theorem dX8_init_196 : decode cX8_init 196 = .ok (.iconst 0, 1) := by decide +kernel
theorem dX8_init_197 : decode cX8_init 197 = .ok (.istore_n 1, 1) := by decide +kernel
theorem dX8_init_198 : decode cX8_init 198 = .ok (.iload_n 1, 1) := by decide +kernel
theorem dX8_init_199 : decode cX8_init 199 = .ok (.bipush 24, 2) := by decide +kernel
theorem dX8_init_201 : decode cX8_init 201 = .ok (.if_icmp .ge 30, 3) := by decide +kernel
theorem dX8_init_204 : decode cX8_init 204 = .ok (.aload_n 0, 1) := by decide +kernel
theorem dX8_init_205 : decode cX8_init 205 = .ok (.getfield 65, 3) := by decide +kernel
theorem dX8_init_208 : decode cX8_init 208 = .ok (.iload_n 1, 1) := by decide +kernel
theorem dX8_init_209 : decode cX8_init 209 = .ok (.iconst (-1), 1) := by decide +kernel
theorem dX8_init_210 : decode cX8_init 210 = .ok (.iastore, 1) := by decide +kernel
theorem dX8_init_211 : decode cX8_init 211 = .ok (.aload_n 0, 1) := by decide +kernel
theorem dX8_init_212 : decode cX8_init 212 = .ok (.getfield 68, 3) := by decide +kernel
theorem dX8_init_215 : decode cX8_init 215 = .ok (.iload_n 1, 1) := by decide +kernel
theorem dX8_init_216 : decode cX8_init 216 = .ok (.iconst (-1), 1) := by decide +kernel
theorem dX8_init_217 : decode cX8_init 217 = .ok (.iastore, 1) := by decide +kernel
theorem dX8_init_218 : decode cX8_init 218 = .ok (.aload_n 0, 1) := by decide +kernel
theorem dX8_init_219 : decode cX8_init 219 = .ok (.getfield 71, 3) := by decide +kernel
theorem dX8_init_222 : decode cX8_init 222 = .ok (.iload_n 1, 1) := by decide +kernel
theorem dX8_init_223 : decode cX8_init 223 = .ok (.iconst (-1), 1) := by decide +kernel
theorem dX8_init_224 : decode cX8_init 224 = .ok (.iastore, 1) := by decide +kernel
theorem dX8_init_225 : decode cX8_init 225 = .ok (.iinc 1 1, 3) := by decide +kernel
theorem dX8_init_228 : decode cX8_init 228 = .ok (.goto (-30), 3) := by decide +kernel
theorem dX8_init_231 : decode cX8_init 231 = .ok (.aload_n 0, 1) := by decide +kernel
theorem dX8_init_232 : decode cX8_init 232 = .ok (.iconst (-1), 1) := by decide +kernel
theorem dX8_init_233 : decode cX8_init 233 = .ok (.putfield 74, 3) := by decide +kernel
theorem dX8_init_236 : decode cX8_init 236 = .ok (.return_, 1) := by decide +kernel
theorem dX8_thrown_0 : decode cX8_thrown 0 = .ok (.aload_n 0, 1) := by decide +kernel
theorem dX8_thrown_1 : decode cX8_thrown 1 = .ok (.getfield 78, 3) := by decide +kernel
theorem dX8_thrown_4 : decode cX8_thrown 4 = .ok (.ireturn, 1) := by decide +kernel
theorem dX8_holds_0 : decode cX8_holds 0 = .ok (.aload_n 0, 1) := by decide +kernel
theorem dX8_holds_1 : decode cX8_holds 1 = .ok (.iload_n 1, 1) := by decide +kernel
theorem dX8_holds_2 : decode cX8_holds 2 = .ok (.putfield 78, 3) := by decide +kernel
theorem dX8_holds_5 : decode cX8_holds 5 = .ok (.iload_n 1, 1) := by decide +kernel
theorem dX8_holds_6 : decode cX8_holds 6 = .ok (.ifCond .ne 7, 3) := by decide +kernel
theorem dX8_holds_9 : decode cX8_holds 9 = .ok (.iconst 1, 1) := by decide +kernel
theorem dX8_holds_10 : decode cX8_holds 10 = .ok (.goto 4, 3) := by decide +kernel
theorem dX8_holds_13 : decode cX8_holds 13 = .ok (.iconst 0, 1) := by decide +kernel
theorem dX8_holds_14 : decode cX8_holds 14 = .ok (.ireturn, 1) := by decide +kernel
theorem dX8_in_0 : decode cX8_in 0 = .ok (.iload_n 0, 1) := by decide +kernel
theorem dX8_in_1 : decode cX8_in 1 = .ok (.iload_n 1, 1) := by decide +kernel
theorem dX8_in_2 : decode cX8_in 2 = .ok (.if_icmp .lt 12, 3) := by decide +kernel
theorem dX8_in_5 : decode cX8_in 5 = .ok (.iload_n 0, 1) := by decide +kernel
theorem dX8_in_6 : decode cX8_in 6 = .ok (.iload_n 2, 1) := by decide +kernel
theorem dX8_in_7 : decode cX8_in 7 = .ok (.if_icmp .gt 7, 3) := by decide +kernel
theorem dX8_in_10 : decode cX8_in 10 = .ok (.iconst 1, 1) := by decide +kernel
theorem dX8_in_11 : decode cX8_in 11 = .ok (.goto 4, 3) := by decide +kernel
theorem dX8_in_14 : decode cX8_in 14 = .ok (.iconst 0, 1) := by decide +kernel
theorem dX8_in_15 : decode cX8_in 15 = .ok (.ireturn, 1) := by decide +kernel
theorem dX8_isClub_0 : decode cX8_isClub 0 = .ok (.iload_n 0, 1) := by decide +kernel
theorem dX8_isClub_1 : decode cX8_isClub 1 = .ok (.iconst 0, 1) := by decide +kernel
theorem dX8_isClub_2 : decode cX8_isClub 2 = .ok (.bipush 7, 2) := by decide +kernel
theorem dX8_isClub_4 : decode cX8_isClub 4 = .ok (.invokestatic 81, 3) := by decide +kernel
theorem dX8_isClub_7 : decode cX8_isClub 7 = .ok (.ireturn, 1) := by decide +kernel
theorem dX8_isSide_0 : decode cX8_isSide 0 = .ok (.iload_n 0, 1) := by decide +kernel
theorem dX8_isSide_1 : decode cX8_isSide 1 = .ok (.iconst 0, 1) := by decide +kernel
theorem dX8_isSide_2 : decode cX8_isSide 2 = .ok (.iconst 1, 1) := by decide +kernel
theorem dX8_isSide_3 : decode cX8_isSide 3 = .ok (.invokestatic 81, 3) := by decide +kernel
theorem dX8_isSide_6 : decode cX8_isSide 6 = .ok (.ireturn, 1) := by decide +kernel
theorem dX8_isPlayer_0 : decode cX8_isPlayer 0 = .ok (.iload_n 0, 1) := by decide +kernel
theorem dX8_isPlayer_1 : decode cX8_isPlayer 1 = .ok (.iconst 0, 1) := by decide +kernel
theorem dX8_isPlayer_2 : decode cX8_isPlayer 2 = .ok (.bipush 9, 2) := by decide +kernel
theorem dX8_isPlayer_4 : decode cX8_isPlayer 4 = .ok (.invokestatic 81, 3) := by decide +kernel
theorem dX8_isPlayer_7 : decode cX8_isPlayer 7 = .ok (.ireturn, 1) := by decide +kernel
theorem dX8_isLot_0 : decode cX8_isLot 0 = .ok (.iload_n 0, 1) := by decide +kernel
theorem dX8_isLot_1 : decode cX8_isLot 1 = .ok (.iconst 0, 1) := by decide +kernel
theorem dX8_isLot_2 : decode cX8_isLot 2 = .ok (.bipush 23, 2) := by decide +kernel
theorem dX8_isLot_4 : decode cX8_isLot 4 = .ok (.invokestatic 81, 3) := by decide +kernel
theorem dX8_isLot_7 : decode cX8_isLot 7 = .ok (.ireturn, 1) := by decide +kernel
theorem dX8_starts_0 : decode cX8_starts 0 = .ok (.iconst 0, 1) := by decide +kernel
theorem dX8_starts_1 : decode cX8_starts 1 = .ok (.istore_n 1, 1) := by decide +kernel
theorem dX8_starts_2 : decode cX8_starts 2 = .ok (.iload_n 1, 1) := by decide +kernel
theorem dX8_starts_3 : decode cX8_starts 3 = .ok (.bipush 110, 2) := by decide +kernel
theorem dX8_starts_5 : decode cX8_starts 5 = .ok (.if_icmp .ge 35, 3) := by decide +kernel
theorem dX8_starts_8 : decode cX8_starts 8 = .ok (.aload_n 0, 1) := by decide +kernel
theorem dX8_starts_9 : decode cX8_starts 9 = .ok (.getfield 41, 3) := by decide +kernel
theorem dX8_starts_12 : decode cX8_starts 12 = .ok (.iload_n 1, 1) := by decide +kernel
theorem dX8_starts_13 : decode cX8_starts 13 = .ok (.iload_n 1, 1) := by decide +kernel
theorem dX8_starts_14 : decode cX8_starts 14 = .ok (.bipush 20, 2) := by decide +kernel
theorem dX8_starts_16 : decode cX8_starts 16 = .ok (.if_icmp .ge 16, 3) := by decide +kernel
theorem dX8_starts_19 : decode cX8_starts 19 = .ok (.iload_n 1, 1) := by decide +kernel
theorem dX8_starts_20 : decode cX8_starts 20 = .ok (.bipush 10, 2) := by decide +kernel
theorem dX8_starts_22 : decode cX8_starts 22 = .ok (.irem, 1) := by decide +kernel
theorem dX8_starts_23 : decode cX8_starts 23 = .ok (.bipush 6, 2) := by decide +kernel
theorem dX8_starts_25 : decode cX8_starts 25 = .ok (.if_icmp .le 7, 3) := by decide +kernel
theorem dX8_starts_28 : decode cX8_starts 28 = .ok (.iconst 1, 1) := by decide +kernel
theorem dX8_starts_29 : decode cX8_starts 29 = .ok (.goto 4, 3) := by decide +kernel
theorem dX8_starts_32 : decode cX8_starts 32 = .ok (.iconst 0, 1) := by decide +kernel
theorem dX8_starts_33 : decode cX8_starts 33 = .ok (.iastore, 1) := by decide +kernel
theorem dX8_starts_34 : decode cX8_starts 34 = .ok (.iinc 1 1, 3) := by decide +kernel
theorem dX8_starts_37 : decode cX8_starts 37 = .ok (.goto (-35), 3) := by decide +kernel
theorem dX8_starts_40 : decode cX8_starts 40 = .ok (.return_, 1) := by decide +kernel
theorem dX8_is_0 : decode cX8_is 0 = .ok (.aload_n 0, 1) := by decide +kernel
theorem dX8_is_1 : decode cX8_is 1 = .ok (.getfield 41, 3) := by decide +kernel
theorem dX8_is_4 : decode cX8_is 4 = .ok (.bipush 10, 2) := by decide +kernel
theorem dX8_is_6 : decode cX8_is 6 = .ok (.iload_n 1, 1) := by decide +kernel
theorem dX8_is_7 : decode cX8_is 7 = .ok (.imul, 1) := by decide +kernel
theorem dX8_is_8 : decode cX8_is 8 = .ok (.iload_n 2, 1) := by decide +kernel
theorem dX8_is_9 : decode cX8_is 9 = .ok (.iadd, 1) := by decide +kernel
theorem dX8_is_10 : decode cX8_is 10 = .ok (.iaload, 1) := by decide +kernel
theorem dX8_is_11 : decode cX8_is 11 = .ok (.iload_n 3, 1) := by decide +kernel
theorem dX8_is_12 : decode cX8_is 12 = .ok (.if_icmp .ne 7, 3) := by decide +kernel
theorem dX8_is_15 : decode cX8_is 15 = .ok (.iconst 1, 1) := by decide +kernel
theorem dX8_is_16 : decode cX8_is 16 = .ok (.goto 4, 3) := by decide +kernel
theorem dX8_is_19 : decode cX8_is 19 = .ok (.iconst 0, 1) := by decide +kernel
theorem dX8_is_20 : decode cX8_is 20 = .ok (.ireturn, 1) := by decide +kernel
theorem dX8_manyThat_0 : decode cX8_manyThat 0 = .ok (.iconst 0, 1) := by decide +kernel
theorem dX8_manyThat_1 : decode cX8_manyThat 1 = .ok (.istore 4, 2) := by decide +kernel
theorem dX8_manyThat_3 : decode cX8_manyThat 3 = .ok (.iconst 0, 1) := by decide +kernel
theorem dX8_manyThat_4 : decode cX8_manyThat 4 = .ok (.istore 5, 2) := by decide +kernel
theorem dX8_manyThat_6 : decode cX8_manyThat 6 = .ok (.iload 5, 2) := by decide +kernel
theorem dX8_manyThat_8 : decode cX8_manyThat 8 = .ok (.bipush 10, 2) := by decide +kernel
theorem dX8_manyThat_10 : decode cX8_manyThat 10 = .ok (.if_icmp .ge 41, 3) := by decide +kernel
theorem dX8_manyThat_13 : decode cX8_manyThat 13 = .ok (.iload 4, 2) := by decide +kernel
theorem dX8_manyThat_15 : decode cX8_manyThat 15 = .ok (.aload_n 0, 1) := by decide +kernel
theorem dX8_manyThat_16 : decode cX8_manyThat 16 = .ok (.iload_n 1, 1) := by decide +kernel
theorem dX8_manyThat_17 : decode cX8_manyThat 17 = .ok (.iload 5, 2) := by decide +kernel
theorem dX8_manyThat_19 : decode cX8_manyThat 19 = .ok (.iload_n 2, 1) := by decide +kernel
theorem dX8_manyThat_20 : decode cX8_manyThat 20 = .ok (.invokevirtual 85, 3) := by decide +kernel
theorem dX8_manyThat_23 : decode cX8_manyThat 23 = .ok (.ifCond .ne 14, 3) := by decide +kernel
theorem dX8_manyThat_26 : decode cX8_manyThat 26 = .ok (.aload_n 0, 1) := by decide +kernel
theorem dX8_manyThat_27 : decode cX8_manyThat 27 = .ok (.iload_n 1, 1) := by decide +kernel
theorem dX8_manyThat_28 : decode cX8_manyThat 28 = .ok (.iload 5, 2) := by decide +kernel
theorem dX8_manyThat_30 : decode cX8_manyThat 30 = .ok (.iload_n 3, 1) := by decide +kernel
theorem dX8_manyThat_31 : decode cX8_manyThat 31 = .ok (.invokevirtual 85, 3) := by decide +kernel
theorem dX8_manyThat_34 : decode cX8_manyThat 34 = .ok (.ifCond .eq 7, 3) := by decide +kernel
theorem dX8_manyThat_37 : decode cX8_manyThat 37 = .ok (.iconst 1, 1) := by decide +kernel
theorem dX8_manyThat_38 : decode cX8_manyThat 38 = .ok (.goto 4, 3) := by decide +kernel
theorem dX8_manyThat_41 : decode cX8_manyThat 41 = .ok (.iconst 0, 1) := by decide +kernel
theorem dX8_manyThat_42 : decode cX8_manyThat 42 = .ok (.iadd, 1) := by decide +kernel
theorem dX8_manyThat_43 : decode cX8_manyThat 43 = .ok (.istore 4, 2) := by decide +kernel
theorem dX8_manyThat_45 : decode cX8_manyThat 45 = .ok (.iinc 5 1, 3) := by decide +kernel
theorem dX8_manyThat_48 : decode cX8_manyThat 48 = .ok (.goto (-42), 3) := by decide +kernel
theorem dX8_manyThat_51 : decode cX8_manyThat 51 = .ok (.iload 4, 2) := by decide +kernel
theorem dX8_manyThat_53 : decode cX8_manyThat 53 = .ok (.ireturn, 1) := by decide +kernel
theorem dX8_turn_0 : decode cX8_turn 0 = .ok (.aload_n 0, 1) := by decide +kernel
theorem dX8_turn_1 : decode cX8_turn 1 = .ok (.getfield 41, 3) := by decide +kernel
theorem dX8_turn_4 : decode cX8_turn 4 = .ok (.bipush 109, 2) := by decide +kernel
theorem dX8_turn_6 : decode cX8_turn 6 = .ok (.iaload, 1) := by decide +kernel
theorem dX8_turn_7 : decode cX8_turn 7 = .ok (.iconst 2, 1) := by decide +kernel
theorem dX8_turn_8 : decode cX8_turn 8 = .ok (.irem, 1) := by decide +kernel
theorem dX8_turn_9 : decode cX8_turn 9 = .ok (.ireturn, 1) := by decide +kernel
theorem dX8_goesOut_0 : decode cX8_goesOut 0 = .ok (.aload_n 0, 1) := by decide +kernel
theorem dX8_goesOut_1 : decode cX8_goesOut 1 = .ok (.getfield 41, 3) := by decide +kernel
theorem dX8_goesOut_4 : decode cX8_goesOut 4 = .ok (.bipush 10, 2) := by decide +kernel
theorem dX8_goesOut_6 : decode cX8_goesOut 6 = .ok (.iload_n 1, 1) := by decide +kernel
theorem dX8_goesOut_7 : decode cX8_goesOut 7 = .ok (.imul, 1) := by decide +kernel
theorem dX8_goesOut_8 : decode cX8_goesOut 8 = .ok (.iload_n 2, 1) := by decide +kernel
theorem dX8_goesOut_9 : decode cX8_goesOut 9 = .ok (.iadd, 1) := by decide +kernel
theorem dX8_goesOut_10 : decode cX8_goesOut 10 = .ok (.iconst 2, 1) := by decide +kernel
theorem dX8_goesOut_11 : decode cX8_goesOut 11 = .ok (.iastore, 1) := by decide +kernel
theorem dX8_goesOut_12 : decode cX8_goesOut 12 = .ok (.aload_n 0, 1) := by decide +kernel
theorem dX8_goesOut_13 : decode cX8_goesOut 13 = .ok (.getfield 41, 3) := by decide +kernel
theorem dX8_goesOut_16 : decode cX8_goesOut 16 = .ok (.bipush 80, 2) := by decide +kernel
theorem dX8_goesOut_18 : decode cX8_goesOut 18 = .ok (.bipush 10, 2) := by decide +kernel
theorem dX8_goesOut_20 : decode cX8_goesOut 20 = .ok (.iload_n 1, 1) := by decide +kernel
theorem dX8_goesOut_21 : decode cX8_goesOut 21 = .ok (.imul, 1) := by decide +kernel
theorem dX8_goesOut_22 : decode cX8_goesOut 22 = .ok (.iadd, 1) := by decide +kernel
theorem dX8_goesOut_23 : decode cX8_goesOut 23 = .ok (.aload_n 0, 1) := by decide +kernel
theorem dX8_goesOut_24 : decode cX8_goesOut 24 = .ok (.getfield 41, 3) := by decide +kernel
theorem dX8_goesOut_27 : decode cX8_goesOut 27 = .ok (.bipush 100, 2) := by decide +kernel
theorem dX8_goesOut_29 : decode cX8_goesOut 29 = .ok (.iload_n 1, 1) := by decide +kernel
theorem dX8_goesOut_30 : decode cX8_goesOut 30 = .ok (.iadd, 1) := by decide +kernel
theorem dX8_goesOut_31 : decode cX8_goesOut 31 = .ok (.iaload, 1) := by decide +kernel
theorem dX8_goesOut_32 : decode cX8_goesOut 32 = .ok (.iadd, 1) := by decide +kernel
theorem dX8_goesOut_33 : decode cX8_goesOut 33 = .ok (.iload_n 2, 1) := by decide +kernel
theorem dX8_goesOut_34 : decode cX8_goesOut 34 = .ok (.iastore, 1) := by decide +kernel
theorem dX8_goesOut_35 : decode cX8_goesOut 35 = .ok (.aload_n 0, 1) := by decide +kernel
theorem dX8_goesOut_36 : decode cX8_goesOut 36 = .ok (.getfield 41, 3) := by decide +kernel
theorem dX8_goesOut_39 : decode cX8_goesOut 39 = .ok (.bipush 100, 2) := by decide +kernel
theorem dX8_goesOut_41 : decode cX8_goesOut 41 = .ok (.iload_n 1, 1) := by decide +kernel
theorem dX8_goesOut_42 : decode cX8_goesOut 42 = .ok (.iadd, 1) := by decide +kernel
theorem dX8_goesOut_43 : decode cX8_goesOut 43 = .ok (.dup2, 1) := by decide +kernel
theorem dX8_goesOut_44 : decode cX8_goesOut 44 = .ok (.iaload, 1) := by decide +kernel
theorem dX8_goesOut_45 : decode cX8_goesOut 45 = .ok (.iconst 1, 1) := by decide +kernel
theorem dX8_goesOut_46 : decode cX8_goesOut 46 = .ok (.iadd, 1) := by decide +kernel
theorem dX8_goesOut_47 : decode cX8_goesOut 47 = .ok (.iastore, 1) := by decide +kernel
theorem dX8_goesOut_48 : decode cX8_goesOut 48 = .ok (.return_, 1) := by decide +kernel
theorem dX8_comesBack_0 : decode cX8_comesBack 0 = .ok (.aload_n 0, 1) := by decide +kernel
theorem dX8_comesBack_1 : decode cX8_comesBack 1 = .ok (.getfield 41, 3) := by decide +kernel
theorem dX8_comesBack_4 : decode cX8_comesBack 4 = .ok (.bipush 100, 2) := by decide +kernel
theorem dX8_comesBack_6 : decode cX8_comesBack 6 = .ok (.iload_n 1, 1) := by decide +kernel
theorem dX8_comesBack_7 : decode cX8_comesBack 7 = .ok (.iadd, 1) := by decide +kernel
theorem dX8_comesBack_8 : decode cX8_comesBack 8 = .ok (.iaload, 1) := by decide +kernel
theorem dX8_comesBack_9 : decode cX8_comesBack 9 = .ok (.ifCond .le 90, 3) := by decide +kernel
theorem dX8_comesBack_12 : decode cX8_comesBack 12 = .ok (.aload_n 0, 1) := by decide +kernel
theorem dX8_comesBack_13 : decode cX8_comesBack 13 = .ok (.getfield 41, 3) := by decide +kernel
theorem dX8_comesBack_16 : decode cX8_comesBack 16 = .ok (.bipush 10, 2) := by decide +kernel
theorem dX8_comesBack_18 : decode cX8_comesBack 18 = .ok (.iload_n 1, 1) := by decide +kernel
theorem dX8_comesBack_19 : decode cX8_comesBack 19 = .ok (.imul, 1) := by decide +kernel
theorem dX8_comesBack_20 : decode cX8_comesBack 20 = .ok (.aload_n 0, 1) := by decide +kernel
theorem dX8_comesBack_21 : decode cX8_comesBack 21 = .ok (.getfield 41, 3) := by decide +kernel
theorem dX8_comesBack_24 : decode cX8_comesBack 24 = .ok (.bipush 80, 2) := by decide +kernel
theorem dX8_comesBack_26 : decode cX8_comesBack 26 = .ok (.bipush 10, 2) := by decide +kernel
theorem dX8_comesBack_28 : decode cX8_comesBack 28 = .ok (.iload_n 1, 1) := by decide +kernel
theorem dX8_comesBack_29 : decode cX8_comesBack 29 = .ok (.imul, 1) := by decide +kernel
theorem dX8_comesBack_30 : decode cX8_comesBack 30 = .ok (.iadd, 1) := by decide +kernel
theorem dX8_comesBack_31 : decode cX8_comesBack 31 = .ok (.iaload, 1) := by decide +kernel
theorem dX8_comesBack_32 : decode cX8_comesBack 32 = .ok (.iadd, 1) := by decide +kernel
theorem dX8_comesBack_33 : decode cX8_comesBack 33 = .ok (.iconst 0, 1) := by decide +kernel
theorem dX8_comesBack_34 : decode cX8_comesBack 34 = .ok (.iastore, 1) := by decide +kernel
theorem dX8_comesBack_35 : decode cX8_comesBack 35 = .ok (.aload_n 0, 1) := by decide +kernel
theorem dX8_comesBack_36 : decode cX8_comesBack 36 = .ok (.getfield 41, 3) := by decide +kernel
theorem dX8_comesBack_39 : decode cX8_comesBack 39 = .ok (.bipush 100, 2) := by decide +kernel
theorem dX8_comesBack_41 : decode cX8_comesBack 41 = .ok (.iload_n 1, 1) := by decide +kernel
theorem dX8_comesBack_42 : decode cX8_comesBack 42 = .ok (.iadd, 1) := by decide +kernel
theorem dX8_comesBack_43 : decode cX8_comesBack 43 = .ok (.dup2, 1) := by decide +kernel
theorem dX8_comesBack_44 : decode cX8_comesBack 44 = .ok (.iaload, 1) := by decide +kernel
theorem dX8_comesBack_45 : decode cX8_comesBack 45 = .ok (.iconst 1, 1) := by decide +kernel
theorem dX8_comesBack_46 : decode cX8_comesBack 46 = .ok (.isub, 1) := by decide +kernel
theorem dX8_comesBack_47 : decode cX8_comesBack 47 = .ok (.iastore, 1) := by decide +kernel
theorem dX8_comesBack_48 : decode cX8_comesBack 48 = .ok (.iconst 0, 1) := by decide +kernel
theorem dX8_comesBack_49 : decode cX8_comesBack 49 = .ok (.istore_n 2, 1) := by decide +kernel
theorem dX8_comesBack_50 : decode cX8_comesBack 50 = .ok (.iload_n 2, 1) := by decide +kernel
theorem dX8_comesBack_51 : decode cX8_comesBack 51 = .ok (.aload_n 0, 1) := by decide +kernel
theorem dX8_comesBack_52 : decode cX8_comesBack 52 = .ok (.getfield 41, 3) := by decide +kernel
theorem dX8_comesBack_55 : decode cX8_comesBack 55 = .ok (.bipush 100, 2) := by decide +kernel
theorem dX8_comesBack_57 : decode cX8_comesBack 57 = .ok (.iload_n 1, 1) := by decide +kernel
theorem dX8_comesBack_58 : decode cX8_comesBack 58 = .ok (.iadd, 1) := by decide +kernel
theorem dX8_comesBack_59 : decode cX8_comesBack 59 = .ok (.iaload, 1) := by decide +kernel
theorem dX8_comesBack_60 : decode cX8_comesBack 60 = .ok (.if_icmp .ge 39, 3) := by decide +kernel
theorem dX8_comesBack_63 : decode cX8_comesBack 63 = .ok (.aload_n 0, 1) := by decide +kernel
theorem dX8_comesBack_64 : decode cX8_comesBack 64 = .ok (.getfield 41, 3) := by decide +kernel
theorem dX8_comesBack_67 : decode cX8_comesBack 67 = .ok (.bipush 80, 2) := by decide +kernel
theorem dX8_comesBack_69 : decode cX8_comesBack 69 = .ok (.bipush 10, 2) := by decide +kernel
theorem dX8_comesBack_71 : decode cX8_comesBack 71 = .ok (.iload_n 1, 1) := by decide +kernel
theorem dX8_comesBack_72 : decode cX8_comesBack 72 = .ok (.imul, 1) := by decide +kernel
theorem dX8_comesBack_73 : decode cX8_comesBack 73 = .ok (.iadd, 1) := by decide +kernel
theorem dX8_comesBack_74 : decode cX8_comesBack 74 = .ok (.iload_n 2, 1) := by decide +kernel
theorem dX8_comesBack_75 : decode cX8_comesBack 75 = .ok (.iadd, 1) := by decide +kernel
theorem dX8_comesBack_76 : decode cX8_comesBack 76 = .ok (.aload_n 0, 1) := by decide +kernel
theorem dX8_comesBack_77 : decode cX8_comesBack 77 = .ok (.getfield 41, 3) := by decide +kernel
theorem dX8_comesBack_80 : decode cX8_comesBack 80 = .ok (.bipush 80, 2) := by decide +kernel
theorem dX8_comesBack_82 : decode cX8_comesBack 82 = .ok (.bipush 10, 2) := by decide +kernel
theorem dX8_comesBack_84 : decode cX8_comesBack 84 = .ok (.iload_n 1, 1) := by decide +kernel
theorem dX8_comesBack_85 : decode cX8_comesBack 85 = .ok (.imul, 1) := by decide +kernel
theorem dX8_comesBack_86 : decode cX8_comesBack 86 = .ok (.iadd, 1) := by decide +kernel
theorem dX8_comesBack_87 : decode cX8_comesBack 87 = .ok (.iload_n 2, 1) := by decide +kernel
theorem dX8_comesBack_88 : decode cX8_comesBack 88 = .ok (.iadd, 1) := by decide +kernel
theorem dX8_comesBack_89 : decode cX8_comesBack 89 = .ok (.iconst 1, 1) := by decide +kernel
theorem dX8_comesBack_90 : decode cX8_comesBack 90 = .ok (.iadd, 1) := by decide +kernel
theorem dX8_comesBack_91 : decode cX8_comesBack 91 = .ok (.iaload, 1) := by decide +kernel
theorem dX8_comesBack_92 : decode cX8_comesBack 92 = .ok (.iastore, 1) := by decide +kernel
theorem dX8_comesBack_93 : decode cX8_comesBack 93 = .ok (.iinc 2 1, 3) := by decide +kernel
theorem dX8_comesBack_96 : decode cX8_comesBack 96 = .ok (.goto (-46), 3) := by decide +kernel
theorem dX8_comesBack_99 : decode cX8_comesBack 99 = .ok (.return_, 1) := by decide +kernel
theorem dX8_looksAtMat_0 : decode cX8_looksAtMat 0 = .ok (.aload_n 0, 1) := by decide +kernel
theorem dX8_looksAtMat_1 : decode cX8_looksAtMat 1 = .ok (.iload_n 1, 1) := by decide +kernel
theorem dX8_looksAtMat_2 : decode cX8_looksAtMat 2 = .ok (.iconst 0, 1) := by decide +kernel
theorem dX8_looksAtMat_3 : decode cX8_looksAtMat 3 = .ok (.iconst 0, 1) := by decide +kernel
theorem dX8_looksAtMat_4 : decode cX8_looksAtMat 4 = .ok (.invokevirtual 88, 3) := by decide +kernel
theorem dX8_looksAtMat_7 : decode cX8_looksAtMat 7 = .ok (.ifCond .ne 36, 3) := by decide +kernel
theorem dX8_looksAtMat_10 : decode cX8_looksAtMat 10 = .ok (.aload_n 0, 1) := by decide +kernel
theorem dX8_looksAtMat_11 : decode cX8_looksAtMat 11 = .ok (.getfield 41, 3) := by decide +kernel
theorem dX8_looksAtMat_14 : decode cX8_looksAtMat 14 = .ok (.bipush 105, 2) := by decide +kernel
theorem dX8_looksAtMat_16 : decode cX8_looksAtMat 16 = .ok (.iload_n 1, 1) := by decide +kernel
theorem dX8_looksAtMat_17 : decode cX8_looksAtMat 17 = .ok (.isub, 1) := by decide +kernel
theorem dX8_looksAtMat_18 : decode cX8_looksAtMat 18 = .ok (.dup2, 1) := by decide +kernel
theorem dX8_looksAtMat_19 : decode cX8_looksAtMat 19 = .ok (.iaload, 1) := by decide +kernel
theorem dX8_looksAtMat_20 : decode cX8_looksAtMat 20 = .ok (.iconst 2, 1) := by decide +kernel
theorem dX8_looksAtMat_21 : decode cX8_looksAtMat 21 = .ok (.iadd, 1) := by decide +kernel
theorem dX8_looksAtMat_22 : decode cX8_looksAtMat 22 = .ok (.iastore, 1) := by decide +kernel
theorem dX8_looksAtMat_23 : decode cX8_looksAtMat 23 = .ok (.aload_n 0, 1) := by decide +kernel
theorem dX8_looksAtMat_24 : decode cX8_looksAtMat 24 = .ok (.getfield 41, 3) := by decide +kernel
theorem dX8_looksAtMat_27 : decode cX8_looksAtMat 27 = .ok (.bipush 100, 2) := by decide +kernel
theorem dX8_looksAtMat_29 : decode cX8_looksAtMat 29 = .ok (.iload_n 1, 1) := by decide +kernel
theorem dX8_looksAtMat_30 : decode cX8_looksAtMat 30 = .ok (.iadd, 1) := by decide +kernel
theorem dX8_looksAtMat_31 : decode cX8_looksAtMat 31 = .ok (.iaload, 1) := by decide +kernel
theorem dX8_looksAtMat_32 : decode cX8_looksAtMat 32 = .ok (.ifCond .le 11, 3) := by decide +kernel
theorem dX8_looksAtMat_35 : decode cX8_looksAtMat 35 = .ok (.aload_n 0, 1) := by decide +kernel
theorem dX8_looksAtMat_36 : decode cX8_looksAtMat 36 = .ok (.iload_n 1, 1) := by decide +kernel
theorem dX8_looksAtMat_37 : decode cX8_looksAtMat 37 = .ok (.invokevirtual 92, 3) := by decide +kernel
theorem dX8_looksAtMat_40 : decode cX8_looksAtMat 40 = .ok (.goto (-17), 3) := by decide +kernel
theorem dX8_looksAtMat_43 : decode cX8_looksAtMat 43 = .ok (.return_, 1) := by decide +kernel
theorem dX8_stepsThat_0 : decode cX8_stepsThat 0 = .ok (.iconst 0, 1) := by decide +kernel
theorem dX8_stepsThat_1 : decode cX8_stepsThat 1 = .ok (.istore_n 3, 1) := by decide +kernel
theorem dX8_stepsThat_2 : decode cX8_stepsThat 2 = .ok (.iconst 0, 1) := by decide +kernel
theorem dX8_stepsThat_3 : decode cX8_stepsThat 3 = .ok (.istore 4, 2) := by decide +kernel
theorem dX8_stepsThat_5 : decode cX8_stepsThat 5 = .ok (.iload 4, 2) := by decide +kernel
theorem dX8_stepsThat_7 : decode cX8_stepsThat 7 = .ok (.aload_n 0, 1) := by decide +kernel
theorem dX8_stepsThat_8 : decode cX8_stepsThat 8 = .ok (.getfield 29, 3) := by decide +kernel
theorem dX8_stepsThat_11 : decode cX8_stepsThat 11 = .ok (.iload_n 1, 1) := by decide +kernel
theorem dX8_stepsThat_12 : decode cX8_stepsThat 12 = .ok (.iaload, 1) := by decide +kernel
theorem dX8_stepsThat_13 : decode cX8_stepsThat 13 = .ok (.if_icmp .ge 33, 3) := by decide +kernel
theorem dX8_stepsThat_16 : decode cX8_stepsThat 16 = .ok (.iload_n 3, 1) := by decide +kernel
theorem dX8_stepsThat_17 : decode cX8_stepsThat 17 = .ok (.aload_n 0, 1) := by decide +kernel
theorem dX8_stepsThat_18 : decode cX8_stepsThat 18 = .ok (.getfield 32, 3) := by decide +kernel
theorem dX8_stepsThat_21 : decode cX8_stepsThat 21 = .ok (.bipush 14, 2) := by decide +kernel
theorem dX8_stepsThat_23 : decode cX8_stepsThat 23 = .ok (.iload_n 1, 1) := by decide +kernel
theorem dX8_stepsThat_24 : decode cX8_stepsThat 24 = .ok (.imul, 1) := by decide +kernel
theorem dX8_stepsThat_25 : decode cX8_stepsThat 25 = .ok (.iload 4, 2) := by decide +kernel
theorem dX8_stepsThat_27 : decode cX8_stepsThat 27 = .ok (.iadd, 1) := by decide +kernel
theorem dX8_stepsThat_28 : decode cX8_stepsThat 28 = .ok (.iaload, 1) := by decide +kernel
theorem dX8_stepsThat_29 : decode cX8_stepsThat 29 = .ok (.iload_n 2, 1) := by decide +kernel
theorem dX8_stepsThat_30 : decode cX8_stepsThat 30 = .ok (.if_icmp .ne 7, 3) := by decide +kernel
theorem dX8_stepsThat_33 : decode cX8_stepsThat 33 = .ok (.iconst 1, 1) := by decide +kernel
theorem dX8_stepsThat_34 : decode cX8_stepsThat 34 = .ok (.goto 4, 3) := by decide +kernel
theorem dX8_stepsThat_37 : decode cX8_stepsThat 37 = .ok (.iconst 0, 1) := by decide +kernel
theorem dX8_stepsThat_38 : decode cX8_stepsThat 38 = .ok (.iadd, 1) := by decide +kernel
theorem dX8_stepsThat_39 : decode cX8_stepsThat 39 = .ok (.istore_n 3, 1) := by decide +kernel
theorem dX8_stepsThat_40 : decode cX8_stepsThat 40 = .ok (.iinc 4 1, 3) := by decide +kernel
theorem dX8_stepsThat_43 : decode cX8_stepsThat 43 = .ok (.goto (-38), 3) := by decide +kernel
theorem dX8_stepsThat_46 : decode cX8_stepsThat 46 = .ok (.iload_n 3, 1) := by decide +kernel
theorem dX8_stepsThat_47 : decode cX8_stepsThat 47 = .ok (.ireturn, 1) := by decide +kernel
theorem dX8_raiderIsOut_0 : decode cX8_raiderIsOut 0 = .ok (.aload_n 0, 1) := by decide +kernel
theorem dX8_raiderIsOut_1 : decode cX8_raiderIsOut 1 = .ok (.iload_n 1, 1) := by decide +kernel
theorem dX8_raiderIsOut_2 : decode cX8_raiderIsOut 2 = .ok (.iload_n 2, 1) := by decide +kernel
theorem dX8_raiderIsOut_3 : decode cX8_raiderIsOut 3 = .ok (.invokevirtual 96, 3) := by decide +kernel
theorem dX8_raiderIsOut_6 : decode cX8_raiderIsOut 6 = .ok (.aload_n 0, 1) := by decide +kernel
theorem dX8_raiderIsOut_7 : decode cX8_raiderIsOut 7 = .ok (.getfield 41, 3) := by decide +kernel
theorem dX8_raiderIsOut_10 : decode cX8_raiderIsOut 10 = .ok (.bipush 105, 2) := by decide +kernel
theorem dX8_raiderIsOut_12 : decode cX8_raiderIsOut 12 = .ok (.iload_n 1, 1) := by decide +kernel
theorem dX8_raiderIsOut_13 : decode cX8_raiderIsOut 13 = .ok (.isub, 1) := by decide +kernel
theorem dX8_raiderIsOut_14 : decode cX8_raiderIsOut 14 = .ok (.dup2, 1) := by decide +kernel
theorem dX8_raiderIsOut_15 : decode cX8_raiderIsOut 15 = .ok (.iaload, 1) := by decide +kernel
theorem dX8_raiderIsOut_16 : decode cX8_raiderIsOut 16 = .ok (.iload_n 3, 1) := by decide +kernel
theorem dX8_raiderIsOut_17 : decode cX8_raiderIsOut 17 = .ok (.iadd, 1) := by decide +kernel
theorem dX8_raiderIsOut_18 : decode cX8_raiderIsOut 18 = .ok (.iastore, 1) := by decide +kernel
theorem dX8_raiderIsOut_19 : decode cX8_raiderIsOut 19 = .ok (.aload_n 0, 1) := by decide +kernel
theorem dX8_raiderIsOut_20 : decode cX8_raiderIsOut 20 = .ok (.iconst 1, 1) := by decide +kernel
theorem dX8_raiderIsOut_21 : decode cX8_raiderIsOut 21 = .ok (.iload_n 1, 1) := by decide +kernel
theorem dX8_raiderIsOut_22 : decode cX8_raiderIsOut 22 = .ok (.isub, 1) := by decide +kernel
theorem dX8_raiderIsOut_23 : decode cX8_raiderIsOut 23 = .ok (.invokevirtual 92, 3) := by decide +kernel
theorem dX8_raiderIsOut_26 : decode cX8_raiderIsOut 26 = .ok (.return_, 1) := by decide +kernel
theorem dX8_comesHome_0 : decode cX8_comesHome 0 = .ok (.aload_n 0, 1) := by decide +kernel
theorem dX8_comesHome_1 : decode cX8_comesHome 1 = .ok (.iload_n 1, 1) := by decide +kernel
theorem dX8_comesHome_2 : decode cX8_comesHome 2 = .ok (.iconst 0, 1) := by decide +kernel
theorem dX8_comesHome_3 : decode cX8_comesHome 3 = .ok (.invokevirtual 100, 3) := by decide +kernel
theorem dX8_comesHome_6 : decode cX8_comesHome 6 = .ok (.istore 4, 2) := by decide +kernel
theorem dX8_comesHome_8 : decode cX8_comesHome 8 = .ok (.aload_n 0, 1) := by decide +kernel
theorem dX8_comesHome_9 : decode cX8_comesHome 9 = .ok (.getfield 41, 3) := by decide +kernel
theorem dX8_comesHome_12 : decode cX8_comesHome 12 = .ok (.bipush 106, 2) := by decide +kernel
theorem dX8_comesHome_14 : decode cX8_comesHome 14 = .ok (.iload_n 2, 1) := by decide +kernel
theorem dX8_comesHome_15 : decode cX8_comesHome 15 = .ok (.iadd, 1) := by decide +kernel
theorem dX8_comesHome_16 : decode cX8_comesHome 16 = .ok (.iaload, 1) := by decide +kernel
theorem dX8_comesHome_17 : decode cX8_comesHome 17 = .ok (.iconst 2, 1) := by decide +kernel
theorem dX8_comesHome_18 : decode cX8_comesHome 18 = .ok (.if_icmp .ne 7, 3) := by decide +kernel
theorem dX8_comesHome_21 : decode cX8_comesHome 21 = .ok (.iconst 1, 1) := by decide +kernel
theorem dX8_comesHome_22 : decode cX8_comesHome 22 = .ok (.goto 4, 3) := by decide +kernel
theorem dX8_comesHome_25 : decode cX8_comesHome 25 = .ok (.iconst 0, 1) := by decide +kernel
theorem dX8_comesHome_26 : decode cX8_comesHome 26 = .ok (.istore 5, 2) := by decide +kernel
theorem dX8_comesHome_28 : decode cX8_comesHome 28 = .ok (.iload 4, 2) := by decide +kernel
theorem dX8_comesHome_30 : decode cX8_comesHome 30 = .ok (.ifCond .ne 25, 3) := by decide +kernel
theorem dX8_comesHome_33 : decode cX8_comesHome 33 = .ok (.aload_n 0, 1) := by decide +kernel
theorem dX8_comesHome_34 : decode cX8_comesHome 34 = .ok (.iload_n 1, 1) := by decide +kernel
theorem dX8_comesHome_35 : decode cX8_comesHome 35 = .ok (.iconst 1, 1) := by decide +kernel
theorem dX8_comesHome_36 : decode cX8_comesHome 36 = .ok (.invokevirtual 100, 3) := by decide +kernel
theorem dX8_comesHome_39 : decode cX8_comesHome 39 = .ok (.ifCond .ne 16, 3) := by decide +kernel
theorem dX8_comesHome_42 : decode cX8_comesHome 42 = .ok (.aload_n 0, 1) := by decide +kernel
theorem dX8_comesHome_43 : decode cX8_comesHome 43 = .ok (.iload_n 1, 1) := by decide +kernel
theorem dX8_comesHome_44 : decode cX8_comesHome 44 = .ok (.iconst 2, 1) := by decide +kernel
theorem dX8_comesHome_45 : decode cX8_comesHome 45 = .ok (.invokevirtual 100, 3) := by decide +kernel
theorem dX8_comesHome_48 : decode cX8_comesHome 48 = .ok (.ifCond .ne 7, 3) := by decide +kernel
theorem dX8_comesHome_51 : decode cX8_comesHome 51 = .ok (.iconst 1, 1) := by decide +kernel
theorem dX8_comesHome_52 : decode cX8_comesHome 52 = .ok (.goto 4, 3) := by decide +kernel
theorem dX8_comesHome_55 : decode cX8_comesHome 55 = .ok (.iconst 0, 1) := by decide +kernel
theorem dX8_comesHome_56 : decode cX8_comesHome 56 = .ok (.istore 6, 2) := by decide +kernel
theorem dX8_comesHome_58 : decode cX8_comesHome 58 = .ok (.aload_n 0, 1) := by decide +kernel
theorem dX8_comesHome_59 : decode cX8_comesHome 59 = .ok (.getfield 20, 3) := by decide +kernel
theorem dX8_comesHome_62 : decode cX8_comesHome 62 = .ok (.iload_n 1, 1) := by decide +kernel
theorem dX8_comesHome_63 : decode cX8_comesHome 63 = .ok (.iaload, 1) := by decide +kernel
theorem dX8_comesHome_64 : decode cX8_comesHome 64 = .ok (.istore 7, 2) := by decide +kernel
theorem dX8_comesHome_66 : decode cX8_comesHome 66 = .ok (.iload 6, 2) := by decide +kernel
theorem dX8_comesHome_68 : decode cX8_comesHome 68 = .ok (.ifCond .ne 15, 3) := by decide +kernel
theorem dX8_comesHome_71 : decode cX8_comesHome 71 = .ok (.iload 4, 2) := by decide +kernel
theorem dX8_comesHome_73 : decode cX8_comesHome 73 = .ok (.iload_n 3, 1) := by decide +kernel
theorem dX8_comesHome_74 : decode cX8_comesHome 74 = .ok (.iadd, 1) := by decide +kernel
theorem dX8_comesHome_75 : decode cX8_comesHome 75 = .ok (.ifCond .ne 29, 3) := by decide +kernel
theorem dX8_comesHome_78 : decode cX8_comesHome 78 = .ok (.iload 5, 2) := by decide +kernel
theorem dX8_comesHome_80 : decode cX8_comesHome 80 = .ok (.ifCond .eq 24, 3) := by decide +kernel
theorem dX8_comesHome_83 : decode cX8_comesHome 83 = .ok (.aload_n 0, 1) := by decide +kernel
theorem dX8_comesHome_84 : decode cX8_comesHome 84 = .ok (.getfield 41, 3) := by decide +kernel
theorem dX8_comesHome_87 : decode cX8_comesHome 87 = .ok (.bipush 106, 2) := by decide +kernel
theorem dX8_comesHome_89 : decode cX8_comesHome 89 = .ok (.iload_n 2, 1) := by decide +kernel
theorem dX8_comesHome_90 : decode cX8_comesHome 90 = .ok (.iadd, 1) := by decide +kernel
theorem dX8_comesHome_91 : decode cX8_comesHome 91 = .ok (.iconst 0, 1) := by decide +kernel
theorem dX8_comesHome_92 : decode cX8_comesHome 92 = .ok (.iastore, 1) := by decide +kernel
theorem dX8_comesHome_93 : decode cX8_comesHome 93 = .ok (.aload_n 0, 1) := by decide +kernel
theorem dX8_comesHome_94 : decode cX8_comesHome 94 = .ok (.iload_n 2, 1) := by decide +kernel
theorem dX8_comesHome_95 : decode cX8_comesHome 95 = .ok (.iload 7, 2) := by decide +kernel
theorem dX8_comesHome_97 : decode cX8_comesHome 97 = .ok (.iconst 1, 1) := by decide +kernel
theorem dX8_comesHome_98 : decode cX8_comesHome 98 = .ok (.invokevirtual 104, 3) := by decide +kernel
theorem dX8_comesHome_101 : decode cX8_comesHome 101 = .ok (.goto 149, 3) := by decide +kernel
theorem dX8_comesHome_104 : decode cX8_comesHome 104 = .ok (.iload 4, 2) := by decide +kernel
theorem dX8_comesHome_106 : decode cX8_comesHome 106 = .ok (.iload_n 3, 1) := by decide +kernel
theorem dX8_comesHome_107 : decode cX8_comesHome 107 = .ok (.iadd, 1) := by decide +kernel
theorem dX8_comesHome_108 : decode cX8_comesHome 108 = .ok (.ifCond .ne 19, 3) := by decide +kernel
theorem dX8_comesHome_111 : decode cX8_comesHome 111 = .ok (.aload_n 0, 1) := by decide +kernel
theorem dX8_comesHome_112 : decode cX8_comesHome 112 = .ok (.getfield 41, 3) := by decide +kernel
theorem dX8_comesHome_115 : decode cX8_comesHome 115 = .ok (.bipush 106, 2) := by decide +kernel
theorem dX8_comesHome_117 : decode cX8_comesHome 117 = .ok (.iload_n 2, 1) := by decide +kernel
theorem dX8_comesHome_118 : decode cX8_comesHome 118 = .ok (.iadd, 1) := by decide +kernel
theorem dX8_comesHome_119 : decode cX8_comesHome 119 = .ok (.dup2, 1) := by decide +kernel
theorem dX8_comesHome_120 : decode cX8_comesHome 120 = .ok (.iaload, 1) := by decide +kernel
theorem dX8_comesHome_121 : decode cX8_comesHome 121 = .ok (.iconst 1, 1) := by decide +kernel
theorem dX8_comesHome_122 : decode cX8_comesHome 122 = .ok (.iadd, 1) := by decide +kernel
theorem dX8_comesHome_123 : decode cX8_comesHome 123 = .ok (.iastore, 1) := by decide +kernel
theorem dX8_comesHome_124 : decode cX8_comesHome 124 = .ok (.goto 126, 3) := by decide +kernel
theorem dX8_comesHome_127 : decode cX8_comesHome 127 = .ok (.aload_n 0, 1) := by decide +kernel
theorem dX8_comesHome_128 : decode cX8_comesHome 128 = .ok (.getfield 41, 3) := by decide +kernel
theorem dX8_comesHome_131 : decode cX8_comesHome 131 = .ok (.bipush 106, 2) := by decide +kernel
theorem dX8_comesHome_133 : decode cX8_comesHome 133 = .ok (.iload_n 2, 1) := by decide +kernel
theorem dX8_comesHome_134 : decode cX8_comesHome 134 = .ok (.iadd, 1) := by decide +kernel
theorem dX8_comesHome_135 : decode cX8_comesHome 135 = .ok (.iconst 0, 1) := by decide +kernel
theorem dX8_comesHome_136 : decode cX8_comesHome 136 = .ok (.iastore, 1) := by decide +kernel
theorem dX8_comesHome_137 : decode cX8_comesHome 137 = .ok (.aload_n 0, 1) := by decide +kernel
theorem dX8_comesHome_138 : decode cX8_comesHome 138 = .ok (.getfield 41, 3) := by decide +kernel
theorem dX8_comesHome_141 : decode cX8_comesHome 141 = .ok (.bipush 104, 2) := by decide +kernel
theorem dX8_comesHome_143 : decode cX8_comesHome 143 = .ok (.iload_n 2, 1) := by decide +kernel
theorem dX8_comesHome_144 : decode cX8_comesHome 144 = .ok (.iadd, 1) := by decide +kernel
theorem dX8_comesHome_145 : decode cX8_comesHome 145 = .ok (.dup2, 1) := by decide +kernel
theorem dX8_comesHome_146 : decode cX8_comesHome 146 = .ok (.iaload, 1) := by decide +kernel
theorem dX8_comesHome_147 : decode cX8_comesHome 147 = .ok (.iload 4, 2) := by decide +kernel
theorem dX8_comesHome_149 : decode cX8_comesHome 149 = .ok (.iload_n 3, 1) := by decide +kernel
theorem dX8_comesHome_150 : decode cX8_comesHome 150 = .ok (.iadd, 1) := by decide +kernel
theorem dX8_comesHome_151 : decode cX8_comesHome 151 = .ok (.iadd, 1) := by decide +kernel
theorem dX8_comesHome_152 : decode cX8_comesHome 152 = .ok (.iastore, 1) := by decide +kernel
theorem dX8_comesHome_153 : decode cX8_comesHome 153 = .ok (.aload_n 0, 1) := by decide +kernel
theorem dX8_comesHome_154 : decode cX8_comesHome 154 = .ok (.getfield 41, 3) := by decide +kernel
theorem dX8_comesHome_157 : decode cX8_comesHome 157 = .ok (.bipush 60, 2) := by decide +kernel
theorem dX8_comesHome_159 : decode cX8_comesHome 159 = .ok (.bipush 10, 2) := by decide +kernel
theorem dX8_comesHome_161 : decode cX8_comesHome 161 = .ok (.iload_n 2, 1) := by decide +kernel
theorem dX8_comesHome_162 : decode cX8_comesHome 162 = .ok (.imul, 1) := by decide +kernel
theorem dX8_comesHome_163 : decode cX8_comesHome 163 = .ok (.iadd, 1) := by decide +kernel
theorem dX8_comesHome_164 : decode cX8_comesHome 164 = .ok (.iload 7, 2) := by decide +kernel
theorem dX8_comesHome_166 : decode cX8_comesHome 166 = .ok (.iadd, 1) := by decide +kernel
theorem dX8_comesHome_167 : decode cX8_comesHome 167 = .ok (.dup2, 1) := by decide +kernel
theorem dX8_comesHome_168 : decode cX8_comesHome 168 = .ok (.iaload, 1) := by decide +kernel
theorem dX8_comesHome_169 : decode cX8_comesHome 169 = .ok (.iload 4, 2) := by decide +kernel
theorem dX8_comesHome_171 : decode cX8_comesHome 171 = .ok (.iload_n 3, 1) := by decide +kernel
theorem dX8_comesHome_172 : decode cX8_comesHome 172 = .ok (.iadd, 1) := by decide +kernel
theorem dX8_comesHome_173 : decode cX8_comesHome 173 = .ok (.iadd, 1) := by decide +kernel
theorem dX8_comesHome_174 : decode cX8_comesHome 174 = .ok (.iastore, 1) := by decide +kernel
theorem dX8_comesHome_175 : decode cX8_comesHome 175 = .ok (.iconst 0, 1) := by decide +kernel
theorem dX8_comesHome_176 : decode cX8_comesHome 176 = .ok (.istore 8, 2) := by decide +kernel
theorem dX8_comesHome_178 : decode cX8_comesHome 178 = .ok (.iload 8, 2) := by decide +kernel
theorem dX8_comesHome_180 : decode cX8_comesHome 180 = .ok (.aload_n 0, 1) := by decide +kernel
theorem dX8_comesHome_181 : decode cX8_comesHome 181 = .ok (.getfield 29, 3) := by decide +kernel
theorem dX8_comesHome_184 : decode cX8_comesHome 184 = .ok (.iload_n 1, 1) := by decide +kernel
theorem dX8_comesHome_185 : decode cX8_comesHome 185 = .ok (.iaload, 1) := by decide +kernel
theorem dX8_comesHome_186 : decode cX8_comesHome 186 = .ok (.if_icmp .ge 43, 3) := by decide +kernel
theorem dX8_comesHome_189 : decode cX8_comesHome 189 = .ok (.aload_n 0, 1) := by decide +kernel
theorem dX8_comesHome_190 : decode cX8_comesHome 190 = .ok (.getfield 32, 3) := by decide +kernel
theorem dX8_comesHome_193 : decode cX8_comesHome 193 = .ok (.bipush 14, 2) := by decide +kernel
theorem dX8_comesHome_195 : decode cX8_comesHome 195 = .ok (.iload_n 1, 1) := by decide +kernel
theorem dX8_comesHome_196 : decode cX8_comesHome 196 = .ok (.imul, 1) := by decide +kernel
theorem dX8_comesHome_197 : decode cX8_comesHome 197 = .ok (.iload 8, 2) := by decide +kernel
theorem dX8_comesHome_199 : decode cX8_comesHome 199 = .ok (.iadd, 1) := by decide +kernel
theorem dX8_comesHome_200 : decode cX8_comesHome 200 = .ok (.iaload, 1) := by decide +kernel
theorem dX8_comesHome_201 : decode cX8_comesHome 201 = .ok (.ifCond .ne 22, 3) := by decide +kernel
theorem dX8_comesHome_204 : decode cX8_comesHome 204 = .ok (.aload_n 0, 1) := by decide +kernel
theorem dX8_comesHome_205 : decode cX8_comesHome 205 = .ok (.iconst 1, 1) := by decide +kernel
theorem dX8_comesHome_206 : decode cX8_comesHome 206 = .ok (.iload_n 2, 1) := by decide +kernel
theorem dX8_comesHome_207 : decode cX8_comesHome 207 = .ok (.isub, 1) := by decide +kernel
theorem dX8_comesHome_208 : decode cX8_comesHome 208 = .ok (.aload_n 0, 1) := by decide +kernel
theorem dX8_comesHome_209 : decode cX8_comesHome 209 = .ok (.getfield 35, 3) := by decide +kernel
theorem dX8_comesHome_212 : decode cX8_comesHome 212 = .ok (.bipush 14, 2) := by decide +kernel
theorem dX8_comesHome_214 : decode cX8_comesHome 214 = .ok (.iload_n 1, 1) := by decide +kernel
theorem dX8_comesHome_215 : decode cX8_comesHome 215 = .ok (.imul, 1) := by decide +kernel
theorem dX8_comesHome_216 : decode cX8_comesHome 216 = .ok (.iload 8, 2) := by decide +kernel
theorem dX8_comesHome_218 : decode cX8_comesHome 218 = .ok (.iadd, 1) := by decide +kernel
theorem dX8_comesHome_219 : decode cX8_comesHome 219 = .ok (.iaload, 1) := by decide +kernel
theorem dX8_comesHome_220 : decode cX8_comesHome 220 = .ok (.invokevirtual 96, 3) := by decide +kernel
theorem dX8_comesHome_223 : decode cX8_comesHome 223 = .ok (.iinc 8 1, 3) := by decide +kernel
theorem dX8_comesHome_226 : decode cX8_comesHome 226 = .ok (.goto (-48), 3) := by decide +kernel
theorem dX8_comesHome_229 : decode cX8_comesHome 229 = .ok (.iconst 0, 1) := by decide +kernel
theorem dX8_comesHome_230 : decode cX8_comesHome 230 = .ok (.istore 8, 2) := by decide +kernel
theorem dX8_comesHome_232 : decode cX8_comesHome 232 = .ok (.iload 8, 2) := by decide +kernel
theorem dX8_comesHome_234 : decode cX8_comesHome 234 = .ok (.iload 4, 2) := by decide +kernel
theorem dX8_comesHome_236 : decode cX8_comesHome 236 = .ok (.if_icmp .ge 14, 3) := by decide +kernel
theorem dX8_comesHome_239 : decode cX8_comesHome 239 = .ok (.aload_n 0, 1) := by decide +kernel
theorem dX8_comesHome_240 : decode cX8_comesHome 240 = .ok (.iload_n 2, 1) := by decide +kernel
theorem dX8_comesHome_241 : decode cX8_comesHome 241 = .ok (.invokevirtual 92, 3) := by decide +kernel
theorem dX8_comesHome_244 : decode cX8_comesHome 244 = .ok (.iinc 8 1, 3) := by decide +kernel
theorem dX8_comesHome_247 : decode cX8_comesHome 247 = .ok (.goto (-15), 3) := by decide +kernel
theorem dX8_comesHome_250 : decode cX8_comesHome 250 = .ok (.return_, 1) := by decide +kernel
theorem dX8_endsRaid_0 : decode cX8_endsRaid 0 = .ok (.aload_n 0, 1) := by decide +kernel
theorem dX8_endsRaid_1 : decode cX8_endsRaid 1 = .ok (.invokevirtual 108, 3) := by decide +kernel
theorem dX8_endsRaid_4 : decode cX8_endsRaid 4 = .ok (.istore_n 2, 1) := by decide +kernel
theorem dX8_endsRaid_5 : decode cX8_endsRaid 5 = .ok (.aload_n 0, 1) := by decide +kernel
theorem dX8_endsRaid_6 : decode cX8_endsRaid 6 = .ok (.iconst 1, 1) := by decide +kernel
theorem dX8_endsRaid_7 : decode cX8_endsRaid 7 = .ok (.iload_n 2, 1) := by decide +kernel
theorem dX8_endsRaid_8 : decode cX8_endsRaid 8 = .ok (.isub, 1) := by decide +kernel
theorem dX8_endsRaid_9 : decode cX8_endsRaid 9 = .ok (.iconst 0, 1) := by decide +kernel
theorem dX8_endsRaid_10 : decode cX8_endsRaid 10 = .ok (.iconst 3, 1) := by decide +kernel
theorem dX8_endsRaid_11 : decode cX8_endsRaid 11 = .ok (.invokevirtual 88, 3) := by decide +kernel
theorem dX8_endsRaid_14 : decode cX8_endsRaid 14 = .ok (.istore_n 3, 1) := by decide +kernel
theorem dX8_endsRaid_15 : decode cX8_endsRaid 15 = .ok (.aload_n 0, 1) := by decide +kernel
theorem dX8_endsRaid_16 : decode cX8_endsRaid 16 = .ok (.iload_n 1, 1) := by decide +kernel
theorem dX8_endsRaid_17 : decode cX8_endsRaid 17 = .ok (.iconst 1, 1) := by decide +kernel
theorem dX8_endsRaid_18 : decode cX8_endsRaid 18 = .ok (.invokevirtual 100, 3) := by decide +kernel
theorem dX8_endsRaid_21 : decode cX8_endsRaid 21 = .ok (.ifCond .le 13, 3) := by decide +kernel
theorem dX8_endsRaid_24 : decode cX8_endsRaid 24 = .ok (.iload_n 3, 1) := by decide +kernel
theorem dX8_endsRaid_25 : decode cX8_endsRaid 25 = .ok (.bipush 6, 2) := by decide +kernel
theorem dX8_endsRaid_27 : decode cX8_endsRaid 27 = .ok (.if_icmp .lt 7, 3) := by decide +kernel
theorem dX8_endsRaid_30 : decode cX8_endsRaid 30 = .ok (.iconst 1, 1) := by decide +kernel
theorem dX8_endsRaid_31 : decode cX8_endsRaid 31 = .ok (.goto 4, 3) := by decide +kernel
theorem dX8_endsRaid_34 : decode cX8_endsRaid 34 = .ok (.iconst 0, 1) := by decide +kernel
theorem dX8_endsRaid_35 : decode cX8_endsRaid 35 = .ok (.istore 4, 2) := by decide +kernel
theorem dX8_endsRaid_37 : decode cX8_endsRaid 37 = .ok (.bipush 14, 2) := by decide +kernel
theorem dX8_endsRaid_39 : decode cX8_endsRaid 39 = .ok (.iload_n 1, 1) := by decide +kernel
theorem dX8_endsRaid_40 : decode cX8_endsRaid 40 = .ok (.imul, 1) := by decide +kernel
theorem dX8_endsRaid_41 : decode cX8_endsRaid 41 = .ok (.aload_n 0, 1) := by decide +kernel
theorem dX8_endsRaid_42 : decode cX8_endsRaid 42 = .ok (.getfield 29, 3) := by decide +kernel
theorem dX8_endsRaid_45 : decode cX8_endsRaid 45 = .ok (.iload_n 1, 1) := by decide +kernel
theorem dX8_endsRaid_46 : decode cX8_endsRaid 46 = .ok (.iaload, 1) := by decide +kernel
theorem dX8_endsRaid_47 : decode cX8_endsRaid 47 = .ok (.iadd, 1) := by decide +kernel
theorem dX8_endsRaid_48 : decode cX8_endsRaid 48 = .ok (.iconst 1, 1) := by decide +kernel
theorem dX8_endsRaid_49 : decode cX8_endsRaid 49 = .ok (.isub, 1) := by decide +kernel
theorem dX8_endsRaid_50 : decode cX8_endsRaid 50 = .ok (.istore 5, 2) := by decide +kernel
theorem dX8_endsRaid_52 : decode cX8_endsRaid 52 = .ok (.aload_n 0, 1) := by decide +kernel
theorem dX8_endsRaid_53 : decode cX8_endsRaid 53 = .ok (.getfield 32, 3) := by decide +kernel
theorem dX8_endsRaid_56 : decode cX8_endsRaid 56 = .ok (.iload 5, 2) := by decide +kernel
theorem dX8_endsRaid_58 : decode cX8_endsRaid 58 = .ok (.iaload, 1) := by decide +kernel
theorem dX8_endsRaid_59 : decode cX8_endsRaid 59 = .ok (.iconst 3, 1) := by decide +kernel
theorem dX8_endsRaid_60 : decode cX8_endsRaid 60 = .ok (.if_icmp .ne 14, 3) := by decide +kernel
theorem dX8_endsRaid_63 : decode cX8_endsRaid 63 = .ok (.aload_n 0, 1) := by decide +kernel
theorem dX8_endsRaid_64 : decode cX8_endsRaid 64 = .ok (.iload_n 1, 1) := by decide +kernel
theorem dX8_endsRaid_65 : decode cX8_endsRaid 65 = .ok (.iload_n 2, 1) := by decide +kernel
theorem dX8_endsRaid_66 : decode cX8_endsRaid 66 = .ok (.iload 4, 2) := by decide +kernel
theorem dX8_endsRaid_68 : decode cX8_endsRaid 68 = .ok (.invokevirtual 112, 3) := by decide +kernel
theorem dX8_endsRaid_71 : decode cX8_endsRaid 71 = .ok (.goto 83, 3) := by decide +kernel
theorem dX8_endsRaid_74 : decode cX8_endsRaid 74 = .ok (.aload_n 0, 1) := by decide +kernel
theorem dX8_endsRaid_75 : decode cX8_endsRaid 75 = .ok (.getfield 41, 3) := by decide +kernel
theorem dX8_endsRaid_78 : decode cX8_endsRaid 78 = .ok (.bipush 106, 2) := by decide +kernel
theorem dX8_endsRaid_80 : decode cX8_endsRaid 80 = .ok (.iload_n 2, 1) := by decide +kernel
theorem dX8_endsRaid_81 : decode cX8_endsRaid 81 = .ok (.iadd, 1) := by decide +kernel
theorem dX8_endsRaid_82 : decode cX8_endsRaid 82 = .ok (.iconst 0, 1) := by decide +kernel
theorem dX8_endsRaid_83 : decode cX8_endsRaid 83 = .ok (.iastore, 1) := by decide +kernel
theorem dX8_endsRaid_84 : decode cX8_endsRaid 84 = .ok (.aload_n 0, 1) := by decide +kernel
theorem dX8_endsRaid_85 : decode cX8_endsRaid 85 = .ok (.getfield 41, 3) := by decide +kernel
theorem dX8_endsRaid_88 : decode cX8_endsRaid 88 = .ok (.bipush 104, 2) := by decide +kernel
theorem dX8_endsRaid_90 : decode cX8_endsRaid 90 = .ok (.iload_n 2, 1) := by decide +kernel
theorem dX8_endsRaid_91 : decode cX8_endsRaid 91 = .ok (.iadd, 1) := by decide +kernel
theorem dX8_endsRaid_92 : decode cX8_endsRaid 92 = .ok (.dup2, 1) := by decide +kernel
theorem dX8_endsRaid_93 : decode cX8_endsRaid 93 = .ok (.iaload, 1) := by decide +kernel
theorem dX8_endsRaid_94 : decode cX8_endsRaid 94 = .ok (.iload 4, 2) := by decide +kernel
theorem dX8_endsRaid_96 : decode cX8_endsRaid 96 = .ok (.iadd, 1) := by decide +kernel
theorem dX8_endsRaid_97 : decode cX8_endsRaid 97 = .ok (.iastore, 1) := by decide +kernel
theorem dX8_endsRaid_98 : decode cX8_endsRaid 98 = .ok (.aload_n 0, 1) := by decide +kernel
theorem dX8_endsRaid_99 : decode cX8_endsRaid 99 = .ok (.getfield 41, 3) := by decide +kernel
theorem dX8_endsRaid_102 : decode cX8_endsRaid 102 = .ok (.bipush 60, 2) := by decide +kernel
theorem dX8_endsRaid_104 : decode cX8_endsRaid 104 = .ok (.bipush 10, 2) := by decide +kernel
theorem dX8_endsRaid_106 : decode cX8_endsRaid 106 = .ok (.iload_n 2, 1) := by decide +kernel
theorem dX8_endsRaid_107 : decode cX8_endsRaid 107 = .ok (.imul, 1) := by decide +kernel
theorem dX8_endsRaid_108 : decode cX8_endsRaid 108 = .ok (.iadd, 1) := by decide +kernel
theorem dX8_endsRaid_109 : decode cX8_endsRaid 109 = .ok (.aload_n 0, 1) := by decide +kernel
theorem dX8_endsRaid_110 : decode cX8_endsRaid 110 = .ok (.getfield 20, 3) := by decide +kernel
theorem dX8_endsRaid_113 : decode cX8_endsRaid 113 = .ok (.iload_n 1, 1) := by decide +kernel
theorem dX8_endsRaid_114 : decode cX8_endsRaid 114 = .ok (.iaload, 1) := by decide +kernel
theorem dX8_endsRaid_115 : decode cX8_endsRaid 115 = .ok (.iadd, 1) := by decide +kernel
theorem dX8_endsRaid_116 : decode cX8_endsRaid 116 = .ok (.dup2, 1) := by decide +kernel
theorem dX8_endsRaid_117 : decode cX8_endsRaid 117 = .ok (.iaload, 1) := by decide +kernel
theorem dX8_endsRaid_118 : decode cX8_endsRaid 118 = .ok (.iload 4, 2) := by decide +kernel
theorem dX8_endsRaid_120 : decode cX8_endsRaid 120 = .ok (.iadd, 1) := by decide +kernel
theorem dX8_endsRaid_121 : decode cX8_endsRaid 121 = .ok (.iastore, 1) := by decide +kernel
theorem dX8_endsRaid_122 : decode cX8_endsRaid 122 = .ok (.aload_n 0, 1) := by decide +kernel
theorem dX8_endsRaid_123 : decode cX8_endsRaid 123 = .ok (.iload_n 2, 1) := by decide +kernel
theorem dX8_endsRaid_124 : decode cX8_endsRaid 124 = .ok (.aload_n 0, 1) := by decide +kernel
theorem dX8_endsRaid_125 : decode cX8_endsRaid 125 = .ok (.getfield 20, 3) := by decide +kernel
theorem dX8_endsRaid_128 : decode cX8_endsRaid 128 = .ok (.iload_n 1, 1) := by decide +kernel
theorem dX8_endsRaid_129 : decode cX8_endsRaid 129 = .ok (.iaload, 1) := by decide +kernel
theorem dX8_endsRaid_130 : decode cX8_endsRaid 130 = .ok (.aload_n 0, 1) := by decide +kernel
theorem dX8_endsRaid_131 : decode cX8_endsRaid 131 = .ok (.getfield 32, 3) := by decide +kernel
theorem dX8_endsRaid_134 : decode cX8_endsRaid 134 = .ok (.iload 5, 2) := by decide +kernel
theorem dX8_endsRaid_136 : decode cX8_endsRaid 136 = .ok (.iaload, 1) := by decide +kernel
theorem dX8_endsRaid_137 : decode cX8_endsRaid 137 = .ok (.iconst 4, 1) := by decide +kernel
theorem dX8_endsRaid_138 : decode cX8_endsRaid 138 = .ok (.if_icmp .ne 12, 3) := by decide +kernel
theorem dX8_endsRaid_141 : decode cX8_endsRaid 141 = .ok (.iload_n 3, 1) := by decide +kernel
theorem dX8_endsRaid_142 : decode cX8_endsRaid 142 = .ok (.iconst 3, 1) := by decide +kernel
theorem dX8_endsRaid_143 : decode cX8_endsRaid 143 = .ok (.if_icmp .gt 7, 3) := by decide +kernel
theorem dX8_endsRaid_146 : decode cX8_endsRaid 146 = .ok (.iconst 2, 1) := by decide +kernel
theorem dX8_endsRaid_147 : decode cX8_endsRaid 147 = .ok (.goto 4, 3) := by decide +kernel
theorem dX8_endsRaid_150 : decode cX8_endsRaid 150 = .ok (.iconst 1, 1) := by decide +kernel
theorem dX8_endsRaid_151 : decode cX8_endsRaid 151 = .ok (.invokevirtual 104, 3) := by decide +kernel
theorem dX8_endsRaid_154 : decode cX8_endsRaid 154 = .ok (.aload_n 0, 1) := by decide +kernel
theorem dX8_endsRaid_155 : decode cX8_endsRaid 155 = .ok (.iconst 0, 1) := by decide +kernel
theorem dX8_endsRaid_156 : decode cX8_endsRaid 156 = .ok (.invokevirtual 115, 3) := by decide +kernel
theorem dX8_endsRaid_159 : decode cX8_endsRaid 159 = .ok (.aload_n 0, 1) := by decide +kernel
theorem dX8_endsRaid_160 : decode cX8_endsRaid 160 = .ok (.iconst 1, 1) := by decide +kernel
theorem dX8_endsRaid_161 : decode cX8_endsRaid 161 = .ok (.invokevirtual 115, 3) := by decide +kernel
theorem dX8_endsRaid_164 : decode cX8_endsRaid 164 = .ok (.aload_n 0, 1) := by decide +kernel
theorem dX8_endsRaid_165 : decode cX8_endsRaid 165 = .ok (.getfield 41, 3) := by decide +kernel
theorem dX8_endsRaid_168 : decode cX8_endsRaid 168 = .ok (.bipush 108, 2) := by decide +kernel
theorem dX8_endsRaid_170 : decode cX8_endsRaid 170 = .ok (.dup2, 1) := by decide +kernel
theorem dX8_endsRaid_171 : decode cX8_endsRaid 171 = .ok (.iaload, 1) := by decide +kernel
theorem dX8_endsRaid_172 : decode cX8_endsRaid 172 = .ok (.aload_n 0, 1) := by decide +kernel
theorem dX8_endsRaid_173 : decode cX8_endsRaid 173 = .ok (.getfield 38, 3) := by decide +kernel
theorem dX8_endsRaid_176 : decode cX8_endsRaid 176 = .ok (.iload 5, 2) := by decide +kernel
theorem dX8_endsRaid_178 : decode cX8_endsRaid 178 = .ok (.iaload, 1) := by decide +kernel
theorem dX8_endsRaid_179 : decode cX8_endsRaid 179 = .ok (.iadd, 1) := by decide +kernel
theorem dX8_endsRaid_180 : decode cX8_endsRaid 180 = .ok (.iastore, 1) := by decide +kernel
theorem dX8_endsRaid_181 : decode cX8_endsRaid 181 = .ok (.aload_n 0, 1) := by decide +kernel
theorem dX8_endsRaid_182 : decode cX8_endsRaid 182 = .ok (.getfield 41, 3) := by decide +kernel
theorem dX8_endsRaid_185 : decode cX8_endsRaid 185 = .ok (.bipush 109, 2) := by decide +kernel
theorem dX8_endsRaid_187 : decode cX8_endsRaid 187 = .ok (.dup2, 1) := by decide +kernel
theorem dX8_endsRaid_188 : decode cX8_endsRaid 188 = .ok (.iaload, 1) := by decide +kernel
theorem dX8_endsRaid_189 : decode cX8_endsRaid 189 = .ok (.iconst 1, 1) := by decide +kernel
theorem dX8_endsRaid_190 : decode cX8_endsRaid 190 = .ok (.iadd, 1) := by decide +kernel
theorem dX8_endsRaid_191 : decode cX8_endsRaid 191 = .ok (.iastore, 1) := by decide +kernel
theorem dX8_endsRaid_192 : decode cX8_endsRaid 192 = .ok (.iconst 0, 1) := by decide +kernel
theorem dX8_endsRaid_193 : decode cX8_endsRaid 193 = .ok (.istore 6, 2) := by decide +kernel
theorem dX8_endsRaid_195 : decode cX8_endsRaid 195 = .ok (.iload 6, 2) := by decide +kernel
theorem dX8_endsRaid_197 : decode cX8_endsRaid 197 = .ok (.bipush 20, 2) := by decide +kernel
theorem dX8_endsRaid_199 : decode cX8_endsRaid 199 = .ok (.if_icmp .ge 58, 3) := by decide +kernel
theorem dX8_endsRaid_202 : decode cX8_endsRaid 202 = .ok (.aload_n 0, 1) := by decide +kernel
theorem dX8_endsRaid_203 : decode cX8_endsRaid 203 = .ok (.getfield 41, 3) := by decide +kernel
theorem dX8_endsRaid_206 : decode cX8_endsRaid 206 = .ok (.iload 6, 2) := by decide +kernel
theorem dX8_endsRaid_208 : decode cX8_endsRaid 208 = .ok (.aload_n 0, 1) := by decide +kernel
theorem dX8_endsRaid_209 : decode cX8_endsRaid 209 = .ok (.getfield 41, 3) := by decide +kernel
theorem dX8_endsRaid_212 : decode cX8_endsRaid 212 = .ok (.iload 6, 2) := by decide +kernel
theorem dX8_endsRaid_214 : decode cX8_endsRaid 214 = .ok (.iaload, 1) := by decide +kernel
theorem dX8_endsRaid_215 : decode cX8_endsRaid 215 = .ok (.iconst 3, 1) := by decide +kernel
theorem dX8_endsRaid_216 : decode cX8_endsRaid 216 = .ok (.if_icmp .ne 27, 3) := by decide +kernel
theorem dX8_endsRaid_219 : decode cX8_endsRaid 219 = .ok (.aload_n 0, 1) := by decide +kernel
theorem dX8_endsRaid_220 : decode cX8_endsRaid 220 = .ok (.getfield 41, 3) := by decide +kernel
theorem dX8_endsRaid_223 : decode cX8_endsRaid 223 = .ok (.bipush 20, 2) := by decide +kernel
theorem dX8_endsRaid_225 : decode cX8_endsRaid 225 = .ok (.iload 6, 2) := by decide +kernel
theorem dX8_endsRaid_227 : decode cX8_endsRaid 227 = .ok (.iadd, 1) := by decide +kernel
theorem dX8_endsRaid_228 : decode cX8_endsRaid 228 = .ok (.iaload, 1) := by decide +kernel
theorem dX8_endsRaid_229 : decode cX8_endsRaid 229 = .ok (.aload_n 0, 1) := by decide +kernel
theorem dX8_endsRaid_230 : decode cX8_endsRaid 230 = .ok (.getfield 41, 3) := by decide +kernel
theorem dX8_endsRaid_233 : decode cX8_endsRaid 233 = .ok (.bipush 108, 2) := by decide +kernel
theorem dX8_endsRaid_235 : decode cX8_endsRaid 235 = .ok (.iaload, 1) := by decide +kernel
theorem dX8_endsRaid_236 : decode cX8_endsRaid 236 = .ok (.if_icmp .gt 7, 3) := by decide +kernel
theorem dX8_endsRaid_239 : decode cX8_endsRaid 239 = .ok (.iconst 0, 1) := by decide +kernel
theorem dX8_endsRaid_240 : decode cX8_endsRaid 240 = .ok (.goto 10, 3) := by decide +kernel
theorem dX8_endsRaid_243 : decode cX8_endsRaid 243 = .ok (.aload_n 0, 1) := by decide +kernel
theorem dX8_endsRaid_244 : decode cX8_endsRaid 244 = .ok (.getfield 41, 3) := by decide +kernel
theorem dX8_endsRaid_247 : decode cX8_endsRaid 247 = .ok (.iload 6, 2) := by decide +kernel
theorem dX8_endsRaid_249 : decode cX8_endsRaid 249 = .ok (.iaload, 1) := by decide +kernel
theorem dX8_endsRaid_250 : decode cX8_endsRaid 250 = .ok (.iastore, 1) := by decide +kernel
theorem dX8_endsRaid_251 : decode cX8_endsRaid 251 = .ok (.iinc 6 1, 3) := by decide +kernel
theorem dX8_endsRaid_254 : decode cX8_endsRaid 254 = .ok (.goto (-59), 3) := by decide +kernel
theorem dX8_endsRaid_257 : decode cX8_endsRaid 257 = .ok (.return_, 1) := by decide +kernel
theorem dX8_canStep_0 : decode cX8_canStep 0 = .ok (.bipush 14, 2) := by decide +kernel
theorem dX8_canStep_2 : decode cX8_canStep 2 = .ok (.iload_n 1, 1) := by decide +kernel
theorem dX8_canStep_3 : decode cX8_canStep 3 = .ok (.imul, 1) := by decide +kernel
theorem dX8_canStep_4 : decode cX8_canStep 4 = .ok (.iload_n 2, 1) := by decide +kernel
theorem dX8_canStep_5 : decode cX8_canStep 5 = .ok (.iadd, 1) := by decide +kernel
theorem dX8_canStep_6 : decode cX8_canStep 6 = .ok (.istore_n 3, 1) := by decide +kernel
theorem dX8_canStep_7 : decode cX8_canStep 7 = .ok (.aload_n 0, 1) := by decide +kernel
theorem dX8_canStep_8 : decode cX8_canStep 8 = .ok (.getfield 32, 3) := by decide +kernel
theorem dX8_canStep_11 : decode cX8_canStep 11 = .ok (.iload_n 3, 1) := by decide +kernel
theorem dX8_canStep_12 : decode cX8_canStep 12 = .ok (.iaload, 1) := by decide +kernel
theorem dX8_canStep_13 : decode cX8_canStep 13 = .ok (.istore 4, 2) := by decide +kernel
theorem dX8_canStep_15 : decode cX8_canStep 15 = .ok (.iload 4, 2) := by decide +kernel
theorem dX8_canStep_17 : decode cX8_canStep 17 = .ok (.ifCond .ne 23, 3) := by decide +kernel
theorem dX8_canStep_20 : decode cX8_canStep 20 = .ok (.aload_n 0, 1) := by decide +kernel
theorem dX8_canStep_21 : decode cX8_canStep 21 = .ok (.iconst 1, 1) := by decide +kernel
theorem dX8_canStep_22 : decode cX8_canStep 22 = .ok (.aload_n 0, 1) := by decide +kernel
theorem dX8_canStep_23 : decode cX8_canStep 23 = .ok (.invokevirtual 108, 3) := by decide +kernel
theorem dX8_canStep_26 : decode cX8_canStep 26 = .ok (.isub, 1) := by decide +kernel
theorem dX8_canStep_27 : decode cX8_canStep 27 = .ok (.aload_n 0, 1) := by decide +kernel
theorem dX8_canStep_28 : decode cX8_canStep 28 = .ok (.getfield 35, 3) := by decide +kernel
theorem dX8_canStep_31 : decode cX8_canStep 31 = .ok (.iload_n 3, 1) := by decide +kernel
theorem dX8_canStep_32 : decode cX8_canStep 32 = .ok (.iaload, 1) := by decide +kernel
theorem dX8_canStep_33 : decode cX8_canStep 33 = .ok (.iconst 0, 1) := by decide +kernel
theorem dX8_canStep_34 : decode cX8_canStep 34 = .ok (.invokevirtual 85, 3) := by decide +kernel
theorem dX8_canStep_37 : decode cX8_canStep 37 = .ok (.ifCond .eq 7, 3) := by decide +kernel
theorem dX8_canStep_40 : decode cX8_canStep 40 = .ok (.iconst 1, 1) := by decide +kernel
theorem dX8_canStep_41 : decode cX8_canStep 41 = .ok (.goto 4, 3) := by decide +kernel
theorem dX8_canStep_44 : decode cX8_canStep 44 = .ok (.iconst 0, 1) := by decide +kernel
theorem dX8_canStep_45 : decode cX8_canStep 45 = .ok (.istore 5, 2) := by decide +kernel
theorem dX8_canStep_47 : decode cX8_canStep 47 = .ok (.bipush 14, 2) := by decide +kernel
theorem dX8_canStep_49 : decode cX8_canStep 49 = .ok (.iload_n 1, 1) := by decide +kernel
theorem dX8_canStep_50 : decode cX8_canStep 50 = .ok (.imul, 1) := by decide +kernel
theorem dX8_canStep_51 : decode cX8_canStep 51 = .ok (.istore 6, 2) := by decide +kernel
theorem dX8_canStep_53 : decode cX8_canStep 53 = .ok (.iload 6, 2) := by decide +kernel
theorem dX8_canStep_55 : decode cX8_canStep 55 = .ok (.iload_n 3, 1) := by decide +kernel
theorem dX8_canStep_56 : decode cX8_canStep 56 = .ok (.if_icmp .ge 66, 3) := by decide +kernel
theorem dX8_canStep_59 : decode cX8_canStep 59 = .ok (.aload_n 0, 1) := by decide +kernel
theorem dX8_canStep_60 : decode cX8_canStep 60 = .ok (.getfield 32, 3) := by decide +kernel
theorem dX8_canStep_63 : decode cX8_canStep 63 = .ok (.iload 6, 2) := by decide +kernel
theorem dX8_canStep_65 : decode cX8_canStep 65 = .ok (.iaload, 1) := by decide +kernel
theorem dX8_canStep_66 : decode cX8_canStep 66 = .ok (.iload 4, 2) := by decide +kernel
theorem dX8_canStep_68 : decode cX8_canStep 68 = .ok (.if_icmp .ne 28, 3) := by decide +kernel
theorem dX8_canStep_71 : decode cX8_canStep 71 = .ok (.iload 4, 2) := by decide +kernel
theorem dX8_canStep_73 : decode cX8_canStep 73 = .ok (.ifCond .ne 19, 3) := by decide +kernel
theorem dX8_canStep_76 : decode cX8_canStep 76 = .ok (.aload_n 0, 1) := by decide +kernel
theorem dX8_canStep_77 : decode cX8_canStep 77 = .ok (.getfield 35, 3) := by decide +kernel
theorem dX8_canStep_80 : decode cX8_canStep 80 = .ok (.iload 6, 2) := by decide +kernel
theorem dX8_canStep_82 : decode cX8_canStep 82 = .ok (.iaload, 1) := by decide +kernel
theorem dX8_canStep_83 : decode cX8_canStep 83 = .ok (.aload_n 0, 1) := by decide +kernel
theorem dX8_canStep_84 : decode cX8_canStep 84 = .ok (.getfield 35, 3) := by decide +kernel
theorem dX8_canStep_87 : decode cX8_canStep 87 = .ok (.iload_n 3, 1) := by decide +kernel
theorem dX8_canStep_88 : decode cX8_canStep 88 = .ok (.iaload, 1) := by decide +kernel
theorem dX8_canStep_89 : decode cX8_canStep 89 = .ok (.if_icmp .ne 7, 3) := by decide +kernel
theorem dX8_canStep_92 : decode cX8_canStep 92 = .ok (.iconst 1, 1) := by decide +kernel
theorem dX8_canStep_93 : decode cX8_canStep 93 = .ok (.goto 4, 3) := by decide +kernel
theorem dX8_canStep_96 : decode cX8_canStep 96 = .ok (.iconst 0, 1) := by decide +kernel
theorem dX8_canStep_97 : decode cX8_canStep 97 = .ok (.istore 7, 2) := by decide +kernel
theorem dX8_canStep_99 : decode cX8_canStep 99 = .ok (.iload 5, 2) := by decide +kernel
theorem dX8_canStep_101 : decode cX8_canStep 101 = .ok (.ifCond .eq 12, 3) := by decide +kernel
theorem dX8_canStep_104 : decode cX8_canStep 104 = .ok (.iload 7, 2) := by decide +kernel
theorem dX8_canStep_106 : decode cX8_canStep 106 = .ok (.ifCond .ne 7, 3) := by decide +kernel
theorem dX8_canStep_109 : decode cX8_canStep 109 = .ok (.iconst 1, 1) := by decide +kernel
theorem dX8_canStep_110 : decode cX8_canStep 110 = .ok (.goto 4, 3) := by decide +kernel
theorem dX8_canStep_113 : decode cX8_canStep 113 = .ok (.iconst 0, 1) := by decide +kernel
theorem dX8_canStep_114 : decode cX8_canStep 114 = .ok (.istore 5, 2) := by decide +kernel
theorem dX8_canStep_116 : decode cX8_canStep 116 = .ok (.iinc 6 1, 3) := by decide +kernel
theorem dX8_canStep_119 : decode cX8_canStep 119 = .ok (.goto (-66), 3) := by decide +kernel
theorem dX8_canStep_122 : decode cX8_canStep 122 = .ok (.iload 5, 2) := by decide +kernel
theorem dX8_canStep_124 : decode cX8_canStep 124 = .ok (.ifCond .eq 26, 3) := by decide +kernel
theorem dX8_canStep_127 : decode cX8_canStep 127 = .ok (.iload 4, 2) := by decide +kernel
theorem dX8_canStep_129 : decode cX8_canStep 129 = .ok (.bipush 6, 2) := by decide +kernel
theorem dX8_canStep_131 : decode cX8_canStep 131 = .ok (.if_icmp .ne 15, 3) := by decide +kernel
theorem dX8_canStep_134 : decode cX8_canStep 134 = .ok (.aload_n 0, 1) := by decide +kernel
theorem dX8_canStep_135 : decode cX8_canStep 135 = .ok (.getfield 38, 3) := by decide +kernel
theorem dX8_canStep_138 : decode cX8_canStep 138 = .ok (.iload_n 3, 1) := by decide +kernel
theorem dX8_canStep_139 : decode cX8_canStep 139 = .ok (.iaload, 1) := by decide +kernel
theorem dX8_canStep_140 : decode cX8_canStep 140 = .ok (.sipush 300, 3) := by decide +kernel
theorem dX8_canStep_143 : decode cX8_canStep 143 = .ok (.if_icmp .ne 7, 3) := by decide +kernel
theorem dX8_canStep_146 : decode cX8_canStep 146 = .ok (.iconst 1, 1) := by decide +kernel
theorem dX8_canStep_147 : decode cX8_canStep 147 = .ok (.goto 4, 3) := by decide +kernel
theorem dX8_canStep_150 : decode cX8_canStep 150 = .ok (.iconst 0, 1) := by decide +kernel
theorem dX8_canStep_151 : decode cX8_canStep 151 = .ok (.ireturn, 1) := by decide +kernel
theorem dX8_canRaid_0 : decode cX8_canRaid 0 = .ok (.aload_n 0, 1) := by decide +kernel
theorem dX8_canRaid_1 : decode cX8_canRaid 1 = .ok (.getfield 41, 3) := by decide +kernel
theorem dX8_canRaid_4 : decode cX8_canRaid 4 = .ok (.bipush 108, 2) := by decide +kernel
theorem dX8_canRaid_6 : decode cX8_canRaid 6 = .ok (.iaload, 1) := by decide +kernel
theorem dX8_canRaid_7 : decode cX8_canRaid 7 = .ok (.aload_n 0, 1) := by decide +kernel
theorem dX8_canRaid_8 : decode cX8_canRaid 8 = .ok (.getfield 118, 3) := by decide +kernel
theorem dX8_canRaid_11 : decode cX8_canRaid 11 = .ok (.if_icmp .ge 20, 3) := by decide +kernel
theorem dX8_canRaid_14 : decode cX8_canRaid 14 = .ok (.aload_n 0, 1) := by decide +kernel
theorem dX8_canRaid_15 : decode cX8_canRaid 15 = .ok (.aload_n 0, 1) := by decide +kernel
theorem dX8_canRaid_16 : decode cX8_canRaid 16 = .ok (.invokevirtual 108, 3) := by decide +kernel
theorem dX8_canRaid_19 : decode cX8_canRaid 19 = .ok (.iload_n 1, 1) := by decide +kernel
theorem dX8_canRaid_20 : decode cX8_canRaid 20 = .ok (.iconst 0, 1) := by decide +kernel
theorem dX8_canRaid_21 : decode cX8_canRaid 21 = .ok (.invokevirtual 85, 3) := by decide +kernel
theorem dX8_canRaid_24 : decode cX8_canRaid 24 = .ok (.ifCond .eq 7, 3) := by decide +kernel
theorem dX8_canRaid_27 : decode cX8_canRaid 27 = .ok (.iconst 1, 1) := by decide +kernel
theorem dX8_canRaid_28 : decode cX8_canRaid 28 = .ok (.goto 4, 3) := by decide +kernel
theorem dX8_canRaid_31 : decode cX8_canRaid 31 = .ok (.iconst 0, 1) := by decide +kernel
theorem dX8_canRaid_32 : decode cX8_canRaid 32 = .ok (.ireturn, 1) := by decide +kernel
theorem dX8_colourFor_0 : decode cX8_colourFor 0 = .ok (.iload_n 3, 1) := by decide +kernel
theorem dX8_colourFor_1 : decode cX8_colourFor 1 = .ok (.istore 4, 2) := by decide +kernel
theorem dX8_colourFor_3 : decode cX8_colourFor 3 = .ok (.iload 4, 2) := by decide +kernel
theorem dX8_colourFor_5 : decode cX8_colourFor 5 = .ok (.iconst 2, 1) := by decide +kernel
theorem dX8_colourFor_6 : decode cX8_colourFor 6 = .ok (.if_icmp .ge 32, 3) := by decide +kernel
theorem dX8_colourFor_9 : decode cX8_colourFor 9 = .ok (.aload_n 0, 1) := by decide +kernel
theorem dX8_colourFor_10 : decode cX8_colourFor 10 = .ok (.getfield 41, 3) := by decide +kernel
theorem dX8_colourFor_13 : decode cX8_colourFor 13 = .ok (.bipush 40, 2) := by decide +kernel
theorem dX8_colourFor_15 : decode cX8_colourFor 15 = .ok (.bipush 10, 2) := by decide +kernel
theorem dX8_colourFor_17 : decode cX8_colourFor 17 = .ok (.iload_n 1, 1) := by decide +kernel
theorem dX8_colourFor_18 : decode cX8_colourFor 18 = .ok (.imul, 1) := by decide +kernel
theorem dX8_colourFor_19 : decode cX8_colourFor 19 = .ok (.iadd, 1) := by decide +kernel
theorem dX8_colourFor_20 : decode cX8_colourFor 20 = .ok (.iload_n 2, 1) := by decide +kernel
theorem dX8_colourFor_21 : decode cX8_colourFor 21 = .ok (.iadd, 1) := by decide +kernel
theorem dX8_colourFor_22 : decode cX8_colourFor 22 = .ok (.iaload, 1) := by decide +kernel
theorem dX8_colourFor_23 : decode cX8_colourFor 23 = .ok (.iload 4, 2) := by decide +kernel
theorem dX8_colourFor_25 : decode cX8_colourFor 25 = .ok (.ishr, 1) := by decide +kernel
theorem dX8_colourFor_26 : decode cX8_colourFor 26 = .ok (.iconst 1, 1) := by decide +kernel
theorem dX8_colourFor_27 : decode cX8_colourFor 27 = .ok (.iand, 1) := by decide +kernel
theorem dX8_colourFor_28 : decode cX8_colourFor 28 = .ok (.iconst 1, 1) := by decide +kernel
theorem dX8_colourFor_29 : decode cX8_colourFor 29 = .ok (.if_icmp .ne 9, 3) := by decide +kernel
theorem dX8_colourFor_32 : decode cX8_colourFor 32 = .ok (.iinc 4 1, 3) := by decide +kernel
theorem dX8_colourFor_35 : decode cX8_colourFor 35 = .ok (.goto (-32), 3) := by decide +kernel
theorem dX8_colourFor_38 : decode cX8_colourFor 38 = .ok (.iload 4, 2) := by decide +kernel
theorem dX8_colourFor_40 : decode cX8_colourFor 40 = .ok (.ireturn, 1) := by decide +kernel
theorem dX8_canCard_0 : decode cX8_canCard 0 = .ok (.aload_n 0, 1) := by decide +kernel
theorem dX8_canCard_1 : decode cX8_canCard 1 = .ok (.iload_n 1, 1) := by decide +kernel
theorem dX8_canCard_2 : decode cX8_canCard 2 = .ok (.iload_n 2, 1) := by decide +kernel
theorem dX8_canCard_3 : decode cX8_canCard 3 = .ok (.iconst 0, 1) := by decide +kernel
theorem dX8_canCard_4 : decode cX8_canCard 4 = .ok (.invokevirtual 85, 3) := by decide +kernel
theorem dX8_canCard_7 : decode cX8_canCard 7 = .ok (.ifCond .eq 28, 3) := by decide +kernel
theorem dX8_canCard_10 : decode cX8_canCard 10 = .ok (.aload_n 0, 1) := by decide +kernel
theorem dX8_canCard_11 : decode cX8_canCard 11 = .ok (.iload_n 1, 1) := by decide +kernel
theorem dX8_canCard_12 : decode cX8_canCard 12 = .ok (.iload_n 2, 1) := by decide +kernel
theorem dX8_canCard_13 : decode cX8_canCard 13 = .ok (.iload_n 3, 1) := by decide +kernel
theorem dX8_canCard_14 : decode cX8_canCard 14 = .ok (.invokevirtual 121, 3) := by decide +kernel
theorem dX8_canCard_17 : decode cX8_canCard 17 = .ok (.ifCond .eq 14, 3) := by decide +kernel
theorem dX8_canCard_20 : decode cX8_canCard 20 = .ok (.aload_n 0, 1) := by decide +kernel
theorem dX8_canCard_21 : decode cX8_canCard 21 = .ok (.iload_n 1, 1) := by decide +kernel
theorem dX8_canCard_22 : decode cX8_canCard 22 = .ok (.iconst 3, 1) := by decide +kernel
theorem dX8_canCard_23 : decode cX8_canCard 23 = .ok (.iconst 4, 1) := by decide +kernel
theorem dX8_canCard_24 : decode cX8_canCard 24 = .ok (.invokevirtual 88, 3) := by decide +kernel
theorem dX8_canCard_27 : decode cX8_canCard 27 = .ok (.iconst 3, 1) := by decide +kernel
theorem dX8_canCard_28 : decode cX8_canCard 28 = .ok (.if_icmp .ge 7, 3) := by decide +kernel
theorem dX8_canCard_31 : decode cX8_canCard 31 = .ok (.iconst 1, 1) := by decide +kernel
theorem dX8_canCard_32 : decode cX8_canCard 32 = .ok (.goto 4, 3) := by decide +kernel
theorem dX8_canCard_35 : decode cX8_canCard 35 = .ok (.iconst 0, 1) := by decide +kernel
theorem dX8_canCard_36 : decode cX8_canCard 36 = .ok (.ireturn, 1) := by decide +kernel
theorem dX8_canChange_0 : decode cX8_canChange 0 = .ok (.aload_n 0, 1) := by decide +kernel
theorem dX8_canChange_1 : decode cX8_canChange 1 = .ok (.iload_n 1, 1) := by decide +kernel
theorem dX8_canChange_2 : decode cX8_canChange 2 = .ok (.iload_n 2, 1) := by decide +kernel
theorem dX8_canChange_3 : decode cX8_canChange 3 = .ok (.iconst 0, 1) := by decide +kernel
theorem dX8_canChange_4 : decode cX8_canChange 4 = .ok (.invokevirtual 85, 3) := by decide +kernel
theorem dX8_canChange_7 : decode cX8_canChange 7 = .ok (.ifCond .eq 30, 3) := by decide +kernel
theorem dX8_canChange_10 : decode cX8_canChange 10 = .ok (.aload_n 0, 1) := by decide +kernel
theorem dX8_canChange_11 : decode cX8_canChange 11 = .ok (.iload_n 1, 1) := by decide +kernel
theorem dX8_canChange_12 : decode cX8_canChange 12 = .ok (.iload_n 3, 1) := by decide +kernel
theorem dX8_canChange_13 : decode cX8_canChange 13 = .ok (.iconst 1, 1) := by decide +kernel
theorem dX8_canChange_14 : decode cX8_canChange 14 = .ok (.invokevirtual 85, 3) := by decide +kernel
theorem dX8_canChange_17 : decode cX8_canChange 17 = .ok (.ifCond .eq 20, 3) := by decide +kernel
theorem dX8_canChange_20 : decode cX8_canChange 20 = .ok (.aload_n 0, 1) := by decide +kernel
theorem dX8_canChange_21 : decode cX8_canChange 21 = .ok (.getfield 41, 3) := by decide +kernel
theorem dX8_canChange_24 : decode cX8_canChange 24 = .ok (.bipush 102, 2) := by decide +kernel
theorem dX8_canChange_26 : decode cX8_canChange 26 = .ok (.iload_n 1, 1) := by decide +kernel
theorem dX8_canChange_27 : decode cX8_canChange 27 = .ok (.iadd, 1) := by decide +kernel
theorem dX8_canChange_28 : decode cX8_canChange 28 = .ok (.iaload, 1) := by decide +kernel
theorem dX8_canChange_29 : decode cX8_canChange 29 = .ok (.iconst 5, 1) := by decide +kernel
theorem dX8_canChange_30 : decode cX8_canChange 30 = .ok (.if_icmp .ge 7, 3) := by decide +kernel
theorem dX8_canChange_33 : decode cX8_canChange 33 = .ok (.iconst 1, 1) := by decide +kernel
theorem dX8_canChange_34 : decode cX8_canChange 34 = .ok (.goto 4, 3) := by decide +kernel
theorem dX8_canChange_37 : decode cX8_canChange 37 = .ok (.iconst 0, 1) := by decide +kernel
theorem dX8_canChange_38 : decode cX8_canChange 38 = .ok (.ireturn, 1) := by decide +kernel
theorem dX8_givesCard_0 : decode cX8_givesCard 0 = .ok (.aload_n 0, 1) := by decide +kernel
theorem dX8_givesCard_1 : decode cX8_givesCard 1 = .ok (.iload_n 1, 1) := by decide +kernel
theorem dX8_givesCard_2 : decode cX8_givesCard 2 = .ok (.iload_n 2, 1) := by decide +kernel
theorem dX8_givesCard_3 : decode cX8_givesCard 3 = .ok (.iload_n 3, 1) := by decide +kernel
theorem dX8_givesCard_4 : decode cX8_givesCard 4 = .ok (.invokevirtual 121, 3) := by decide +kernel
theorem dX8_givesCard_7 : decode cX8_givesCard 7 = .ok (.istore 4, 2) := by decide +kernel
theorem dX8_givesCard_9 : decode cX8_givesCard 9 = .ok (.bipush 10, 2) := by decide +kernel
theorem dX8_givesCard_11 : decode cX8_givesCard 11 = .ok (.iload_n 1, 1) := by decide +kernel
theorem dX8_givesCard_12 : decode cX8_givesCard 12 = .ok (.imul, 1) := by decide +kernel
theorem dX8_givesCard_13 : decode cX8_givesCard 13 = .ok (.iload_n 2, 1) := by decide +kernel
theorem dX8_givesCard_14 : decode cX8_givesCard 14 = .ok (.iadd, 1) := by decide +kernel
theorem dX8_givesCard_15 : decode cX8_givesCard 15 = .ok (.istore 5, 2) := by decide +kernel
theorem dX8_givesCard_17 : decode cX8_givesCard 17 = .ok (.aload_n 0, 1) := by decide +kernel
theorem dX8_givesCard_18 : decode cX8_givesCard 18 = .ok (.getfield 41, 3) := by decide +kernel
theorem dX8_givesCard_21 : decode cX8_givesCard 21 = .ok (.bipush 40, 2) := by decide +kernel
theorem dX8_givesCard_23 : decode cX8_givesCard 23 = .ok (.iload 5, 2) := by decide +kernel
theorem dX8_givesCard_25 : decode cX8_givesCard 25 = .ok (.iadd, 1) := by decide +kernel
theorem dX8_givesCard_26 : decode cX8_givesCard 26 = .ok (.dup2, 1) := by decide +kernel
theorem dX8_givesCard_27 : decode cX8_givesCard 27 = .ok (.iaload, 1) := by decide +kernel
theorem dX8_givesCard_28 : decode cX8_givesCard 28 = .ok (.iconst 1, 1) := by decide +kernel
theorem dX8_givesCard_29 : decode cX8_givesCard 29 = .ok (.iload 4, 2) := by decide +kernel
theorem dX8_givesCard_31 : decode cX8_givesCard 31 = .ok (.ishl, 1) := by decide +kernel
theorem dX8_givesCard_32 : decode cX8_givesCard 32 = .ok (.ior, 1) := by decide +kernel
theorem dX8_givesCard_33 : decode cX8_givesCard 33 = .ok (.iastore, 1) := by decide +kernel
theorem dX8_givesCard_34 : decode cX8_givesCard 34 = .ok (.iload 4, 2) := by decide +kernel
theorem dX8_givesCard_36 : decode cX8_givesCard 36 = .ok (.ifCond .le 70, 3) := by decide +kernel
theorem dX8_givesCard_39 : decode cX8_givesCard 39 = .ok (.aload_n 0, 1) := by decide +kernel
theorem dX8_givesCard_40 : decode cX8_givesCard 40 = .ok (.getfield 41, 3) := by decide +kernel
theorem dX8_givesCard_43 : decode cX8_givesCard 43 = .ok (.iload 5, 2) := by decide +kernel
theorem dX8_givesCard_45 : decode cX8_givesCard 45 = .ok (.iload 4, 2) := by decide +kernel
theorem dX8_givesCard_47 : decode cX8_givesCard 47 = .ok (.iconst 1, 1) := by decide +kernel
theorem dX8_givesCard_48 : decode cX8_givesCard 48 = .ok (.if_icmp .ne 7, 3) := by decide +kernel
theorem dX8_givesCard_51 : decode cX8_givesCard 51 = .ok (.iconst 3, 1) := by decide +kernel
theorem dX8_givesCard_52 : decode cX8_givesCard 52 = .ok (.goto 4, 3) := by decide +kernel
theorem dX8_givesCard_55 : decode cX8_givesCard 55 = .ok (.iconst 4, 1) := by decide +kernel
theorem dX8_givesCard_56 : decode cX8_givesCard 56 = .ok (.iastore, 1) := by decide +kernel
theorem dX8_givesCard_57 : decode cX8_givesCard 57 = .ok (.aload_n 0, 1) := by decide +kernel
theorem dX8_givesCard_58 : decode cX8_givesCard 58 = .ok (.getfield 41, 3) := by decide +kernel
theorem dX8_givesCard_61 : decode cX8_givesCard 61 = .ok (.bipush 20, 2) := by decide +kernel
theorem dX8_givesCard_63 : decode cX8_givesCard 63 = .ok (.iload 5, 2) := by decide +kernel
theorem dX8_givesCard_65 : decode cX8_givesCard 65 = .ok (.iadd, 1) := by decide +kernel
theorem dX8_givesCard_66 : decode cX8_givesCard 66 = .ok (.aload_n 0, 1) := by decide +kernel
theorem dX8_givesCard_67 : decode cX8_givesCard 67 = .ok (.getfield 41, 3) := by decide +kernel
theorem dX8_givesCard_70 : decode cX8_givesCard 70 = .ok (.bipush 108, 2) := by decide +kernel
theorem dX8_givesCard_72 : decode cX8_givesCard 72 = .ok (.iaload, 1) := by decide +kernel
theorem dX8_givesCard_73 : decode cX8_givesCard 73 = .ok (.sipush 1200, 3) := by decide +kernel
theorem dX8_givesCard_76 : decode cX8_givesCard 76 = .ok (.iadd, 1) := by decide +kernel
theorem dX8_givesCard_77 : decode cX8_givesCard 77 = .ok (.iastore, 1) := by decide +kernel
theorem dX8_givesCard_78 : decode cX8_givesCard 78 = .ok (.aload_n 0, 1) := by decide +kernel
theorem dX8_givesCard_79 : decode cX8_givesCard 79 = .ok (.getfield 41, 3) := by decide +kernel
theorem dX8_givesCard_82 : decode cX8_givesCard 82 = .ok (.bipush 105, 2) := by decide +kernel
theorem dX8_givesCard_84 : decode cX8_givesCard 84 = .ok (.iload_n 1, 1) := by decide +kernel
theorem dX8_givesCard_85 : decode cX8_givesCard 85 = .ok (.isub, 1) := by decide +kernel
theorem dX8_givesCard_86 : decode cX8_givesCard 86 = .ok (.dup2, 1) := by decide +kernel
theorem dX8_givesCard_87 : decode cX8_givesCard 87 = .ok (.iaload, 1) := by decide +kernel
theorem dX8_givesCard_88 : decode cX8_givesCard 88 = .ok (.iload 4, 2) := by decide +kernel
theorem dX8_givesCard_90 : decode cX8_givesCard 90 = .ok (.iconst 2, 1) := by decide +kernel
theorem dX8_givesCard_91 : decode cX8_givesCard 91 = .ok (.if_icmp .ne 7, 3) := by decide +kernel
theorem dX8_givesCard_94 : decode cX8_givesCard 94 = .ok (.iconst 1, 1) := by decide +kernel
theorem dX8_givesCard_95 : decode cX8_givesCard 95 = .ok (.goto 4, 3) := by decide +kernel
theorem dX8_givesCard_98 : decode cX8_givesCard 98 = .ok (.iconst 0, 1) := by decide +kernel
theorem dX8_givesCard_99 : decode cX8_givesCard 99 = .ok (.iadd, 1) := by decide +kernel
theorem dX8_givesCard_100 : decode cX8_givesCard 100 = .ok (.iastore, 1) := by decide +kernel
theorem dX8_givesCard_101 : decode cX8_givesCard 101 = .ok (.aload_n 0, 1) := by decide +kernel
theorem dX8_givesCard_102 : decode cX8_givesCard 102 = .ok (.iload_n 1, 1) := by decide +kernel
theorem dX8_givesCard_103 : decode cX8_givesCard 103 = .ok (.invokevirtual 115, 3) := by decide +kernel
theorem dX8_givesCard_106 : decode cX8_givesCard 106 = .ok (.return_, 1) := by decide +kernel
theorem dX8_follows_0 : decode cX8_follows 0 = .ok (.iconst 1, 1) := by decide +kernel
theorem dX8_follows_1 : decode cX8_follows 1 = .ok (.istore_n 2, 1) := by decide +kernel
theorem dX8_follows_2 : decode cX8_follows 2 = .ok (.aload_n 0, 1) := by decide +kernel
theorem dX8_follows_3 : decode cX8_follows 3 = .ok (.getfield 17, 3) := by decide +kernel
theorem dX8_follows_6 : decode cX8_follows 6 = .ok (.iload_n 1, 1) := by decide +kernel
theorem dX8_follows_7 : decode cX8_follows 7 = .ok (.iaload, 1) := by decide +kernel
theorem dX8_follows_8 : decode cX8_follows 8 = .ok (.ifCond .ne 63, 3) := by decide +kernel
theorem dX8_follows_11 : decode cX8_follows 11 = .ok (.aload_n 0, 1) := by decide +kernel
theorem dX8_follows_12 : decode cX8_follows 12 = .ok (.aload_n 0, 1) := by decide +kernel
theorem dX8_follows_13 : decode cX8_follows 13 = .ok (.getfield 20, 3) := by decide +kernel
theorem dX8_follows_16 : decode cX8_follows 16 = .ok (.iload_n 1, 1) := by decide +kernel
theorem dX8_follows_17 : decode cX8_follows 17 = .ok (.iaload, 1) := by decide +kernel
theorem dX8_follows_18 : decode cX8_follows 18 = .ok (.invokevirtual 124, 3) := by decide +kernel
theorem dX8_follows_21 : decode cX8_follows 21 = .ok (.istore_n 2, 1) := by decide +kernel
theorem dX8_follows_22 : decode cX8_follows 22 = .ok (.iconst 0, 1) := by decide +kernel
theorem dX8_follows_23 : decode cX8_follows 23 = .ok (.istore_n 3, 1) := by decide +kernel
theorem dX8_follows_24 : decode cX8_follows 24 = .ok (.iload_n 3, 1) := by decide +kernel
theorem dX8_follows_25 : decode cX8_follows 25 = .ok (.aload_n 0, 1) := by decide +kernel
theorem dX8_follows_26 : decode cX8_follows 26 = .ok (.getfield 29, 3) := by decide +kernel
theorem dX8_follows_29 : decode cX8_follows 29 = .ok (.iload_n 1, 1) := by decide +kernel
theorem dX8_follows_30 : decode cX8_follows 30 = .ok (.iaload, 1) := by decide +kernel
theorem dX8_follows_31 : decode cX8_follows 31 = .ok (.if_icmp .ge 28, 3) := by decide +kernel
theorem dX8_follows_34 : decode cX8_follows 34 = .ok (.iload_n 2, 1) := by decide +kernel
theorem dX8_follows_35 : decode cX8_follows 35 = .ok (.ifCond .eq 16, 3) := by decide +kernel
theorem dX8_follows_38 : decode cX8_follows 38 = .ok (.aload_n 0, 1) := by decide +kernel
theorem dX8_follows_39 : decode cX8_follows 39 = .ok (.iload_n 1, 1) := by decide +kernel
theorem dX8_follows_40 : decode cX8_follows 40 = .ok (.iload_n 3, 1) := by decide +kernel
theorem dX8_follows_41 : decode cX8_follows 41 = .ok (.invokevirtual 128, 3) := by decide +kernel
theorem dX8_follows_44 : decode cX8_follows 44 = .ok (.ifCond .eq 7, 3) := by decide +kernel
theorem dX8_follows_47 : decode cX8_follows 47 = .ok (.iconst 1, 1) := by decide +kernel
theorem dX8_follows_48 : decode cX8_follows 48 = .ok (.goto 4, 3) := by decide +kernel
theorem dX8_follows_51 : decode cX8_follows 51 = .ok (.iconst 0, 1) := by decide +kernel
theorem dX8_follows_52 : decode cX8_follows 52 = .ok (.istore_n 2, 1) := by decide +kernel
theorem dX8_follows_53 : decode cX8_follows 53 = .ok (.iinc 3 1, 3) := by decide +kernel
theorem dX8_follows_56 : decode cX8_follows 56 = .ok (.goto (-32), 3) := by decide +kernel
theorem dX8_follows_59 : decode cX8_follows 59 = .ok (.iload_n 2, 1) := by decide +kernel
theorem dX8_follows_60 : decode cX8_follows 60 = .ok (.ifCond .eq 162, 3) := by decide +kernel
theorem dX8_follows_63 : decode cX8_follows 63 = .ok (.aload_n 0, 1) := by decide +kernel
theorem dX8_follows_64 : decode cX8_follows 64 = .ok (.iload_n 1, 1) := by decide +kernel
theorem dX8_follows_65 : decode cX8_follows 65 = .ok (.invokevirtual 132, 3) := by decide +kernel
theorem dX8_follows_68 : decode cX8_follows 68 = .ok (.goto 154, 3) := by decide +kernel
theorem dX8_follows_71 : decode cX8_follows 71 = .ok (.aload_n 0, 1) := by decide +kernel
theorem dX8_follows_72 : decode cX8_follows 72 = .ok (.getfield 17, 3) := by decide +kernel
theorem dX8_follows_75 : decode cX8_follows 75 = .ok (.iload_n 1, 1) := by decide +kernel
theorem dX8_follows_76 : decode cX8_follows 76 = .ok (.iaload, 1) := by decide +kernel
theorem dX8_follows_77 : decode cX8_follows 77 = .ok (.iconst 1, 1) := by decide +kernel
theorem dX8_follows_78 : decode cX8_follows 78 = .ok (.if_icmp .ne 55, 3) := by decide +kernel
theorem dX8_follows_81 : decode cX8_follows 81 = .ok (.aload_n 0, 1) := by decide +kernel
theorem dX8_follows_82 : decode cX8_follows 82 = .ok (.aload_n 0, 1) := by decide +kernel
theorem dX8_follows_83 : decode cX8_follows 83 = .ok (.getfield 20, 3) := by decide +kernel
theorem dX8_follows_86 : decode cX8_follows 86 = .ok (.iload_n 1, 1) := by decide +kernel
theorem dX8_follows_87 : decode cX8_follows 87 = .ok (.iaload, 1) := by decide +kernel
theorem dX8_follows_88 : decode cX8_follows 88 = .ok (.aload_n 0, 1) := by decide +kernel
theorem dX8_follows_89 : decode cX8_follows 89 = .ok (.getfield 23, 3) := by decide +kernel
theorem dX8_follows_92 : decode cX8_follows 92 = .ok (.iload_n 1, 1) := by decide +kernel
theorem dX8_follows_93 : decode cX8_follows 93 = .ok (.iaload, 1) := by decide +kernel
theorem dX8_follows_94 : decode cX8_follows 94 = .ok (.aload_n 0, 1) := by decide +kernel
theorem dX8_follows_95 : decode cX8_follows 95 = .ok (.getfield 26, 3) := by decide +kernel
theorem dX8_follows_98 : decode cX8_follows 98 = .ok (.iload_n 1, 1) := by decide +kernel
theorem dX8_follows_99 : decode cX8_follows 99 = .ok (.iaload, 1) := by decide +kernel
theorem dX8_follows_100 : decode cX8_follows 100 = .ok (.invokevirtual 135, 3) := by decide +kernel
theorem dX8_follows_103 : decode cX8_follows 103 = .ok (.istore_n 2, 1) := by decide +kernel
theorem dX8_follows_104 : decode cX8_follows 104 = .ok (.iload_n 2, 1) := by decide +kernel
theorem dX8_follows_105 : decode cX8_follows 105 = .ok (.ifCond .eq 117, 3) := by decide +kernel
theorem dX8_follows_108 : decode cX8_follows 108 = .ok (.aload_n 0, 1) := by decide +kernel
theorem dX8_follows_109 : decode cX8_follows 109 = .ok (.aload_n 0, 1) := by decide +kernel
theorem dX8_follows_110 : decode cX8_follows 110 = .ok (.getfield 20, 3) := by decide +kernel
theorem dX8_follows_113 : decode cX8_follows 113 = .ok (.iload_n 1, 1) := by decide +kernel
theorem dX8_follows_114 : decode cX8_follows 114 = .ok (.iaload, 1) := by decide +kernel
theorem dX8_follows_115 : decode cX8_follows 115 = .ok (.aload_n 0, 1) := by decide +kernel
theorem dX8_follows_116 : decode cX8_follows 116 = .ok (.getfield 23, 3) := by decide +kernel
theorem dX8_follows_119 : decode cX8_follows 119 = .ok (.iload_n 1, 1) := by decide +kernel
theorem dX8_follows_120 : decode cX8_follows 120 = .ok (.iaload, 1) := by decide +kernel
theorem dX8_follows_121 : decode cX8_follows 121 = .ok (.aload_n 0, 1) := by decide +kernel
theorem dX8_follows_122 : decode cX8_follows 122 = .ok (.getfield 26, 3) := by decide +kernel
theorem dX8_follows_125 : decode cX8_follows 125 = .ok (.iload_n 1, 1) := by decide +kernel
theorem dX8_follows_126 : decode cX8_follows 126 = .ok (.iaload, 1) := by decide +kernel
theorem dX8_follows_127 : decode cX8_follows 127 = .ok (.invokevirtual 138, 3) := by decide +kernel
theorem dX8_follows_130 : decode cX8_follows 130 = .ok (.goto 92, 3) := by decide +kernel
theorem dX8_follows_133 : decode cX8_follows 133 = .ok (.aload_n 0, 1) := by decide +kernel
theorem dX8_follows_134 : decode cX8_follows 134 = .ok (.aload_n 0, 1) := by decide +kernel
theorem dX8_follows_135 : decode cX8_follows 135 = .ok (.getfield 20, 3) := by decide +kernel
theorem dX8_follows_138 : decode cX8_follows 138 = .ok (.iload_n 1, 1) := by decide +kernel
theorem dX8_follows_139 : decode cX8_follows 139 = .ok (.iaload, 1) := by decide +kernel
theorem dX8_follows_140 : decode cX8_follows 140 = .ok (.aload_n 0, 1) := by decide +kernel
theorem dX8_follows_141 : decode cX8_follows 141 = .ok (.getfield 23, 3) := by decide +kernel
theorem dX8_follows_144 : decode cX8_follows 144 = .ok (.iload_n 1, 1) := by decide +kernel
theorem dX8_follows_145 : decode cX8_follows 145 = .ok (.iaload, 1) := by decide +kernel
theorem dX8_follows_146 : decode cX8_follows 146 = .ok (.aload_n 0, 1) := by decide +kernel
theorem dX8_follows_147 : decode cX8_follows 147 = .ok (.getfield 26, 3) := by decide +kernel
theorem dX8_follows_150 : decode cX8_follows 150 = .ok (.iload_n 1, 1) := by decide +kernel
theorem dX8_follows_151 : decode cX8_follows 151 = .ok (.iaload, 1) := by decide +kernel
theorem dX8_follows_152 : decode cX8_follows 152 = .ok (.invokevirtual 141, 3) := by decide +kernel
theorem dX8_follows_155 : decode cX8_follows 155 = .ok (.istore_n 2, 1) := by decide +kernel
theorem dX8_follows_156 : decode cX8_follows 156 = .ok (.iload_n 2, 1) := by decide +kernel
theorem dX8_follows_157 : decode cX8_follows 157 = .ok (.ifCond .eq 65, 3) := by decide +kernel
theorem dX8_follows_160 : decode cX8_follows 160 = .ok (.aload_n 0, 1) := by decide +kernel
theorem dX8_follows_161 : decode cX8_follows 161 = .ok (.getfield 41, 3) := by decide +kernel
theorem dX8_follows_164 : decode cX8_follows 164 = .ok (.bipush 10, 2) := by decide +kernel
theorem dX8_follows_166 : decode cX8_follows 166 = .ok (.aload_n 0, 1) := by decide +kernel
theorem dX8_follows_167 : decode cX8_follows 167 = .ok (.getfield 20, 3) := by decide +kernel
theorem dX8_follows_170 : decode cX8_follows 170 = .ok (.iload_n 1, 1) := by decide +kernel
theorem dX8_follows_171 : decode cX8_follows 171 = .ok (.iaload, 1) := by decide +kernel
theorem dX8_follows_172 : decode cX8_follows 172 = .ok (.imul, 1) := by decide +kernel
theorem dX8_follows_173 : decode cX8_follows 173 = .ok (.aload_n 0, 1) := by decide +kernel
theorem dX8_follows_174 : decode cX8_follows 174 = .ok (.getfield 23, 3) := by decide +kernel
theorem dX8_follows_177 : decode cX8_follows 177 = .ok (.iload_n 1, 1) := by decide +kernel
theorem dX8_follows_178 : decode cX8_follows 178 = .ok (.iaload, 1) := by decide +kernel
theorem dX8_follows_179 : decode cX8_follows 179 = .ok (.iadd, 1) := by decide +kernel
theorem dX8_follows_180 : decode cX8_follows 180 = .ok (.iconst 1, 1) := by decide +kernel
theorem dX8_follows_181 : decode cX8_follows 181 = .ok (.iastore, 1) := by decide +kernel
theorem dX8_follows_182 : decode cX8_follows 182 = .ok (.aload_n 0, 1) := by decide +kernel
theorem dX8_follows_183 : decode cX8_follows 183 = .ok (.getfield 41, 3) := by decide +kernel
theorem dX8_follows_186 : decode cX8_follows 186 = .ok (.bipush 10, 2) := by decide +kernel
theorem dX8_follows_188 : decode cX8_follows 188 = .ok (.aload_n 0, 1) := by decide +kernel
theorem dX8_follows_189 : decode cX8_follows 189 = .ok (.getfield 20, 3) := by decide +kernel
theorem dX8_follows_192 : decode cX8_follows 192 = .ok (.iload_n 1, 1) := by decide +kernel
theorem dX8_follows_193 : decode cX8_follows 193 = .ok (.iaload, 1) := by decide +kernel
theorem dX8_follows_194 : decode cX8_follows 194 = .ok (.imul, 1) := by decide +kernel
theorem dX8_follows_195 : decode cX8_follows 195 = .ok (.aload_n 0, 1) := by decide +kernel
theorem dX8_follows_196 : decode cX8_follows 196 = .ok (.getfield 26, 3) := by decide +kernel
theorem dX8_follows_199 : decode cX8_follows 199 = .ok (.iload_n 1, 1) := by decide +kernel
theorem dX8_follows_200 : decode cX8_follows 200 = .ok (.iaload, 1) := by decide +kernel
theorem dX8_follows_201 : decode cX8_follows 201 = .ok (.iadd, 1) := by decide +kernel
theorem dX8_follows_202 : decode cX8_follows 202 = .ok (.iconst 0, 1) := by decide +kernel
theorem dX8_follows_203 : decode cX8_follows 203 = .ok (.iastore, 1) := by decide +kernel
theorem dX8_follows_204 : decode cX8_follows 204 = .ok (.aload_n 0, 1) := by decide +kernel
theorem dX8_follows_205 : decode cX8_follows 205 = .ok (.getfield 41, 3) := by decide +kernel
theorem dX8_follows_208 : decode cX8_follows 208 = .ok (.bipush 102, 2) := by decide +kernel
theorem dX8_follows_210 : decode cX8_follows 210 = .ok (.aload_n 0, 1) := by decide +kernel
theorem dX8_follows_211 : decode cX8_follows 211 = .ok (.getfield 20, 3) := by decide +kernel
theorem dX8_follows_214 : decode cX8_follows 214 = .ok (.iload_n 1, 1) := by decide +kernel
theorem dX8_follows_215 : decode cX8_follows 215 = .ok (.iaload, 1) := by decide +kernel
theorem dX8_follows_216 : decode cX8_follows 216 = .ok (.iadd, 1) := by decide +kernel
theorem dX8_follows_217 : decode cX8_follows 217 = .ok (.dup2, 1) := by decide +kernel
theorem dX8_follows_218 : decode cX8_follows 218 = .ok (.iaload, 1) := by decide +kernel
theorem dX8_follows_219 : decode cX8_follows 219 = .ok (.iconst 1, 1) := by decide +kernel
theorem dX8_follows_220 : decode cX8_follows 220 = .ok (.iadd, 1) := by decide +kernel
theorem dX8_follows_221 : decode cX8_follows 221 = .ok (.iastore, 1) := by decide +kernel
theorem dX8_follows_222 : decode cX8_follows 222 = .ok (.aload_n 0, 1) := by decide +kernel
theorem dX8_follows_223 : decode cX8_follows 223 = .ok (.iload_n 1, 1) := by decide +kernel
theorem dX8_follows_224 : decode cX8_follows 224 = .ok (.invokevirtual 144, 3) := by decide +kernel
theorem dX8_follows_227 : decode cX8_follows 227 = .ok (.iload_n 2, 1) := by decide +kernel
theorem dX8_follows_228 : decode cX8_follows 228 = .ok (.ireturn, 1) := by decide +kernel
theorem dX8_notes_0 : decode cX8_notes 0 = .ok (.iconst 0, 1) := by decide +kernel
theorem dX8_notes_1 : decode cX8_notes 1 = .ok (.istore_n 2, 1) := by decide +kernel
theorem dX8_notes_2 : decode cX8_notes 2 = .ok (.iload_n 2, 1) := by decide +kernel
theorem dX8_notes_3 : decode cX8_notes 3 = .ok (.iconst 2, 1) := by decide +kernel
theorem dX8_notes_4 : decode cX8_notes 4 = .ok (.if_icmp .ge 79, 3) := by decide +kernel
theorem dX8_notes_7 : decode cX8_notes 7 = .ok (.iconst 0, 1) := by decide +kernel
theorem dX8_notes_8 : decode cX8_notes 8 = .ok (.istore_n 3, 1) := by decide +kernel
theorem dX8_notes_9 : decode cX8_notes 9 = .ok (.iconst 0, 1) := by decide +kernel
theorem dX8_notes_10 : decode cX8_notes 10 = .ok (.istore 4, 2) := by decide +kernel
theorem dX8_notes_12 : decode cX8_notes 12 = .ok (.iload 4, 2) := by decide +kernel
theorem dX8_notes_14 : decode cX8_notes 14 = .ok (.bipush 10, 2) := by decide +kernel
theorem dX8_notes_16 : decode cX8_notes 16 = .ok (.if_icmp .ge 31, 3) := by decide +kernel
theorem dX8_notes_19 : decode cX8_notes 19 = .ok (.iload_n 3, 1) := by decide +kernel
theorem dX8_notes_20 : decode cX8_notes 20 = .ok (.aload_n 0, 1) := by decide +kernel
theorem dX8_notes_21 : decode cX8_notes 21 = .ok (.iload_n 2, 1) := by decide +kernel
theorem dX8_notes_22 : decode cX8_notes 22 = .ok (.iload 4, 2) := by decide +kernel
theorem dX8_notes_24 : decode cX8_notes 24 = .ok (.iconst 0, 1) := by decide +kernel
theorem dX8_notes_25 : decode cX8_notes 25 = .ok (.invokevirtual 85, 3) := by decide +kernel
theorem dX8_notes_28 : decode cX8_notes 28 = .ok (.ifCond .eq 10, 3) := by decide +kernel
theorem dX8_notes_31 : decode cX8_notes 31 = .ok (.iconst 1, 1) := by decide +kernel
theorem dX8_notes_32 : decode cX8_notes 32 = .ok (.iload 4, 2) := by decide +kernel
theorem dX8_notes_34 : decode cX8_notes 34 = .ok (.ishl, 1) := by decide +kernel
theorem dX8_notes_35 : decode cX8_notes 35 = .ok (.goto 4, 3) := by decide +kernel
theorem dX8_notes_38 : decode cX8_notes 38 = .ok (.iconst 0, 1) := by decide +kernel
theorem dX8_notes_39 : decode cX8_notes 39 = .ok (.ior, 1) := by decide +kernel
theorem dX8_notes_40 : decode cX8_notes 40 = .ok (.istore_n 3, 1) := by decide +kernel
theorem dX8_notes_41 : decode cX8_notes 41 = .ok (.iinc 4 1, 3) := by decide +kernel
theorem dX8_notes_44 : decode cX8_notes 44 = .ok (.goto (-32), 3) := by decide +kernel
theorem dX8_notes_47 : decode cX8_notes 47 = .ok (.aload_n 0, 1) := by decide +kernel
theorem dX8_notes_48 : decode cX8_notes 48 = .ok (.getfield 44, 3) := by decide +kernel
theorem dX8_notes_51 : decode cX8_notes 51 = .ok (.iconst 2, 1) := by decide +kernel
theorem dX8_notes_52 : decode cX8_notes 52 = .ok (.iload_n 1, 1) := by decide +kernel
theorem dX8_notes_53 : decode cX8_notes 53 = .ok (.imul, 1) := by decide +kernel
theorem dX8_notes_54 : decode cX8_notes 54 = .ok (.iload_n 2, 1) := by decide +kernel
theorem dX8_notes_55 : decode cX8_notes 55 = .ok (.iadd, 1) := by decide +kernel
theorem dX8_notes_56 : decode cX8_notes 56 = .ok (.iload_n 3, 1) := by decide +kernel
theorem dX8_notes_57 : decode cX8_notes 57 = .ok (.iastore, 1) := by decide +kernel
theorem dX8_notes_58 : decode cX8_notes 58 = .ok (.aload_n 0, 1) := by decide +kernel
theorem dX8_notes_59 : decode cX8_notes 59 = .ok (.getfield 47, 3) := by decide +kernel
theorem dX8_notes_62 : decode cX8_notes 62 = .ok (.iconst 2, 1) := by decide +kernel
theorem dX8_notes_63 : decode cX8_notes 63 = .ok (.iload_n 1, 1) := by decide +kernel
theorem dX8_notes_64 : decode cX8_notes 64 = .ok (.imul, 1) := by decide +kernel
theorem dX8_notes_65 : decode cX8_notes 65 = .ok (.iload_n 2, 1) := by decide +kernel
theorem dX8_notes_66 : decode cX8_notes 66 = .ok (.iadd, 1) := by decide +kernel
theorem dX8_notes_67 : decode cX8_notes 67 = .ok (.aload_n 0, 1) := by decide +kernel
theorem dX8_notes_68 : decode cX8_notes 68 = .ok (.getfield 41, 3) := by decide +kernel
theorem dX8_notes_71 : decode cX8_notes 71 = .ok (.bipush 104, 2) := by decide +kernel
theorem dX8_notes_73 : decode cX8_notes 73 = .ok (.iload_n 2, 1) := by decide +kernel
theorem dX8_notes_74 : decode cX8_notes 74 = .ok (.iadd, 1) := by decide +kernel
theorem dX8_notes_75 : decode cX8_notes 75 = .ok (.iaload, 1) := by decide +kernel
theorem dX8_notes_76 : decode cX8_notes 76 = .ok (.iastore, 1) := by decide +kernel
theorem dX8_notes_77 : decode cX8_notes 77 = .ok (.iinc 2 1, 3) := by decide +kernel
theorem dX8_notes_80 : decode cX8_notes 80 = .ok (.goto (-78), 3) := by decide +kernel
theorem dX8_notes_83 : decode cX8_notes 83 = .ok (.return_, 1) := by decide +kernel
theorem dX8_ended_0 : decode cX8_ended 0 = .ok (.aload_n 0, 1) := by decide +kernel
theorem dX8_ended_1 : decode cX8_ended 1 = .ok (.getfield 147, 3) := by decide +kernel
theorem dX8_ended_4 : decode cX8_ended 4 = .ok (.ifCond .eq 12, 3) := by decide +kernel
theorem dX8_ended_7 : decode cX8_ended 7 = .ok (.aload_n 0, 1) := by decide +kernel
theorem dX8_ended_8 : decode cX8_ended 8 = .ok (.getfield 151, 3) := by decide +kernel
theorem dX8_ended_11 : decode cX8_ended 11 = .ok (.iconst 1, 1) := by decide +kernel
theorem dX8_ended_12 : decode cX8_ended 12 = .ok (.isub, 1) := by decide +kernel
theorem dX8_ended_13 : decode cX8_ended 13 = .ok (.goto 7, 3) := by decide +kernel
theorem dX8_ended_16 : decode cX8_ended 16 = .ok (.aload_n 0, 1) := by decide +kernel
theorem dX8_ended_17 : decode cX8_ended 17 = .ok (.getfield 151, 3) := by decide +kernel
theorem dX8_ended_20 : decode cX8_ended 20 = .ok (.ireturn, 1) := by decide +kernel
theorem dX8_plays_0 : decode cX8_plays 0 = .ok (.aload_n 0, 1) := by decide +kernel
theorem dX8_plays_1 : decode cX8_plays 1 = .ok (.invokevirtual 154, 3) := by decide +kernel
theorem dX8_plays_4 : decode cX8_plays 4 = .ok (.iconst 0, 1) := by decide +kernel
theorem dX8_plays_5 : decode cX8_plays 5 = .ok (.istore_n 1, 1) := by decide +kernel
theorem dX8_plays_6 : decode cX8_plays 6 = .ok (.iload_n 1, 1) := by decide +kernel
theorem dX8_plays_7 : decode cX8_plays 7 = .ok (.aload_n 0, 1) := by decide +kernel
theorem dX8_plays_8 : decode cX8_plays 8 = .ok (.invokevirtual 157, 3) := by decide +kernel
theorem dX8_plays_11 : decode cX8_plays 11 = .ok (.if_icmp .ge 19, 3) := by decide +kernel
theorem dX8_plays_14 : decode cX8_plays 14 = .ok (.aload_n 0, 1) := by decide +kernel
theorem dX8_plays_15 : decode cX8_plays 15 = .ok (.iload_n 1, 1) := by decide +kernel
theorem dX8_plays_16 : decode cX8_plays 16 = .ok (.invokevirtual 160, 3) := by decide +kernel
theorem dX8_plays_19 : decode cX8_plays 19 = .ok (.ifCond .ne 5, 3) := by decide +kernel
theorem dX8_plays_22 : decode cX8_plays 22 = .ok (.iload_n 1, 1) := by decide +kernel
theorem dX8_plays_23 : decode cX8_plays 23 = .ok (.ireturn, 1) := by decide +kernel
theorem dX8_plays_24 : decode cX8_plays 24 = .ok (.iinc 1 1, 3) := by decide +kernel
theorem dX8_plays_27 : decode cX8_plays 27 = .ok (.goto (-21), 3) := by decide +kernel
theorem dX8_plays_30 : decode cX8_plays 30 = .ok (.iconst (-1), 1) := by decide +kernel
theorem dX8_plays_31 : decode cX8_plays 31 = .ok (.ireturn, 1) := by decide +kernel
theorem dX8_begin_0 : decode cX8_begin 0 = .ok (.iload_n 1, 1) := by decide +kernel
theorem dX8_begin_1 : decode cX8_begin 1 = .ok (.invokestatic 163, 3) := by decide +kernel
theorem dX8_begin_4 : decode cX8_begin 4 = .ok (.ifCond .eq 14, 3) := by decide +kernel
theorem dX8_begin_7 : decode cX8_begin 7 = .ok (.iload_n 2, 1) := by decide +kernel
theorem dX8_begin_8 : decode cX8_begin 8 = .ok (.invokestatic 163, 3) := by decide +kernel
theorem dX8_begin_11 : decode cX8_begin 11 = .ok (.ifCond .eq 7, 3) := by decide +kernel
theorem dX8_begin_14 : decode cX8_begin 14 = .ok (.iconst 1, 1) := by decide +kernel
theorem dX8_begin_15 : decode cX8_begin 15 = .ok (.goto 4, 3) := by decide +kernel
theorem dX8_begin_18 : decode cX8_begin 18 = .ok (.iconst 0, 1) := by decide +kernel
theorem dX8_begin_19 : decode cX8_begin 19 = .ok (.istore 4, 2) := by decide +kernel
theorem dX8_begin_21 : decode cX8_begin 21 = .ok (.aload_n 0, 1) := by decide +kernel
theorem dX8_begin_22 : decode cX8_begin 22 = .ok (.iload 4, 2) := by decide +kernel
theorem dX8_begin_24 : decode cX8_begin 24 = .ok (.ifCond .ne 7, 3) := by decide +kernel
theorem dX8_begin_27 : decode cX8_begin 27 = .ok (.iconst 1, 1) := by decide +kernel
theorem dX8_begin_28 : decode cX8_begin 28 = .ok (.goto 37, 3) := by decide +kernel
theorem dX8_begin_31 : decode cX8_begin 31 = .ok (.iload_n 1, 1) := by decide +kernel
theorem dX8_begin_32 : decode cX8_begin 32 = .ok (.iload_n 2, 1) := by decide +kernel
theorem dX8_begin_33 : decode cX8_begin 33 = .ok (.if_icmp .eq 16, 3) := by decide +kernel
theorem dX8_begin_36 : decode cX8_begin 36 = .ok (.iload_n 3, 1) := by decide +kernel
theorem dX8_begin_37 : decode cX8_begin 37 = .ok (.sipush 300, 3) := by decide +kernel
theorem dX8_begin_40 : decode cX8_begin 40 = .ok (.sipush 24000, 3) := by decide +kernel
theorem dX8_begin_43 : decode cX8_begin 43 = .ok (.invokestatic 81, 3) := by decide +kernel
theorem dX8_begin_46 : decode cX8_begin 46 = .ok (.ifCond .ne 7, 3) := by decide +kernel
theorem dX8_begin_49 : decode cX8_begin 49 = .ok (.iconst 2, 1) := by decide +kernel
theorem dX8_begin_50 : decode cX8_begin 50 = .ok (.goto 15, 3) := by decide +kernel
theorem dX8_begin_53 : decode cX8_begin 53 = .ok (.aload_n 0, 1) := by decide +kernel
theorem dX8_begin_54 : decode cX8_begin 54 = .ok (.getfield 166, 3) := by decide +kernel
theorem dX8_begin_57 : decode cX8_begin 57 = .ok (.ifCond .eq 7, 3) := by decide +kernel
theorem dX8_begin_60 : decode cX8_begin 60 = .ok (.iconst 3, 1) := by decide +kernel
theorem dX8_begin_61 : decode cX8_begin 61 = .ok (.goto 4, 3) := by decide +kernel
theorem dX8_begin_64 : decode cX8_begin 64 = .ok (.iconst 0, 1) := by decide +kernel
theorem dX8_begin_65 : decode cX8_begin 65 = .ok (.invokevirtual 169, 3) := by decide +kernel
theorem dX8_begin_68 : decode cX8_begin 68 = .ok (.ifCond .ne 5, 3) := by decide +kernel
theorem dX8_begin_71 : decode cX8_begin 71 = .ok (.iconst 0, 1) := by decide +kernel
theorem dX8_begin_72 : decode cX8_begin 72 = .ok (.ireturn, 1) := by decide +kernel
theorem dX8_begin_73 : decode cX8_begin 73 = .ok (.aload_n 0, 1) := by decide +kernel
theorem dX8_begin_74 : decode cX8_begin 74 = .ok (.iconst 1, 1) := by decide +kernel
theorem dX8_begin_75 : decode cX8_begin 75 = .ok (.putfield 166, 3) := by decide +kernel
theorem dX8_begin_78 : decode cX8_begin 78 = .ok (.aload_n 0, 1) := by decide +kernel
theorem dX8_begin_79 : decode cX8_begin 79 = .ok (.iconst 0, 1) := by decide +kernel
theorem dX8_begin_80 : decode cX8_begin 80 = .ok (.putfield 147, 3) := by decide +kernel
theorem dX8_begin_83 : decode cX8_begin 83 = .ok (.aload_n 0, 1) := by decide +kernel
theorem dX8_begin_84 : decode cX8_begin 84 = .ok (.getfield 7, 3) := by decide +kernel
theorem dX8_begin_87 : decode cX8_begin 87 = .ok (.iconst 0, 1) := by decide +kernel
theorem dX8_begin_88 : decode cX8_begin 88 = .ok (.iload_n 1, 1) := by decide +kernel
theorem dX8_begin_89 : decode cX8_begin 89 = .ok (.iastore, 1) := by decide +kernel
theorem dX8_begin_90 : decode cX8_begin 90 = .ok (.aload_n 0, 1) := by decide +kernel
theorem dX8_begin_91 : decode cX8_begin 91 = .ok (.getfield 7, 3) := by decide +kernel
theorem dX8_begin_94 : decode cX8_begin 94 = .ok (.iconst 1, 1) := by decide +kernel
theorem dX8_begin_95 : decode cX8_begin 95 = .ok (.iload_n 2, 1) := by decide +kernel
theorem dX8_begin_96 : decode cX8_begin 96 = .ok (.iastore, 1) := by decide +kernel
theorem dX8_begin_97 : decode cX8_begin 97 = .ok (.aload_n 0, 1) := by decide +kernel
theorem dX8_begin_98 : decode cX8_begin 98 = .ok (.iload_n 3, 1) := by decide +kernel
theorem dX8_begin_99 : decode cX8_begin 99 = .ok (.putfield 118, 3) := by decide +kernel
theorem dX8_begin_102 : decode cX8_begin 102 = .ok (.aload_n 0, 1) := by decide +kernel
theorem dX8_begin_103 : decode cX8_begin 103 = .ok (.iconst 0, 1) := by decide +kernel
theorem dX8_begin_104 : decode cX8_begin 104 = .ok (.putfield 151, 3) := by decide +kernel
theorem dX8_begin_107 : decode cX8_begin 107 = .ok (.aload_n 0, 1) := by decide +kernel
theorem dX8_begin_108 : decode cX8_begin 108 = .ok (.getfield 13, 3) := by decide +kernel
theorem dX8_begin_111 : decode cX8_begin 111 = .ok (.iconst 0, 1) := by decide +kernel
theorem dX8_begin_112 : decode cX8_begin 112 = .ok (.iconst 0, 1) := by decide +kernel
theorem dX8_begin_113 : decode cX8_begin 113 = .ok (.bastore, 1) := by decide +kernel
theorem dX8_begin_114 : decode cX8_begin 114 = .ok (.aload_n 0, 1) := by decide +kernel
theorem dX8_begin_115 : decode cX8_begin 115 = .ok (.getfield 13, 3) := by decide +kernel
theorem dX8_begin_118 : decode cX8_begin 118 = .ok (.iconst 1, 1) := by decide +kernel
theorem dX8_begin_119 : decode cX8_begin 119 = .ok (.iconst 0, 1) := by decide +kernel
theorem dX8_begin_120 : decode cX8_begin 120 = .ok (.bastore, 1) := by decide +kernel
theorem dX8_begin_121 : decode cX8_begin 121 = .ok (.aload_n 0, 1) := by decide +kernel
theorem dX8_begin_122 : decode cX8_begin 122 = .ok (.invokevirtual 154, 3) := by decide +kernel
theorem dX8_begin_125 : decode cX8_begin 125 = .ok (.aload_n 0, 1) := by decide +kernel
theorem dX8_begin_126 : decode cX8_begin 126 = .ok (.dup, 1) := by decide +kernel
theorem dX8_begin_127 : decode cX8_begin 127 = .ok (.getfield 172, 3) := by decide +kernel
theorem dX8_begin_130 : decode cX8_begin 130 = .ok (.iconst 1, 1) := by decide +kernel
theorem dX8_begin_131 : decode cX8_begin 131 = .ok (.iadd, 1) := by decide +kernel
theorem dX8_begin_132 : decode cX8_begin 132 = .ok (.putfield 172, 3) := by decide +kernel
theorem dX8_begin_135 : decode cX8_begin 135 = .ok (.aload_n 0, 1) := by decide +kernel
theorem dX8_begin_136 : decode cX8_begin 136 = .ok (.getfield 172, 3) := by decide +kernel
theorem dX8_begin_139 : decode cX8_begin 139 = .ok (.ireturn, 1) := by decide +kernel
theorem dX8_isBetween_0 : decode cX8_isBetween 0 = .ok (.aload_n 0, 1) := by decide +kernel
theorem dX8_isBetween_1 : decode cX8_isBetween 1 = .ok (.getfield 166, 3) := by decide +kernel
theorem dX8_isBetween_4 : decode cX8_isBetween 4 = .ok (.ifCond .eq 23, 3) := by decide +kernel
theorem dX8_isBetween_7 : decode cX8_isBetween 7 = .ok (.aload_n 0, 1) := by decide +kernel
theorem dX8_isBetween_8 : decode cX8_isBetween 8 = .ok (.getfield 147, 3) := by decide +kernel
theorem dX8_isBetween_11 : decode cX8_isBetween 11 = .ok (.ifCond .ne 16, 3) := by decide +kernel
theorem dX8_isBetween_14 : decode cX8_isBetween 14 = .ok (.aload_n 0, 1) := by decide +kernel
theorem dX8_isBetween_15 : decode cX8_isBetween 15 = .ok (.getfield 151, 3) := by decide +kernel
theorem dX8_isBetween_18 : decode cX8_isBetween 18 = .ok (.bipush 60, 2) := by decide +kernel
theorem dX8_isBetween_20 : decode cX8_isBetween 20 = .ok (.if_icmp .ge 7, 3) := by decide +kernel
theorem dX8_isBetween_23 : decode cX8_isBetween 23 = .ok (.iconst 1, 1) := by decide +kernel
theorem dX8_isBetween_24 : decode cX8_isBetween 24 = .ok (.goto 4, 3) := by decide +kernel
theorem dX8_isBetween_27 : decode cX8_isBetween 27 = .ok (.iconst 0, 1) := by decide +kernel
theorem dX8_isBetween_28 : decode cX8_isBetween 28 = .ok (.ireturn, 1) := by decide +kernel
theorem dX8_adds_0 : decode cX8_adds 0 = .ok (.aload_n 0, 1) := by decide +kernel
theorem dX8_adds_1 : decode cX8_adds 1 = .ok (.getfield 17, 3) := by decide +kernel
theorem dX8_adds_4 : decode cX8_adds 4 = .ok (.aload_n 0, 1) := by decide +kernel
theorem dX8_adds_5 : decode cX8_adds 5 = .ok (.getfield 151, 3) := by decide +kernel
theorem dX8_adds_8 : decode cX8_adds 8 = .ok (.iload_n 1, 1) := by decide +kernel
theorem dX8_adds_9 : decode cX8_adds 9 = .ok (.iastore, 1) := by decide +kernel
theorem dX8_adds_10 : decode cX8_adds 10 = .ok (.aload_n 0, 1) := by decide +kernel
theorem dX8_adds_11 : decode cX8_adds 11 = .ok (.getfield 20, 3) := by decide +kernel
theorem dX8_adds_14 : decode cX8_adds 14 = .ok (.aload_n 0, 1) := by decide +kernel
theorem dX8_adds_15 : decode cX8_adds 15 = .ok (.getfield 151, 3) := by decide +kernel
theorem dX8_adds_18 : decode cX8_adds 18 = .ok (.iload_n 2, 1) := by decide +kernel
theorem dX8_adds_19 : decode cX8_adds 19 = .ok (.iastore, 1) := by decide +kernel
theorem dX8_adds_20 : decode cX8_adds 20 = .ok (.aload_n 0, 1) := by decide +kernel
theorem dX8_adds_21 : decode cX8_adds 21 = .ok (.getfield 23, 3) := by decide +kernel
theorem dX8_adds_24 : decode cX8_adds 24 = .ok (.aload_n 0, 1) := by decide +kernel
theorem dX8_adds_25 : decode cX8_adds 25 = .ok (.getfield 151, 3) := by decide +kernel
theorem dX8_adds_28 : decode cX8_adds 28 = .ok (.iload_n 3, 1) := by decide +kernel
theorem dX8_adds_29 : decode cX8_adds 29 = .ok (.iastore, 1) := by decide +kernel
theorem dX8_adds_30 : decode cX8_adds 30 = .ok (.aload_n 0, 1) := by decide +kernel
theorem dX8_adds_31 : decode cX8_adds 31 = .ok (.getfield 26, 3) := by decide +kernel
theorem dX8_adds_34 : decode cX8_adds 34 = .ok (.aload_n 0, 1) := by decide +kernel
theorem dX8_adds_35 : decode cX8_adds 35 = .ok (.getfield 151, 3) := by decide +kernel
theorem dX8_adds_38 : decode cX8_adds 38 = .ok (.iload 4, 2) := by decide +kernel
theorem dX8_adds_40 : decode cX8_adds 40 = .ok (.iastore, 1) := by decide +kernel
theorem dX8_adds_41 : decode cX8_adds 41 = .ok (.aload_n 0, 1) := by decide +kernel
theorem dX8_adds_42 : decode cX8_adds 42 = .ok (.getfield 29, 3) := by decide +kernel
theorem dX8_adds_45 : decode cX8_adds 45 = .ok (.aload_n 0, 1) := by decide +kernel
theorem dX8_adds_46 : decode cX8_adds 46 = .ok (.getfield 151, 3) := by decide +kernel
theorem dX8_adds_49 : decode cX8_adds 49 = .ok (.iconst 0, 1) := by decide +kernel
theorem dX8_adds_50 : decode cX8_adds 50 = .ok (.iastore, 1) := by decide +kernel
theorem dX8_adds_51 : decode cX8_adds 51 = .ok (.aload_n 0, 1) := by decide +kernel
theorem dX8_adds_52 : decode cX8_adds 52 = .ok (.dup, 1) := by decide +kernel
theorem dX8_adds_53 : decode cX8_adds 53 = .ok (.getfield 151, 3) := by decide +kernel
theorem dX8_adds_56 : decode cX8_adds 56 = .ok (.iconst 1, 1) := by decide +kernel
theorem dX8_adds_57 : decode cX8_adds 57 = .ok (.iadd, 1) := by decide +kernel
theorem dX8_adds_58 : decode cX8_adds 58 = .ok (.putfield 151, 3) := by decide +kernel
theorem dX8_adds_61 : decode cX8_adds 61 = .ok (.aload_n 0, 1) := by decide +kernel
theorem dX8_adds_62 : decode cX8_adds 62 = .ok (.getfield 151, 3) := by decide +kernel
theorem dX8_adds_65 : decode cX8_adds 65 = .ok (.iconst 1, 1) := by decide +kernel
theorem dX8_adds_66 : decode cX8_adds 66 = .ok (.isub, 1) := by decide +kernel
theorem dX8_adds_67 : decode cX8_adds 67 = .ok (.ireturn, 1) := by decide +kernel
theorem dX8_raid_0 : decode cX8_raid 0 = .ok (.iload_n 1, 1) := by decide +kernel
theorem dX8_raid_1 : decode cX8_raid 1 = .ok (.invokestatic 175, 3) := by decide +kernel
theorem dX8_raid_4 : decode cX8_raid 4 = .ok (.istore_n 2, 1) := by decide +kernel
theorem dX8_raid_5 : decode cX8_raid 5 = .ok (.aload_n 0, 1) := by decide +kernel
theorem dX8_raid_6 : decode cX8_raid 6 = .ok (.iload_n 2, 1) := by decide +kernel
theorem dX8_raid_7 : decode cX8_raid 7 = .ok (.ifCond .ne 7, 3) := by decide +kernel
theorem dX8_raid_10 : decode cX8_raid 10 = .ok (.iconst 1, 1) := by decide +kernel
theorem dX8_raid_11 : decode cX8_raid 11 = .ok (.goto 23, 3) := by decide +kernel
theorem dX8_raid_14 : decode cX8_raid 14 = .ok (.aload_n 0, 1) := by decide +kernel
theorem dX8_raid_15 : decode cX8_raid 15 = .ok (.invokevirtual 178, 3) := by decide +kernel
theorem dX8_raid_18 : decode cX8_raid 18 = .ok (.ifCond .eq 11, 3) := by decide +kernel
theorem dX8_raid_21 : decode cX8_raid 21 = .ok (.aload_n 0, 1) := by decide +kernel
theorem dX8_raid_22 : decode cX8_raid 22 = .ok (.iload_n 1, 1) := by decide +kernel
theorem dX8_raid_23 : decode cX8_raid 23 = .ok (.invokevirtual 124, 3) := by decide +kernel
theorem dX8_raid_26 : decode cX8_raid 26 = .ok (.ifCond .ne 7, 3) := by decide +kernel
theorem dX8_raid_29 : decode cX8_raid 29 = .ok (.iconst 2, 1) := by decide +kernel
theorem dX8_raid_30 : decode cX8_raid 30 = .ok (.goto 4, 3) := by decide +kernel
theorem dX8_raid_33 : decode cX8_raid 33 = .ok (.iconst 0, 1) := by decide +kernel
theorem dX8_raid_34 : decode cX8_raid 34 = .ok (.invokevirtual 169, 3) := by decide +kernel
theorem dX8_raid_37 : decode cX8_raid 37 = .ok (.ifCond .ne 5, 3) := by decide +kernel
theorem dX8_raid_40 : decode cX8_raid 40 = .ok (.iconst 0, 1) := by decide +kernel
theorem dX8_raid_41 : decode cX8_raid 41 = .ok (.ireturn, 1) := by decide +kernel
theorem dX8_raid_42 : decode cX8_raid 42 = .ok (.aload_n 0, 1) := by decide +kernel
theorem dX8_raid_43 : decode cX8_raid 43 = .ok (.iconst 1, 1) := by decide +kernel
theorem dX8_raid_44 : decode cX8_raid 44 = .ok (.putfield 147, 3) := by decide +kernel
theorem dX8_raid_47 : decode cX8_raid 47 = .ok (.aload_n 0, 1) := by decide +kernel
theorem dX8_raid_48 : decode cX8_raid 48 = .ok (.iconst 0, 1) := by decide +kernel
theorem dX8_raid_49 : decode cX8_raid 49 = .ok (.iload_n 1, 1) := by decide +kernel
theorem dX8_raid_50 : decode cX8_raid 50 = .ok (.iconst 0, 1) := by decide +kernel
theorem dX8_raid_51 : decode cX8_raid 51 = .ok (.iconst 0, 1) := by decide +kernel
theorem dX8_raid_52 : decode cX8_raid 52 = .ok (.invokevirtual 182, 3) := by decide +kernel
theorem dX8_raid_55 : decode cX8_raid 55 = .ok (.ireturn, 1) := by decide +kernel
theorem dX8_isWho_0 : decode cX8_isWho 0 = .ok (.iload_n 0, 1) := by decide +kernel
theorem dX8_isWho_1 : decode cX8_isWho 1 = .ok (.ifCond .ne 10, 3) := by decide +kernel
theorem dX8_isWho_4 : decode cX8_isWho 4 = .ok (.iload_n 1, 1) := by decide +kernel
theorem dX8_isWho_5 : decode cX8_isWho 5 = .ok (.invokestatic 175, 3) := by decide +kernel
theorem dX8_isWho_8 : decode cX8_isWho 8 = .ok (.goto 13, 3) := by decide +kernel
theorem dX8_isWho_11 : decode cX8_isWho 11 = .ok (.iload_n 1, 1) := by decide +kernel
theorem dX8_isWho_12 : decode cX8_isWho 12 = .ok (.iconst (-1), 1) := by decide +kernel
theorem dX8_isWho_13 : decode cX8_isWho 13 = .ok (.if_icmp .ne 7, 3) := by decide +kernel
theorem dX8_isWho_16 : decode cX8_isWho 16 = .ok (.iconst 1, 1) := by decide +kernel
theorem dX8_isWho_17 : decode cX8_isWho 17 = .ok (.goto 4, 3) := by decide +kernel
theorem dX8_isWho_20 : decode cX8_isWho 20 = .ok (.iconst 0, 1) := by decide +kernel
theorem dX8_isWho_21 : decode cX8_isWho 21 = .ok (.ireturn, 1) := by decide +kernel
theorem dX8_canTell_0 : decode cX8_canTell 0 = .ok (.aload_n 0, 1) := by decide +kernel
theorem dX8_canTell_1 : decode cX8_canTell 1 = .ok (.getfield 166, 3) := by decide +kernel
theorem dX8_canTell_4 : decode cX8_canTell 4 = .ok (.ifCond .eq 10, 3) := by decide +kernel
theorem dX8_canTell_7 : decode cX8_canTell 7 = .ok (.aload_n 0, 1) := by decide +kernel
theorem dX8_canTell_8 : decode cX8_canTell 8 = .ok (.getfield 147, 3) := by decide +kernel
theorem dX8_canTell_11 : decode cX8_canTell 11 = .ok (.ifCond .ne 5, 3) := by decide +kernel
theorem dX8_canTell_14 : decode cX8_canTell 14 = .ok (.iconst 0, 1) := by decide +kernel
theorem dX8_canTell_15 : decode cX8_canTell 15 = .ok (.ireturn, 1) := by decide +kernel
theorem dX8_canTell_16 : decode cX8_canTell 16 = .ok (.aload_n 0, 1) := by decide +kernel
theorem dX8_canTell_17 : decode cX8_canTell 17 = .ok (.getfield 151, 3) := by decide +kernel
theorem dX8_canTell_20 : decode cX8_canTell 20 = .ok (.iconst 1, 1) := by decide +kernel
theorem dX8_canTell_21 : decode cX8_canTell 21 = .ok (.isub, 1) := by decide +kernel
theorem dX8_canTell_22 : decode cX8_canTell 22 = .ok (.istore 4, 2) := by decide +kernel
theorem dX8_canTell_24 : decode cX8_canTell 24 = .ok (.bipush 14, 2) := by decide +kernel
theorem dX8_canTell_26 : decode cX8_canTell 26 = .ok (.iload 4, 2) := by decide +kernel
theorem dX8_canTell_28 : decode cX8_canTell 28 = .ok (.imul, 1) := by decide +kernel
theorem dX8_canTell_29 : decode cX8_canTell 29 = .ok (.aload_n 0, 1) := by decide +kernel
theorem dX8_canTell_30 : decode cX8_canTell 30 = .ok (.getfield 29, 3) := by decide +kernel
theorem dX8_canTell_33 : decode cX8_canTell 33 = .ok (.iload 4, 2) := by decide +kernel
theorem dX8_canTell_35 : decode cX8_canTell 35 = .ok (.iaload, 1) := by decide +kernel
theorem dX8_canTell_36 : decode cX8_canTell 36 = .ok (.iadd, 1) := by decide +kernel
theorem dX8_canTell_37 : decode cX8_canTell 37 = .ok (.istore 5, 2) := by decide +kernel
theorem dX8_canTell_39 : decode cX8_canTell 39 = .ok (.aload_n 0, 1) := by decide +kernel
theorem dX8_canTell_40 : decode cX8_canTell 40 = .ok (.getfield 32, 3) := by decide +kernel
theorem dX8_canTell_43 : decode cX8_canTell 43 = .ok (.iload 5, 2) := by decide +kernel
theorem dX8_canTell_45 : decode cX8_canTell 45 = .ok (.iload_n 1, 1) := by decide +kernel
theorem dX8_canTell_46 : decode cX8_canTell 46 = .ok (.iastore, 1) := by decide +kernel
theorem dX8_canTell_47 : decode cX8_canTell 47 = .ok (.aload_n 0, 1) := by decide +kernel
theorem dX8_canTell_48 : decode cX8_canTell 48 = .ok (.getfield 35, 3) := by decide +kernel
theorem dX8_canTell_51 : decode cX8_canTell 51 = .ok (.iload 5, 2) := by decide +kernel
theorem dX8_canTell_53 : decode cX8_canTell 53 = .ok (.iload_n 2, 1) := by decide +kernel
theorem dX8_canTell_54 : decode cX8_canTell 54 = .ok (.iastore, 1) := by decide +kernel
theorem dX8_canTell_55 : decode cX8_canTell 55 = .ok (.aload_n 0, 1) := by decide +kernel
theorem dX8_canTell_56 : decode cX8_canTell 56 = .ok (.getfield 38, 3) := by decide +kernel
theorem dX8_canTell_59 : decode cX8_canTell 59 = .ok (.iload 5, 2) := by decide +kernel
theorem dX8_canTell_61 : decode cX8_canTell 61 = .ok (.iload_n 3, 1) := by decide +kernel
theorem dX8_canTell_62 : decode cX8_canTell 62 = .ok (.iastore, 1) := by decide +kernel
theorem dX8_canTell_63 : decode cX8_canTell 63 = .ok (.aload_n 0, 1) := by decide +kernel
theorem dX8_canTell_64 : decode cX8_canTell 64 = .ok (.getfield 29, 3) := by decide +kernel
theorem dX8_canTell_67 : decode cX8_canTell 67 = .ok (.iload 4, 2) := by decide +kernel
theorem dX8_canTell_69 : decode cX8_canTell 69 = .ok (.iaload, 1) := by decide +kernel
theorem dX8_canTell_70 : decode cX8_canTell 70 = .ok (.ifCond .eq 16, 3) := by decide +kernel
theorem dX8_canTell_73 : decode cX8_canTell 73 = .ok (.aload_n 0, 1) := by decide +kernel
theorem dX8_canTell_74 : decode cX8_canTell 74 = .ok (.getfield 38, 3) := by decide +kernel
theorem dX8_canTell_77 : decode cX8_canTell 77 = .ok (.iload 5, 2) := by decide +kernel
theorem dX8_canTell_79 : decode cX8_canTell 79 = .ok (.iconst 1, 1) := by decide +kernel
theorem dX8_canTell_80 : decode cX8_canTell 80 = .ok (.isub, 1) := by decide +kernel
theorem dX8_canTell_81 : decode cX8_canTell 81 = .ok (.iaload, 1) := by decide +kernel
theorem dX8_canTell_82 : decode cX8_canTell 82 = .ok (.iload_n 3, 1) := by decide +kernel
theorem dX8_canTell_83 : decode cX8_canTell 83 = .ok (.if_icmp .ge 23, 3) := by decide +kernel
theorem dX8_canTell_86 : decode cX8_canTell 86 = .ok (.aload_n 0, 1) := by decide +kernel
theorem dX8_canTell_87 : decode cX8_canTell 87 = .ok (.iload 4, 2) := by decide +kernel
theorem dX8_canTell_89 : decode cX8_canTell 89 = .ok (.aload_n 0, 1) := by decide +kernel
theorem dX8_canTell_90 : decode cX8_canTell 90 = .ok (.getfield 29, 3) := by decide +kernel
theorem dX8_canTell_93 : decode cX8_canTell 93 = .ok (.iload 4, 2) := by decide +kernel
theorem dX8_canTell_95 : decode cX8_canTell 95 = .ok (.iaload, 1) := by decide +kernel
theorem dX8_canTell_96 : decode cX8_canTell 96 = .ok (.invokevirtual 128, 3) := by decide +kernel
theorem dX8_canTell_99 : decode cX8_canTell 99 = .ok (.ifCond .eq 7, 3) := by decide +kernel
theorem dX8_canTell_102 : decode cX8_canTell 102 = .ok (.iconst 1, 1) := by decide +kernel
theorem dX8_canTell_103 : decode cX8_canTell 103 = .ok (.goto 4, 3) := by decide +kernel
theorem dX8_canTell_106 : decode cX8_canTell 106 = .ok (.iconst 0, 1) := by decide +kernel
theorem dX8_canTell_107 : decode cX8_canTell 107 = .ok (.ireturn, 1) := by decide +kernel
theorem dX8_step_0 : decode cX8_step 0 = .ok (.iload_n 1, 1) := by decide +kernel
theorem dX8_step_1 : decode cX8_step 1 = .ok (.iconst 0, 1) := by decide +kernel
theorem dX8_step_2 : decode cX8_step 2 = .ok (.bipush 6, 2) := by decide +kernel
theorem dX8_step_4 : decode cX8_step 4 = .ok (.invokestatic 81, 3) := by decide +kernel
theorem dX8_step_7 : decode cX8_step 7 = .ok (.ifCond .eq 26, 3) := by decide +kernel
theorem dX8_step_10 : decode cX8_step 10 = .ok (.iload_n 1, 1) := by decide +kernel
theorem dX8_step_11 : decode cX8_step 11 = .ok (.iload_n 2, 1) := by decide +kernel
theorem dX8_step_12 : decode cX8_step 12 = .ok (.invokestatic 186, 3) := by decide +kernel
theorem dX8_step_15 : decode cX8_step 15 = .ok (.ifCond .eq 18, 3) := by decide +kernel
theorem dX8_step_18 : decode cX8_step 18 = .ok (.iload_n 3, 1) := by decide +kernel
theorem dX8_step_19 : decode cX8_step 19 = .ok (.iconst 1, 1) := by decide +kernel
theorem dX8_step_20 : decode cX8_step 20 = .ok (.sipush 300, 3) := by decide +kernel
theorem dX8_step_23 : decode cX8_step 23 = .ok (.invokestatic 81, 3) := by decide +kernel
theorem dX8_step_26 : decode cX8_step 26 = .ok (.ifCond .eq 7, 3) := by decide +kernel
theorem dX8_step_29 : decode cX8_step 29 = .ok (.iconst 1, 1) := by decide +kernel
theorem dX8_step_30 : decode cX8_step 30 = .ok (.goto 4, 3) := by decide +kernel
theorem dX8_step_33 : decode cX8_step 33 = .ok (.iconst 0, 1) := by decide +kernel
theorem dX8_step_34 : decode cX8_step 34 = .ok (.istore 4, 2) := by decide +kernel
theorem dX8_step_36 : decode cX8_step 36 = .ok (.aload_n 0, 1) := by decide +kernel
theorem dX8_step_37 : decode cX8_step 37 = .ok (.iload 4, 2) := by decide +kernel
theorem dX8_step_39 : decode cX8_step 39 = .ok (.ifCond .ne 7, 3) := by decide +kernel
theorem dX8_step_42 : decode cX8_step 42 = .ok (.iconst 1, 1) := by decide +kernel
theorem dX8_step_43 : decode cX8_step 43 = .ok (.goto 18, 3) := by decide +kernel
theorem dX8_step_46 : decode cX8_step 46 = .ok (.aload_n 0, 1) := by decide +kernel
theorem dX8_step_47 : decode cX8_step 47 = .ok (.iload_n 1, 1) := by decide +kernel
theorem dX8_step_48 : decode cX8_step 48 = .ok (.iload_n 2, 1) := by decide +kernel
theorem dX8_step_49 : decode cX8_step 49 = .ok (.iload_n 3, 1) := by decide +kernel
theorem dX8_step_50 : decode cX8_step 50 = .ok (.invokevirtual 189, 3) := by decide +kernel
theorem dX8_step_53 : decode cX8_step 53 = .ok (.ifCond .eq 7, 3) := by decide +kernel
theorem dX8_step_56 : decode cX8_step 56 = .ok (.iconst 0, 1) := by decide +kernel
theorem dX8_step_57 : decode cX8_step 57 = .ok (.goto 4, 3) := by decide +kernel
theorem dX8_step_60 : decode cX8_step 60 = .ok (.iconst 2, 1) := by decide +kernel
theorem dX8_step_61 : decode cX8_step 61 = .ok (.invokevirtual 169, 3) := by decide +kernel
theorem dX8_step_64 : decode cX8_step 64 = .ok (.ifCond .ne 5, 3) := by decide +kernel
theorem dX8_step_67 : decode cX8_step 67 = .ok (.iconst 0, 1) := by decide +kernel
theorem dX8_step_68 : decode cX8_step 68 = .ok (.ireturn, 1) := by decide +kernel
theorem dX8_step_69 : decode cX8_step 69 = .ok (.aload_n 0, 1) := by decide +kernel
theorem dX8_step_70 : decode cX8_step 70 = .ok (.getfield 151, 3) := by decide +kernel
theorem dX8_step_73 : decode cX8_step 73 = .ok (.iconst 1, 1) := by decide +kernel
theorem dX8_step_74 : decode cX8_step 74 = .ok (.isub, 1) := by decide +kernel
theorem dX8_step_75 : decode cX8_step 75 = .ok (.istore 5, 2) := by decide +kernel
theorem dX8_step_77 : decode cX8_step 77 = .ok (.aload_n 0, 1) := by decide +kernel
theorem dX8_step_78 : decode cX8_step 78 = .ok (.getfield 29, 3) := by decide +kernel
theorem dX8_step_81 : decode cX8_step 81 = .ok (.iload 5, 2) := by decide +kernel
theorem dX8_step_83 : decode cX8_step 83 = .ok (.dup2, 1) := by decide +kernel
theorem dX8_step_84 : decode cX8_step 84 = .ok (.iaload, 1) := by decide +kernel
theorem dX8_step_85 : decode cX8_step 85 = .ok (.iconst 1, 1) := by decide +kernel
theorem dX8_step_86 : decode cX8_step 86 = .ok (.iadd, 1) := by decide +kernel
theorem dX8_step_87 : decode cX8_step 87 = .ok (.iastore, 1) := by decide +kernel
theorem dX8_step_88 : decode cX8_step 88 = .ok (.iload_n 1, 1) := by decide +kernel
theorem dX8_step_89 : decode cX8_step 89 = .ok (.iconst 3, 1) := by decide +kernel
theorem dX8_step_90 : decode cX8_step 90 = .ok (.if_icmp .ge 5, 3) := by decide +kernel
theorem dX8_step_93 : decode cX8_step 93 = .ok (.iconst (-1), 1) := by decide +kernel
theorem dX8_step_94 : decode cX8_step 94 = .ok (.ireturn, 1) := by decide +kernel
theorem dX8_step_95 : decode cX8_step 95 = .ok (.aload_n 0, 1) := by decide +kernel
theorem dX8_step_96 : decode cX8_step 96 = .ok (.invokevirtual 108, 3) := by decide +kernel
theorem dX8_step_99 : decode cX8_step 99 = .ok (.istore 6, 2) := by decide +kernel
theorem dX8_step_101 : decode cX8_step 101 = .ok (.aload_n 0, 1) := by decide +kernel
theorem dX8_step_102 : decode cX8_step 102 = .ok (.getfield 41, 3) := by decide +kernel
theorem dX8_step_105 : decode cX8_step 105 = .ok (.bipush 104, 2) := by decide +kernel
theorem dX8_step_107 : decode cX8_step 107 = .ok (.iload 6, 2) := by decide +kernel
theorem dX8_step_109 : decode cX8_step 109 = .ok (.iadd, 1) := by decide +kernel
theorem dX8_step_110 : decode cX8_step 110 = .ok (.iaload, 1) := by decide +kernel
theorem dX8_step_111 : decode cX8_step 111 = .ok (.istore 7, 2) := by decide +kernel
theorem dX8_step_113 : decode cX8_step 113 = .ok (.aload_n 0, 1) := by decide +kernel
theorem dX8_step_114 : decode cX8_step 114 = .ok (.getfield 41, 3) := by decide +kernel
theorem dX8_step_117 : decode cX8_step 117 = .ok (.bipush 105, 2) := by decide +kernel
theorem dX8_step_119 : decode cX8_step 119 = .ok (.iload 6, 2) := by decide +kernel
theorem dX8_step_121 : decode cX8_step 121 = .ok (.isub, 1) := by decide +kernel
theorem dX8_step_122 : decode cX8_step 122 = .ok (.iaload, 1) := by decide +kernel
theorem dX8_step_123 : decode cX8_step 123 = .ok (.istore 8, 2) := by decide +kernel
theorem dX8_step_125 : decode cX8_step 125 = .ok (.aload_n 0, 1) := by decide +kernel
theorem dX8_step_126 : decode cX8_step 126 = .ok (.iload 5, 2) := by decide +kernel
theorem dX8_step_128 : decode cX8_step 128 = .ok (.invokevirtual 132, 3) := by decide +kernel
theorem dX8_step_131 : decode cX8_step 131 = .ok (.aload_n 0, 1) := by decide +kernel
theorem dX8_step_132 : decode cX8_step 132 = .ok (.iload 5, 2) := by decide +kernel
theorem dX8_step_134 : decode cX8_step 134 = .ok (.invokevirtual 144, 3) := by decide +kernel
theorem dX8_step_137 : decode cX8_step 137 = .ok (.aload_n 0, 1) := by decide +kernel
theorem dX8_step_138 : decode cX8_step 138 = .ok (.iconst 0, 1) := by decide +kernel
theorem dX8_step_139 : decode cX8_step 139 = .ok (.putfield 147, 3) := by decide +kernel
theorem dX8_step_142 : decode cX8_step 142 = .ok (.bipush 10, 2) := by decide +kernel
theorem dX8_step_144 : decode cX8_step 144 = .ok (.aload_n 0, 1) := by decide +kernel
theorem dX8_step_145 : decode cX8_step 145 = .ok (.getfield 41, 3) := by decide +kernel
theorem dX8_step_148 : decode cX8_step 148 = .ok (.bipush 104, 2) := by decide +kernel
theorem dX8_step_150 : decode cX8_step 150 = .ok (.iload 6, 2) := by decide +kernel
theorem dX8_step_152 : decode cX8_step 152 = .ok (.iadd, 1) := by decide +kernel
theorem dX8_step_153 : decode cX8_step 153 = .ok (.iaload, 1) := by decide +kernel
theorem dX8_step_154 : decode cX8_step 154 = .ok (.iload 7, 2) := by decide +kernel
theorem dX8_step_156 : decode cX8_step 156 = .ok (.isub, 1) := by decide +kernel
theorem dX8_step_157 : decode cX8_step 157 = .ok (.imul, 1) := by decide +kernel
theorem dX8_step_158 : decode cX8_step 158 = .ok (.aload_n 0, 1) := by decide +kernel
theorem dX8_step_159 : decode cX8_step 159 = .ok (.getfield 41, 3) := by decide +kernel
theorem dX8_step_162 : decode cX8_step 162 = .ok (.bipush 105, 2) := by decide +kernel
theorem dX8_step_164 : decode cX8_step 164 = .ok (.iload 6, 2) := by decide +kernel
theorem dX8_step_166 : decode cX8_step 166 = .ok (.isub, 1) := by decide +kernel
theorem dX8_step_167 : decode cX8_step 167 = .ok (.iaload, 1) := by decide +kernel
theorem dX8_step_168 : decode cX8_step 168 = .ok (.iadd, 1) := by decide +kernel
theorem dX8_step_169 : decode cX8_step 169 = .ok (.iload 8, 2) := by decide +kernel
theorem dX8_step_171 : decode cX8_step 171 = .ok (.isub, 1) := by decide +kernel
theorem dX8_step_172 : decode cX8_step 172 = .ok (.ireturn, 1) := by decide +kernel
theorem dX8_card_0 : decode cX8_card 0 = .ok (.iload_n 1, 1) := by decide +kernel
theorem dX8_card_1 : decode cX8_card 1 = .ok (.invokestatic 192, 3) := by decide +kernel
theorem dX8_card_4 : decode cX8_card 4 = .ok (.ifCond .eq 14, 3) := by decide +kernel
theorem dX8_card_7 : decode cX8_card 7 = .ok (.iload_n 2, 1) := by decide +kernel
theorem dX8_card_8 : decode cX8_card 8 = .ok (.invokestatic 175, 3) := by decide +kernel
theorem dX8_card_11 : decode cX8_card 11 = .ok (.ifCond .eq 7, 3) := by decide +kernel
theorem dX8_card_14 : decode cX8_card 14 = .ok (.iconst 1, 1) := by decide +kernel
theorem dX8_card_15 : decode cX8_card 15 = .ok (.goto 4, 3) := by decide +kernel
theorem dX8_card_18 : decode cX8_card 18 = .ok (.iconst 0, 1) := by decide +kernel
theorem dX8_card_19 : decode cX8_card 19 = .ok (.istore 4, 2) := by decide +kernel
theorem dX8_card_21 : decode cX8_card 21 = .ok (.aload_n 0, 1) := by decide +kernel
theorem dX8_card_22 : decode cX8_card 22 = .ok (.iload 4, 2) := by decide +kernel
theorem dX8_card_24 : decode cX8_card 24 = .ok (.ifCond .ne 7, 3) := by decide +kernel
theorem dX8_card_27 : decode cX8_card 27 = .ok (.iconst 1, 1) := by decide +kernel
theorem dX8_card_28 : decode cX8_card 28 = .ok (.goto 38, 3) := by decide +kernel
theorem dX8_card_31 : decode cX8_card 31 = .ok (.iload_n 3, 1) := by decide +kernel
theorem dX8_card_32 : decode cX8_card 32 = .ok (.iconst 0, 1) := by decide +kernel
theorem dX8_card_33 : decode cX8_card 33 = .ok (.iconst 2, 1) := by decide +kernel
theorem dX8_card_34 : decode cX8_card 34 = .ok (.invokestatic 81, 3) := by decide +kernel
theorem dX8_card_37 : decode cX8_card 37 = .ok (.ifCond .ne 7, 3) := by decide +kernel
theorem dX8_card_40 : decode cX8_card 40 = .ok (.iconst 2, 1) := by decide +kernel
theorem dX8_card_41 : decode cX8_card 41 = .ok (.goto 25, 3) := by decide +kernel
theorem dX8_card_44 : decode cX8_card 44 = .ok (.aload_n 0, 1) := by decide +kernel
theorem dX8_card_45 : decode cX8_card 45 = .ok (.invokevirtual 178, 3) := by decide +kernel
theorem dX8_card_48 : decode cX8_card 48 = .ok (.ifCond .eq 13, 3) := by decide +kernel
theorem dX8_card_51 : decode cX8_card 51 = .ok (.aload_n 0, 1) := by decide +kernel
theorem dX8_card_52 : decode cX8_card 52 = .ok (.iload_n 1, 1) := by decide +kernel
theorem dX8_card_53 : decode cX8_card 53 = .ok (.iload_n 2, 1) := by decide +kernel
theorem dX8_card_54 : decode cX8_card 54 = .ok (.iload_n 3, 1) := by decide +kernel
theorem dX8_card_55 : decode cX8_card 55 = .ok (.invokevirtual 135, 3) := by decide +kernel
theorem dX8_card_58 : decode cX8_card 58 = .ok (.ifCond .ne 7, 3) := by decide +kernel
theorem dX8_card_61 : decode cX8_card 61 = .ok (.iconst 3, 1) := by decide +kernel
theorem dX8_card_62 : decode cX8_card 62 = .ok (.goto 4, 3) := by decide +kernel
theorem dX8_card_65 : decode cX8_card 65 = .ok (.iconst 0, 1) := by decide +kernel
theorem dX8_card_66 : decode cX8_card 66 = .ok (.invokevirtual 169, 3) := by decide +kernel
theorem dX8_card_69 : decode cX8_card 69 = .ok (.ifCond .ne 5, 3) := by decide +kernel
theorem dX8_card_72 : decode cX8_card 72 = .ok (.iconst 0, 1) := by decide +kernel
theorem dX8_card_73 : decode cX8_card 73 = .ok (.ireturn, 1) := by decide +kernel
theorem dX8_card_74 : decode cX8_card 74 = .ok (.aload_n 0, 1) := by decide +kernel
theorem dX8_card_75 : decode cX8_card 75 = .ok (.iload_n 1, 1) := by decide +kernel
theorem dX8_card_76 : decode cX8_card 76 = .ok (.iload_n 2, 1) := by decide +kernel
theorem dX8_card_77 : decode cX8_card 77 = .ok (.iload_n 3, 1) := by decide +kernel
theorem dX8_card_78 : decode cX8_card 78 = .ok (.invokevirtual 121, 3) := by decide +kernel
theorem dX8_card_81 : decode cX8_card 81 = .ok (.istore 5, 2) := by decide +kernel
theorem dX8_card_83 : decode cX8_card 83 = .ok (.aload_n 0, 1) := by decide +kernel
theorem dX8_card_84 : decode cX8_card 84 = .ok (.iconst 1, 1) := by decide +kernel
theorem dX8_card_85 : decode cX8_card 85 = .ok (.iload_n 1, 1) := by decide +kernel
theorem dX8_card_86 : decode cX8_card 86 = .ok (.iload_n 2, 1) := by decide +kernel
theorem dX8_card_87 : decode cX8_card 87 = .ok (.iload_n 3, 1) := by decide +kernel
theorem dX8_card_88 : decode cX8_card 88 = .ok (.invokevirtual 182, 3) := by decide +kernel
theorem dX8_card_91 : decode cX8_card 91 = .ok (.istore 6, 2) := by decide +kernel
theorem dX8_card_93 : decode cX8_card 93 = .ok (.aload_n 0, 1) := by decide +kernel
theorem dX8_card_94 : decode cX8_card 94 = .ok (.iload 6, 2) := by decide +kernel
theorem dX8_card_96 : decode cX8_card 96 = .ok (.invokevirtual 160, 3) := by decide +kernel
theorem dX8_card_99 : decode cX8_card 99 = .ok (.ifCond .eq 8, 3) := by decide +kernel
theorem dX8_card_102 : decode cX8_card 102 = .ok (.iload 5, 2) := by decide +kernel
theorem dX8_card_104 : decode cX8_card 104 = .ok (.goto 4, 3) := by decide +kernel
theorem dX8_card_107 : decode cX8_card 107 = .ok (.iconst 0, 1) := by decide +kernel
theorem dX8_card_108 : decode cX8_card 108 = .ok (.ireturn, 1) := by decide +kernel
theorem dX8_change_0 : decode cX8_change 0 = .ok (.iload_n 1, 1) := by decide +kernel
theorem dX8_change_1 : decode cX8_change 1 = .ok (.invokestatic 192, 3) := by decide +kernel
theorem dX8_change_4 : decode cX8_change 4 = .ok (.ifCond .eq 21, 3) := by decide +kernel
theorem dX8_change_7 : decode cX8_change 7 = .ok (.iload_n 2, 1) := by decide +kernel
theorem dX8_change_8 : decode cX8_change 8 = .ok (.invokestatic 175, 3) := by decide +kernel
theorem dX8_change_11 : decode cX8_change 11 = .ok (.ifCond .eq 14, 3) := by decide +kernel
theorem dX8_change_14 : decode cX8_change 14 = .ok (.iload_n 3, 1) := by decide +kernel
theorem dX8_change_15 : decode cX8_change 15 = .ok (.invokestatic 175, 3) := by decide +kernel
theorem dX8_change_18 : decode cX8_change 18 = .ok (.ifCond .eq 7, 3) := by decide +kernel
theorem dX8_change_21 : decode cX8_change 21 = .ok (.iconst 1, 1) := by decide +kernel
theorem dX8_change_22 : decode cX8_change 22 = .ok (.goto 4, 3) := by decide +kernel
theorem dX8_change_25 : decode cX8_change 25 = .ok (.iconst 0, 1) := by decide +kernel
theorem dX8_change_26 : decode cX8_change 26 = .ok (.istore 4, 2) := by decide +kernel
theorem dX8_change_28 : decode cX8_change 28 = .ok (.aload_n 0, 1) := by decide +kernel
theorem dX8_change_29 : decode cX8_change 29 = .ok (.iload 4, 2) := by decide +kernel
theorem dX8_change_31 : decode cX8_change 31 = .ok (.ifCond .ne 7, 3) := by decide +kernel
theorem dX8_change_34 : decode cX8_change 34 = .ok (.iconst 1, 1) := by decide +kernel
theorem dX8_change_35 : decode cX8_change 35 = .ok (.goto 25, 3) := by decide +kernel
theorem dX8_change_38 : decode cX8_change 38 = .ok (.aload_n 0, 1) := by decide +kernel
theorem dX8_change_39 : decode cX8_change 39 = .ok (.invokevirtual 178, 3) := by decide +kernel
theorem dX8_change_42 : decode cX8_change 42 = .ok (.ifCond .eq 13, 3) := by decide +kernel
theorem dX8_change_45 : decode cX8_change 45 = .ok (.aload_n 0, 1) := by decide +kernel
theorem dX8_change_46 : decode cX8_change 46 = .ok (.iload_n 1, 1) := by decide +kernel
theorem dX8_change_47 : decode cX8_change 47 = .ok (.iload_n 2, 1) := by decide +kernel
theorem dX8_change_48 : decode cX8_change 48 = .ok (.iload_n 3, 1) := by decide +kernel
theorem dX8_change_49 : decode cX8_change 49 = .ok (.invokevirtual 141, 3) := by decide +kernel
theorem dX8_change_52 : decode cX8_change 52 = .ok (.ifCond .ne 7, 3) := by decide +kernel
theorem dX8_change_55 : decode cX8_change 55 = .ok (.iconst 2, 1) := by decide +kernel
theorem dX8_change_56 : decode cX8_change 56 = .ok (.goto 4, 3) := by decide +kernel
theorem dX8_change_59 : decode cX8_change 59 = .ok (.iconst 0, 1) := by decide +kernel
theorem dX8_change_60 : decode cX8_change 60 = .ok (.invokevirtual 169, 3) := by decide +kernel
theorem dX8_change_63 : decode cX8_change 63 = .ok (.ifCond .ne 5, 3) := by decide +kernel
theorem dX8_change_66 : decode cX8_change 66 = .ok (.iconst 0, 1) := by decide +kernel
theorem dX8_change_67 : decode cX8_change 67 = .ok (.ireturn, 1) := by decide +kernel
theorem dX8_change_68 : decode cX8_change 68 = .ok (.aload_n 0, 1) := by decide +kernel
theorem dX8_change_69 : decode cX8_change 69 = .ok (.iconst 2, 1) := by decide +kernel
theorem dX8_change_70 : decode cX8_change 70 = .ok (.iload_n 1, 1) := by decide +kernel
theorem dX8_change_71 : decode cX8_change 71 = .ok (.iload_n 2, 1) := by decide +kernel
theorem dX8_change_72 : decode cX8_change 72 = .ok (.iload_n 3, 1) := by decide +kernel
theorem dX8_change_73 : decode cX8_change 73 = .ok (.invokevirtual 182, 3) := by decide +kernel
theorem dX8_change_76 : decode cX8_change 76 = .ok (.istore 5, 2) := by decide +kernel
theorem dX8_change_78 : decode cX8_change 78 = .ok (.aload_n 0, 1) := by decide +kernel
theorem dX8_change_79 : decode cX8_change 79 = .ok (.iload 5, 2) := by decide +kernel
theorem dX8_change_81 : decode cX8_change 81 = .ok (.invokevirtual 160, 3) := by decide +kernel
theorem dX8_change_84 : decode cX8_change 84 = .ok (.ifCond .eq 15, 3) := by decide +kernel
theorem dX8_change_87 : decode cX8_change 87 = .ok (.aload_n 0, 1) := by decide +kernel
theorem dX8_change_88 : decode cX8_change 88 = .ok (.getfield 41, 3) := by decide +kernel
theorem dX8_change_91 : decode cX8_change 91 = .ok (.bipush 102, 2) := by decide +kernel
theorem dX8_change_93 : decode cX8_change 93 = .ok (.iload_n 1, 1) := by decide +kernel
theorem dX8_change_94 : decode cX8_change 94 = .ok (.iadd, 1) := by decide +kernel
theorem dX8_change_95 : decode cX8_change 95 = .ok (.iaload, 1) := by decide +kernel
theorem dX8_change_96 : decode cX8_change 96 = .ok (.goto 4, 3) := by decide +kernel
theorem dX8_change_99 : decode cX8_change 99 = .ok (.iconst 0, 1) := by decide +kernel
theorem dX8_change_100 : decode cX8_change 100 = .ok (.ireturn, 1) := by decide +kernel
theorem dX8_isStep_0 : decode cX8_isStep 0 = .ok (.aload_n 0, 1) := by decide +kernel
theorem dX8_isStep_1 : decode cX8_isStep 1 = .ok (.getfield 166, 3) := by decide +kernel
theorem dX8_isStep_4 : decode cX8_isStep 4 = .ok (.ifCond .eq 46, 3) := by decide +kernel
theorem dX8_isStep_7 : decode cX8_isStep 7 = .ok (.iload_n 1, 1) := by decide +kernel
theorem dX8_isStep_8 : decode cX8_isStep 8 = .ok (.iconst 0, 1) := by decide +kernel
theorem dX8_isStep_9 : decode cX8_isStep 9 = .ok (.aload_n 0, 1) := by decide +kernel
theorem dX8_isStep_10 : decode cX8_isStep 10 = .ok (.invokevirtual 157, 3) := by decide +kernel
theorem dX8_isStep_13 : decode cX8_isStep 13 = .ok (.iconst 1, 1) := by decide +kernel
theorem dX8_isStep_14 : decode cX8_isStep 14 = .ok (.isub, 1) := by decide +kernel
theorem dX8_isStep_15 : decode cX8_isStep 15 = .ok (.invokestatic 81, 3) := by decide +kernel
theorem dX8_isStep_18 : decode cX8_isStep 18 = .ok (.ifCond .eq 32, 3) := by decide +kernel
theorem dX8_isStep_21 : decode cX8_isStep 21 = .ok (.aload_n 0, 1) := by decide +kernel
theorem dX8_isStep_22 : decode cX8_isStep 22 = .ok (.getfield 17, 3) := by decide +kernel
theorem dX8_isStep_25 : decode cX8_isStep 25 = .ok (.iload_n 1, 1) := by decide +kernel
theorem dX8_isStep_26 : decode cX8_isStep 26 = .ok (.iaload, 1) := by decide +kernel
theorem dX8_isStep_27 : decode cX8_isStep 27 = .ok (.ifCond .ne 23, 3) := by decide +kernel
theorem dX8_isStep_30 : decode cX8_isStep 30 = .ok (.iload_n 2, 1) := by decide +kernel
theorem dX8_isStep_31 : decode cX8_isStep 31 = .ok (.iconst 0, 1) := by decide +kernel
theorem dX8_isStep_32 : decode cX8_isStep 32 = .ok (.aload_n 0, 1) := by decide +kernel
theorem dX8_isStep_33 : decode cX8_isStep 33 = .ok (.getfield 29, 3) := by decide +kernel
theorem dX8_isStep_36 : decode cX8_isStep 36 = .ok (.iload_n 1, 1) := by decide +kernel
theorem dX8_isStep_37 : decode cX8_isStep 37 = .ok (.iaload, 1) := by decide +kernel
theorem dX8_isStep_38 : decode cX8_isStep 38 = .ok (.iconst 1, 1) := by decide +kernel
theorem dX8_isStep_39 : decode cX8_isStep 39 = .ok (.isub, 1) := by decide +kernel
theorem dX8_isStep_40 : decode cX8_isStep 40 = .ok (.invokestatic 81, 3) := by decide +kernel
theorem dX8_isStep_43 : decode cX8_isStep 43 = .ok (.ifCond .eq 7, 3) := by decide +kernel
theorem dX8_isStep_46 : decode cX8_isStep 46 = .ok (.iconst 1, 1) := by decide +kernel
theorem dX8_isStep_47 : decode cX8_isStep 47 = .ok (.goto 4, 3) := by decide +kernel
theorem dX8_isStep_50 : decode cX8_isStep 50 = .ok (.iconst 0, 1) := by decide +kernel
theorem dX8_isStep_51 : decode cX8_isStep 51 = .ok (.ireturn, 1) := by decide +kernel
theorem dX8_canBeSaid_0 : decode cX8_canBeSaid 0 = .ok (.iload_n 2, 1) := by decide +kernel
theorem dX8_canBeSaid_1 : decode cX8_canBeSaid 1 = .ok (.aload_n 0, 1) := by decide +kernel
theorem dX8_canBeSaid_2 : decode cX8_canBeSaid 2 = .ok (.getfield 29, 3) := by decide +kernel
theorem dX8_canBeSaid_5 : decode cX8_canBeSaid 5 = .ok (.iload_n 1, 1) := by decide +kernel
theorem dX8_canBeSaid_6 : decode cX8_canBeSaid 6 = .ok (.iaload, 1) := by decide +kernel
theorem dX8_canBeSaid_7 : decode cX8_canBeSaid 7 = .ok (.iconst 1, 1) := by decide +kernel
theorem dX8_canBeSaid_8 : decode cX8_canBeSaid 8 = .ok (.isub, 1) := by decide +kernel
theorem dX8_canBeSaid_9 : decode cX8_canBeSaid 9 = .ok (.if_icmp .ne 7, 3) := by decide +kernel
theorem dX8_canBeSaid_12 : decode cX8_canBeSaid 12 = .ok (.iconst 1, 1) := by decide +kernel
theorem dX8_canBeSaid_13 : decode cX8_canBeSaid 13 = .ok (.goto 4, 3) := by decide +kernel
theorem dX8_canBeSaid_16 : decode cX8_canBeSaid 16 = .ok (.iconst 0, 1) := by decide +kernel
theorem dX8_canBeSaid_17 : decode cX8_canBeSaid 17 = .ok (.istore 4, 2) := by decide +kernel
theorem dX8_canBeSaid_19 : decode cX8_canBeSaid 19 = .ok (.iload 4, 2) := by decide +kernel
theorem dX8_canBeSaid_21 : decode cX8_canBeSaid 21 = .ok (.iload_n 3, 1) := by decide +kernel
theorem dX8_canBeSaid_22 : decode cX8_canBeSaid 22 = .ok (.iconst 3, 1) := by decide +kernel
theorem dX8_canBeSaid_23 : decode cX8_canBeSaid 23 = .ok (.if_icmp .lt 7, 3) := by decide +kernel
theorem dX8_canBeSaid_26 : decode cX8_canBeSaid 26 = .ok (.iconst 1, 1) := by decide +kernel
theorem dX8_canBeSaid_27 : decode cX8_canBeSaid 27 = .ok (.goto 4, 3) := by decide +kernel
theorem dX8_canBeSaid_30 : decode cX8_canBeSaid 30 = .ok (.iconst 0, 1) := by decide +kernel
theorem dX8_canBeSaid_31 : decode cX8_canBeSaid 31 = .ok (.if_icmp .ne 7, 3) := by decide +kernel
theorem dX8_canBeSaid_34 : decode cX8_canBeSaid 34 = .ok (.iconst 1, 1) := by decide +kernel
theorem dX8_canBeSaid_35 : decode cX8_canBeSaid 35 = .ok (.goto 4, 3) := by decide +kernel
theorem dX8_canBeSaid_38 : decode cX8_canBeSaid 38 = .ok (.iconst 0, 1) := by decide +kernel
theorem dX8_canBeSaid_39 : decode cX8_canBeSaid 39 = .ok (.ireturn, 1) := by decide +kernel
theorem dX8_says_0 : decode cX8_says 0 = .ok (.aload_n 0, 1) := by decide +kernel
theorem dX8_says_1 : decode cX8_says 1 = .ok (.getfield 32, 3) := by decide +kernel
theorem dX8_says_4 : decode cX8_says 4 = .ok (.iload_n 1, 1) := by decide +kernel
theorem dX8_says_5 : decode cX8_says 5 = .ok (.iload_n 2, 1) := by decide +kernel
theorem dX8_says_6 : decode cX8_says 6 = .ok (.iastore, 1) := by decide +kernel
theorem dX8_says_7 : decode cX8_says 7 = .ok (.aload_n 0, 1) := by decide +kernel
theorem dX8_says_8 : decode cX8_says 8 = .ok (.getfield 35, 3) := by decide +kernel
theorem dX8_says_11 : decode cX8_says 11 = .ok (.iload_n 1, 1) := by decide +kernel
theorem dX8_says_12 : decode cX8_says 12 = .ok (.iload_n 3, 1) := by decide +kernel
theorem dX8_says_13 : decode cX8_says 13 = .ok (.iastore, 1) := by decide +kernel
theorem dX8_says_14 : decode cX8_says 14 = .ok (.return_, 1) := by decide +kernel
theorem dX8_falls_0 : decode cX8_falls 0 = .ok (.aload_n 0, 1) := by decide +kernel
theorem dX8_falls_1 : decode cX8_falls 1 = .ok (.iload_n 1, 1) := by decide +kernel
theorem dX8_falls_2 : decode cX8_falls 2 = .ok (.iload_n 2, 1) := by decide +kernel
theorem dX8_falls_3 : decode cX8_falls 3 = .ok (.iload_n 3, 1) := by decide +kernel
theorem dX8_falls_4 : decode cX8_falls 4 = .ok (.invokevirtual 195, 3) := by decide +kernel
theorem dX8_falls_7 : decode cX8_falls 7 = .ok (.ifCond .ne 5, 3) := by decide +kernel
theorem dX8_falls_10 : decode cX8_falls 10 = .ok (.iload_n 1, 1) := by decide +kernel
theorem dX8_falls_11 : decode cX8_falls 11 = .ok (.ireturn, 1) := by decide +kernel
theorem dX8_falls_12 : decode cX8_falls 12 = .ok (.bipush 14, 2) := by decide +kernel
theorem dX8_falls_14 : decode cX8_falls 14 = .ok (.iload_n 1, 1) := by decide +kernel
theorem dX8_falls_15 : decode cX8_falls 15 = .ok (.imul, 1) := by decide +kernel
theorem dX8_falls_16 : decode cX8_falls 16 = .ok (.iload_n 2, 1) := by decide +kernel
theorem dX8_falls_17 : decode cX8_falls 17 = .ok (.iadd, 1) := by decide +kernel
theorem dX8_falls_18 : decode cX8_falls 18 = .ok (.istore 5, 2) := by decide +kernel
theorem dX8_falls_20 : decode cX8_falls 20 = .ok (.aload_n 0, 1) := by decide +kernel
theorem dX8_falls_21 : decode cX8_falls 21 = .ok (.getfield 32, 3) := by decide +kernel
theorem dX8_falls_24 : decode cX8_falls 24 = .ok (.iload 5, 2) := by decide +kernel
theorem dX8_falls_26 : decode cX8_falls 26 = .ok (.iaload, 1) := by decide +kernel
theorem dX8_falls_27 : decode cX8_falls 27 = .ok (.istore 6, 2) := by decide +kernel
theorem dX8_falls_29 : decode cX8_falls 29 = .ok (.aload_n 0, 1) := by decide +kernel
theorem dX8_falls_30 : decode cX8_falls 30 = .ok (.getfield 35, 3) := by decide +kernel
theorem dX8_falls_33 : decode cX8_falls 33 = .ok (.iload 5, 2) := by decide +kernel
theorem dX8_falls_35 : decode cX8_falls 35 = .ok (.iaload, 1) := by decide +kernel
theorem dX8_falls_36 : decode cX8_falls 36 = .ok (.istore 7, 2) := by decide +kernel
theorem dX8_falls_38 : decode cX8_falls 38 = .ok (.aload_n 0, 1) := by decide +kernel
theorem dX8_falls_39 : decode cX8_falls 39 = .ok (.iload 5, 2) := by decide +kernel
theorem dX8_falls_41 : decode cX8_falls 41 = .ok (.iload_n 3, 1) := by decide +kernel
theorem dX8_falls_42 : decode cX8_falls 42 = .ok (.iload 4, 2) := by decide +kernel
theorem dX8_falls_44 : decode cX8_falls 44 = .ok (.invokevirtual 198, 3) := by decide +kernel
theorem dX8_falls_47 : decode cX8_falls 47 = .ok (.aload_n 0, 1) := by decide +kernel
theorem dX8_falls_48 : decode cX8_falls 48 = .ok (.invokevirtual 201, 3) := by decide +kernel
theorem dX8_falls_51 : decode cX8_falls 51 = .ok (.istore 8, 2) := by decide +kernel
theorem dX8_falls_53 : decode cX8_falls 53 = .ok (.aload_n 0, 1) := by decide +kernel
theorem dX8_falls_54 : decode cX8_falls 54 = .ok (.iload 5, 2) := by decide +kernel
theorem dX8_falls_56 : decode cX8_falls 56 = .ok (.iload 6, 2) := by decide +kernel
theorem dX8_falls_58 : decode cX8_falls 58 = .ok (.iload 7, 2) := by decide +kernel
theorem dX8_falls_60 : decode cX8_falls 60 = .ok (.invokevirtual 198, 3) := by decide +kernel
theorem dX8_falls_63 : decode cX8_falls 63 = .ok (.aload_n 0, 1) := by decide +kernel
theorem dX8_falls_64 : decode cX8_falls 64 = .ok (.invokevirtual 201, 3) := by decide +kernel
theorem dX8_falls_67 : decode cX8_falls 67 = .ok (.istore 9, 2) := by decide +kernel
theorem dX8_falls_69 : decode cX8_falls 69 = .ok (.iload 8, 2) := by decide +kernel
theorem dX8_falls_71 : decode cX8_falls 71 = .ok (.ireturn, 1) := by decide +kernel
theorem dX8_review_0 : decode cX8_review 0 = .ok (.iload_n 1, 1) := by decide +kernel
theorem dX8_review_1 : decode cX8_review 1 = .ok (.invokestatic 192, 3) := by decide +kernel
theorem dX8_review_4 : decode cX8_review 4 = .ok (.ifCond .eq 16, 3) := by decide +kernel
theorem dX8_review_7 : decode cX8_review 7 = .ok (.aload_n 0, 1) := by decide +kernel
theorem dX8_review_8 : decode cX8_review 8 = .ok (.iload_n 2, 1) := by decide +kernel
theorem dX8_review_9 : decode cX8_review 9 = .ok (.iload_n 3, 1) := by decide +kernel
theorem dX8_review_10 : decode cX8_review 10 = .ok (.invokevirtual 204, 3) := by decide +kernel
theorem dX8_review_13 : decode cX8_review 13 = .ok (.ifCond .eq 7, 3) := by decide +kernel
theorem dX8_review_16 : decode cX8_review 16 = .ok (.iconst 1, 1) := by decide +kernel
theorem dX8_review_17 : decode cX8_review 17 = .ok (.goto 4, 3) := by decide +kernel
end
section
theorem dX8_review_20 : decode cX8_review 20 = .ok (.iconst 0, 1) := by decide +kernel
theorem dX8_review_21 : decode cX8_review 21 = .ok (.istore 6, 2) := by decide +kernel
theorem dX8_review_23 : decode cX8_review 23 = .ok (.iload 4, 2) := by decide +kernel
theorem dX8_review_25 : decode cX8_review 25 = .ok (.iconst 0, 1) := by decide +kernel
theorem dX8_review_26 : decode cX8_review 26 = .ok (.iconst 5, 1) := by decide +kernel
theorem dX8_review_27 : decode cX8_review 27 = .ok (.invokestatic 81, 3) := by decide +kernel
theorem dX8_review_30 : decode cX8_review 30 = .ok (.ifCond .eq 17, 3) := by decide +kernel
theorem dX8_review_33 : decode cX8_review 33 = .ok (.iload 4, 2) := by decide +kernel
theorem dX8_review_35 : decode cX8_review 35 = .ok (.iload 5, 2) := by decide +kernel
theorem dX8_review_37 : decode cX8_review 37 = .ok (.invokestatic 186, 3) := by decide +kernel
theorem dX8_review_40 : decode cX8_review 40 = .ok (.ifCond .eq 7, 3) := by decide +kernel
theorem dX8_review_43 : decode cX8_review 43 = .ok (.iconst 1, 1) := by decide +kernel
theorem dX8_review_44 : decode cX8_review 44 = .ok (.goto 4, 3) := by decide +kernel
theorem dX8_review_47 : decode cX8_review 47 = .ok (.iconst 0, 1) := by decide +kernel
theorem dX8_review_48 : decode cX8_review 48 = .ok (.istore 7, 2) := by decide +kernel
theorem dX8_review_50 : decode cX8_review 50 = .ok (.aload_n 0, 1) := by decide +kernel
theorem dX8_review_51 : decode cX8_review 51 = .ok (.iload 6, 2) := by decide +kernel
theorem dX8_review_53 : decode cX8_review 53 = .ok (.ifCond .ne 7, 3) := by decide +kernel
theorem dX8_review_56 : decode cX8_review 56 = .ok (.iconst 1, 1) := by decide +kernel
theorem dX8_review_57 : decode cX8_review 57 = .ok (.goto 47, 3) := by decide +kernel
theorem dX8_review_60 : decode cX8_review 60 = .ok (.iload 7, 2) := by decide +kernel
theorem dX8_review_62 : decode cX8_review 62 = .ok (.ifCond .ne 7, 3) := by decide +kernel
theorem dX8_review_65 : decode cX8_review 65 = .ok (.iconst 2, 1) := by decide +kernel
theorem dX8_review_66 : decode cX8_review 66 = .ok (.goto 38, 3) := by decide +kernel
theorem dX8_review_69 : decode cX8_review 69 = .ok (.aload_n 0, 1) := by decide +kernel
theorem dX8_review_70 : decode cX8_review 70 = .ok (.getfield 147, 3) := by decide +kernel
theorem dX8_review_73 : decode cX8_review 73 = .ok (.ifCond .ne 26, 3) := by decide +kernel
theorem dX8_review_76 : decode cX8_review 76 = .ok (.aload_n 0, 1) := by decide +kernel
theorem dX8_review_77 : decode cX8_review 77 = .ok (.getfield 13, 3) := by decide +kernel
theorem dX8_review_80 : decode cX8_review 80 = .ok (.iload_n 1, 1) := by decide +kernel
theorem dX8_review_81 : decode cX8_review 81 = .ok (.baload, 1) := by decide +kernel
theorem dX8_review_82 : decode cX8_review 82 = .ok (.ifCond .ne 17, 3) := by decide +kernel
theorem dX8_review_85 : decode cX8_review 85 = .ok (.aload_n 0, 1) := by decide +kernel
theorem dX8_review_86 : decode cX8_review 86 = .ok (.iload_n 2, 1) := by decide +kernel
theorem dX8_review_87 : decode cX8_review 87 = .ok (.iload_n 3, 1) := by decide +kernel
theorem dX8_review_88 : decode cX8_review 88 = .ok (.iload 4, 2) := by decide +kernel
theorem dX8_review_90 : decode cX8_review 90 = .ok (.iload 5, 2) := by decide +kernel
theorem dX8_review_92 : decode cX8_review 92 = .ok (.invokevirtual 207, 3) := by decide +kernel
theorem dX8_review_95 : decode cX8_review 95 = .ok (.iconst (-1), 1) := by decide +kernel
theorem dX8_review_96 : decode cX8_review 96 = .ok (.if_icmp .eq 7, 3) := by decide +kernel
theorem dX8_review_99 : decode cX8_review 99 = .ok (.iconst 3, 1) := by decide +kernel
theorem dX8_review_100 : decode cX8_review 100 = .ok (.goto 4, 3) := by decide +kernel
theorem dX8_review_103 : decode cX8_review 103 = .ok (.iconst 0, 1) := by decide +kernel
theorem dX8_review_104 : decode cX8_review 104 = .ok (.invokevirtual 169, 3) := by decide +kernel
theorem dX8_review_107 : decode cX8_review 107 = .ok (.ifCond .ne 5, 3) := by decide +kernel
theorem dX8_review_110 : decode cX8_review 110 = .ok (.iconst 0, 1) := by decide +kernel
theorem dX8_review_111 : decode cX8_review 111 = .ok (.ireturn, 1) := by decide +kernel
theorem dX8_review_112 : decode cX8_review 112 = .ok (.aload_n 0, 1) := by decide +kernel
theorem dX8_review_113 : decode cX8_review 113 = .ok (.getfield 41, 3) := by decide +kernel
theorem dX8_review_116 : decode cX8_review 116 = .ok (.bipush 104, 2) := by decide +kernel
theorem dX8_review_118 : decode cX8_review 118 = .ok (.iload_n 1, 1) := by decide +kernel
theorem dX8_review_119 : decode cX8_review 119 = .ok (.iadd, 1) := by decide +kernel
theorem dX8_review_120 : decode cX8_review 120 = .ok (.iaload, 1) := by decide +kernel
theorem dX8_review_121 : decode cX8_review 121 = .ok (.aload_n 0, 1) := by decide +kernel
theorem dX8_review_122 : decode cX8_review 122 = .ok (.getfield 41, 3) := by decide +kernel
theorem dX8_review_125 : decode cX8_review 125 = .ok (.bipush 105, 2) := by decide +kernel
theorem dX8_review_127 : decode cX8_review 127 = .ok (.iload_n 1, 1) := by decide +kernel
theorem dX8_review_128 : decode cX8_review 128 = .ok (.isub, 1) := by decide +kernel
theorem dX8_review_129 : decode cX8_review 129 = .ok (.iaload, 1) := by decide +kernel
theorem dX8_review_130 : decode cX8_review 130 = .ok (.isub, 1) := by decide +kernel
theorem dX8_review_131 : decode cX8_review 131 = .ok (.istore 8, 2) := by decide +kernel
theorem dX8_review_133 : decode cX8_review 133 = .ok (.aload_n 0, 1) := by decide +kernel
theorem dX8_review_134 : decode cX8_review 134 = .ok (.bipush 14, 2) := by decide +kernel
theorem dX8_review_136 : decode cX8_review 136 = .ok (.iload_n 2, 1) := by decide +kernel
theorem dX8_review_137 : decode cX8_review 137 = .ok (.imul, 1) := by decide +kernel
theorem dX8_review_138 : decode cX8_review 138 = .ok (.iload_n 3, 1) := by decide +kernel
theorem dX8_review_139 : decode cX8_review 139 = .ok (.iadd, 1) := by decide +kernel
theorem dX8_review_140 : decode cX8_review 140 = .ok (.iload 4, 2) := by decide +kernel
theorem dX8_review_142 : decode cX8_review 142 = .ok (.iload 5, 2) := by decide +kernel
theorem dX8_review_144 : decode cX8_review 144 = .ok (.invokevirtual 198, 3) := by decide +kernel
theorem dX8_review_147 : decode cX8_review 147 = .ok (.aload_n 0, 1) := by decide +kernel
theorem dX8_review_148 : decode cX8_review 148 = .ok (.invokevirtual 201, 3) := by decide +kernel
theorem dX8_review_151 : decode cX8_review 151 = .ok (.istore 9, 2) := by decide +kernel
theorem dX8_review_153 : decode cX8_review 153 = .ok (.aload_n 0, 1) := by decide +kernel
theorem dX8_review_154 : decode cX8_review 154 = .ok (.getfield 41, 3) := by decide +kernel
theorem dX8_review_157 : decode cX8_review 157 = .ok (.bipush 104, 2) := by decide +kernel
theorem dX8_review_159 : decode cX8_review 159 = .ok (.iload_n 1, 1) := by decide +kernel
theorem dX8_review_160 : decode cX8_review 160 = .ok (.iadd, 1) := by decide +kernel
theorem dX8_review_161 : decode cX8_review 161 = .ok (.iaload, 1) := by decide +kernel
theorem dX8_review_162 : decode cX8_review 162 = .ok (.aload_n 0, 1) := by decide +kernel
theorem dX8_review_163 : decode cX8_review 163 = .ok (.getfield 41, 3) := by decide +kernel
theorem dX8_review_166 : decode cX8_review 166 = .ok (.bipush 105, 2) := by decide +kernel
theorem dX8_review_168 : decode cX8_review 168 = .ok (.iload_n 1, 1) := by decide +kernel
theorem dX8_review_169 : decode cX8_review 169 = .ok (.isub, 1) := by decide +kernel
theorem dX8_review_170 : decode cX8_review 170 = .ok (.iaload, 1) := by decide +kernel
theorem dX8_review_171 : decode cX8_review 171 = .ok (.isub, 1) := by decide +kernel
theorem dX8_review_172 : decode cX8_review 172 = .ok (.iload 8, 2) := by decide +kernel
theorem dX8_review_174 : decode cX8_review 174 = .ok (.isub, 1) := by decide +kernel
theorem dX8_review_175 : decode cX8_review 175 = .ok (.istore 10, 2) := by decide +kernel
theorem dX8_review_177 : decode cX8_review 177 = .ok (.aload_n 0, 1) := by decide +kernel
theorem dX8_review_178 : decode cX8_review 178 = .ok (.getfield 13, 3) := by decide +kernel
theorem dX8_review_181 : decode cX8_review 181 = .ok (.iload_n 1, 1) := by decide +kernel
theorem dX8_review_182 : decode cX8_review 182 = .ok (.iload 10, 2) := by decide +kernel
theorem dX8_review_184 : decode cX8_review 184 = .ok (.ifCond .gt 7, 3) := by decide +kernel
theorem dX8_review_187 : decode cX8_review 187 = .ok (.iconst 1, 1) := by decide +kernel
theorem dX8_review_188 : decode cX8_review 188 = .ok (.goto 4, 3) := by decide +kernel
theorem dX8_review_191 : decode cX8_review 191 = .ok (.iconst 0, 1) := by decide +kernel
theorem dX8_review_192 : decode cX8_review 192 = .ok (.bastore, 1) := by decide +kernel
theorem dX8_review_193 : decode cX8_review 193 = .ok (.iload 10, 2) := by decide +kernel
theorem dX8_review_195 : decode cX8_review 195 = .ok (.ireturn, 1) := by decide +kernel
theorem dX8_wouldFall_0 : decode cX8_wouldFall 0 = .ok (.iload_n 3, 1) := by decide +kernel
theorem dX8_wouldFall_1 : decode cX8_wouldFall 1 = .ok (.iconst 0, 1) := by decide +kernel
theorem dX8_wouldFall_2 : decode cX8_wouldFall 2 = .ok (.iconst 5, 1) := by decide +kernel
theorem dX8_wouldFall_3 : decode cX8_wouldFall 3 = .ok (.invokestatic 81, 3) := by decide +kernel
theorem dX8_wouldFall_6 : decode cX8_wouldFall 6 = .ok (.ifCond .eq 16, 3) := by decide +kernel
theorem dX8_wouldFall_9 : decode cX8_wouldFall 9 = .ok (.iload_n 3, 1) := by decide +kernel
theorem dX8_wouldFall_10 : decode cX8_wouldFall 10 = .ok (.iload 4, 2) := by decide +kernel
theorem dX8_wouldFall_12 : decode cX8_wouldFall 12 = .ok (.invokestatic 186, 3) := by decide +kernel
theorem dX8_wouldFall_15 : decode cX8_wouldFall 15 = .ok (.ifCond .eq 7, 3) := by decide +kernel
theorem dX8_wouldFall_18 : decode cX8_wouldFall 18 = .ok (.iconst 1, 1) := by decide +kernel
theorem dX8_wouldFall_19 : decode cX8_wouldFall 19 = .ok (.goto 4, 3) := by decide +kernel
theorem dX8_wouldFall_22 : decode cX8_wouldFall 22 = .ok (.iconst 0, 1) := by decide +kernel
theorem dX8_wouldFall_23 : decode cX8_wouldFall 23 = .ok (.istore 5, 2) := by decide +kernel
theorem dX8_wouldFall_25 : decode cX8_wouldFall 25 = .ok (.aload_n 0, 1) := by decide +kernel
theorem dX8_wouldFall_26 : decode cX8_wouldFall 26 = .ok (.aload_n 0, 1) := by decide +kernel
theorem dX8_wouldFall_27 : decode cX8_wouldFall 27 = .ok (.iload_n 1, 1) := by decide +kernel
theorem dX8_wouldFall_28 : decode cX8_wouldFall 28 = .ok (.iload_n 2, 1) := by decide +kernel
theorem dX8_wouldFall_29 : decode cX8_wouldFall 29 = .ok (.invokevirtual 204, 3) := by decide +kernel
theorem dX8_wouldFall_32 : decode cX8_wouldFall 32 = .ok (.ifCond .ne 7, 3) := by decide +kernel
theorem dX8_wouldFall_35 : decode cX8_wouldFall 35 = .ok (.iconst 1, 1) := by decide +kernel
theorem dX8_wouldFall_36 : decode cX8_wouldFall 36 = .ok (.goto 13, 3) := by decide +kernel
theorem dX8_wouldFall_39 : decode cX8_wouldFall 39 = .ok (.iload 5, 2) := by decide +kernel
theorem dX8_wouldFall_41 : decode cX8_wouldFall 41 = .ok (.ifCond .eq 7, 3) := by decide +kernel
theorem dX8_wouldFall_44 : decode cX8_wouldFall 44 = .ok (.iconst 0, 1) := by decide +kernel
theorem dX8_wouldFall_45 : decode cX8_wouldFall 45 = .ok (.goto 4, 3) := by decide +kernel
theorem dX8_wouldFall_48 : decode cX8_wouldFall 48 = .ok (.iconst 2, 1) := by decide +kernel
theorem dX8_wouldFall_49 : decode cX8_wouldFall 49 = .ok (.invokevirtual 169, 3) := by decide +kernel
theorem dX8_wouldFall_52 : decode cX8_wouldFall 52 = .ok (.ifCond .ne 5, 3) := by decide +kernel
theorem dX8_wouldFall_55 : decode cX8_wouldFall 55 = .ok (.iconst 0, 1) := by decide +kernel
theorem dX8_wouldFall_56 : decode cX8_wouldFall 56 = .ok (.ireturn, 1) := by decide +kernel
theorem dX8_wouldFall_57 : decode cX8_wouldFall 57 = .ok (.aload_n 0, 1) := by decide +kernel
theorem dX8_wouldFall_58 : decode cX8_wouldFall 58 = .ok (.iload_n 1, 1) := by decide +kernel
theorem dX8_wouldFall_59 : decode cX8_wouldFall 59 = .ok (.iload_n 2, 1) := by decide +kernel
theorem dX8_wouldFall_60 : decode cX8_wouldFall 60 = .ok (.iload_n 3, 1) := by decide +kernel
theorem dX8_wouldFall_61 : decode cX8_wouldFall 61 = .ok (.iload 4, 2) := by decide +kernel
theorem dX8_wouldFall_63 : decode cX8_wouldFall 63 = .ok (.invokevirtual 207, 3) := by decide +kernel
theorem dX8_wouldFall_66 : decode cX8_wouldFall 66 = .ok (.ireturn, 1) := by decide +kernel
theorem dX8_takeBack_0 : decode cX8_takeBack 0 = .ok (.aload_n 0, 1) := by decide +kernel
theorem dX8_takeBack_1 : decode cX8_takeBack 1 = .ok (.getfield 166, 3) := by decide +kernel
theorem dX8_takeBack_4 : decode cX8_takeBack 4 = .ok (.ifCond .eq 21, 3) := by decide +kernel
theorem dX8_takeBack_7 : decode cX8_takeBack 7 = .ok (.iload_n 1, 1) := by decide +kernel
theorem dX8_takeBack_8 : decode cX8_takeBack 8 = .ok (.iconst 0, 1) := by decide +kernel
theorem dX8_takeBack_9 : decode cX8_takeBack 9 = .ok (.aload_n 0, 1) := by decide +kernel
theorem dX8_takeBack_10 : decode cX8_takeBack 10 = .ok (.getfield 151, 3) := by decide +kernel
theorem dX8_takeBack_13 : decode cX8_takeBack 13 = .ok (.iconst 1, 1) := by decide +kernel
theorem dX8_takeBack_14 : decode cX8_takeBack 14 = .ok (.isub, 1) := by decide +kernel
theorem dX8_takeBack_15 : decode cX8_takeBack 15 = .ok (.invokestatic 81, 3) := by decide +kernel
theorem dX8_takeBack_18 : decode cX8_takeBack 18 = .ok (.ifCond .eq 7, 3) := by decide +kernel
theorem dX8_takeBack_21 : decode cX8_takeBack 21 = .ok (.iconst 1, 1) := by decide +kernel
theorem dX8_takeBack_22 : decode cX8_takeBack 22 = .ok (.goto 4, 3) := by decide +kernel
theorem dX8_takeBack_25 : decode cX8_takeBack 25 = .ok (.iconst 0, 1) := by decide +kernel
theorem dX8_takeBack_26 : decode cX8_takeBack 26 = .ok (.istore_n 2, 1) := by decide +kernel
theorem dX8_takeBack_27 : decode cX8_takeBack 27 = .ok (.aload_n 0, 1) := by decide +kernel
theorem dX8_takeBack_28 : decode cX8_takeBack 28 = .ok (.iload_n 2, 1) := by decide +kernel
theorem dX8_takeBack_29 : decode cX8_takeBack 29 = .ok (.ifCond .eq 7, 3) := by decide +kernel
theorem dX8_takeBack_32 : decode cX8_takeBack 32 = .ok (.iconst 0, 1) := by decide +kernel
theorem dX8_takeBack_33 : decode cX8_takeBack 33 = .ok (.goto 4, 3) := by decide +kernel
theorem dX8_takeBack_36 : decode cX8_takeBack 36 = .ok (.iconst 1, 1) := by decide +kernel
theorem dX8_takeBack_37 : decode cX8_takeBack 37 = .ok (.invokevirtual 169, 3) := by decide +kernel
theorem dX8_takeBack_40 : decode cX8_takeBack 40 = .ok (.ifCond .ne 5, 3) := by decide +kernel
theorem dX8_takeBack_43 : decode cX8_takeBack 43 = .ok (.iconst 0, 1) := by decide +kernel
theorem dX8_takeBack_44 : decode cX8_takeBack 44 = .ok (.ireturn, 1) := by decide +kernel
theorem dX8_takeBack_45 : decode cX8_takeBack 45 = .ok (.aload_n 0, 1) := by decide +kernel
theorem dX8_takeBack_46 : decode cX8_takeBack 46 = .ok (.getfield 151, 3) := by decide +kernel
theorem dX8_takeBack_49 : decode cX8_takeBack 49 = .ok (.iload_n 1, 1) := by decide +kernel
theorem dX8_takeBack_50 : decode cX8_takeBack 50 = .ok (.isub, 1) := by decide +kernel
theorem dX8_takeBack_51 : decode cX8_takeBack 51 = .ok (.istore_n 3, 1) := by decide +kernel
theorem dX8_takeBack_52 : decode cX8_takeBack 52 = .ok (.aload_n 0, 1) := by decide +kernel
theorem dX8_takeBack_53 : decode cX8_takeBack 53 = .ok (.iconst 0, 1) := by decide +kernel
theorem dX8_takeBack_54 : decode cX8_takeBack 54 = .ok (.putfield 147, 3) := by decide +kernel
theorem dX8_takeBack_57 : decode cX8_takeBack 57 = .ok (.aload_n 0, 1) := by decide +kernel
theorem dX8_takeBack_58 : decode cX8_takeBack 58 = .ok (.iload_n 1, 1) := by decide +kernel
theorem dX8_takeBack_59 : decode cX8_takeBack 59 = .ok (.putfield 151, 3) := by decide +kernel
theorem dX8_takeBack_62 : decode cX8_takeBack 62 = .ok (.aload_n 0, 1) := by decide +kernel
theorem dX8_takeBack_63 : decode cX8_takeBack 63 = .ok (.invokevirtual 201, 3) := by decide +kernel
theorem dX8_takeBack_66 : decode cX8_takeBack 66 = .ok (.istore 4, 2) := by decide +kernel
theorem dX8_takeBack_68 : decode cX8_takeBack 68 = .ok (.iload_n 3, 1) := by decide +kernel
theorem dX8_takeBack_69 : decode cX8_takeBack 69 = .ok (.ireturn, 1) := by decide +kernel
theorem dX8_enter_0 : decode cX8_enter 0 = .ok (.aload_n 0, 1) := by decide +kernel
theorem dX8_enter_1 : decode cX8_enter 1 = .ok (.aload_n 0, 1) := by decide +kernel
theorem dX8_enter_2 : decode cX8_enter 2 = .ok (.getfield 166, 3) := by decide +kernel
theorem dX8_enter_5 : decode cX8_enter 5 = .ok (.ifCond .eq 28, 3) := by decide +kernel
theorem dX8_enter_8 : decode cX8_enter 8 = .ok (.aload_n 0, 1) := by decide +kernel
theorem dX8_enter_9 : decode cX8_enter 9 = .ok (.getfield 147, 3) := by decide +kernel
theorem dX8_enter_12 : decode cX8_enter 12 = .ok (.ifCond .ne 21, 3) := by decide +kernel
theorem dX8_enter_15 : decode cX8_enter 15 = .ok (.aload_n 0, 1) := by decide +kernel
theorem dX8_enter_16 : decode cX8_enter 16 = .ok (.getfield 41, 3) := by decide +kernel
theorem dX8_enter_19 : decode cX8_enter 19 = .ok (.bipush 108, 2) := by decide +kernel
theorem dX8_enter_21 : decode cX8_enter 21 = .ok (.iaload, 1) := by decide +kernel
theorem dX8_enter_22 : decode cX8_enter 22 = .ok (.aload_n 0, 1) := by decide +kernel
theorem dX8_enter_23 : decode cX8_enter 23 = .ok (.getfield 118, 3) := by decide +kernel
theorem dX8_enter_26 : decode cX8_enter 26 = .ok (.if_icmp .lt 7, 3) := by decide +kernel
theorem dX8_enter_29 : decode cX8_enter 29 = .ok (.iconst 0, 1) := by decide +kernel
theorem dX8_enter_30 : decode cX8_enter 30 = .ok (.goto 4, 3) := by decide +kernel
theorem dX8_enter_33 : decode cX8_enter 33 = .ok (.iconst 1, 1) := by decide +kernel
theorem dX8_enter_34 : decode cX8_enter 34 = .ok (.invokevirtual 169, 3) := by decide +kernel
theorem dX8_enter_37 : decode cX8_enter 37 = .ok (.ifCond .ne 5, 3) := by decide +kernel
theorem dX8_enter_40 : decode cX8_enter 40 = .ok (.iconst 0, 1) := by decide +kernel
theorem dX8_enter_41 : decode cX8_enter 41 = .ok (.ireturn, 1) := by decide +kernel
theorem dX8_enter_42 : decode cX8_enter 42 = .ok (.aload_n 0, 1) := by decide +kernel
theorem dX8_enter_43 : decode cX8_enter 43 = .ok (.getfield 41, 3) := by decide +kernel
theorem dX8_enter_46 : decode cX8_enter 46 = .ok (.bipush 104, 2) := by decide +kernel
theorem dX8_enter_48 : decode cX8_enter 48 = .ok (.iaload, 1) := by decide +kernel
theorem dX8_enter_49 : decode cX8_enter 49 = .ok (.aload_n 0, 1) := by decide +kernel
theorem dX8_enter_50 : decode cX8_enter 50 = .ok (.getfield 41, 3) := by decide +kernel
theorem dX8_enter_53 : decode cX8_enter 53 = .ok (.bipush 105, 2) := by decide +kernel
theorem dX8_enter_55 : decode cX8_enter 55 = .ok (.iaload, 1) := by decide +kernel
theorem dX8_enter_56 : decode cX8_enter 56 = .ok (.isub, 1) := by decide +kernel
theorem dX8_enter_57 : decode cX8_enter 57 = .ok (.istore_n 1, 1) := by decide +kernel
theorem dX8_enter_58 : decode cX8_enter 58 = .ok (.iconst 0, 1) := by decide +kernel
theorem dX8_enter_59 : decode cX8_enter 59 = .ok (.istore_n 2, 1) := by decide +kernel
theorem dX8_enter_60 : decode cX8_enter 60 = .ok (.iload_n 2, 1) := by decide +kernel
theorem dX8_enter_61 : decode cX8_enter 61 = .ok (.iconst 2, 1) := by decide +kernel
theorem dX8_enter_62 : decode cX8_enter 62 = .ok (.if_icmp .ge 164, 3) := by decide +kernel
theorem dX8_enter_65 : decode cX8_enter 65 = .ok (.bipush 6, 2) := by decide +kernel
theorem dX8_enter_67 : decode cX8_enter 67 = .ok (.aload_n 0, 1) := by decide +kernel
theorem dX8_enter_68 : decode cX8_enter 68 = .ok (.getfield 7, 3) := by decide +kernel
theorem dX8_enter_71 : decode cX8_enter 71 = .ok (.iload_n 2, 1) := by decide +kernel
theorem dX8_enter_72 : decode cX8_enter 72 = .ok (.iaload, 1) := by decide +kernel
theorem dX8_enter_73 : decode cX8_enter 73 = .ok (.imul, 1) := by decide +kernel
theorem dX8_enter_74 : decode cX8_enter 74 = .ok (.istore_n 3, 1) := by decide +kernel
theorem dX8_enter_75 : decode cX8_enter 75 = .ok (.iload_n 2, 1) := by decide +kernel
theorem dX8_enter_76 : decode cX8_enter 76 = .ok (.ifCond .ne 7, 3) := by decide +kernel
theorem dX8_enter_79 : decode cX8_enter 79 = .ok (.iload_n 1, 1) := by decide +kernel
theorem dX8_enter_80 : decode cX8_enter 80 = .ok (.goto 5, 3) := by decide +kernel
theorem dX8_enter_83 : decode cX8_enter 83 = .ok (.iload_n 1, 1) := by decide +kernel
theorem dX8_enter_84 : decode cX8_enter 84 = .ok (.ineg, 1) := by decide +kernel
theorem dX8_enter_85 : decode cX8_enter 85 = .ok (.istore 4, 2) := by decide +kernel
theorem dX8_enter_87 : decode cX8_enter 87 = .ok (.aload_n 0, 1) := by decide +kernel
theorem dX8_enter_88 : decode cX8_enter 88 = .ok (.getfield 53, 3) := by decide +kernel
theorem dX8_enter_91 : decode cX8_enter 91 = .ok (.iload_n 3, 1) := by decide +kernel
theorem dX8_enter_92 : decode cX8_enter 92 = .ok (.dup2, 1) := by decide +kernel
theorem dX8_enter_93 : decode cX8_enter 93 = .ok (.iaload, 1) := by decide +kernel
theorem dX8_enter_94 : decode cX8_enter 94 = .ok (.iconst 1, 1) := by decide +kernel
theorem dX8_enter_95 : decode cX8_enter 95 = .ok (.iadd, 1) := by decide +kernel
theorem dX8_enter_96 : decode cX8_enter 96 = .ok (.iastore, 1) := by decide +kernel
theorem dX8_enter_97 : decode cX8_enter 97 = .ok (.aload_n 0, 1) := by decide +kernel
theorem dX8_enter_98 : decode cX8_enter 98 = .ok (.getfield 53, 3) := by decide +kernel
theorem dX8_enter_101 : decode cX8_enter 101 = .ok (.iload_n 3, 1) := by decide +kernel
theorem dX8_enter_102 : decode cX8_enter 102 = .ok (.iconst 1, 1) := by decide +kernel
theorem dX8_enter_103 : decode cX8_enter 103 = .ok (.iadd, 1) := by decide +kernel
theorem dX8_enter_104 : decode cX8_enter 104 = .ok (.dup2, 1) := by decide +kernel
theorem dX8_enter_105 : decode cX8_enter 105 = .ok (.iaload, 1) := by decide +kernel
theorem dX8_enter_106 : decode cX8_enter 106 = .ok (.iload 4, 2) := by decide +kernel
theorem dX8_enter_108 : decode cX8_enter 108 = .ok (.ifCond .le 7, 3) := by decide +kernel
theorem dX8_enter_111 : decode cX8_enter 111 = .ok (.iconst 1, 1) := by decide +kernel
theorem dX8_enter_112 : decode cX8_enter 112 = .ok (.goto 4, 3) := by decide +kernel
theorem dX8_enter_115 : decode cX8_enter 115 = .ok (.iconst 0, 1) := by decide +kernel
theorem dX8_enter_116 : decode cX8_enter 116 = .ok (.iadd, 1) := by decide +kernel
theorem dX8_enter_117 : decode cX8_enter 117 = .ok (.iastore, 1) := by decide +kernel
theorem dX8_enter_118 : decode cX8_enter 118 = .ok (.aload_n 0, 1) := by decide +kernel
theorem dX8_enter_119 : decode cX8_enter 119 = .ok (.getfield 53, 3) := by decide +kernel
theorem dX8_enter_122 : decode cX8_enter 122 = .ok (.iload_n 3, 1) := by decide +kernel
theorem dX8_enter_123 : decode cX8_enter 123 = .ok (.iconst 2, 1) := by decide +kernel
theorem dX8_enter_124 : decode cX8_enter 124 = .ok (.iadd, 1) := by decide +kernel
theorem dX8_enter_125 : decode cX8_enter 125 = .ok (.dup2, 1) := by decide +kernel
theorem dX8_enter_126 : decode cX8_enter 126 = .ok (.iaload, 1) := by decide +kernel
theorem dX8_enter_127 : decode cX8_enter 127 = .ok (.iload 4, 2) := by decide +kernel
theorem dX8_enter_129 : decode cX8_enter 129 = .ok (.ifCond .ne 7, 3) := by decide +kernel
theorem dX8_enter_132 : decode cX8_enter 132 = .ok (.iconst 1, 1) := by decide +kernel
theorem dX8_enter_133 : decode cX8_enter 133 = .ok (.goto 4, 3) := by decide +kernel
theorem dX8_enter_136 : decode cX8_enter 136 = .ok (.iconst 0, 1) := by decide +kernel
theorem dX8_enter_137 : decode cX8_enter 137 = .ok (.iadd, 1) := by decide +kernel
theorem dX8_enter_138 : decode cX8_enter 138 = .ok (.iastore, 1) := by decide +kernel
theorem dX8_enter_139 : decode cX8_enter 139 = .ok (.aload_n 0, 1) := by decide +kernel
theorem dX8_enter_140 : decode cX8_enter 140 = .ok (.getfield 53, 3) := by decide +kernel
theorem dX8_enter_143 : decode cX8_enter 143 = .ok (.iload_n 3, 1) := by decide +kernel
theorem dX8_enter_144 : decode cX8_enter 144 = .ok (.iconst 3, 1) := by decide +kernel
theorem dX8_enter_145 : decode cX8_enter 145 = .ok (.iadd, 1) := by decide +kernel
theorem dX8_enter_146 : decode cX8_enter 146 = .ok (.dup2, 1) := by decide +kernel
theorem dX8_enter_147 : decode cX8_enter 147 = .ok (.iaload, 1) := by decide +kernel
theorem dX8_enter_148 : decode cX8_enter 148 = .ok (.iload 4, 2) := by decide +kernel
theorem dX8_enter_150 : decode cX8_enter 150 = .ok (.ifCond .le 7, 3) := by decide +kernel
theorem dX8_enter_153 : decode cX8_enter 153 = .ok (.iconst 5, 1) := by decide +kernel
theorem dX8_enter_154 : decode cX8_enter 154 = .ok (.goto 24, 3) := by decide +kernel
theorem dX8_enter_157 : decode cX8_enter 157 = .ok (.iload 4, 2) := by decide +kernel
theorem dX8_enter_159 : decode cX8_enter 159 = .ok (.ifCond .ne 7, 3) := by decide +kernel
theorem dX8_enter_162 : decode cX8_enter 162 = .ok (.iconst 3, 1) := by decide +kernel
theorem dX8_enter_163 : decode cX8_enter 163 = .ok (.goto 15, 3) := by decide +kernel
theorem dX8_enter_166 : decode cX8_enter 166 = .ok (.iload 4, 2) := by decide +kernel
theorem dX8_enter_168 : decode cX8_enter 168 = .ok (.bipush (-7), 2) := by decide +kernel
theorem dX8_enter_170 : decode cX8_enter 170 = .ok (.if_icmp .lt 7, 3) := by decide +kernel
theorem dX8_enter_173 : decode cX8_enter 173 = .ok (.iconst 1, 1) := by decide +kernel
theorem dX8_enter_174 : decode cX8_enter 174 = .ok (.goto 4, 3) := by decide +kernel
theorem dX8_enter_177 : decode cX8_enter 177 = .ok (.iconst 0, 1) := by decide +kernel
theorem dX8_enter_178 : decode cX8_enter 178 = .ok (.iadd, 1) := by decide +kernel
theorem dX8_enter_179 : decode cX8_enter 179 = .ok (.iastore, 1) := by decide +kernel
theorem dX8_enter_180 : decode cX8_enter 180 = .ok (.aload_n 0, 1) := by decide +kernel
theorem dX8_enter_181 : decode cX8_enter 181 = .ok (.getfield 53, 3) := by decide +kernel
theorem dX8_enter_184 : decode cX8_enter 184 = .ok (.iload_n 3, 1) := by decide +kernel
theorem dX8_enter_185 : decode cX8_enter 185 = .ok (.iconst 4, 1) := by decide +kernel
theorem dX8_enter_186 : decode cX8_enter 186 = .ok (.iadd, 1) := by decide +kernel
theorem dX8_enter_187 : decode cX8_enter 187 = .ok (.dup2, 1) := by decide +kernel
theorem dX8_enter_188 : decode cX8_enter 188 = .ok (.iaload, 1) := by decide +kernel
theorem dX8_enter_189 : decode cX8_enter 189 = .ok (.aload_n 0, 1) := by decide +kernel
theorem dX8_enter_190 : decode cX8_enter 190 = .ok (.getfield 41, 3) := by decide +kernel
theorem dX8_enter_193 : decode cX8_enter 193 = .ok (.bipush 104, 2) := by decide +kernel
theorem dX8_enter_195 : decode cX8_enter 195 = .ok (.iload_n 2, 1) := by decide +kernel
theorem dX8_enter_196 : decode cX8_enter 196 = .ok (.iadd, 1) := by decide +kernel
theorem dX8_enter_197 : decode cX8_enter 197 = .ok (.iaload, 1) := by decide +kernel
theorem dX8_enter_198 : decode cX8_enter 198 = .ok (.iadd, 1) := by decide +kernel
theorem dX8_enter_199 : decode cX8_enter 199 = .ok (.iastore, 1) := by decide +kernel
theorem dX8_enter_200 : decode cX8_enter 200 = .ok (.aload_n 0, 1) := by decide +kernel
theorem dX8_enter_201 : decode cX8_enter 201 = .ok (.getfield 53, 3) := by decide +kernel
theorem dX8_enter_204 : decode cX8_enter 204 = .ok (.iload_n 3, 1) := by decide +kernel
theorem dX8_enter_205 : decode cX8_enter 205 = .ok (.iconst 5, 1) := by decide +kernel
theorem dX8_enter_206 : decode cX8_enter 206 = .ok (.iadd, 1) := by decide +kernel
theorem dX8_enter_207 : decode cX8_enter 207 = .ok (.dup2, 1) := by decide +kernel
theorem dX8_enter_208 : decode cX8_enter 208 = .ok (.iaload, 1) := by decide +kernel
theorem dX8_enter_209 : decode cX8_enter 209 = .ok (.aload_n 0, 1) := by decide +kernel
theorem dX8_enter_210 : decode cX8_enter 210 = .ok (.getfield 41, 3) := by decide +kernel
theorem dX8_enter_213 : decode cX8_enter 213 = .ok (.bipush 105, 2) := by decide +kernel
theorem dX8_enter_215 : decode cX8_enter 215 = .ok (.iload_n 2, 1) := by decide +kernel
theorem dX8_enter_216 : decode cX8_enter 216 = .ok (.isub, 1) := by decide +kernel
theorem dX8_enter_217 : decode cX8_enter 217 = .ok (.iaload, 1) := by decide +kernel
theorem dX8_enter_218 : decode cX8_enter 218 = .ok (.iadd, 1) := by decide +kernel
theorem dX8_enter_219 : decode cX8_enter 219 = .ok (.iastore, 1) := by decide +kernel
theorem dX8_enter_220 : decode cX8_enter 220 = .ok (.iinc 2 1, 3) := by decide +kernel
theorem dX8_enter_223 : decode cX8_enter 223 = .ok (.goto (-163), 3) := by decide +kernel
theorem dX8_enter_226 : decode cX8_enter 226 = .ok (.aload_n 0, 1) := by decide +kernel
theorem dX8_enter_227 : decode cX8_enter 227 = .ok (.iconst 0, 1) := by decide +kernel
theorem dX8_enter_228 : decode cX8_enter 228 = .ok (.putfield 166, 3) := by decide +kernel
theorem dX8_enter_231 : decode cX8_enter 231 = .ok (.iload_n 1, 1) := by decide +kernel
theorem dX8_enter_232 : decode cX8_enter 232 = .ok (.ifCond .le 12, 3) := by decide +kernel
theorem dX8_enter_235 : decode cX8_enter 235 = .ok (.aload_n 0, 1) := by decide +kernel
theorem dX8_enter_236 : decode cX8_enter 236 = .ok (.getfield 7, 3) := by decide +kernel
theorem dX8_enter_239 : decode cX8_enter 239 = .ok (.iconst 0, 1) := by decide +kernel
theorem dX8_enter_240 : decode cX8_enter 240 = .ok (.iaload, 1) := by decide +kernel
theorem dX8_enter_241 : decode cX8_enter 241 = .ok (.goto 17, 3) := by decide +kernel
theorem dX8_enter_244 : decode cX8_enter 244 = .ok (.iload_n 1, 1) := by decide +kernel
theorem dX8_enter_245 : decode cX8_enter 245 = .ok (.ifCond .ge 12, 3) := by decide +kernel
theorem dX8_enter_248 : decode cX8_enter 248 = .ok (.aload_n 0, 1) := by decide +kernel
theorem dX8_enter_249 : decode cX8_enter 249 = .ok (.getfield 7, 3) := by decide +kernel
theorem dX8_enter_252 : decode cX8_enter 252 = .ok (.iconst 1, 1) := by decide +kernel
theorem dX8_enter_253 : decode cX8_enter 253 = .ok (.iaload, 1) := by decide +kernel
theorem dX8_enter_254 : decode cX8_enter 254 = .ok (.goto 4, 3) := by decide +kernel
theorem dX8_enter_257 : decode cX8_enter 257 = .ok (.iconst (-1), 1) := by decide +kernel
theorem dX8_enter_258 : decode cX8_enter 258 = .ok (.ireturn, 1) := by decide +kernel
theorem dX8_type_0 : decode cX8_type 0 = .ok (.aload_n 0, 1) := by decide +kernel
theorem dX8_type_1 : decode cX8_type 1 = .ok (.iload_n 1, 1) := by decide +kernel
theorem dX8_type_2 : decode cX8_type 2 = .ok (.bipush 32, 2) := by decide +kernel
theorem dX8_type_4 : decode cX8_type 4 = .ok (.bipush 126, 2) := by decide +kernel
theorem dX8_type_6 : decode cX8_type 6 = .ok (.invokestatic 81, 3) := by decide +kernel
theorem dX8_type_9 : decode cX8_type 9 = .ok (.ifCond .ne 7, 3) := by decide +kernel
theorem dX8_type_12 : decode cX8_type 12 = .ok (.iconst 1, 1) := by decide +kernel
theorem dX8_type_13 : decode cX8_type 13 = .ok (.goto 17, 3) := by decide +kernel
theorem dX8_type_16 : decode cX8_type 16 = .ok (.aload_n 0, 1) := by decide +kernel
theorem dX8_type_17 : decode cX8_type 17 = .ok (.getfield 210, 3) := by decide +kernel
theorem dX8_type_20 : decode cX8_type 20 = .ok (.bipush 60, 2) := by decide +kernel
theorem dX8_type_22 : decode cX8_type 22 = .ok (.if_icmp .ne 7, 3) := by decide +kernel
theorem dX8_type_25 : decode cX8_type 25 = .ok (.iconst 2, 1) := by decide +kernel
theorem dX8_type_26 : decode cX8_type 26 = .ok (.goto 4, 3) := by decide +kernel
theorem dX8_type_29 : decode cX8_type 29 = .ok (.iconst 0, 1) := by decide +kernel
theorem dX8_type_30 : decode cX8_type 30 = .ok (.invokevirtual 169, 3) := by decide +kernel
theorem dX8_type_33 : decode cX8_type 33 = .ok (.ifCond .ne 5, 3) := by decide +kernel
theorem dX8_type_36 : decode cX8_type 36 = .ok (.iconst 0, 1) := by decide +kernel
theorem dX8_type_37 : decode cX8_type 37 = .ok (.ireturn, 1) := by decide +kernel
theorem dX8_type_38 : decode cX8_type 38 = .ok (.aload_n 0, 1) := by decide +kernel
theorem dX8_type_39 : decode cX8_type 39 = .ok (.getfield 50, 3) := by decide +kernel
theorem dX8_type_42 : decode cX8_type 42 = .ok (.aload_n 0, 1) := by decide +kernel
theorem dX8_type_43 : decode cX8_type 43 = .ok (.getfield 210, 3) := by decide +kernel
theorem dX8_type_46 : decode cX8_type 46 = .ok (.iload_n 1, 1) := by decide +kernel
theorem dX8_type_47 : decode cX8_type 47 = .ok (.iastore, 1) := by decide +kernel
theorem dX8_type_48 : decode cX8_type 48 = .ok (.aload_n 0, 1) := by decide +kernel
theorem dX8_type_49 : decode cX8_type 49 = .ok (.dup, 1) := by decide +kernel
theorem dX8_type_50 : decode cX8_type 50 = .ok (.getfield 210, 3) := by decide +kernel
theorem dX8_type_53 : decode cX8_type 53 = .ok (.iconst 1, 1) := by decide +kernel
theorem dX8_type_54 : decode cX8_type 54 = .ok (.iadd, 1) := by decide +kernel
theorem dX8_type_55 : decode cX8_type 55 = .ok (.putfield 210, 3) := by decide +kernel
theorem dX8_type_58 : decode cX8_type 58 = .ok (.aload_n 0, 1) := by decide +kernel
theorem dX8_type_59 : decode cX8_type 59 = .ok (.getfield 210, 3) := by decide +kernel
theorem dX8_type_62 : decode cX8_type 62 = .ok (.ireturn, 1) := by decide +kernel
theorem dX8_clear_0 : decode cX8_clear 0 = .ok (.aload_n 0, 1) := by decide +kernel
theorem dX8_clear_1 : decode cX8_clear 1 = .ok (.iconst 0, 1) := by decide +kernel
theorem dX8_clear_2 : decode cX8_clear 2 = .ok (.putfield 78, 3) := by decide +kernel
theorem dX8_clear_5 : decode cX8_clear 5 = .ok (.aload_n 0, 1) := by decide +kernel
theorem dX8_clear_6 : decode cX8_clear 6 = .ok (.getfield 210, 3) := by decide +kernel
theorem dX8_clear_9 : decode cX8_clear 9 = .ok (.istore_n 1, 1) := by decide +kernel
theorem dX8_clear_10 : decode cX8_clear 10 = .ok (.aload_n 0, 1) := by decide +kernel
theorem dX8_clear_11 : decode cX8_clear 11 = .ok (.iconst 0, 1) := by decide +kernel
theorem dX8_clear_12 : decode cX8_clear 12 = .ok (.putfield 210, 3) := by decide +kernel
theorem dX8_clear_15 : decode cX8_clear 15 = .ok (.iload_n 1, 1) := by decide +kernel
theorem dX8_clear_16 : decode cX8_clear 16 = .ok (.ireturn, 1) := by decide +kernel
theorem dX8_isNext_0 : decode cX8_isNext 0 = .ok (.aload_n 0, 1) := by decide +kernel
theorem dX8_isNext_1 : decode cX8_isNext 1 = .ok (.getfield 213, 3) := by decide +kernel
theorem dX8_isNext_4 : decode cX8_isNext 4 = .ok (.ifCond .ne 35, 3) := by decide +kernel
theorem dX8_isNext_7 : decode cX8_isNext 7 = .ok (.aload_n 0, 1) := by decide +kernel
theorem dX8_isNext_8 : decode cX8_isNext 8 = .ok (.getfield 216, 3) := by decide +kernel
theorem dX8_isNext_11 : decode cX8_isNext 11 = .ok (.aload_n 0, 1) := by decide +kernel
theorem dX8_isNext_12 : decode cX8_isNext 12 = .ok (.getfield 210, 3) := by decide +kernel
theorem dX8_isNext_15 : decode cX8_isNext 15 = .ok (.if_icmp .ge 24, 3) := by decide +kernel
theorem dX8_isNext_18 : decode cX8_isNext 18 = .ok (.aload_n 0, 1) := by decide +kernel
theorem dX8_isNext_19 : decode cX8_isNext 19 = .ok (.getfield 50, 3) := by decide +kernel
theorem dX8_isNext_22 : decode cX8_isNext 22 = .ok (.aload_n 0, 1) := by decide +kernel
theorem dX8_isNext_23 : decode cX8_isNext 23 = .ok (.getfield 216, 3) := by decide +kernel
theorem dX8_isNext_26 : decode cX8_isNext 26 = .ok (.iaload, 1) := by decide +kernel
theorem dX8_isNext_27 : decode cX8_isNext 27 = .ok (.iload_n 1, 1) := by decide +kernel
theorem dX8_isNext_28 : decode cX8_isNext 28 = .ok (.iload_n 2, 1) := by decide +kernel
theorem dX8_isNext_29 : decode cX8_isNext 29 = .ok (.invokestatic 81, 3) := by decide +kernel
theorem dX8_isNext_32 : decode cX8_isNext 32 = .ok (.ifCond .eq 7, 3) := by decide +kernel
theorem dX8_isNext_35 : decode cX8_isNext 35 = .ok (.iconst 1, 1) := by decide +kernel
theorem dX8_isNext_36 : decode cX8_isNext 36 = .ok (.goto 4, 3) := by decide +kernel
theorem dX8_isNext_39 : decode cX8_isNext 39 = .ok (.iconst 0, 1) := by decide +kernel
theorem dX8_isNext_40 : decode cX8_isNext 40 = .ok (.ireturn, 1) := by decide +kernel
theorem dX8_takes_0 : decode cX8_takes 0 = .ok (.aload_n 0, 1) := by decide +kernel
theorem dX8_takes_1 : decode cX8_takes 1 = .ok (.iload_n 1, 1) := by decide +kernel
theorem dX8_takes_2 : decode cX8_takes 2 = .ok (.iload_n 2, 1) := by decide +kernel
theorem dX8_takes_3 : decode cX8_takes 3 = .ok (.invokevirtual 219, 3) := by decide +kernel
theorem dX8_takes_6 : decode cX8_takes 6 = .ok (.istore_n 3, 1) := by decide +kernel
theorem dX8_takes_7 : decode cX8_takes 7 = .ok (.iload_n 3, 1) := by decide +kernel
theorem dX8_takes_8 : decode cX8_takes 8 = .ok (.ifCond .eq 17, 3) := by decide +kernel
theorem dX8_takes_11 : decode cX8_takes 11 = .ok (.aload_n 0, 1) := by decide +kernel
theorem dX8_takes_12 : decode cX8_takes 12 = .ok (.getfield 50, 3) := by decide +kernel
theorem dX8_takes_15 : decode cX8_takes 15 = .ok (.aload_n 0, 1) := by decide +kernel
theorem dX8_takes_16 : decode cX8_takes 16 = .ok (.getfield 216, 3) := by decide +kernel
theorem dX8_takes_19 : decode cX8_takes 19 = .ok (.iaload, 1) := by decide +kernel
theorem dX8_takes_20 : decode cX8_takes 20 = .ok (.iload_n 1, 1) := by decide +kernel
theorem dX8_takes_21 : decode cX8_takes 21 = .ok (.isub, 1) := by decide +kernel
theorem dX8_takes_22 : decode cX8_takes 22 = .ok (.goto 4, 3) := by decide +kernel
theorem dX8_takes_25 : decode cX8_takes 25 = .ok (.iconst 0, 1) := by decide +kernel
theorem dX8_takes_26 : decode cX8_takes 26 = .ok (.istore 4, 2) := by decide +kernel
theorem dX8_takes_28 : decode cX8_takes 28 = .ok (.aload_n 0, 1) := by decide +kernel
theorem dX8_takes_29 : decode cX8_takes 29 = .ok (.dup, 1) := by decide +kernel
theorem dX8_takes_30 : decode cX8_takes 30 = .ok (.getfield 216, 3) := by decide +kernel
theorem dX8_takes_33 : decode cX8_takes 33 = .ok (.iload_n 3, 1) := by decide +kernel
theorem dX8_takes_34 : decode cX8_takes 34 = .ok (.ifCond .eq 7, 3) := by decide +kernel
theorem dX8_takes_37 : decode cX8_takes 37 = .ok (.iconst 1, 1) := by decide +kernel
theorem dX8_takes_38 : decode cX8_takes 38 = .ok (.goto 4, 3) := by decide +kernel
theorem dX8_takes_41 : decode cX8_takes 41 = .ok (.iconst 0, 1) := by decide +kernel
theorem dX8_takes_42 : decode cX8_takes 42 = .ok (.iadd, 1) := by decide +kernel
theorem dX8_takes_43 : decode cX8_takes 43 = .ok (.putfield 216, 3) := by decide +kernel
theorem dX8_takes_46 : decode cX8_takes 46 = .ok (.aload_n 0, 1) := by decide +kernel
theorem dX8_takes_47 : decode cX8_takes 47 = .ok (.aload_n 0, 1) := by decide +kernel
theorem dX8_takes_48 : decode cX8_takes 48 = .ok (.getfield 213, 3) := by decide +kernel
theorem dX8_takes_51 : decode cX8_takes 51 = .ok (.ifCond .ne 7, 3) := by decide +kernel
theorem dX8_takes_54 : decode cX8_takes 54 = .ok (.iload_n 3, 1) := by decide +kernel
theorem dX8_takes_55 : decode cX8_takes 55 = .ok (.ifCond .ne 7, 3) := by decide +kernel
theorem dX8_takes_58 : decode cX8_takes 58 = .ok (.iconst 1, 1) := by decide +kernel
theorem dX8_takes_59 : decode cX8_takes 59 = .ok (.goto 4, 3) := by decide +kernel
theorem dX8_takes_62 : decode cX8_takes 62 = .ok (.iconst 0, 1) := by decide +kernel
theorem dX8_takes_63 : decode cX8_takes 63 = .ok (.putfield 213, 3) := by decide +kernel
theorem dX8_takes_66 : decode cX8_takes 66 = .ok (.iload 4, 2) := by decide +kernel
theorem dX8_takes_68 : decode cX8_takes 68 = .ok (.ireturn, 1) := by decide +kernel
theorem dX8_takesAll_0 : decode cX8_takesAll 0 = .ok (.aload_n 0, 1) := by decide +kernel
theorem dX8_takesAll_1 : decode cX8_takesAll 1 = .ok (.iload_n 1, 1) := by decide +kernel
theorem dX8_takesAll_2 : decode cX8_takesAll 2 = .ok (.iload_n 1, 1) := by decide +kernel
theorem dX8_takesAll_3 : decode cX8_takesAll 3 = .ok (.invokevirtual 222, 3) := by decide +kernel
theorem dX8_takesAll_6 : decode cX8_takesAll 6 = .ok (.istore 5, 2) := by decide +kernel
theorem dX8_takesAll_8 : decode cX8_takesAll 8 = .ok (.iload_n 2, 1) := by decide +kernel
theorem dX8_takesAll_9 : decode cX8_takesAll 9 = .ok (.ifCond .ne 7, 3) := by decide +kernel
theorem dX8_takesAll_12 : decode cX8_takesAll 12 = .ok (.iconst 0, 1) := by decide +kernel
theorem dX8_takesAll_13 : decode cX8_takesAll 13 = .ok (.goto 9, 3) := by decide +kernel
theorem dX8_takesAll_16 : decode cX8_takesAll 16 = .ok (.aload_n 0, 1) := by decide +kernel
theorem dX8_takesAll_17 : decode cX8_takesAll 17 = .ok (.iload_n 2, 1) := by decide +kernel
theorem dX8_takesAll_18 : decode cX8_takesAll 18 = .ok (.iload_n 2, 1) := by decide +kernel
theorem dX8_takesAll_19 : decode cX8_takesAll 19 = .ok (.invokevirtual 222, 3) := by decide +kernel
theorem dX8_takesAll_22 : decode cX8_takesAll 22 = .ok (.istore 5, 2) := by decide +kernel
theorem dX8_takesAll_24 : decode cX8_takesAll 24 = .ok (.iload_n 3, 1) := by decide +kernel
theorem dX8_takesAll_25 : decode cX8_takesAll 25 = .ok (.ifCond .ne 7, 3) := by decide +kernel
theorem dX8_takesAll_28 : decode cX8_takesAll 28 = .ok (.iconst 0, 1) := by decide +kernel
theorem dX8_takesAll_29 : decode cX8_takesAll 29 = .ok (.goto 9, 3) := by decide +kernel
theorem dX8_takesAll_32 : decode cX8_takesAll 32 = .ok (.aload_n 0, 1) := by decide +kernel
theorem dX8_takesAll_33 : decode cX8_takesAll 33 = .ok (.iload_n 3, 1) := by decide +kernel
theorem dX8_takesAll_34 : decode cX8_takesAll 34 = .ok (.iload_n 3, 1) := by decide +kernel
theorem dX8_takesAll_35 : decode cX8_takesAll 35 = .ok (.invokevirtual 222, 3) := by decide +kernel
theorem dX8_takesAll_38 : decode cX8_takesAll 38 = .ok (.istore 5, 2) := by decide +kernel
theorem dX8_takesAll_40 : decode cX8_takesAll 40 = .ok (.iload 4, 2) := by decide +kernel
theorem dX8_takesAll_42 : decode cX8_takesAll 42 = .ok (.ifCond .ne 7, 3) := by decide +kernel
theorem dX8_takesAll_45 : decode cX8_takesAll 45 = .ok (.iconst 0, 1) := by decide +kernel
theorem dX8_takesAll_46 : decode cX8_takesAll 46 = .ok (.goto 11, 3) := by decide +kernel
theorem dX8_takesAll_49 : decode cX8_takesAll 49 = .ok (.aload_n 0, 1) := by decide +kernel
theorem dX8_takesAll_50 : decode cX8_takesAll 50 = .ok (.iload 4, 2) := by decide +kernel
theorem dX8_takesAll_52 : decode cX8_takesAll 52 = .ok (.iload 4, 2) := by decide +kernel
theorem dX8_takesAll_54 : decode cX8_takesAll 54 = .ok (.invokevirtual 222, 3) := by decide +kernel
theorem dX8_takesAll_57 : decode cX8_takesAll 57 = .ok (.istore 5, 2) := by decide +kernel
theorem dX8_takesAll_59 : decode cX8_takesAll 59 = .ok (.return_, 1) := by decide +kernel
theorem dX8_readWord_0 : decode cX8_readWord 0 = .ok (.aload_n 0, 1) := by decide +kernel
theorem dX8_readWord_1 : decode cX8_readWord 1 = .ok (.getfield 216, 3) := by decide +kernel
theorem dX8_readWord_4 : decode cX8_readWord 4 = .ok (.aload_n 0, 1) := by decide +kernel
theorem dX8_readWord_5 : decode cX8_readWord 5 = .ok (.getfield 210, 3) := by decide +kernel
theorem dX8_readWord_8 : decode cX8_readWord 8 = .ok (.if_icmp .ge 15, 3) := by decide +kernel
theorem dX8_readWord_11 : decode cX8_readWord 11 = .ok (.aload_n 0, 1) := by decide +kernel
theorem dX8_readWord_12 : decode cX8_readWord 12 = .ok (.getfield 50, 3) := by decide +kernel
theorem dX8_readWord_15 : decode cX8_readWord 15 = .ok (.aload_n 0, 1) := by decide +kernel
theorem dX8_readWord_16 : decode cX8_readWord 16 = .ok (.getfield 216, 3) := by decide +kernel
theorem dX8_readWord_19 : decode cX8_readWord 19 = .ok (.iaload, 1) := by decide +kernel
theorem dX8_readWord_20 : decode cX8_readWord 20 = .ok (.goto 4, 3) := by decide +kernel
theorem dX8_readWord_23 : decode cX8_readWord 23 = .ok (.iconst 0, 1) := by decide +kernel
theorem dX8_readWord_24 : decode cX8_readWord 24 = .ok (.istore_n 1, 1) := by decide +kernel
theorem dX8_readWord_25 : decode cX8_readWord 25 = .ok (.aload_n 0, 1) := by decide +kernel
theorem dX8_readWord_26 : decode cX8_readWord 26 = .ok (.dup, 1) := by decide +kernel
theorem dX8_readWord_27 : decode cX8_readWord 27 = .ok (.getfield 216, 3) := by decide +kernel
theorem dX8_readWord_30 : decode cX8_readWord 30 = .ok (.iconst 1, 1) := by decide +kernel
theorem dX8_readWord_31 : decode cX8_readWord 31 = .ok (.iadd, 1) := by decide +kernel
theorem dX8_readWord_32 : decode cX8_readWord 32 = .ok (.putfield 216, 3) := by decide +kernel
theorem dX8_readWord_35 : decode cX8_readWord 35 = .ok (.aload_n 0, 1) := by decide +kernel
theorem dX8_readWord_36 : decode cX8_readWord 36 = .ok (.getfield 216, 3) := by decide +kernel
theorem dX8_readWord_39 : decode cX8_readWord 39 = .ok (.aload_n 0, 1) := by decide +kernel
theorem dX8_readWord_40 : decode cX8_readWord 40 = .ok (.getfield 210, 3) := by decide +kernel
theorem dX8_readWord_43 : decode cX8_readWord 43 = .ok (.if_icmp .ge 15, 3) := by decide +kernel
theorem dX8_readWord_46 : decode cX8_readWord 46 = .ok (.aload_n 0, 1) := by decide +kernel
theorem dX8_readWord_47 : decode cX8_readWord 47 = .ok (.getfield 50, 3) := by decide +kernel
theorem dX8_readWord_50 : decode cX8_readWord 50 = .ok (.aload_n 0, 1) := by decide +kernel
theorem dX8_readWord_51 : decode cX8_readWord 51 = .ok (.getfield 216, 3) := by decide +kernel
theorem dX8_readWord_54 : decode cX8_readWord 54 = .ok (.iaload, 1) := by decide +kernel
theorem dX8_readWord_55 : decode cX8_readWord 55 = .ok (.goto 4, 3) := by decide +kernel
theorem dX8_readWord_58 : decode cX8_readWord 58 = .ok (.iconst 0, 1) := by decide +kernel
theorem dX8_readWord_59 : decode cX8_readWord 59 = .ok (.istore_n 2, 1) := by decide +kernel
theorem dX8_readWord_60 : decode cX8_readWord 60 = .ok (.aload_n 0, 1) := by decide +kernel
theorem dX8_readWord_61 : decode cX8_readWord 61 = .ok (.iconst (-1), 1) := by decide +kernel
theorem dX8_readWord_62 : decode cX8_readWord 62 = .ok (.putfield 225, 3) := by decide +kernel
theorem dX8_readWord_65 : decode cX8_readWord 65 = .ok (.iload_n 1, 1) := by decide +kernel
theorem dX8_readWord_66 : decode cX8_readWord 66 = .ok (.bipush 114, 2) := by decide +kernel
theorem dX8_readWord_68 : decode cX8_readWord 68 = .ok (.if_icmp .ne 17, 3) := by decide +kernel
theorem dX8_readWord_71 : decode cX8_readWord 71 = .ok (.aload_n 0, 1) := by decide +kernel
theorem dX8_readWord_72 : decode cX8_readWord 72 = .ok (.bipush 97, 2) := by decide +kernel
theorem dX8_readWord_74 : decode cX8_readWord 74 = .ok (.bipush 105, 2) := by decide +kernel
theorem dX8_readWord_76 : decode cX8_readWord 76 = .ok (.bipush 100, 2) := by decide +kernel
theorem dX8_readWord_78 : decode cX8_readWord 78 = .ok (.iconst 0, 1) := by decide +kernel
theorem dX8_readWord_79 : decode cX8_readWord 79 = .ok (.invokevirtual 228, 3) := by decide +kernel
theorem dX8_readWord_82 : decode cX8_readWord 82 = .ok (.goto 245, 3) := by decide +kernel
theorem dX8_readWord_85 : decode cX8_readWord 85 = .ok (.iload_n 1, 1) := by decide +kernel
theorem dX8_readWord_86 : decode cX8_readWord 86 = .ok (.bipush 102, 2) := by decide +kernel
theorem dX8_readWord_88 : decode cX8_readWord 88 = .ok (.if_icmp .ne 22, 3) := by decide +kernel
theorem dX8_readWord_91 : decode cX8_readWord 91 = .ok (.aload_n 0, 1) := by decide +kernel
theorem dX8_readWord_92 : decode cX8_readWord 92 = .ok (.iconst 4, 1) := by decide +kernel
theorem dX8_readWord_93 : decode cX8_readWord 93 = .ok (.putfield 225, 3) := by decide +kernel
theorem dX8_readWord_96 : decode cX8_readWord 96 = .ok (.aload_n 0, 1) := by decide +kernel
theorem dX8_readWord_97 : decode cX8_readWord 97 = .ok (.bipush 97, 2) := by decide +kernel
theorem dX8_readWord_99 : decode cX8_readWord 99 = .ok (.bipush 108, 2) := by decide +kernel
theorem dX8_readWord_101 : decode cX8_readWord 101 = .ok (.bipush 108, 2) := by decide +kernel
theorem dX8_readWord_103 : decode cX8_readWord 103 = .ok (.iconst 0, 1) := by decide +kernel
theorem dX8_readWord_104 : decode cX8_readWord 104 = .ok (.invokevirtual 228, 3) := by decide +kernel
theorem dX8_readWord_107 : decode cX8_readWord 107 = .ok (.goto 220, 3) := by decide +kernel
theorem dX8_readWord_110 : decode cX8_readWord 110 = .ok (.iload_n 1, 1) := by decide +kernel
theorem dX8_readWord_111 : decode cX8_readWord 111 = .ok (.bipush 108, 2) := by decide +kernel
theorem dX8_readWord_113 : decode cX8_readWord 113 = .ok (.if_icmp .ne 22, 3) := by decide +kernel
theorem dX8_readWord_116 : decode cX8_readWord 116 = .ok (.aload_n 0, 1) := by decide +kernel
theorem dX8_readWord_117 : decode cX8_readWord 117 = .ok (.iconst 5, 1) := by decide +kernel
theorem dX8_readWord_118 : decode cX8_readWord 118 = .ok (.putfield 225, 3) := by decide +kernel
theorem dX8_readWord_121 : decode cX8_readWord 121 = .ok (.aload_n 0, 1) := by decide +kernel
theorem dX8_readWord_122 : decode cX8_readWord 122 = .ok (.bipush 105, 2) := by decide +kernel
theorem dX8_readWord_124 : decode cX8_readWord 124 = .ok (.bipush 110, 2) := by decide +kernel
theorem dX8_readWord_126 : decode cX8_readWord 126 = .ok (.bipush 101, 2) := by decide +kernel
theorem dX8_readWord_128 : decode cX8_readWord 128 = .ok (.iconst 0, 1) := by decide +kernel
theorem dX8_readWord_129 : decode cX8_readWord 129 = .ok (.invokevirtual 228, 3) := by decide +kernel
theorem dX8_readWord_132 : decode cX8_readWord 132 = .ok (.goto 195, 3) := by decide +kernel
theorem dX8_readWord_135 : decode cX8_readWord 135 = .ok (.iload_n 1, 1) := by decide +kernel
theorem dX8_readWord_136 : decode cX8_readWord 136 = .ok (.bipush 116, 2) := by decide +kernel
theorem dX8_readWord_138 : decode cX8_readWord 138 = .ok (.if_icmp .ne 29, 3) := by decide +kernel
theorem dX8_readWord_141 : decode cX8_readWord 141 = .ok (.iload_n 2, 1) := by decide +kernel
theorem dX8_readWord_142 : decode cX8_readWord 142 = .ok (.bipush 105, 2) := by decide +kernel
theorem dX8_readWord_144 : decode cX8_readWord 144 = .ok (.if_icmp .ne 23, 3) := by decide +kernel
theorem dX8_readWord_147 : decode cX8_readWord 147 = .ok (.aload_n 0, 1) := by decide +kernel
theorem dX8_readWord_148 : decode cX8_readWord 148 = .ok (.bipush 6, 2) := by decide +kernel
theorem dX8_readWord_150 : decode cX8_readWord 150 = .ok (.putfield 225, 3) := by decide +kernel
theorem dX8_readWord_153 : decode cX8_readWord 153 = .ok (.aload_n 0, 1) := by decide +kernel
theorem dX8_readWord_154 : decode cX8_readWord 154 = .ok (.bipush 105, 2) := by decide +kernel
theorem dX8_readWord_156 : decode cX8_readWord 156 = .ok (.bipush 109, 2) := by decide +kernel
theorem dX8_readWord_158 : decode cX8_readWord 158 = .ok (.bipush 101, 2) := by decide +kernel
theorem dX8_readWord_160 : decode cX8_readWord 160 = .ok (.iconst 0, 1) := by decide +kernel
theorem dX8_readWord_161 : decode cX8_readWord 161 = .ok (.invokevirtual 228, 3) := by decide +kernel
theorem dX8_readWord_164 : decode cX8_readWord 164 = .ok (.goto 163, 3) := by decide +kernel
theorem dX8_readWord_167 : decode cX8_readWord 167 = .ok (.iload_n 1, 1) := by decide +kernel
theorem dX8_readWord_168 : decode cX8_readWord 168 = .ok (.bipush 116, 2) := by decide +kernel
theorem dX8_readWord_170 : decode cX8_readWord 170 = .ok (.if_icmp .ne 23, 3) := by decide +kernel
theorem dX8_readWord_173 : decode cX8_readWord 173 = .ok (.aload_n 0, 1) := by decide +kernel
theorem dX8_readWord_174 : decode cX8_readWord 174 = .ok (.iconst 0, 1) := by decide +kernel
theorem dX8_readWord_175 : decode cX8_readWord 175 = .ok (.putfield 225, 3) := by decide +kernel
theorem dX8_readWord_178 : decode cX8_readWord 178 = .ok (.aload_n 0, 1) := by decide +kernel
theorem dX8_readWord_179 : decode cX8_readWord 179 = .ok (.bipush 111, 2) := by decide +kernel
theorem dX8_readWord_181 : decode cX8_readWord 181 = .ok (.bipush 117, 2) := by decide +kernel
theorem dX8_readWord_183 : decode cX8_readWord 183 = .ok (.bipush 99, 2) := by decide +kernel
theorem dX8_readWord_185 : decode cX8_readWord 185 = .ok (.bipush 104, 2) := by decide +kernel
theorem dX8_readWord_187 : decode cX8_readWord 187 = .ok (.invokevirtual 228, 3) := by decide +kernel
theorem dX8_readWord_190 : decode cX8_readWord 190 = .ok (.goto 137, 3) := by decide +kernel
theorem dX8_readWord_193 : decode cX8_readWord 193 = .ok (.iload_n 1, 1) := by decide +kernel
theorem dX8_readWord_194 : decode cX8_readWord 194 = .ok (.bipush 98, 2) := by decide +kernel
theorem dX8_readWord_196 : decode cX8_readWord 196 = .ok (.if_icmp .ne 29, 3) := by decide +kernel
theorem dX8_readWord_199 : decode cX8_readWord 199 = .ok (.iload_n 2, 1) := by decide +kernel
theorem dX8_readWord_200 : decode cX8_readWord 200 = .ok (.bipush 111, 2) := by decide +kernel
theorem dX8_readWord_202 : decode cX8_readWord 202 = .ok (.if_icmp .ne 23, 3) := by decide +kernel
theorem dX8_readWord_205 : decode cX8_readWord 205 = .ok (.aload_n 0, 1) := by decide +kernel
theorem dX8_readWord_206 : decode cX8_readWord 206 = .ok (.iconst 1, 1) := by decide +kernel
theorem dX8_readWord_207 : decode cX8_readWord 207 = .ok (.putfield 225, 3) := by decide +kernel
theorem dX8_readWord_210 : decode cX8_readWord 210 = .ok (.aload_n 0, 1) := by decide +kernel
theorem dX8_readWord_211 : decode cX8_readWord 211 = .ok (.bipush 111, 2) := by decide +kernel
theorem dX8_readWord_213 : decode cX8_readWord 213 = .ok (.bipush 110, 2) := by decide +kernel
theorem dX8_readWord_215 : decode cX8_readWord 215 = .ok (.bipush 117, 2) := by decide +kernel
theorem dX8_readWord_217 : decode cX8_readWord 217 = .ok (.bipush 115, 2) := by decide +kernel
theorem dX8_readWord_219 : decode cX8_readWord 219 = .ok (.invokevirtual 228, 3) := by decide +kernel
theorem dX8_readWord_222 : decode cX8_readWord 222 = .ok (.goto 105, 3) := by decide +kernel
theorem dX8_readWord_225 : decode cX8_readWord 225 = .ok (.iload_n 1, 1) := by decide +kernel
theorem dX8_readWord_226 : decode cX8_readWord 226 = .ok (.bipush 98, 2) := by decide +kernel
theorem dX8_readWord_228 : decode cX8_readWord 228 = .ok (.if_icmp .ne 84, 3) := by decide +kernel
theorem dX8_readWord_231 : decode cX8_readWord 231 = .ok (.aload_n 0, 1) := by decide +kernel
theorem dX8_readWord_232 : decode cX8_readWord 232 = .ok (.bipush 97, 2) := by decide +kernel
theorem dX8_readWord_234 : decode cX8_readWord 234 = .ok (.bipush 97, 2) := by decide +kernel
theorem dX8_readWord_236 : decode cX8_readWord 236 = .ok (.invokevirtual 222, 3) := by decide +kernel
theorem dX8_readWord_239 : decode cX8_readWord 239 = .ok (.istore_n 3, 1) := by decide +kernel
theorem dX8_readWord_240 : decode cX8_readWord 240 = .ok (.aload_n 0, 1) := by decide +kernel
theorem dX8_readWord_241 : decode cX8_readWord 241 = .ok (.aload_n 0, 1) := by decide +kernel
theorem dX8_readWord_242 : decode cX8_readWord 242 = .ok (.bipush 117, 2) := by decide +kernel
theorem dX8_readWord_244 : decode cX8_readWord 244 = .ok (.bipush 117, 2) := by decide +kernel
theorem dX8_readWord_246 : decode cX8_readWord 246 = .ok (.invokevirtual 219, 3) := by decide +kernel
theorem dX8_readWord_249 : decode cX8_readWord 249 = .ok (.ifCond .eq 7, 3) := by decide +kernel
theorem dX8_readWord_252 : decode cX8_readWord 252 = .ok (.iconst 2, 1) := by decide +kernel
theorem dX8_readWord_253 : decode cX8_readWord 253 = .ok (.goto 4, 3) := by decide +kernel
theorem dX8_readWord_256 : decode cX8_readWord 256 = .ok (.iconst 3, 1) := by decide +kernel
theorem dX8_readWord_257 : decode cX8_readWord 257 = .ok (.putfield 225, 3) := by decide +kernel
theorem dX8_readWord_260 : decode cX8_readWord 260 = .ok (.aload_n 0, 1) := by decide +kernel
theorem dX8_readWord_261 : decode cX8_readWord 261 = .ok (.aload_n 0, 1) := by decide +kernel
theorem dX8_readWord_262 : decode cX8_readWord 262 = .ok (.getfield 225, 3) := by decide +kernel
theorem dX8_readWord_265 : decode cX8_readWord 265 = .ok (.iconst 2, 1) := by decide +kernel
theorem dX8_readWord_266 : decode cX8_readWord 266 = .ok (.if_icmp .ne 8, 3) := by decide +kernel
theorem dX8_readWord_269 : decode cX8_readWord 269 = .ok (.bipush 117, 2) := by decide +kernel
theorem dX8_readWord_271 : decode cX8_readWord 271 = .ok (.goto 5, 3) := by decide +kernel
theorem dX8_readWord_274 : decode cX8_readWord 274 = .ok (.bipush 99, 2) := by decide +kernel
theorem dX8_readWord_276 : decode cX8_readWord 276 = .ok (.aload_n 0, 1) := by decide +kernel
theorem dX8_readWord_277 : decode cX8_readWord 277 = .ok (.getfield 225, 3) := by decide +kernel
theorem dX8_readWord_280 : decode cX8_readWord 280 = .ok (.iconst 2, 1) := by decide +kernel
theorem dX8_readWord_281 : decode cX8_readWord 281 = .ok (.if_icmp .ne 8, 3) := by decide +kernel
theorem dX8_readWord_284 : decode cX8_readWord 284 = .ok (.bipush 108, 2) := by decide +kernel
theorem dX8_readWord_286 : decode cX8_readWord 286 = .ok (.goto 5, 3) := by decide +kernel
theorem dX8_readWord_289 : decode cX8_readWord 289 = .ok (.bipush 107, 2) := by decide +kernel
theorem dX8_readWord_291 : decode cX8_readWord 291 = .ok (.aload_n 0, 1) := by decide +kernel
theorem dX8_readWord_292 : decode cX8_readWord 292 = .ok (.getfield 225, 3) := by decide +kernel
theorem dX8_readWord_295 : decode cX8_readWord 295 = .ok (.iconst 2, 1) := by decide +kernel
theorem dX8_readWord_296 : decode cX8_readWord 296 = .ok (.if_icmp .ne 8, 3) := by decide +kernel
theorem dX8_readWord_299 : decode cX8_readWord 299 = .ok (.bipush 107, 2) := by decide +kernel
theorem dX8_readWord_301 : decode cX8_readWord 301 = .ok (.goto 4, 3) := by decide +kernel
theorem dX8_readWord_304 : decode cX8_readWord 304 = .ok (.iconst 0, 1) := by decide +kernel
theorem dX8_readWord_305 : decode cX8_readWord 305 = .ok (.iconst 0, 1) := by decide +kernel
theorem dX8_readWord_306 : decode cX8_readWord 306 = .ok (.invokevirtual 228, 3) := by decide +kernel
theorem dX8_readWord_309 : decode cX8_readWord 309 = .ok (.goto 18, 3) := by decide +kernel
theorem dX8_readWord_312 : decode cX8_readWord 312 = .ok (.aload_n 0, 1) := by decide +kernel
theorem dX8_readWord_313 : decode cX8_readWord 313 = .ok (.iconst 1, 1) := by decide +kernel
theorem dX8_readWord_314 : decode cX8_readWord 314 = .ok (.putfield 213, 3) := by decide +kernel
theorem dX8_readWord_317 : decode cX8_readWord 317 = .ok (.aload_n 0, 1) := by decide +kernel
theorem dX8_readWord_318 : decode cX8_readWord 318 = .ok (.dup, 1) := by decide +kernel
theorem dX8_readWord_319 : decode cX8_readWord 319 = .ok (.getfield 216, 3) := by decide +kernel
theorem dX8_readWord_322 : decode cX8_readWord 322 = .ok (.iconst 1, 1) := by decide +kernel
theorem dX8_readWord_323 : decode cX8_readWord 323 = .ok (.isub, 1) := by decide +kernel
theorem dX8_readWord_324 : decode cX8_readWord 324 = .ok (.putfield 216, 3) := by decide +kernel
theorem dX8_readWord_327 : decode cX8_readWord 327 = .ok (.return_, 1) := by decide +kernel
theorem dX8_readOrder_0 : decode cX8_readOrder 0 = .ok (.aload_n 0, 1) := by decide +kernel
theorem dX8_readOrder_1 : decode cX8_readOrder 1 = .ok (.invokevirtual 232, 3) := by decide +kernel
theorem dX8_readOrder_4 : decode cX8_readOrder 4 = .ok (.aload_n 0, 1) := by decide +kernel
theorem dX8_readOrder_5 : decode cX8_readOrder 5 = .ok (.aload_n 0, 1) := by decide +kernel
theorem dX8_readOrder_6 : decode cX8_readOrder 6 = .ok (.getfield 225, 3) := by decide +kernel
theorem dX8_readOrder_9 : decode cX8_readOrder 9 = .ok (.iconst (-1), 1) := by decide +kernel
theorem dX8_readOrder_10 : decode cX8_readOrder 10 = .ok (.if_icmp .eq 10, 3) := by decide +kernel
theorem dX8_readOrder_13 : decode cX8_readOrder 13 = .ok (.aload_n 0, 1) := by decide +kernel
theorem dX8_readOrder_14 : decode cX8_readOrder 14 = .ok (.getfield 225, 3) := by decide +kernel
theorem dX8_readOrder_17 : decode cX8_readOrder 17 = .ok (.ifCond .ne 14, 3) := by decide +kernel
theorem dX8_readOrder_20 : decode cX8_readOrder 20 = .ok (.aload_n 0, 1) := by decide +kernel
theorem dX8_readOrder_21 : decode cX8_readOrder 21 = .ok (.bipush 48, 2) := by decide +kernel
theorem dX8_readOrder_23 : decode cX8_readOrder 23 = .ok (.bipush 57, 2) := by decide +kernel
theorem dX8_readOrder_25 : decode cX8_readOrder 25 = .ok (.invokevirtual 222, 3) := by decide +kernel
theorem dX8_readOrder_28 : decode cX8_readOrder 28 = .ok (.goto 4, 3) := by decide +kernel
theorem dX8_readOrder_31 : decode cX8_readOrder 31 = .ok (.iconst (-1), 1) := by decide +kernel
theorem dX8_readOrder_32 : decode cX8_readOrder 32 = .ok (.putfield 235, 3) := by decide +kernel
theorem dX8_readOrder_35 : decode cX8_readOrder 35 = .ok (.aload_n 0, 1) := by decide +kernel
theorem dX8_readOrder_36 : decode cX8_readOrder 36 = .ok (.iconst 0, 1) := by decide +kernel
theorem dX8_readOrder_37 : decode cX8_readOrder 37 = .ok (.putfield 238, 3) := by decide +kernel
theorem dX8_readOrder_40 : decode cX8_readOrder 40 = .ok (.aload_n 0, 1) := by decide +kernel
theorem dX8_readOrder_41 : decode cX8_readOrder 41 = .ok (.getfield 225, 3) := by decide +kernel
theorem dX8_readOrder_44 : decode cX8_readOrder 44 = .ok (.iconst (-1), 1) := by decide +kernel
theorem dX8_readOrder_45 : decode cX8_readOrder 45 = .ok (.if_icmp .eq 129, 3) := by decide +kernel
theorem dX8_readOrder_48 : decode cX8_readOrder 48 = .ok (.aload_n 0, 1) := by decide +kernel
theorem dX8_readOrder_49 : decode cX8_readOrder 49 = .ok (.bipush 64, 2) := by decide +kernel
theorem dX8_readOrder_51 : decode cX8_readOrder 51 = .ok (.bipush 64, 2) := by decide +kernel
theorem dX8_readOrder_53 : decode cX8_readOrder 53 = .ok (.invokevirtual 222, 3) := by decide +kernel
theorem dX8_readOrder_56 : decode cX8_readOrder 56 = .ok (.istore_n 1, 1) := by decide +kernel
theorem dX8_readOrder_57 : decode cX8_readOrder 57 = .ok (.aload_n 0, 1) := by decide +kernel
theorem dX8_readOrder_58 : decode cX8_readOrder 58 = .ok (.aload_n 0, 1) := by decide +kernel
theorem dX8_readOrder_59 : decode cX8_readOrder 59 = .ok (.bipush 48, 2) := by decide +kernel
theorem dX8_readOrder_61 : decode cX8_readOrder 61 = .ok (.bipush 57, 2) := by decide +kernel
theorem dX8_readOrder_63 : decode cX8_readOrder 63 = .ok (.invokevirtual 222, 3) := by decide +kernel
theorem dX8_readOrder_66 : decode cX8_readOrder 66 = .ok (.putfield 238, 3) := by decide +kernel
theorem dX8_readOrder_69 : decode cX8_readOrder 69 = .ok (.aload_n 0, 1) := by decide +kernel
theorem dX8_readOrder_70 : decode cX8_readOrder 70 = .ok (.aload_n 0, 1) := by decide +kernel
theorem dX8_readOrder_71 : decode cX8_readOrder 71 = .ok (.bipush 48, 2) := by decide +kernel
theorem dX8_readOrder_73 : decode cX8_readOrder 73 = .ok (.bipush 57, 2) := by decide +kernel
theorem dX8_readOrder_75 : decode cX8_readOrder 75 = .ok (.invokevirtual 219, 3) := by decide +kernel
theorem dX8_readOrder_78 : decode cX8_readOrder 78 = .ok (.ifCond .eq 22, 3) := by decide +kernel
theorem dX8_readOrder_81 : decode cX8_readOrder 81 = .ok (.bipush 10, 2) := by decide +kernel
theorem dX8_readOrder_83 : decode cX8_readOrder 83 = .ok (.aload_n 0, 1) := by decide +kernel
theorem dX8_readOrder_84 : decode cX8_readOrder 84 = .ok (.getfield 238, 3) := by decide +kernel
theorem dX8_readOrder_87 : decode cX8_readOrder 87 = .ok (.imul, 1) := by decide +kernel
theorem dX8_readOrder_88 : decode cX8_readOrder 88 = .ok (.aload_n 0, 1) := by decide +kernel
theorem dX8_readOrder_89 : decode cX8_readOrder 89 = .ok (.bipush 48, 2) := by decide +kernel
theorem dX8_readOrder_91 : decode cX8_readOrder 91 = .ok (.bipush 57, 2) := by decide +kernel
theorem dX8_readOrder_93 : decode cX8_readOrder 93 = .ok (.invokevirtual 222, 3) := by decide +kernel
theorem dX8_readOrder_96 : decode cX8_readOrder 96 = .ok (.iadd, 1) := by decide +kernel
theorem dX8_readOrder_97 : decode cX8_readOrder 97 = .ok (.goto 7, 3) := by decide +kernel
theorem dX8_readOrder_100 : decode cX8_readOrder 100 = .ok (.aload_n 0, 1) := by decide +kernel
theorem dX8_readOrder_101 : decode cX8_readOrder 101 = .ok (.getfield 238, 3) := by decide +kernel
theorem dX8_readOrder_104 : decode cX8_readOrder 104 = .ok (.putfield 238, 3) := by decide +kernel
theorem dX8_readOrder_107 : decode cX8_readOrder 107 = .ok (.aload_n 0, 1) := by decide +kernel
theorem dX8_readOrder_108 : decode cX8_readOrder 108 = .ok (.aload_n 0, 1) := by decide +kernel
theorem dX8_readOrder_109 : decode cX8_readOrder 109 = .ok (.bipush 48, 2) := by decide +kernel
theorem dX8_readOrder_111 : decode cX8_readOrder 111 = .ok (.bipush 57, 2) := by decide +kernel
theorem dX8_readOrder_113 : decode cX8_readOrder 113 = .ok (.invokevirtual 219, 3) := by decide +kernel
theorem dX8_readOrder_116 : decode cX8_readOrder 116 = .ok (.ifCond .eq 51, 3) := by decide +kernel
theorem dX8_readOrder_119 : decode cX8_readOrder 119 = .ok (.aload_n 0, 1) := by decide +kernel
theorem dX8_readOrder_120 : decode cX8_readOrder 120 = .ok (.getfield 216, 3) := by decide +kernel
theorem dX8_readOrder_123 : decode cX8_readOrder 123 = .ok (.iconst 1, 1) := by decide +kernel
theorem dX8_readOrder_124 : decode cX8_readOrder 124 = .ok (.if_icmp .le 43, 3) := by decide +kernel
theorem dX8_readOrder_127 : decode cX8_readOrder 127 = .ok (.aload_n 0, 1) := by decide +kernel
theorem dX8_readOrder_128 : decode cX8_readOrder 128 = .ok (.getfield 50, 3) := by decide +kernel
theorem dX8_readOrder_131 : decode cX8_readOrder 131 = .ok (.aload_n 0, 1) := by decide +kernel
theorem dX8_readOrder_132 : decode cX8_readOrder 132 = .ok (.getfield 216, 3) := by decide +kernel
theorem dX8_readOrder_135 : decode cX8_readOrder 135 = .ok (.iconst 2, 1) := by decide +kernel
theorem dX8_readOrder_136 : decode cX8_readOrder 136 = .ok (.isub, 1) := by decide +kernel
theorem dX8_readOrder_137 : decode cX8_readOrder 137 = .ok (.iaload, 1) := by decide +kernel
theorem dX8_readOrder_138 : decode cX8_readOrder 138 = .ok (.bipush 48, 2) := by decide +kernel
theorem dX8_readOrder_140 : decode cX8_readOrder 140 = .ok (.bipush 57, 2) := by decide +kernel
theorem dX8_readOrder_142 : decode cX8_readOrder 142 = .ok (.invokestatic 81, 3) := by decide +kernel
theorem dX8_readOrder_145 : decode cX8_readOrder 145 = .ok (.ifCond .eq 22, 3) := by decide +kernel
theorem dX8_readOrder_148 : decode cX8_readOrder 148 = .ok (.bipush 10, 2) := by decide +kernel
theorem dX8_readOrder_150 : decode cX8_readOrder 150 = .ok (.aload_n 0, 1) := by decide +kernel
theorem dX8_readOrder_151 : decode cX8_readOrder 151 = .ok (.getfield 238, 3) := by decide +kernel
theorem dX8_readOrder_154 : decode cX8_readOrder 154 = .ok (.imul, 1) := by decide +kernel
theorem dX8_readOrder_155 : decode cX8_readOrder 155 = .ok (.aload_n 0, 1) := by decide +kernel
theorem dX8_readOrder_156 : decode cX8_readOrder 156 = .ok (.bipush 48, 2) := by decide +kernel
theorem dX8_readOrder_158 : decode cX8_readOrder 158 = .ok (.bipush 57, 2) := by decide +kernel
theorem dX8_readOrder_160 : decode cX8_readOrder 160 = .ok (.invokevirtual 222, 3) := by decide +kernel
theorem dX8_readOrder_163 : decode cX8_readOrder 163 = .ok (.iadd, 1) := by decide +kernel
theorem dX8_readOrder_164 : decode cX8_readOrder 164 = .ok (.goto 7, 3) := by decide +kernel
theorem dX8_readOrder_167 : decode cX8_readOrder 167 = .ok (.aload_n 0, 1) := by decide +kernel
theorem dX8_readOrder_168 : decode cX8_readOrder 168 = .ok (.getfield 238, 3) := by decide +kernel
theorem dX8_readOrder_171 : decode cX8_readOrder 171 = .ok (.putfield 238, 3) := by decide +kernel
theorem dX8_readOrder_174 : decode cX8_readOrder 174 = .ok (.aload_n 0, 1) := by decide +kernel
theorem dX8_readOrder_175 : decode cX8_readOrder 175 = .ok (.bipush 59, 2) := by decide +kernel
theorem dX8_readOrder_177 : decode cX8_readOrder 177 = .ok (.bipush 59, 2) := by decide +kernel
theorem dX8_readOrder_179 : decode cX8_readOrder 179 = .ok (.invokevirtual 222, 3) := by decide +kernel
theorem dX8_readOrder_182 : decode cX8_readOrder 182 = .ok (.istore_n 1, 1) := by decide +kernel
theorem dX8_readOrder_183 : decode cX8_readOrder 183 = .ok (.return_, 1) := by decide +kernel
theorem dX8_faultOf_0 : decode cX8_faultOf 0 = .ok (.aload_n 0, 1) := by decide +kernel
theorem dX8_faultOf_1 : decode cX8_faultOf 1 = .ok (.iconst 0, 1) := by decide +kernel
theorem dX8_faultOf_2 : decode cX8_faultOf 2 = .ok (.putfield 216, 3) := by decide +kernel
theorem dX8_faultOf_5 : decode cX8_faultOf 5 = .ok (.aload_n 0, 1) := by decide +kernel
theorem dX8_faultOf_6 : decode cX8_faultOf 6 = .ok (.iconst 0, 1) := by decide +kernel
theorem dX8_faultOf_7 : decode cX8_faultOf 7 = .ok (.putfield 213, 3) := by decide +kernel
theorem dX8_faultOf_10 : decode cX8_faultOf 10 = .ok (.aload_n 0, 1) := by decide +kernel
theorem dX8_faultOf_11 : decode cX8_faultOf 11 = .ok (.getfield 213, 3) := by decide +kernel
theorem dX8_faultOf_14 : decode cX8_faultOf 14 = .ok (.ifCond .ne 21, 3) := by decide +kernel
theorem dX8_faultOf_17 : decode cX8_faultOf 17 = .ok (.aload_n 0, 1) := by decide +kernel
theorem dX8_faultOf_18 : decode cX8_faultOf 18 = .ok (.getfield 216, 3) := by decide +kernel
theorem dX8_faultOf_21 : decode cX8_faultOf 21 = .ok (.aload_n 0, 1) := by decide +kernel
theorem dX8_faultOf_22 : decode cX8_faultOf 22 = .ok (.getfield 210, 3) := by decide +kernel
theorem dX8_faultOf_25 : decode cX8_faultOf 25 = .ok (.if_icmp .ge 10, 3) := by decide +kernel
theorem dX8_faultOf_28 : decode cX8_faultOf 28 = .ok (.aload_n 0, 1) := by decide +kernel
theorem dX8_faultOf_29 : decode cX8_faultOf 29 = .ok (.invokevirtual 241, 3) := by decide +kernel
theorem dX8_faultOf_32 : decode cX8_faultOf 32 = .ok (.goto (-22), 3) := by decide +kernel
theorem dX8_faultOf_35 : decode cX8_faultOf 35 = .ok (.aload_n 0, 1) := by decide +kernel
theorem dX8_faultOf_36 : decode cX8_faultOf 36 = .ok (.getfield 213, 3) := by decide +kernel
theorem dX8_faultOf_39 : decode cX8_faultOf 39 = .ok (.ifCond .eq 10, 3) := by decide +kernel
theorem dX8_faultOf_42 : decode cX8_faultOf 42 = .ok (.aload_n 0, 1) := by decide +kernel
theorem dX8_faultOf_43 : decode cX8_faultOf 43 = .ok (.getfield 216, 3) := by decide +kernel
theorem dX8_faultOf_46 : decode cX8_faultOf 46 = .ok (.goto 4, 3) := by decide +kernel
theorem dX8_faultOf_49 : decode cX8_faultOf 49 = .ok (.iconst (-1), 1) := by decide +kernel
theorem dX8_faultOf_50 : decode cX8_faultOf 50 = .ok (.ireturn, 1) := by decide +kernel
theorem dX8_fault_0 : decode cX8_fault 0 = .ok (.aload_n 0, 1) := by decide +kernel
theorem dX8_fault_1 : decode cX8_fault 1 = .ok (.iconst 0, 1) := by decide +kernel
theorem dX8_fault_2 : decode cX8_fault 2 = .ok (.putfield 78, 3) := by decide +kernel
theorem dX8_fault_5 : decode cX8_fault 5 = .ok (.aload_n 0, 1) := by decide +kernel
theorem dX8_fault_6 : decode cX8_fault 6 = .ok (.invokevirtual 244, 3) := by decide +kernel
theorem dX8_fault_9 : decode cX8_fault 9 = .ok (.ireturn, 1) := by decide +kernel
theorem dX8_run_0 : decode cX8_run 0 = .ok (.aload_n 0, 1) := by decide +kernel
theorem dX8_run_1 : decode cX8_run 1 = .ok (.aload_n 0, 1) := by decide +kernel
theorem dX8_run_2 : decode cX8_run 2 = .ok (.invokevirtual 244, 3) := by decide +kernel
theorem dX8_run_5 : decode cX8_run 5 = .ok (.iconst (-1), 1) := by decide +kernel
theorem dX8_run_6 : decode cX8_run 6 = .ok (.if_icmp .ne 7, 3) := by decide +kernel
theorem dX8_run_9 : decode cX8_run 9 = .ok (.iconst 0, 1) := by decide +kernel
theorem dX8_run_10 : decode cX8_run 10 = .ok (.goto 4, 3) := by decide +kernel
theorem dX8_run_13 : decode cX8_run 13 = .ok (.iconst 1, 1) := by decide +kernel
theorem dX8_run_14 : decode cX8_run 14 = .ok (.invokevirtual 169, 3) := by decide +kernel
theorem dX8_run_17 : decode cX8_run 17 = .ok (.ifCond .ne 5, 3) := by decide +kernel
theorem dX8_run_20 : decode cX8_run 20 = .ok (.iconst 0, 1) := by decide +kernel
theorem dX8_run_21 : decode cX8_run 21 = .ok (.ireturn, 1) := by decide +kernel
theorem dX8_run_22 : decode cX8_run 22 = .ok (.aload_n 0, 1) := by decide +kernel
theorem dX8_run_23 : decode cX8_run 23 = .ok (.iconst 0, 1) := by decide +kernel
theorem dX8_run_24 : decode cX8_run 24 = .ok (.putfield 216, 3) := by decide +kernel
theorem dX8_run_27 : decode cX8_run 27 = .ok (.aload_n 0, 1) := by decide +kernel
theorem dX8_run_28 : decode cX8_run 28 = .ok (.iconst 0, 1) := by decide +kernel
theorem dX8_run_29 : decode cX8_run 29 = .ok (.putfield 213, 3) := by decide +kernel
theorem dX8_run_32 : decode cX8_run 32 = .ok (.iconst 0, 1) := by decide +kernel
theorem dX8_run_33 : decode cX8_run 33 = .ok (.istore_n 1, 1) := by decide +kernel
theorem dX8_run_34 : decode cX8_run 34 = .ok (.iconst 1, 1) := by decide +kernel
theorem dX8_run_35 : decode cX8_run 35 = .ok (.istore_n 2, 1) := by decide +kernel
theorem dX8_run_36 : decode cX8_run 36 = .ok (.iload_n 2, 1) := by decide +kernel
theorem dX8_run_37 : decode cX8_run 37 = .ok (.ifCond .eq 82, 3) := by decide +kernel
theorem dX8_run_40 : decode cX8_run 40 = .ok (.aload_n 0, 1) := by decide +kernel
theorem dX8_run_41 : decode cX8_run 41 = .ok (.getfield 216, 3) := by decide +kernel
theorem dX8_run_44 : decode cX8_run 44 = .ok (.aload_n 0, 1) := by decide +kernel
theorem dX8_run_45 : decode cX8_run 45 = .ok (.getfield 210, 3) := by decide +kernel
theorem dX8_run_48 : decode cX8_run 48 = .ok (.if_icmp .ge 71, 3) := by decide +kernel
theorem dX8_run_51 : decode cX8_run 51 = .ok (.aload_n 0, 1) := by decide +kernel
theorem dX8_run_52 : decode cX8_run 52 = .ok (.invokevirtual 241, 3) := by decide +kernel
theorem dX8_run_55 : decode cX8_run 55 = .ok (.aload_n 0, 1) := by decide +kernel
theorem dX8_run_56 : decode cX8_run 56 = .ok (.getfield 225, 3) := by decide +kernel
theorem dX8_run_59 : decode cX8_run 59 = .ok (.iconst (-1), 1) := by decide +kernel
theorem dX8_run_60 : decode cX8_run 60 = .ok (.if_icmp .ne 14, 3) := by decide +kernel
theorem dX8_run_63 : decode cX8_run 63 = .ok (.aload_n 0, 1) := by decide +kernel
theorem dX8_run_64 : decode cX8_run 64 = .ok (.aload_n 0, 1) := by decide +kernel
theorem dX8_run_65 : decode cX8_run 65 = .ok (.getfield 235, 3) := by decide +kernel
theorem dX8_run_68 : decode cX8_run 68 = .ok (.invokevirtual 247, 3) := by decide +kernel
theorem dX8_run_71 : decode cX8_run 71 = .ok (.goto 19, 3) := by decide +kernel
theorem dX8_run_74 : decode cX8_run 74 = .ok (.aload_n 0, 1) := by decide +kernel
theorem dX8_run_75 : decode cX8_run 75 = .ok (.aload_n 0, 1) := by decide +kernel
theorem dX8_run_76 : decode cX8_run 76 = .ok (.getfield 225, 3) := by decide +kernel
theorem dX8_run_79 : decode cX8_run 79 = .ok (.aload_n 0, 1) := by decide +kernel
theorem dX8_run_80 : decode cX8_run 80 = .ok (.getfield 235, 3) := by decide +kernel
theorem dX8_run_83 : decode cX8_run 83 = .ok (.aload_n 0, 1) := by decide +kernel
theorem dX8_run_84 : decode cX8_run 84 = .ok (.getfield 238, 3) := by decide +kernel
theorem dX8_run_87 : decode cX8_run 87 = .ok (.invokevirtual 251, 3) := by decide +kernel
theorem dX8_run_90 : decode cX8_run 90 = .ok (.istore_n 3, 1) := by decide +kernel
theorem dX8_run_91 : decode cX8_run 91 = .ok (.aload_n 0, 1) := by decide +kernel
theorem dX8_run_92 : decode cX8_run 92 = .ok (.getfield 78, 3) := by decide +kernel
theorem dX8_run_95 : decode cX8_run 95 = .ok (.ifCond .ne 7, 3) := by decide +kernel
theorem dX8_run_98 : decode cX8_run 98 = .ok (.iconst 1, 1) := by decide +kernel
theorem dX8_run_99 : decode cX8_run 99 = .ok (.goto 4, 3) := by decide +kernel
theorem dX8_run_102 : decode cX8_run 102 = .ok (.iconst 0, 1) := by decide +kernel
theorem dX8_run_103 : decode cX8_run 103 = .ok (.istore_n 2, 1) := by decide +kernel
theorem dX8_run_104 : decode cX8_run 104 = .ok (.iload_n 1, 1) := by decide +kernel
theorem dX8_run_105 : decode cX8_run 105 = .ok (.iload_n 2, 1) := by decide +kernel
theorem dX8_run_106 : decode cX8_run 106 = .ok (.ifCond .eq 7, 3) := by decide +kernel
theorem dX8_run_109 : decode cX8_run 109 = .ok (.iconst 1, 1) := by decide +kernel
theorem dX8_run_110 : decode cX8_run 110 = .ok (.goto 4, 3) := by decide +kernel
theorem dX8_run_113 : decode cX8_run 113 = .ok (.iconst 0, 1) := by decide +kernel
theorem dX8_run_114 : decode cX8_run 114 = .ok (.iadd, 1) := by decide +kernel
theorem dX8_run_115 : decode cX8_run 115 = .ok (.istore_n 1, 1) := by decide +kernel
theorem dX8_run_116 : decode cX8_run 116 = .ok (.goto (-80), 3) := by decide +kernel
theorem dX8_run_119 : decode cX8_run 119 = .ok (.aload_n 0, 1) := by decide +kernel
theorem dX8_run_120 : decode cX8_run 120 = .ok (.iconst 0, 1) := by decide +kernel
theorem dX8_run_121 : decode cX8_run 121 = .ok (.putfield 78, 3) := by decide +kernel
theorem dX8_run_124 : decode cX8_run 124 = .ok (.iload_n 1, 1) := by decide +kernel
theorem dX8_run_125 : decode cX8_run 125 = .ok (.ireturn, 1) := by decide +kernel
theorem dX8_errorOfMatch_0 : decode cX8_errorOfMatch 0 = .ok (.iload_n 1, 1) := by decide +kernel
theorem dX8_errorOfMatch_1 : decode cX8_errorOfMatch 1 = .ok (.ifCond .ne 7, 3) := by decide +kernel
theorem dX8_errorOfMatch_4 : decode cX8_errorOfMatch 4 = .ok (.iconst 1, 1) := by decide +kernel
theorem dX8_errorOfMatch_5 : decode cX8_errorOfMatch 5 = .ok (.goto 15, 3) := by decide +kernel
theorem dX8_errorOfMatch_8 : decode cX8_errorOfMatch 8 = .ok (.aload_n 0, 1) := by decide +kernel
theorem dX8_errorOfMatch_9 : decode cX8_errorOfMatch 9 = .ok (.getfield 166, 3) := by decide +kernel
theorem dX8_errorOfMatch_12 : decode cX8_errorOfMatch 12 = .ok (.ifCond .eq 7, 3) := by decide +kernel
theorem dX8_errorOfMatch_15 : decode cX8_errorOfMatch 15 = .ok (.iconst 0, 1) := by decide +kernel
theorem dX8_errorOfMatch_16 : decode cX8_errorOfMatch 16 = .ok (.goto 4, 3) := by decide +kernel
theorem dX8_errorOfMatch_19 : decode cX8_errorOfMatch 19 = .ok (.iconst 2, 1) := by decide +kernel
theorem dX8_errorOfMatch_20 : decode cX8_errorOfMatch 20 = .ok (.ireturn, 1) := by decide +kernel
theorem dX8_player_0 : decode cX8_player 0 = .ok (.aload_n 0, 1) := by decide +kernel
theorem dX8_player_1 : decode cX8_player 1 = .ok (.aload_n 0, 1) := by decide +kernel
theorem dX8_player_2 : decode cX8_player 2 = .ok (.iload_n 1, 1) := by decide +kernel
theorem dX8_player_3 : decode cX8_player 3 = .ok (.invokestatic 192, 3) := by decide +kernel
theorem dX8_player_6 : decode cX8_player 6 = .ok (.ifCond .eq 14, 3) := by decide +kernel
theorem dX8_player_9 : decode cX8_player 9 = .ok (.iload_n 2, 1) := by decide +kernel
theorem dX8_player_10 : decode cX8_player 10 = .ok (.invokestatic 175, 3) := by decide +kernel
theorem dX8_player_13 : decode cX8_player 13 = .ok (.ifCond .eq 7, 3) := by decide +kernel
theorem dX8_player_16 : decode cX8_player 16 = .ok (.iconst 1, 1) := by decide +kernel
theorem dX8_player_17 : decode cX8_player 17 = .ok (.goto 4, 3) := by decide +kernel
theorem dX8_player_20 : decode cX8_player 20 = .ok (.iconst 0, 1) := by decide +kernel
theorem dX8_player_21 : decode cX8_player 21 = .ok (.invokevirtual 254, 3) := by decide +kernel
theorem dX8_player_24 : decode cX8_player 24 = .ok (.invokevirtual 169, 3) := by decide +kernel
theorem dX8_player_27 : decode cX8_player 27 = .ok (.ifCond .eq 17, 3) := by decide +kernel
theorem dX8_player_30 : decode cX8_player 30 = .ok (.aload_n 0, 1) := by decide +kernel
theorem dX8_player_31 : decode cX8_player 31 = .ok (.getfield 41, 3) := by decide +kernel
theorem dX8_player_34 : decode cX8_player 34 = .ok (.bipush 10, 2) := by decide +kernel
theorem dX8_player_36 : decode cX8_player 36 = .ok (.iload_n 1, 1) := by decide +kernel
theorem dX8_player_37 : decode cX8_player 37 = .ok (.imul, 1) := by decide +kernel
theorem dX8_player_38 : decode cX8_player 38 = .ok (.iload_n 2, 1) := by decide +kernel
theorem dX8_player_39 : decode cX8_player 39 = .ok (.iadd, 1) := by decide +kernel
theorem dX8_player_40 : decode cX8_player 40 = .ok (.iaload, 1) := by decide +kernel
theorem dX8_player_41 : decode cX8_player 41 = .ok (.goto 4, 3) := by decide +kernel
theorem dX8_player_44 : decode cX8_player 44 = .ok (.iconst 0, 1) := by decide +kernel
theorem dX8_player_45 : decode cX8_player 45 = .ok (.ireturn, 1) := by decide +kernel
theorem dX8_outAt_0 : decode cX8_outAt 0 = .ok (.iload_n 2, 1) := by decide +kernel
theorem dX8_outAt_1 : decode cX8_outAt 1 = .ok (.aload_n 0, 1) := by decide +kernel
theorem dX8_outAt_2 : decode cX8_outAt 2 = .ok (.getfield 41, 3) := by decide +kernel
theorem dX8_outAt_5 : decode cX8_outAt 5 = .ok (.bipush 100, 2) := by decide +kernel
theorem dX8_outAt_7 : decode cX8_outAt 7 = .ok (.iload_n 1, 1) := by decide +kernel
theorem dX8_outAt_8 : decode cX8_outAt 8 = .ok (.iadd, 1) := by decide +kernel
theorem dX8_outAt_9 : decode cX8_outAt 9 = .ok (.iaload, 1) := by decide +kernel
theorem dX8_outAt_10 : decode cX8_outAt 10 = .ok (.if_icmp .ge 20, 3) := by decide +kernel
theorem dX8_outAt_13 : decode cX8_outAt 13 = .ok (.aload_n 0, 1) := by decide +kernel
theorem dX8_outAt_14 : decode cX8_outAt 14 = .ok (.getfield 41, 3) := by decide +kernel
theorem dX8_outAt_17 : decode cX8_outAt 17 = .ok (.bipush 80, 2) := by decide +kernel
theorem dX8_outAt_19 : decode cX8_outAt 19 = .ok (.bipush 10, 2) := by decide +kernel
theorem dX8_outAt_21 : decode cX8_outAt 21 = .ok (.iload_n 1, 1) := by decide +kernel
theorem dX8_outAt_22 : decode cX8_outAt 22 = .ok (.imul, 1) := by decide +kernel
theorem dX8_outAt_23 : decode cX8_outAt 23 = .ok (.iadd, 1) := by decide +kernel
theorem dX8_outAt_24 : decode cX8_outAt 24 = .ok (.iload_n 2, 1) := by decide +kernel
theorem dX8_outAt_25 : decode cX8_outAt 25 = .ok (.iadd, 1) := by decide +kernel
theorem dX8_outAt_26 : decode cX8_outAt 26 = .ok (.iaload, 1) := by decide +kernel
theorem dX8_outAt_27 : decode cX8_outAt 27 = .ok (.goto 4, 3) := by decide +kernel
theorem dX8_outAt_30 : decode cX8_outAt 30 = .ok (.iconst (-1), 1) := by decide +kernel
theorem dX8_outAt_31 : decode cX8_outAt 31 = .ok (.ireturn, 1) := by decide +kernel
theorem dX8_out_0 : decode cX8_out 0 = .ok (.aload_n 0, 1) := by decide +kernel
theorem dX8_out_1 : decode cX8_out 1 = .ok (.aload_n 0, 1) := by decide +kernel
theorem dX8_out_2 : decode cX8_out 2 = .ok (.iload_n 1, 1) := by decide +kernel
theorem dX8_out_3 : decode cX8_out 3 = .ok (.invokestatic 192, 3) := by decide +kernel
theorem dX8_out_6 : decode cX8_out 6 = .ok (.ifCond .eq 11, 3) := by decide +kernel
theorem dX8_out_9 : decode cX8_out 9 = .ok (.iload_n 2, 1) := by decide +kernel
theorem dX8_out_10 : decode cX8_out 10 = .ok (.ifCond .lt 7, 3) := by decide +kernel
theorem dX8_out_13 : decode cX8_out 13 = .ok (.iconst 1, 1) := by decide +kernel
theorem dX8_out_14 : decode cX8_out 14 = .ok (.goto 4, 3) := by decide +kernel
theorem dX8_out_17 : decode cX8_out 17 = .ok (.iconst 0, 1) := by decide +kernel
theorem dX8_out_18 : decode cX8_out 18 = .ok (.invokevirtual 254, 3) := by decide +kernel
theorem dX8_out_21 : decode cX8_out 21 = .ok (.invokevirtual 169, 3) := by decide +kernel
theorem dX8_out_24 : decode cX8_out 24 = .ok (.ifCond .eq 12, 3) := by decide +kernel
theorem dX8_out_27 : decode cX8_out 27 = .ok (.aload_n 0, 1) := by decide +kernel
theorem dX8_out_28 : decode cX8_out 28 = .ok (.iload_n 1, 1) := by decide +kernel
theorem dX8_out_29 : decode cX8_out 29 = .ok (.iload_n 2, 1) := by decide +kernel
theorem dX8_out_30 : decode cX8_out 30 = .ok (.invokevirtual 258, 3) := by decide +kernel
theorem dX8_out_33 : decode cX8_out 33 = .ok (.goto 4, 3) := by decide +kernel
theorem dX8_out_36 : decode cX8_out 36 = .ok (.iconst 0, 1) := by decide +kernel
theorem dX8_out_37 : decode cX8_out 37 = .ok (.ireturn, 1) := by decide +kernel
theorem dX8_next_0 : decode cX8_next 0 = .ok (.aload_n 0, 1) := by decide +kernel
theorem dX8_next_1 : decode cX8_next 1 = .ok (.aload_n 0, 1) := by decide +kernel
theorem dX8_next_2 : decode cX8_next 2 = .ok (.iload_n 1, 1) := by decide +kernel
theorem dX8_next_3 : decode cX8_next 3 = .ok (.invokestatic 192, 3) := by decide +kernel
theorem dX8_next_6 : decode cX8_next 6 = .ok (.invokevirtual 254, 3) := by decide +kernel
theorem dX8_next_9 : decode cX8_next 9 = .ok (.invokevirtual 169, 3) := by decide +kernel
theorem dX8_next_12 : decode cX8_next 12 = .ok (.ifCond .eq 12, 3) := by decide +kernel
theorem dX8_next_15 : decode cX8_next 15 = .ok (.aload_n 0, 1) := by decide +kernel
theorem dX8_next_16 : decode cX8_next 16 = .ok (.iload_n 1, 1) := by decide +kernel
theorem dX8_next_17 : decode cX8_next 17 = .ok (.iconst 0, 1) := by decide +kernel
theorem dX8_next_18 : decode cX8_next 18 = .ok (.invokevirtual 258, 3) := by decide +kernel
theorem dX8_next_21 : decode cX8_next 21 = .ok (.goto 4, 3) := by decide +kernel
theorem dX8_next_24 : decode cX8_next 24 = .ok (.iconst 0, 1) := by decide +kernel
theorem dX8_next_25 : decode cX8_next 25 = .ok (.ireturn, 1) := by decide +kernel
theorem dX8_points_0 : decode cX8_points 0 = .ok (.aload_n 0, 1) := by decide +kernel
theorem dX8_points_1 : decode cX8_points 1 = .ok (.aload_n 0, 1) := by decide +kernel
theorem dX8_points_2 : decode cX8_points 2 = .ok (.iload_n 1, 1) := by decide +kernel
theorem dX8_points_3 : decode cX8_points 3 = .ok (.invokestatic 192, 3) := by decide +kernel
theorem dX8_points_6 : decode cX8_points 6 = .ok (.invokevirtual 254, 3) := by decide +kernel
theorem dX8_points_9 : decode cX8_points 9 = .ok (.invokevirtual 169, 3) := by decide +kernel
theorem dX8_points_12 : decode cX8_points 12 = .ok (.ifCond .eq 15, 3) := by decide +kernel
theorem dX8_points_15 : decode cX8_points 15 = .ok (.aload_n 0, 1) := by decide +kernel
theorem dX8_points_16 : decode cX8_points 16 = .ok (.getfield 41, 3) := by decide +kernel
theorem dX8_points_19 : decode cX8_points 19 = .ok (.bipush 104, 2) := by decide +kernel
theorem dX8_points_21 : decode cX8_points 21 = .ok (.iload_n 1, 1) := by decide +kernel
theorem dX8_points_22 : decode cX8_points 22 = .ok (.iadd, 1) := by decide +kernel
theorem dX8_points_23 : decode cX8_points 23 = .ok (.iaload, 1) := by decide +kernel
theorem dX8_points_24 : decode cX8_points 24 = .ok (.goto 4, 3) := by decide +kernel
theorem dX8_points_27 : decode cX8_points 27 = .ok (.iconst 0, 1) := by decide +kernel
theorem dX8_points_28 : decode cX8_points 28 = .ok (.ireturn, 1) := by decide +kernel
theorem dX8_match_0 : decode cX8_match 0 = .ok (.aload_n 0, 1) := by decide +kernel
theorem dX8_match_1 : decode cX8_match 1 = .ok (.aload_n 0, 1) := by decide +kernel
theorem dX8_match_2 : decode cX8_match 2 = .ok (.iload_n 1, 1) := by decide +kernel
theorem dX8_match_3 : decode cX8_match 3 = .ok (.iconst 0, 1) := by decide +kernel
theorem dX8_match_4 : decode cX8_match 4 = .ok (.bipush 7, 2) := by decide +kernel
theorem dX8_match_6 : decode cX8_match 6 = .ok (.invokestatic 81, 3) := by decide +kernel
theorem dX8_match_9 : decode cX8_match 9 = .ok (.invokevirtual 254, 3) := by decide +kernel
theorem dX8_match_12 : decode cX8_match 12 = .ok (.invokevirtual 169, 3) := by decide +kernel
theorem dX8_match_15 : decode cX8_match 15 = .ok (.ifCond .ne 5, 3) := by decide +kernel
theorem dX8_match_18 : decode cX8_match 18 = .ok (.iconst 0, 1) := by decide +kernel
theorem dX8_match_19 : decode cX8_match 19 = .ok (.ireturn, 1) := by decide +kernel
theorem dX8_match_20 : decode cX8_match 20 = .ok (.iload_n 1, 1) := by decide +kernel
theorem dX8_match_21 : decode cX8_match 21 = .ok (.tableswitch 119 0 5 #[39, 47, 52, 57, 70, 92], 39) := by decide +kernel
theorem dX8_match_60 : decode cX8_match 60 = .ok (.aload_n 0, 1) := by decide +kernel
theorem dX8_match_61 : decode cX8_match 61 = .ok (.getfield 41, 3) := by decide +kernel
theorem dX8_match_64 : decode cX8_match 64 = .ok (.bipush 108, 2) := by decide +kernel
theorem dX8_match_66 : decode cX8_match 66 = .ok (.iaload, 1) := by decide +kernel
theorem dX8_match_67 : decode cX8_match 67 = .ok (.ireturn, 1) := by decide +kernel
theorem dX8_match_68 : decode cX8_match 68 = .ok (.aload_n 0, 1) := by decide +kernel
theorem dX8_match_69 : decode cX8_match 69 = .ok (.invokevirtual 108, 3) := by decide +kernel
theorem dX8_match_72 : decode cX8_match 72 = .ok (.ireturn, 1) := by decide +kernel
theorem dX8_match_73 : decode cX8_match 73 = .ok (.aload_n 0, 1) := by decide +kernel
theorem dX8_match_74 : decode cX8_match 74 = .ok (.getfield 151, 3) := by decide +kernel
theorem dX8_match_77 : decode cX8_match 77 = .ok (.ireturn, 1) := by decide +kernel
theorem dX8_match_78 : decode cX8_match 78 = .ok (.aload_n 0, 1) := by decide +kernel
theorem dX8_match_79 : decode cX8_match 79 = .ok (.getfield 147, 3) := by decide +kernel
theorem dX8_match_82 : decode cX8_match 82 = .ok (.ifCond .eq 7, 3) := by decide +kernel
theorem dX8_match_85 : decode cX8_match 85 = .ok (.iconst 1, 1) := by decide +kernel
theorem dX8_match_86 : decode cX8_match 86 = .ok (.goto 4, 3) := by decide +kernel
theorem dX8_match_89 : decode cX8_match 89 = .ok (.iconst 0, 1) := by decide +kernel
theorem dX8_match_90 : decode cX8_match 90 = .ok (.ireturn, 1) := by decide +kernel
theorem dX8_match_91 : decode cX8_match 91 = .ok (.aload_n 0, 1) := by decide +kernel
theorem dX8_match_92 : decode cX8_match 92 = .ok (.getfield 41, 3) := by decide +kernel
theorem dX8_match_95 : decode cX8_match 95 = .ok (.bipush 106, 2) := by decide +kernel
theorem dX8_match_97 : decode cX8_match 97 = .ok (.aload_n 0, 1) := by decide +kernel
theorem dX8_match_98 : decode cX8_match 98 = .ok (.invokevirtual 108, 3) := by decide +kernel
theorem dX8_match_101 : decode cX8_match 101 = .ok (.iadd, 1) := by decide +kernel
theorem dX8_match_102 : decode cX8_match 102 = .ok (.iaload, 1) := by decide +kernel
theorem dX8_match_103 : decode cX8_match 103 = .ok (.iconst 2, 1) := by decide +kernel
theorem dX8_match_104 : decode cX8_match 104 = .ok (.if_icmp .ne 7, 3) := by decide +kernel
theorem dX8_match_107 : decode cX8_match 107 = .ok (.iconst 1, 1) := by decide +kernel
theorem dX8_match_108 : decode cX8_match 108 = .ok (.goto 4, 3) := by decide +kernel
theorem dX8_match_111 : decode cX8_match 111 = .ok (.iconst 0, 1) := by decide +kernel
theorem dX8_match_112 : decode cX8_match 112 = .ok (.ireturn, 1) := by decide +kernel
theorem dX8_match_113 : decode cX8_match 113 = .ok (.aload_n 0, 1) := by decide +kernel
theorem dX8_match_114 : decode cX8_match 114 = .ok (.getfield 147, 3) := by decide +kernel
theorem dX8_match_117 : decode cX8_match 117 = .ok (.ifCond .ne 21, 3) := by decide +kernel
theorem dX8_match_120 : decode cX8_match 120 = .ok (.aload_n 0, 1) := by decide +kernel
theorem dX8_match_121 : decode cX8_match 121 = .ok (.getfield 41, 3) := by decide +kernel
theorem dX8_match_124 : decode cX8_match 124 = .ok (.bipush 108, 2) := by decide +kernel
theorem dX8_match_126 : decode cX8_match 126 = .ok (.iaload, 1) := by decide +kernel
theorem dX8_match_127 : decode cX8_match 127 = .ok (.aload_n 0, 1) := by decide +kernel
theorem dX8_match_128 : decode cX8_match 128 = .ok (.getfield 118, 3) := by decide +kernel
theorem dX8_match_131 : decode cX8_match 131 = .ok (.if_icmp .lt 7, 3) := by decide +kernel
theorem dX8_match_134 : decode cX8_match 134 = .ok (.iconst 1, 1) := by decide +kernel
theorem dX8_match_135 : decode cX8_match 135 = .ok (.goto 4, 3) := by decide +kernel
theorem dX8_match_138 : decode cX8_match 138 = .ok (.iconst 0, 1) := by decide +kernel
theorem dX8_match_139 : decode cX8_match 139 = .ok (.ireturn, 1) := by decide +kernel
theorem dX8_match_140 : decode cX8_match 140 = .ok (.aload_n 0, 1) := by decide +kernel
theorem dX8_match_141 : decode cX8_match 141 = .ok (.getfield 7, 3) := by decide +kernel
theorem dX8_match_144 : decode cX8_match 144 = .ok (.iload_n 1, 1) := by decide +kernel
theorem dX8_match_145 : decode cX8_match 145 = .ok (.bipush 6, 2) := by decide +kernel
theorem dX8_match_147 : decode cX8_match 147 = .ok (.isub, 1) := by decide +kernel
theorem dX8_match_148 : decode cX8_match 148 = .ok (.iaload, 1) := by decide +kernel
theorem dX8_match_149 : decode cX8_match 149 = .ok (.ireturn, 1) := by decide +kernel
theorem dX8_hasReview_0 : decode cX8_hasReview 0 = .ok (.aload_n 0, 1) := by decide +kernel
theorem dX8_hasReview_1 : decode cX8_hasReview 1 = .ok (.aload_n 0, 1) := by decide +kernel
theorem dX8_hasReview_2 : decode cX8_hasReview 2 = .ok (.iload_n 1, 1) := by decide +kernel
theorem dX8_hasReview_3 : decode cX8_hasReview 3 = .ok (.invokestatic 192, 3) := by decide +kernel
theorem dX8_hasReview_6 : decode cX8_hasReview 6 = .ok (.invokevirtual 254, 3) := by decide +kernel
theorem dX8_hasReview_9 : decode cX8_hasReview 9 = .ok (.invokevirtual 169, 3) := by decide +kernel
theorem dX8_hasReview_12 : decode cX8_hasReview 12 = .ok (.ifCond .eq 16, 3) := by decide +kernel
theorem dX8_hasReview_15 : decode cX8_hasReview 15 = .ok (.aload_n 0, 1) := by decide +kernel
theorem dX8_hasReview_16 : decode cX8_hasReview 16 = .ok (.getfield 13, 3) := by decide +kernel
theorem dX8_hasReview_19 : decode cX8_hasReview 19 = .ok (.iload_n 1, 1) := by decide +kernel
theorem dX8_hasReview_20 : decode cX8_hasReview 20 = .ok (.baload, 1) := by decide +kernel
theorem dX8_hasReview_21 : decode cX8_hasReview 21 = .ok (.ifCond .ne 7, 3) := by decide +kernel
theorem dX8_hasReview_24 : decode cX8_hasReview 24 = .ok (.iconst 1, 1) := by decide +kernel
theorem dX8_hasReview_25 : decode cX8_hasReview 25 = .ok (.goto 4, 3) := by decide +kernel
theorem dX8_hasReview_28 : decode cX8_hasReview 28 = .ok (.iconst 0, 1) := by decide +kernel
theorem dX8_hasReview_29 : decode cX8_hasReview 29 = .ok (.ireturn, 1) := by decide +kernel
theorem dX8_hasEnded_0 : decode cX8_hasEnded 0 = .ok (.aload_n 0, 1) := by decide +kernel
theorem dX8_hasEnded_1 : decode cX8_hasEnded 1 = .ok (.getfield 166, 3) := by decide +kernel
theorem dX8_hasEnded_4 : decode cX8_hasEnded 4 = .ok (.ifCond .eq 28, 3) := by decide +kernel
theorem dX8_hasEnded_7 : decode cX8_hasEnded 7 = .ok (.iload_n 1, 1) := by decide +kernel
theorem dX8_hasEnded_8 : decode cX8_hasEnded 8 = .ok (.iconst 0, 1) := by decide +kernel
theorem dX8_hasEnded_9 : decode cX8_hasEnded 9 = .ok (.aload_n 0, 1) := by decide +kernel
theorem dX8_hasEnded_10 : decode cX8_hasEnded 10 = .ok (.invokevirtual 157, 3) := by decide +kernel
theorem dX8_hasEnded_13 : decode cX8_hasEnded 13 = .ok (.iconst 1, 1) := by decide +kernel
theorem dX8_hasEnded_14 : decode cX8_hasEnded 14 = .ok (.isub, 1) := by decide +kernel
theorem dX8_hasEnded_15 : decode cX8_hasEnded 15 = .ok (.invokestatic 81, 3) := by decide +kernel
theorem dX8_hasEnded_18 : decode cX8_hasEnded 18 = .ok (.ifCond .eq 14, 3) := by decide +kernel
theorem dX8_hasEnded_21 : decode cX8_hasEnded 21 = .ok (.iload_n 2, 1) := by decide +kernel
theorem dX8_hasEnded_22 : decode cX8_hasEnded 22 = .ok (.invokestatic 192, 3) := by decide +kernel
theorem dX8_hasEnded_25 : decode cX8_hasEnded 25 = .ok (.ifCond .eq 7, 3) := by decide +kernel
theorem dX8_hasEnded_28 : decode cX8_hasEnded 28 = .ok (.iconst 1, 1) := by decide +kernel
theorem dX8_hasEnded_29 : decode cX8_hasEnded 29 = .ok (.goto 4, 3) := by decide +kernel
theorem dX8_hasEnded_32 : decode cX8_hasEnded 32 = .ok (.iconst 0, 1) := by decide +kernel
theorem dX8_hasEnded_33 : decode cX8_hasEnded 33 = .ok (.ireturn, 1) := by decide +kernel
theorem dX8_matAfter_0 : decode cX8_matAfter 0 = .ok (.aload_n 0, 1) := by decide +kernel
theorem dX8_matAfter_1 : decode cX8_matAfter 1 = .ok (.aload_n 0, 1) := by decide +kernel
theorem dX8_matAfter_2 : decode cX8_matAfter 2 = .ok (.iload_n 1, 1) := by decide +kernel
theorem dX8_matAfter_3 : decode cX8_matAfter 3 = .ok (.iload_n 2, 1) := by decide +kernel
theorem dX8_matAfter_4 : decode cX8_matAfter 4 = .ok (.invokevirtual 261, 3) := by decide +kernel
theorem dX8_matAfter_7 : decode cX8_matAfter 7 = .ok (.ifCond .eq 7, 3) := by decide +kernel
theorem dX8_matAfter_10 : decode cX8_matAfter 10 = .ok (.iconst 0, 1) := by decide +kernel
theorem dX8_matAfter_11 : decode cX8_matAfter 11 = .ok (.goto 4, 3) := by decide +kernel
theorem dX8_matAfter_14 : decode cX8_matAfter 14 = .ok (.iconst 1, 1) := by decide +kernel
theorem dX8_matAfter_15 : decode cX8_matAfter 15 = .ok (.invokevirtual 169, 3) := by decide +kernel
theorem dX8_matAfter_18 : decode cX8_matAfter 18 = .ok (.ifCond .eq 16, 3) := by decide +kernel
theorem dX8_matAfter_21 : decode cX8_matAfter 21 = .ok (.aload_n 0, 1) := by decide +kernel
theorem dX8_matAfter_22 : decode cX8_matAfter 22 = .ok (.getfield 44, 3) := by decide +kernel
theorem dX8_matAfter_25 : decode cX8_matAfter 25 = .ok (.iconst 2, 1) := by decide +kernel
theorem dX8_matAfter_26 : decode cX8_matAfter 26 = .ok (.iload_n 1, 1) := by decide +kernel
theorem dX8_matAfter_27 : decode cX8_matAfter 27 = .ok (.imul, 1) := by decide +kernel
theorem dX8_matAfter_28 : decode cX8_matAfter 28 = .ok (.iload_n 2, 1) := by decide +kernel
theorem dX8_matAfter_29 : decode cX8_matAfter 29 = .ok (.iadd, 1) := by decide +kernel
theorem dX8_matAfter_30 : decode cX8_matAfter 30 = .ok (.iaload, 1) := by decide +kernel
theorem dX8_matAfter_31 : decode cX8_matAfter 31 = .ok (.goto 4, 3) := by decide +kernel
theorem dX8_matAfter_34 : decode cX8_matAfter 34 = .ok (.iconst 0, 1) := by decide +kernel
theorem dX8_matAfter_35 : decode cX8_matAfter 35 = .ok (.ireturn, 1) := by decide +kernel
theorem dX8_matAnew_0 : decode cX8_matAnew 0 = .ok (.aload_n 0, 1) := by decide +kernel
theorem dX8_matAnew_1 : decode cX8_matAnew 1 = .ok (.iload_n 1, 1) := by decide +kernel
theorem dX8_matAnew_2 : decode cX8_matAnew 2 = .ok (.iload_n 2, 1) := by decide +kernel
theorem dX8_matAnew_3 : decode cX8_matAnew 3 = .ok (.invokevirtual 264, 3) := by decide +kernel
theorem dX8_matAnew_6 : decode cX8_matAnew 6 = .ok (.ireturn, 1) := by decide +kernel
theorem dX8_pointsAfter_0 : decode cX8_pointsAfter 0 = .ok (.aload_n 0, 1) := by decide +kernel
theorem dX8_pointsAfter_1 : decode cX8_pointsAfter 1 = .ok (.aload_n 0, 1) := by decide +kernel
theorem dX8_pointsAfter_2 : decode cX8_pointsAfter 2 = .ok (.iload_n 1, 1) := by decide +kernel
theorem dX8_pointsAfter_3 : decode cX8_pointsAfter 3 = .ok (.iload_n 2, 1) := by decide +kernel
theorem dX8_pointsAfter_4 : decode cX8_pointsAfter 4 = .ok (.invokevirtual 261, 3) := by decide +kernel
theorem dX8_pointsAfter_7 : decode cX8_pointsAfter 7 = .ok (.ifCond .eq 7, 3) := by decide +kernel
theorem dX8_pointsAfter_10 : decode cX8_pointsAfter 10 = .ok (.iconst 0, 1) := by decide +kernel
theorem dX8_pointsAfter_11 : decode cX8_pointsAfter 11 = .ok (.goto 4, 3) := by decide +kernel
theorem dX8_pointsAfter_14 : decode cX8_pointsAfter 14 = .ok (.iconst 1, 1) := by decide +kernel
theorem dX8_pointsAfter_15 : decode cX8_pointsAfter 15 = .ok (.invokevirtual 169, 3) := by decide +kernel
theorem dX8_pointsAfter_18 : decode cX8_pointsAfter 18 = .ok (.ifCond .eq 16, 3) := by decide +kernel
theorem dX8_pointsAfter_21 : decode cX8_pointsAfter 21 = .ok (.aload_n 0, 1) := by decide +kernel
theorem dX8_pointsAfter_22 : decode cX8_pointsAfter 22 = .ok (.getfield 47, 3) := by decide +kernel
theorem dX8_pointsAfter_25 : decode cX8_pointsAfter 25 = .ok (.iconst 2, 1) := by decide +kernel
theorem dX8_pointsAfter_26 : decode cX8_pointsAfter 26 = .ok (.iload_n 1, 1) := by decide +kernel
theorem dX8_pointsAfter_27 : decode cX8_pointsAfter 27 = .ok (.imul, 1) := by decide +kernel
theorem dX8_pointsAfter_28 : decode cX8_pointsAfter 28 = .ok (.iload_n 2, 1) := by decide +kernel
theorem dX8_pointsAfter_29 : decode cX8_pointsAfter 29 = .ok (.iadd, 1) := by decide +kernel
theorem dX8_pointsAfter_30 : decode cX8_pointsAfter 30 = .ok (.iaload, 1) := by decide +kernel
theorem dX8_pointsAfter_31 : decode cX8_pointsAfter 31 = .ok (.goto 4, 3) := by decide +kernel
theorem dX8_pointsAfter_34 : decode cX8_pointsAfter 34 = .ok (.iconst 0, 1) := by decide +kernel
theorem dX8_pointsAfter_35 : decode cX8_pointsAfter 35 = .ok (.ireturn, 1) := by decide +kernel
theorem dX8_raidPoints_0 : decode cX8_raidPoints 0 = .ok (.aload_n 0, 1) := by decide +kernel
theorem dX8_raidPoints_1 : decode cX8_raidPoints 1 = .ok (.aload_n 0, 1) := by decide +kernel
theorem dX8_raidPoints_2 : decode cX8_raidPoints 2 = .ok (.iload_n 1, 1) := by decide +kernel
theorem dX8_raidPoints_3 : decode cX8_raidPoints 3 = .ok (.invokestatic 192, 3) := by decide +kernel
theorem dX8_raidPoints_6 : decode cX8_raidPoints 6 = .ok (.ifCond .eq 14, 3) := by decide +kernel
theorem dX8_raidPoints_9 : decode cX8_raidPoints 9 = .ok (.iload_n 2, 1) := by decide +kernel
theorem dX8_raidPoints_10 : decode cX8_raidPoints 10 = .ok (.invokestatic 175, 3) := by decide +kernel
theorem dX8_raidPoints_13 : decode cX8_raidPoints 13 = .ok (.ifCond .eq 7, 3) := by decide +kernel
theorem dX8_raidPoints_16 : decode cX8_raidPoints 16 = .ok (.iconst 1, 1) := by decide +kernel
theorem dX8_raidPoints_17 : decode cX8_raidPoints 17 = .ok (.goto 4, 3) := by decide +kernel
theorem dX8_raidPoints_20 : decode cX8_raidPoints 20 = .ok (.iconst 0, 1) := by decide +kernel
theorem dX8_raidPoints_21 : decode cX8_raidPoints 21 = .ok (.invokevirtual 254, 3) := by decide +kernel
theorem dX8_raidPoints_24 : decode cX8_raidPoints 24 = .ok (.invokevirtual 169, 3) := by decide +kernel
theorem dX8_raidPoints_27 : decode cX8_raidPoints 27 = .ok (.ifCond .eq 20, 3) := by decide +kernel
theorem dX8_raidPoints_30 : decode cX8_raidPoints 30 = .ok (.aload_n 0, 1) := by decide +kernel
theorem dX8_raidPoints_31 : decode cX8_raidPoints 31 = .ok (.getfield 41, 3) := by decide +kernel
theorem dX8_raidPoints_34 : decode cX8_raidPoints 34 = .ok (.bipush 60, 2) := by decide +kernel
theorem dX8_raidPoints_36 : decode cX8_raidPoints 36 = .ok (.bipush 10, 2) := by decide +kernel
theorem dX8_raidPoints_38 : decode cX8_raidPoints 38 = .ok (.iload_n 1, 1) := by decide +kernel
theorem dX8_raidPoints_39 : decode cX8_raidPoints 39 = .ok (.imul, 1) := by decide +kernel
theorem dX8_raidPoints_40 : decode cX8_raidPoints 40 = .ok (.iadd, 1) := by decide +kernel
theorem dX8_raidPoints_41 : decode cX8_raidPoints 41 = .ok (.iload_n 2, 1) := by decide +kernel
theorem dX8_raidPoints_42 : decode cX8_raidPoints 42 = .ok (.iadd, 1) := by decide +kernel
theorem dX8_raidPoints_43 : decode cX8_raidPoints 43 = .ok (.iaload, 1) := by decide +kernel
theorem dX8_raidPoints_44 : decode cX8_raidPoints 44 = .ok (.goto 4, 3) := by decide +kernel
theorem dX8_raidPoints_47 : decode cX8_raidPoints 47 = .ok (.iconst 0, 1) := by decide +kernel
theorem dX8_raidPoints_48 : decode cX8_raidPoints 48 = .ok (.ireturn, 1) := by decide +kernel
theorem dX8_isAhead_0 : decode cX8_isAhead 0 = .ok (.aload_n 0, 1) := by decide +kernel
theorem dX8_isAhead_1 : decode cX8_isAhead 1 = .ok (.getfield 53, 3) := by decide +kernel
theorem dX8_isAhead_4 : decode cX8_isAhead 4 = .ok (.bipush 6, 2) := by decide +kernel
theorem dX8_isAhead_6 : decode cX8_isAhead 6 = .ok (.iload_n 1, 1) := by decide +kernel
theorem dX8_isAhead_7 : decode cX8_isAhead 7 = .ok (.imul, 1) := by decide +kernel
theorem dX8_isAhead_8 : decode cX8_isAhead 8 = .ok (.iconst 3, 1) := by decide +kernel
theorem dX8_isAhead_9 : decode cX8_isAhead 9 = .ok (.iadd, 1) := by decide +kernel
theorem dX8_isAhead_10 : decode cX8_isAhead 10 = .ok (.iaload, 1) := by decide +kernel
theorem dX8_isAhead_11 : decode cX8_isAhead 11 = .ok (.aload_n 0, 1) := by decide +kernel
theorem dX8_isAhead_12 : decode cX8_isAhead 12 = .ok (.getfield 53, 3) := by decide +kernel
theorem dX8_isAhead_15 : decode cX8_isAhead 15 = .ok (.bipush 6, 2) := by decide +kernel
theorem dX8_isAhead_17 : decode cX8_isAhead 17 = .ok (.iload_n 2, 1) := by decide +kernel
theorem dX8_isAhead_18 : decode cX8_isAhead 18 = .ok (.imul, 1) := by decide +kernel
theorem dX8_isAhead_19 : decode cX8_isAhead 19 = .ok (.iconst 3, 1) := by decide +kernel
theorem dX8_isAhead_20 : decode cX8_isAhead 20 = .ok (.iadd, 1) := by decide +kernel
theorem dX8_isAhead_21 : decode cX8_isAhead 21 = .ok (.iaload, 1) := by decide +kernel
theorem dX8_isAhead_22 : decode cX8_isAhead 22 = .ok (.isub, 1) := by decide +kernel
theorem dX8_isAhead_23 : decode cX8_isAhead 23 = .ok (.istore_n 3, 1) := by decide +kernel
theorem dX8_isAhead_24 : decode cX8_isAhead 24 = .ok (.iload_n 3, 1) := by decide +kernel
theorem dX8_isAhead_25 : decode cX8_isAhead 25 = .ok (.ifCond .ne 197, 3) := by decide +kernel
theorem dX8_isAhead_28 : decode cX8_isAhead 28 = .ok (.aload_n 0, 1) := by decide +kernel
theorem dX8_isAhead_29 : decode cX8_isAhead 29 = .ok (.getfield 53, 3) := by decide +kernel
theorem dX8_isAhead_32 : decode cX8_isAhead 32 = .ok (.bipush 6, 2) := by decide +kernel
theorem dX8_isAhead_34 : decode cX8_isAhead 34 = .ok (.iload_n 1, 1) := by decide +kernel
theorem dX8_isAhead_35 : decode cX8_isAhead 35 = .ok (.imul, 1) := by decide +kernel
theorem dX8_isAhead_36 : decode cX8_isAhead 36 = .ok (.iconst 4, 1) := by decide +kernel
theorem dX8_isAhead_37 : decode cX8_isAhead 37 = .ok (.iadd, 1) := by decide +kernel
theorem dX8_isAhead_38 : decode cX8_isAhead 38 = .ok (.iaload, 1) := by decide +kernel
theorem dX8_isAhead_39 : decode cX8_isAhead 39 = .ok (.istore 4, 2) := by decide +kernel
theorem dX8_isAhead_41 : decode cX8_isAhead 41 = .ok (.aload_n 0, 1) := by decide +kernel
theorem dX8_isAhead_42 : decode cX8_isAhead 42 = .ok (.getfield 53, 3) := by decide +kernel
theorem dX8_isAhead_45 : decode cX8_isAhead 45 = .ok (.bipush 6, 2) := by decide +kernel
theorem dX8_isAhead_47 : decode cX8_isAhead 47 = .ok (.iload_n 1, 1) := by decide +kernel
theorem dX8_isAhead_48 : decode cX8_isAhead 48 = .ok (.imul, 1) := by decide +kernel
theorem dX8_isAhead_49 : decode cX8_isAhead 49 = .ok (.iconst 5, 1) := by decide +kernel
theorem dX8_isAhead_50 : decode cX8_isAhead 50 = .ok (.iadd, 1) := by decide +kernel
theorem dX8_isAhead_51 : decode cX8_isAhead 51 = .ok (.iaload, 1) := by decide +kernel
theorem dX8_isAhead_52 : decode cX8_isAhead 52 = .ok (.istore 5, 2) := by decide +kernel
theorem dX8_isAhead_54 : decode cX8_isAhead 54 = .ok (.aload_n 0, 1) := by decide +kernel
theorem dX8_isAhead_55 : decode cX8_isAhead 55 = .ok (.getfield 53, 3) := by decide +kernel
theorem dX8_isAhead_58 : decode cX8_isAhead 58 = .ok (.bipush 6, 2) := by decide +kernel
theorem dX8_isAhead_60 : decode cX8_isAhead 60 = .ok (.iload_n 2, 1) := by decide +kernel
theorem dX8_isAhead_61 : decode cX8_isAhead 61 = .ok (.imul, 1) := by decide +kernel
theorem dX8_isAhead_62 : decode cX8_isAhead 62 = .ok (.iconst 4, 1) := by decide +kernel
theorem dX8_isAhead_63 : decode cX8_isAhead 63 = .ok (.iadd, 1) := by decide +kernel
theorem dX8_isAhead_64 : decode cX8_isAhead 64 = .ok (.iaload, 1) := by decide +kernel
theorem dX8_isAhead_65 : decode cX8_isAhead 65 = .ok (.istore 6, 2) := by decide +kernel
theorem dX8_isAhead_67 : decode cX8_isAhead 67 = .ok (.aload_n 0, 1) := by decide +kernel
theorem dX8_isAhead_68 : decode cX8_isAhead 68 = .ok (.getfield 53, 3) := by decide +kernel
theorem dX8_isAhead_71 : decode cX8_isAhead 71 = .ok (.bipush 6, 2) := by decide +kernel
theorem dX8_isAhead_73 : decode cX8_isAhead 73 = .ok (.iload_n 2, 1) := by decide +kernel
theorem dX8_isAhead_74 : decode cX8_isAhead 74 = .ok (.imul, 1) := by decide +kernel
theorem dX8_isAhead_75 : decode cX8_isAhead 75 = .ok (.iconst 5, 1) := by decide +kernel
theorem dX8_isAhead_76 : decode cX8_isAhead 76 = .ok (.iadd, 1) := by decide +kernel
theorem dX8_isAhead_77 : decode cX8_isAhead 77 = .ok (.iaload, 1) := by decide +kernel
theorem dX8_isAhead_78 : decode cX8_isAhead 78 = .ok (.istore 7, 2) := by decide +kernel
theorem dX8_isAhead_80 : decode cX8_isAhead 80 = .ok (.iload 4, 2) := by decide +kernel
theorem dX8_isAhead_82 : decode cX8_isAhead 82 = .ok (.iload 5, 2) := by decide +kernel
theorem dX8_isAhead_84 : decode cX8_isAhead 84 = .ok (.iadd, 1) := by decide +kernel
theorem dX8_isAhead_85 : decode cX8_isAhead 85 = .ok (.ifCond .ne 7, 3) := by decide +kernel
theorem dX8_isAhead_88 : decode cX8_isAhead 88 = .ok (.iconst 1, 1) := by decide +kernel
theorem dX8_isAhead_89 : decode cX8_isAhead 89 = .ok (.goto 14, 3) := by decide +kernel
theorem dX8_isAhead_92 : decode cX8_isAhead 92 = .ok (.iload 5, 2) := by decide +kernel
theorem dX8_isAhead_94 : decode cX8_isAhead 94 = .ok (.ifCond .ne 7, 3) := by decide +kernel
theorem dX8_isAhead_97 : decode cX8_isAhead 97 = .ok (.iconst 1, 1) := by decide +kernel
theorem dX8_isAhead_98 : decode cX8_isAhead 98 = .ok (.goto 5, 3) := by decide +kernel
theorem dX8_isAhead_101 : decode cX8_isAhead 101 = .ok (.iload 4, 2) := by decide +kernel
theorem dX8_isAhead_103 : decode cX8_isAhead 103 = .ok (.istore 4, 2) := by decide +kernel
theorem dX8_isAhead_105 : decode cX8_isAhead 105 = .ok (.aload_n 0, 1) := by decide +kernel
theorem dX8_isAhead_106 : decode cX8_isAhead 106 = .ok (.getfield 53, 3) := by decide +kernel
theorem dX8_isAhead_109 : decode cX8_isAhead 109 = .ok (.bipush 6, 2) := by decide +kernel
theorem dX8_isAhead_111 : decode cX8_isAhead 111 = .ok (.iload_n 1, 1) := by decide +kernel
theorem dX8_isAhead_112 : decode cX8_isAhead 112 = .ok (.imul, 1) := by decide +kernel
theorem dX8_isAhead_113 : decode cX8_isAhead 113 = .ok (.iconst 4, 1) := by decide +kernel
theorem dX8_isAhead_114 : decode cX8_isAhead 114 = .ok (.iadd, 1) := by decide +kernel
theorem dX8_isAhead_115 : decode cX8_isAhead 115 = .ok (.iaload, 1) := by decide +kernel
theorem dX8_isAhead_116 : decode cX8_isAhead 116 = .ok (.iload 5, 2) := by decide +kernel
theorem dX8_isAhead_118 : decode cX8_isAhead 118 = .ok (.iadd, 1) := by decide +kernel
theorem dX8_isAhead_119 : decode cX8_isAhead 119 = .ok (.ifCond .ne 7, 3) := by decide +kernel
theorem dX8_isAhead_122 : decode cX8_isAhead 122 = .ok (.iconst 1, 1) := by decide +kernel
theorem dX8_isAhead_123 : decode cX8_isAhead 123 = .ok (.goto 5, 3) := by decide +kernel
theorem dX8_isAhead_126 : decode cX8_isAhead 126 = .ok (.iload 5, 2) := by decide +kernel
theorem dX8_isAhead_128 : decode cX8_isAhead 128 = .ok (.istore 5, 2) := by decide +kernel
theorem dX8_isAhead_130 : decode cX8_isAhead 130 = .ok (.iload 6, 2) := by decide +kernel
theorem dX8_isAhead_132 : decode cX8_isAhead 132 = .ok (.iload 7, 2) := by decide +kernel
theorem dX8_isAhead_134 : decode cX8_isAhead 134 = .ok (.iadd, 1) := by decide +kernel
theorem dX8_isAhead_135 : decode cX8_isAhead 135 = .ok (.ifCond .ne 7, 3) := by decide +kernel
theorem dX8_isAhead_138 : decode cX8_isAhead 138 = .ok (.iconst 1, 1) := by decide +kernel
theorem dX8_isAhead_139 : decode cX8_isAhead 139 = .ok (.goto 14, 3) := by decide +kernel
theorem dX8_isAhead_142 : decode cX8_isAhead 142 = .ok (.iload 7, 2) := by decide +kernel
theorem dX8_isAhead_144 : decode cX8_isAhead 144 = .ok (.ifCond .ne 7, 3) := by decide +kernel
theorem dX8_isAhead_147 : decode cX8_isAhead 147 = .ok (.iconst 1, 1) := by decide +kernel
theorem dX8_isAhead_148 : decode cX8_isAhead 148 = .ok (.goto 5, 3) := by decide +kernel
theorem dX8_isAhead_151 : decode cX8_isAhead 151 = .ok (.iload 6, 2) := by decide +kernel
theorem dX8_isAhead_153 : decode cX8_isAhead 153 = .ok (.istore 6, 2) := by decide +kernel
theorem dX8_isAhead_155 : decode cX8_isAhead 155 = .ok (.aload_n 0, 1) := by decide +kernel
theorem dX8_isAhead_156 : decode cX8_isAhead 156 = .ok (.getfield 53, 3) := by decide +kernel
theorem dX8_isAhead_159 : decode cX8_isAhead 159 = .ok (.bipush 6, 2) := by decide +kernel
theorem dX8_isAhead_161 : decode cX8_isAhead 161 = .ok (.iload_n 2, 1) := by decide +kernel
theorem dX8_isAhead_162 : decode cX8_isAhead 162 = .ok (.imul, 1) := by decide +kernel
theorem dX8_isAhead_163 : decode cX8_isAhead 163 = .ok (.iconst 4, 1) := by decide +kernel
theorem dX8_isAhead_164 : decode cX8_isAhead 164 = .ok (.iadd, 1) := by decide +kernel
theorem dX8_isAhead_165 : decode cX8_isAhead 165 = .ok (.iaload, 1) := by decide +kernel
theorem dX8_isAhead_166 : decode cX8_isAhead 166 = .ok (.iload 7, 2) := by decide +kernel
theorem dX8_isAhead_168 : decode cX8_isAhead 168 = .ok (.iadd, 1) := by decide +kernel
theorem dX8_isAhead_169 : decode cX8_isAhead 169 = .ok (.ifCond .ne 7, 3) := by decide +kernel
theorem dX8_isAhead_172 : decode cX8_isAhead 172 = .ok (.iconst 1, 1) := by decide +kernel
theorem dX8_isAhead_173 : decode cX8_isAhead 173 = .ok (.goto 5, 3) := by decide +kernel
theorem dX8_isAhead_176 : decode cX8_isAhead 176 = .ok (.iload 7, 2) := by decide +kernel
theorem dX8_isAhead_178 : decode cX8_isAhead 178 = .ok (.istore 7, 2) := by decide +kernel
theorem dX8_isAhead_180 : decode cX8_isAhead 180 = .ok (.iload 4, 2) := by decide +kernel
theorem dX8_isAhead_182 : decode cX8_isAhead 182 = .ok (.i2l, 1) := by decide +kernel
theorem dX8_isAhead_183 : decode cX8_isAhead 183 = .ok (.iload 7, 2) := by decide +kernel
theorem dX8_isAhead_185 : decode cX8_isAhead 185 = .ok (.i2l, 1) := by decide +kernel
theorem dX8_isAhead_186 : decode cX8_isAhead 186 = .ok (.lmul, 1) := by decide +kernel
theorem dX8_isAhead_187 : decode cX8_isAhead 187 = .ok (.iload 6, 2) := by decide +kernel
theorem dX8_isAhead_189 : decode cX8_isAhead 189 = .ok (.i2l, 1) := by decide +kernel
theorem dX8_isAhead_190 : decode cX8_isAhead 190 = .ok (.iload 5, 2) := by decide +kernel
theorem dX8_isAhead_192 : decode cX8_isAhead 192 = .ok (.i2l, 1) := by decide +kernel
theorem dX8_isAhead_193 : decode cX8_isAhead 193 = .ok (.lmul, 1) := by decide +kernel
theorem dX8_isAhead_194 : decode cX8_isAhead 194 = .ok (.lsub, 1) := by decide +kernel
theorem dX8_isAhead_195 : decode cX8_isAhead 195 = .ok (.lstore 8, 2) := by decide +kernel
theorem dX8_isAhead_197 : decode cX8_isAhead 197 = .ok (.lload 8, 2) := by decide +kernel
theorem dX8_isAhead_199 : decode cX8_isAhead 199 = .ok (.lconst 0, 1) := by decide +kernel
theorem dX8_isAhead_200 : decode cX8_isAhead 200 = .ok (.lcmp, 1) := by decide +kernel
theorem dX8_isAhead_201 : decode cX8_isAhead 201 = .ok (.ifCond .gt 15, 3) := by decide +kernel
theorem dX8_isAhead_204 : decode cX8_isAhead 204 = .ok (.lload 8, 2) := by decide +kernel
theorem dX8_isAhead_206 : decode cX8_isAhead 206 = .ok (.lconst 0, 1) := by decide +kernel
theorem dX8_isAhead_207 : decode cX8_isAhead 207 = .ok (.lcmp, 1) := by decide +kernel
theorem dX8_isAhead_208 : decode cX8_isAhead 208 = .ok (.ifCond .ne 12, 3) := by decide +kernel
theorem dX8_isAhead_211 : decode cX8_isAhead 211 = .ok (.iload_n 1, 1) := by decide +kernel
theorem dX8_isAhead_212 : decode cX8_isAhead 212 = .ok (.iload_n 2, 1) := by decide +kernel
theorem dX8_isAhead_213 : decode cX8_isAhead 213 = .ok (.if_icmp .ge 7, 3) := by decide +kernel
theorem dX8_isAhead_216 : decode cX8_isAhead 216 = .ok (.iconst 1, 1) := by decide +kernel
theorem dX8_isAhead_217 : decode cX8_isAhead 217 = .ok (.goto 4, 3) := by decide +kernel
theorem dX8_isAhead_220 : decode cX8_isAhead 220 = .ok (.iconst 0, 1) := by decide +kernel
theorem dX8_isAhead_221 : decode cX8_isAhead 221 = .ok (.ireturn, 1) := by decide +kernel
theorem dX8_isAhead_222 : decode cX8_isAhead 222 = .ok (.iload_n 3, 1) := by decide +kernel
theorem dX8_isAhead_223 : decode cX8_isAhead 223 = .ok (.ifCond .le 7, 3) := by decide +kernel
theorem dX8_isAhead_226 : decode cX8_isAhead 226 = .ok (.iconst 1, 1) := by decide +kernel
theorem dX8_isAhead_227 : decode cX8_isAhead 227 = .ok (.goto 4, 3) := by decide +kernel
theorem dX8_isAhead_230 : decode cX8_isAhead 230 = .ok (.iconst 0, 1) := by decide +kernel
theorem dX8_isAhead_231 : decode cX8_isAhead 231 = .ok (.ireturn, 1) := by decide +kernel
theorem dX8_rankOf_0 : decode cX8_rankOf 0 = .ok (.iconst 0, 1) := by decide +kernel
theorem dX8_rankOf_1 : decode cX8_rankOf 1 = .ok (.istore_n 2, 1) := by decide +kernel
theorem dX8_rankOf_2 : decode cX8_rankOf 2 = .ok (.iconst 0, 1) := by decide +kernel
theorem dX8_rankOf_3 : decode cX8_rankOf 3 = .ok (.istore_n 3, 1) := by decide +kernel
theorem dX8_rankOf_4 : decode cX8_rankOf 4 = .ok (.iload_n 3, 1) := by decide +kernel
theorem dX8_rankOf_5 : decode cX8_rankOf 5 = .ok (.bipush 8, 2) := by decide +kernel
theorem dX8_rankOf_7 : decode cX8_rankOf 7 = .ok (.if_icmp .ge 31, 3) := by decide +kernel
theorem dX8_rankOf_10 : decode cX8_rankOf 10 = .ok (.iload_n 2, 1) := by decide +kernel
theorem dX8_rankOf_11 : decode cX8_rankOf 11 = .ok (.iload_n 3, 1) := by decide +kernel
theorem dX8_rankOf_12 : decode cX8_rankOf 12 = .ok (.iload_n 1, 1) := by decide +kernel
theorem dX8_rankOf_13 : decode cX8_rankOf 13 = .ok (.if_icmp .eq 16, 3) := by decide +kernel
theorem dX8_rankOf_16 : decode cX8_rankOf 16 = .ok (.aload_n 0, 1) := by decide +kernel
theorem dX8_rankOf_17 : decode cX8_rankOf 17 = .ok (.iload_n 3, 1) := by decide +kernel
theorem dX8_rankOf_18 : decode cX8_rankOf 18 = .ok (.iload_n 1, 1) := by decide +kernel
theorem dX8_rankOf_19 : decode cX8_rankOf 19 = .ok (.invokevirtual 267, 3) := by decide +kernel
theorem dX8_rankOf_22 : decode cX8_rankOf 22 = .ok (.ifCond .eq 7, 3) := by decide +kernel
theorem dX8_rankOf_25 : decode cX8_rankOf 25 = .ok (.iconst 1, 1) := by decide +kernel
theorem dX8_rankOf_26 : decode cX8_rankOf 26 = .ok (.goto 4, 3) := by decide +kernel
theorem dX8_rankOf_29 : decode cX8_rankOf 29 = .ok (.iconst 0, 1) := by decide +kernel
theorem dX8_rankOf_30 : decode cX8_rankOf 30 = .ok (.iadd, 1) := by decide +kernel
theorem dX8_rankOf_31 : decode cX8_rankOf 31 = .ok (.istore_n 2, 1) := by decide +kernel
theorem dX8_rankOf_32 : decode cX8_rankOf 32 = .ok (.iinc 3 1, 3) := by decide +kernel
theorem dX8_rankOf_35 : decode cX8_rankOf 35 = .ok (.goto (-31), 3) := by decide +kernel
theorem dX8_rankOf_38 : decode cX8_rankOf 38 = .ok (.iload_n 2, 1) := by decide +kernel
theorem dX8_rankOf_39 : decode cX8_rankOf 39 = .ok (.ireturn, 1) := by decide +kernel
theorem dX8_club_0 : decode cX8_club 0 = .ok (.aload_n 0, 1) := by decide +kernel
theorem dX8_club_1 : decode cX8_club 1 = .ok (.iload_n 1, 1) := by decide +kernel
theorem dX8_club_2 : decode cX8_club 2 = .ok (.invokestatic 163, 3) := by decide +kernel
theorem dX8_club_5 : decode cX8_club 5 = .ok (.ifCond .ne 7, 3) := by decide +kernel
theorem dX8_club_8 : decode cX8_club 8 = .ok (.iconst 1, 1) := by decide +kernel
theorem dX8_club_9 : decode cX8_club 9 = .ok (.goto 18, 3) := by decide +kernel
theorem dX8_club_12 : decode cX8_club 12 = .ok (.iload_n 2, 1) := by decide +kernel
theorem dX8_club_13 : decode cX8_club 13 = .ok (.iconst 0, 1) := by decide +kernel
theorem dX8_club_14 : decode cX8_club 14 = .ok (.bipush 6, 2) := by decide +kernel
theorem dX8_club_16 : decode cX8_club 16 = .ok (.invokestatic 81, 3) := by decide +kernel
theorem dX8_club_19 : decode cX8_club 19 = .ok (.ifCond .eq 7, 3) := by decide +kernel
theorem dX8_club_22 : decode cX8_club 22 = .ok (.iconst 0, 1) := by decide +kernel
theorem dX8_club_23 : decode cX8_club 23 = .ok (.goto 4, 3) := by decide +kernel
theorem dX8_club_26 : decode cX8_club 26 = .ok (.iconst 2, 1) := by decide +kernel
theorem dX8_club_27 : decode cX8_club 27 = .ok (.invokevirtual 169, 3) := by decide +kernel
theorem dX8_club_30 : decode cX8_club 30 = .ok (.ifCond .ne 5, 3) := by decide +kernel
theorem dX8_club_33 : decode cX8_club 33 = .ok (.iconst 0, 1) := by decide +kernel
theorem dX8_club_34 : decode cX8_club 34 = .ok (.ireturn, 1) := by decide +kernel
theorem dX8_club_35 : decode cX8_club 35 = .ok (.iload_n 2, 1) := by decide +kernel
theorem dX8_club_36 : decode cX8_club 36 = .ok (.bipush 6, 2) := by decide +kernel
theorem dX8_club_38 : decode cX8_club 38 = .ok (.if_icmp .ge 17, 3) := by decide +kernel
theorem dX8_club_41 : decode cX8_club 41 = .ok (.aload_n 0, 1) := by decide +kernel
theorem dX8_club_42 : decode cX8_club 42 = .ok (.getfield 53, 3) := by decide +kernel
theorem dX8_club_45 : decode cX8_club 45 = .ok (.bipush 6, 2) := by decide +kernel
theorem dX8_club_47 : decode cX8_club 47 = .ok (.iload_n 1, 1) := by decide +kernel
theorem dX8_club_48 : decode cX8_club 48 = .ok (.imul, 1) := by decide +kernel
theorem dX8_club_49 : decode cX8_club 49 = .ok (.iload_n 2, 1) := by decide +kernel
theorem dX8_club_50 : decode cX8_club 50 = .ok (.iadd, 1) := by decide +kernel
theorem dX8_club_51 : decode cX8_club 51 = .ok (.iaload, 1) := by decide +kernel
theorem dX8_club_52 : decode cX8_club 52 = .ok (.goto 8, 3) := by decide +kernel
theorem dX8_club_55 : decode cX8_club 55 = .ok (.aload_n 0, 1) := by decide +kernel
theorem dX8_club_56 : decode cX8_club 56 = .ok (.iload_n 1, 1) := by decide +kernel
theorem dX8_club_57 : decode cX8_club 57 = .ok (.invokevirtual 270, 3) := by decide +kernel
theorem dX8_club_60 : decode cX8_club 60 = .ok (.ireturn, 1) := by decide +kernel
theorem dX8_baseOf_0 : decode cX8_baseOf 0 = .ok (.iload_n 0, 1) := by decide +kernel
theorem dX8_baseOf_1 : decode cX8_baseOf 1 = .ok (.iconst 3, 1) := by decide +kernel
theorem dX8_baseOf_2 : decode cX8_baseOf 2 = .ok (.irem, 1) := by decide +kernel
theorem dX8_baseOf_3 : decode cX8_baseOf 3 = .ok (.ifCond .ne 8, 3) := by decide +kernel
theorem dX8_baseOf_6 : decode cX8_baseOf 6 = .ok (.bipush 50, 2) := by decide +kernel
theorem dX8_baseOf_8 : decode cX8_baseOf 8 = .ok (.goto 17, 3) := by decide +kernel
theorem dX8_baseOf_11 : decode cX8_baseOf 11 = .ok (.iload_n 0, 1) := by decide +kernel
theorem dX8_baseOf_12 : decode cX8_baseOf 12 = .ok (.iconst 3, 1) := by decide +kernel
theorem dX8_baseOf_13 : decode cX8_baseOf 13 = .ok (.irem, 1) := by decide +kernel
theorem dX8_baseOf_14 : decode cX8_baseOf 14 = .ok (.iconst 1, 1) := by decide +kernel
theorem dX8_baseOf_15 : decode cX8_baseOf 15 = .ok (.if_icmp .ne 8, 3) := by decide +kernel
theorem dX8_baseOf_18 : decode cX8_baseOf 18 = .ok (.bipush 30, 2) := by decide +kernel
theorem dX8_baseOf_20 : decode cX8_baseOf 20 = .ok (.goto 5, 3) := by decide +kernel
theorem dX8_baseOf_23 : decode cX8_baseOf 23 = .ok (.bipush 10, 2) := by decide +kernel
theorem dX8_baseOf_25 : decode cX8_baseOf 25 = .ok (.ireturn, 1) := by decide +kernel
theorem dX8_isForeign_0 : decode cX8_isForeign 0 = .ok (.iload_n 0, 1) := by decide +kernel
theorem dX8_isForeign_1 : decode cX8_isForeign 1 = .ok (.iconst 4, 1) := by decide +kernel
theorem dX8_isForeign_2 : decode cX8_isForeign 2 = .ok (.irem, 1) := by decide +kernel
theorem dX8_isForeign_3 : decode cX8_isForeign 3 = .ok (.ifCond .ne 7, 3) := by decide +kernel
theorem dX8_isForeign_6 : decode cX8_isForeign 6 = .ok (.iconst 1, 1) := by decide +kernel
theorem dX8_isForeign_7 : decode cX8_isForeign 7 = .ok (.goto 4, 3) := by decide +kernel
theorem dX8_isForeign_10 : decode cX8_isForeign 10 = .ok (.iconst 0, 1) := by decide +kernel
theorem dX8_isForeign_11 : decode cX8_isForeign 11 = .ok (.ireturn, 1) := by decide +kernel
theorem dX8_canBid_0 : decode cX8_canBid 0 = .ok (.aload_n 0, 1) := by decide +kernel
theorem dX8_canBid_1 : decode cX8_canBid 1 = .ok (.getfield 56, 3) := by decide +kernel
theorem dX8_canBid_4 : decode cX8_canBid 4 = .ok (.iload_n 1, 1) := by decide +kernel
theorem dX8_canBid_5 : decode cX8_canBid 5 = .ok (.iaload, 1) := by decide +kernel
theorem dX8_canBid_6 : decode cX8_canBid 6 = .ok (.iload_n 3, 1) := by decide +kernel
theorem dX8_canBid_7 : decode cX8_canBid 7 = .ok (.if_icmp .lt 35, 3) := by decide +kernel
theorem dX8_canBid_10 : decode cX8_canBid 10 = .ok (.aload_n 0, 1) := by decide +kernel
theorem dX8_canBid_11 : decode cX8_canBid 11 = .ok (.getfield 59, 3) := by decide +kernel
theorem dX8_canBid_14 : decode cX8_canBid 14 = .ok (.iload_n 1, 1) := by decide +kernel
theorem dX8_canBid_15 : decode cX8_canBid 15 = .ok (.iaload, 1) := by decide +kernel
theorem dX8_canBid_16 : decode cX8_canBid 16 = .ok (.bipush 6, 2) := by decide +kernel
theorem dX8_canBid_18 : decode cX8_canBid 18 = .ok (.if_icmp .ge 24, 3) := by decide +kernel
theorem dX8_canBid_21 : decode cX8_canBid 21 = .ok (.iload_n 2, 1) := by decide +kernel
theorem dX8_canBid_22 : decode cX8_canBid 22 = .ok (.invokestatic 273, 3) := by decide +kernel
theorem dX8_canBid_25 : decode cX8_canBid 25 = .ok (.ifCond .eq 13, 3) := by decide +kernel
theorem dX8_canBid_28 : decode cX8_canBid 28 = .ok (.aload_n 0, 1) := by decide +kernel
theorem dX8_canBid_29 : decode cX8_canBid 29 = .ok (.getfield 62, 3) := by decide +kernel
theorem dX8_canBid_32 : decode cX8_canBid 32 = .ok (.iload_n 1, 1) := by decide +kernel
theorem dX8_canBid_33 : decode cX8_canBid 33 = .ok (.iaload, 1) := by decide +kernel
theorem dX8_canBid_34 : decode cX8_canBid 34 = .ok (.iconst 2, 1) := by decide +kernel
theorem dX8_canBid_35 : decode cX8_canBid 35 = .ok (.if_icmp .ge 7, 3) := by decide +kernel
theorem dX8_canBid_38 : decode cX8_canBid 38 = .ok (.iconst 1, 1) := by decide +kernel
theorem dX8_canBid_39 : decode cX8_canBid 39 = .ok (.goto 4, 3) := by decide +kernel
theorem dX8_canBid_42 : decode cX8_canBid 42 = .ok (.iconst 0, 1) := by decide +kernel
theorem dX8_canBid_43 : decode cX8_canBid 43 = .ok (.ireturn, 1) := by decide +kernel
theorem dX8_right_0 : decode cX8_right 0 = .ok (.iload_n 1, 1) := by decide +kernel
theorem dX8_right_1 : decode cX8_right 1 = .ok (.invokestatic 163, 3) := by decide +kernel
theorem dX8_right_4 : decode cX8_right 4 = .ok (.ifCond .eq 14, 3) := by decide +kernel
theorem dX8_right_7 : decode cX8_right 7 = .ok (.iload_n 2, 1) := by decide +kernel
theorem dX8_right_8 : decode cX8_right 8 = .ok (.invokestatic 276, 3) := by decide +kernel
theorem dX8_right_11 : decode cX8_right 11 = .ok (.ifCond .eq 7, 3) := by decide +kernel
theorem dX8_right_14 : decode cX8_right 14 = .ok (.iconst 1, 1) := by decide +kernel
theorem dX8_right_15 : decode cX8_right 15 = .ok (.goto 4, 3) := by decide +kernel
theorem dX8_right_18 : decode cX8_right 18 = .ok (.iconst 0, 1) := by decide +kernel
theorem dX8_right_19 : decode cX8_right 19 = .ok (.istore_n 3, 1) := by decide +kernel
theorem dX8_right_20 : decode cX8_right 20 = .ok (.aload_n 0, 1) := by decide +kernel
theorem dX8_right_21 : decode cX8_right 21 = .ok (.iload_n 3, 1) := by decide +kernel
theorem dX8_right_22 : decode cX8_right 22 = .ok (.ifCond .ne 7, 3) := by decide +kernel
theorem dX8_right_25 : decode cX8_right 25 = .ok (.iconst 1, 1) := by decide +kernel
theorem dX8_right_26 : decode cX8_right 26 = .ok (.goto 26, 3) := by decide +kernel
theorem dX8_right_29 : decode cX8_right 29 = .ok (.aload_n 0, 1) := by decide +kernel
theorem dX8_right_30 : decode cX8_right 30 = .ok (.getfield 74, 3) := by decide +kernel
theorem dX8_right_33 : decode cX8_right 33 = .ok (.iload_n 2, 1) := by decide +kernel
theorem dX8_right_34 : decode cX8_right 34 = .ok (.if_icmp .eq 13, 3) := by decide +kernel
theorem dX8_right_37 : decode cX8_right 37 = .ok (.aload_n 0, 1) := by decide +kernel
theorem dX8_right_38 : decode cX8_right 38 = .ok (.getfield 65, 3) := by decide +kernel
theorem dX8_right_41 : decode cX8_right 41 = .ok (.iload_n 2, 1) := by decide +kernel
theorem dX8_right_42 : decode cX8_right 42 = .ok (.iaload, 1) := by decide +kernel
theorem dX8_right_43 : decode cX8_right 43 = .ok (.iconst (-1), 1) := by decide +kernel
theorem dX8_right_44 : decode cX8_right 44 = .ok (.if_icmp .eq 7, 3) := by decide +kernel
theorem dX8_right_47 : decode cX8_right 47 = .ok (.iconst 2, 1) := by decide +kernel
theorem dX8_right_48 : decode cX8_right 48 = .ok (.goto 4, 3) := by decide +kernel
theorem dX8_right_51 : decode cX8_right 51 = .ok (.iconst 0, 1) := by decide +kernel
theorem dX8_right_52 : decode cX8_right 52 = .ok (.invokevirtual 169, 3) := by decide +kernel
theorem dX8_right_55 : decode cX8_right 55 = .ok (.ifCond .ne 5, 3) := by decide +kernel
theorem dX8_right_58 : decode cX8_right 58 = .ok (.iconst 0, 1) := by decide +kernel
theorem dX8_right_59 : decode cX8_right 59 = .ok (.ireturn, 1) := by decide +kernel
theorem dX8_right_60 : decode cX8_right 60 = .ok (.aload_n 0, 1) := by decide +kernel
theorem dX8_right_61 : decode cX8_right 61 = .ok (.getfield 71, 3) := by decide +kernel
theorem dX8_right_64 : decode cX8_right 64 = .ok (.iload_n 2, 1) := by decide +kernel
theorem dX8_right_65 : decode cX8_right 65 = .ok (.iaload, 1) := by decide +kernel
theorem dX8_right_66 : decode cX8_right 66 = .ok (.istore 4, 2) := by decide +kernel
theorem dX8_right_68 : decode cX8_right 68 = .ok (.aload_n 0, 1) := by decide +kernel
theorem dX8_right_69 : decode cX8_right 69 = .ok (.getfield 71, 3) := by decide +kernel
theorem dX8_right_72 : decode cX8_right 72 = .ok (.iload_n 2, 1) := by decide +kernel
theorem dX8_right_73 : decode cX8_right 73 = .ok (.iload_n 1, 1) := by decide +kernel
theorem dX8_right_74 : decode cX8_right 74 = .ok (.iastore, 1) := by decide +kernel
theorem dX8_right_75 : decode cX8_right 75 = .ok (.iload 4, 2) := by decide +kernel
theorem dX8_right_77 : decode cX8_right 77 = .ok (.ireturn, 1) := by decide +kernel
theorem dX8_call_0 : decode cX8_call 0 = .ok (.iload_n 1, 1) := by decide +kernel
theorem dX8_call_1 : decode cX8_call 1 = .ok (.invokestatic 276, 3) := by decide +kernel
theorem dX8_call_4 : decode cX8_call 4 = .ok (.istore_n 2, 1) := by decide +kernel
theorem dX8_call_5 : decode cX8_call 5 = .ok (.aload_n 0, 1) := by decide +kernel
theorem dX8_call_6 : decode cX8_call 6 = .ok (.iload_n 2, 1) := by decide +kernel
theorem dX8_call_7 : decode cX8_call 7 = .ok (.ifCond .ne 7, 3) := by decide +kernel
theorem dX8_call_10 : decode cX8_call 10 = .ok (.iconst 1, 1) := by decide +kernel
theorem dX8_call_11 : decode cX8_call 11 = .ok (.goto 26, 3) := by decide +kernel
theorem dX8_call_14 : decode cX8_call 14 = .ok (.aload_n 0, 1) := by decide +kernel
theorem dX8_call_15 : decode cX8_call 15 = .ok (.getfield 74, 3) := by decide +kernel
theorem dX8_call_18 : decode cX8_call 18 = .ok (.iconst (-1), 1) := by decide +kernel
theorem dX8_call_19 : decode cX8_call 19 = .ok (.if_icmp .ne 13, 3) := by decide +kernel
theorem dX8_call_22 : decode cX8_call 22 = .ok (.aload_n 0, 1) := by decide +kernel
theorem dX8_call_23 : decode cX8_call 23 = .ok (.getfield 65, 3) := by decide +kernel
theorem dX8_call_26 : decode cX8_call 26 = .ok (.iload_n 1, 1) := by decide +kernel
theorem dX8_call_27 : decode cX8_call 27 = .ok (.iaload, 1) := by decide +kernel
theorem dX8_call_28 : decode cX8_call 28 = .ok (.iconst (-1), 1) := by decide +kernel
theorem dX8_call_29 : decode cX8_call 29 = .ok (.if_icmp .eq 7, 3) := by decide +kernel
theorem dX8_call_32 : decode cX8_call 32 = .ok (.iconst 2, 1) := by decide +kernel
theorem dX8_call_33 : decode cX8_call 33 = .ok (.goto 4, 3) := by decide +kernel
theorem dX8_call_36 : decode cX8_call 36 = .ok (.iconst 0, 1) := by decide +kernel
theorem dX8_call_37 : decode cX8_call 37 = .ok (.invokevirtual 169, 3) := by decide +kernel
theorem dX8_call_40 : decode cX8_call 40 = .ok (.ifCond .ne 5, 3) := by decide +kernel
theorem dX8_call_43 : decode cX8_call 43 = .ok (.iconst 0, 1) := by decide +kernel
theorem dX8_call_44 : decode cX8_call 44 = .ok (.ireturn, 1) := by decide +kernel
theorem dX8_call_45 : decode cX8_call 45 = .ok (.aload_n 0, 1) := by decide +kernel
theorem dX8_call_46 : decode cX8_call 46 = .ok (.iload_n 1, 1) := by decide +kernel
theorem dX8_call_47 : decode cX8_call 47 = .ok (.putfield 74, 3) := by decide +kernel
theorem dX8_call_50 : decode cX8_call 50 = .ok (.aload_n 0, 1) := by decide +kernel
theorem dX8_call_51 : decode cX8_call 51 = .ok (.iconst 0, 1) := by decide +kernel
theorem dX8_call_52 : decode cX8_call 52 = .ok (.putfield 279, 3) := by decide +kernel
theorem dX8_call_55 : decode cX8_call 55 = .ok (.aload_n 0, 1) := by decide +kernel
theorem dX8_call_56 : decode cX8_call 56 = .ok (.iconst 0, 1) := by decide +kernel
theorem dX8_call_57 : decode cX8_call 57 = .ok (.putfield 282, 3) := by decide +kernel
theorem dX8_call_60 : decode cX8_call 60 = .ok (.aload_n 0, 1) := by decide +kernel
theorem dX8_call_61 : decode cX8_call 61 = .ok (.iconst (-1), 1) := by decide +kernel
theorem dX8_call_62 : decode cX8_call 62 = .ok (.putfield 285, 3) := by decide +kernel
theorem dX8_call_65 : decode cX8_call 65 = .ok (.aload_n 0, 1) := by decide +kernel
theorem dX8_call_66 : decode cX8_call 66 = .ok (.iconst 0, 1) := by decide +kernel
theorem dX8_call_67 : decode cX8_call 67 = .ok (.putfield 288, 3) := by decide +kernel
theorem dX8_call_70 : decode cX8_call 70 = .ok (.iload_n 1, 1) := by decide +kernel
theorem dX8_call_71 : decode cX8_call 71 = .ok (.invokestatic 291, 3) := by decide +kernel
theorem dX8_call_74 : decode cX8_call 74 = .ok (.ireturn, 1) := by decide +kernel
theorem dX8_bid_0 : decode cX8_bid 0 = .ok (.aload_n 0, 1) := by decide +kernel
theorem dX8_bid_1 : decode cX8_bid 1 = .ok (.iload_n 1, 1) := by decide +kernel
theorem dX8_bid_2 : decode cX8_bid 2 = .ok (.invokestatic 163, 3) := by decide +kernel
theorem dX8_bid_5 : decode cX8_bid 5 = .ok (.ifCond .ne 7, 3) := by decide +kernel
theorem dX8_bid_8 : decode cX8_bid 8 = .ok (.iconst 1, 1) := by decide +kernel
theorem dX8_bid_9 : decode cX8_bid 9 = .ok (.goto 19, 3) := by decide +kernel
theorem dX8_bid_12 : decode cX8_bid 12 = .ok (.iload_n 2, 1) := by decide +kernel
theorem dX8_bid_13 : decode cX8_bid 13 = .ok (.iconst 1, 1) := by decide +kernel
theorem dX8_bid_14 : decode cX8_bid 14 = .ok (.sipush 1000, 3) := by decide +kernel
theorem dX8_bid_17 : decode cX8_bid 17 = .ok (.invokestatic 81, 3) := by decide +kernel
theorem dX8_bid_20 : decode cX8_bid 20 = .ok (.ifCond .ne 7, 3) := by decide +kernel
theorem dX8_bid_23 : decode cX8_bid 23 = .ok (.iconst 2, 1) := by decide +kernel
theorem dX8_bid_24 : decode cX8_bid 24 = .ok (.goto 4, 3) := by decide +kernel
theorem dX8_bid_27 : decode cX8_bid 27 = .ok (.iconst 0, 1) := by decide +kernel
theorem dX8_bid_28 : decode cX8_bid 28 = .ok (.invokevirtual 169, 3) := by decide +kernel
theorem dX8_bid_31 : decode cX8_bid 31 = .ok (.ifCond .ne 5, 3) := by decide +kernel
theorem dX8_bid_34 : decode cX8_bid 34 = .ok (.iconst 0, 1) := by decide +kernel
theorem dX8_bid_35 : decode cX8_bid 35 = .ok (.ireturn, 1) := by decide +kernel
theorem dX8_bid_36 : decode cX8_bid 36 = .ok (.aload_n 0, 1) := by decide +kernel
theorem dX8_bid_37 : decode cX8_bid 37 = .ok (.getfield 74, 3) := by decide +kernel
theorem dX8_bid_40 : decode cX8_bid 40 = .ok (.iconst (-1), 1) := by decide +kernel
theorem dX8_bid_41 : decode cX8_bid 41 = .ok (.if_icmp .eq 51, 3) := by decide +kernel
theorem dX8_bid_44 : decode cX8_bid 44 = .ok (.aload_n 0, 1) := by decide +kernel
theorem dX8_bid_45 : decode cX8_bid 45 = .ok (.getfield 288, 3) := by decide +kernel
theorem dX8_bid_48 : decode cX8_bid 48 = .ok (.ifCond .ne 44, 3) := by decide +kernel
theorem dX8_bid_51 : decode cX8_bid 51 = .ok (.iload_n 2, 1) := by decide +kernel
theorem dX8_bid_52 : decode cX8_bid 52 = .ok (.aload_n 0, 1) := by decide +kernel
theorem dX8_bid_53 : decode cX8_bid 53 = .ok (.getfield 74, 3) := by decide +kernel
theorem dX8_bid_56 : decode cX8_bid 56 = .ok (.invokestatic 291, 3) := by decide +kernel
theorem dX8_bid_59 : decode cX8_bid 59 = .ok (.if_icmp .lt 33, 3) := by decide +kernel
theorem dX8_bid_62 : decode cX8_bid 62 = .ok (.aload_n 0, 1) := by decide +kernel
theorem dX8_bid_63 : decode cX8_bid 63 = .ok (.getfield 279, 3) := by decide +kernel
theorem dX8_bid_66 : decode cX8_bid 66 = .ok (.ifCond .le 13, 3) := by decide +kernel
theorem dX8_bid_69 : decode cX8_bid 69 = .ok (.iload_n 2, 1) := by decide +kernel
theorem dX8_bid_70 : decode cX8_bid 70 = .ok (.aload_n 0, 1) := by decide +kernel
theorem dX8_bid_71 : decode cX8_bid 71 = .ok (.getfield 282, 3) := by decide +kernel
theorem dX8_bid_74 : decode cX8_bid 74 = .ok (.iconst 5, 1) := by decide +kernel
theorem dX8_bid_75 : decode cX8_bid 75 = .ok (.iadd, 1) := by decide +kernel
theorem dX8_bid_76 : decode cX8_bid 76 = .ok (.if_icmp .lt 16, 3) := by decide +kernel
theorem dX8_bid_79 : decode cX8_bid 79 = .ok (.aload_n 0, 1) := by decide +kernel
theorem dX8_bid_80 : decode cX8_bid 80 = .ok (.iload_n 1, 1) := by decide +kernel
theorem dX8_bid_81 : decode cX8_bid 81 = .ok (.aload_n 0, 1) := by decide +kernel
theorem dX8_bid_82 : decode cX8_bid 82 = .ok (.getfield 74, 3) := by decide +kernel
theorem dX8_bid_85 : decode cX8_bid 85 = .ok (.iload_n 2, 1) := by decide +kernel
theorem dX8_bid_86 : decode cX8_bid 86 = .ok (.invokevirtual 294, 3) := by decide +kernel
theorem dX8_bid_89 : decode cX8_bid 89 = .ok (.ifCond .ne 7, 3) := by decide +kernel
theorem dX8_bid_92 : decode cX8_bid 92 = .ok (.iconst 1, 1) := by decide +kernel
theorem dX8_bid_93 : decode cX8_bid 93 = .ok (.goto 4, 3) := by decide +kernel
theorem dX8_bid_96 : decode cX8_bid 96 = .ok (.iconst 0, 1) := by decide +kernel
theorem dX8_bid_97 : decode cX8_bid 97 = .ok (.istore_n 3, 1) := by decide +kernel
theorem dX8_bid_98 : decode cX8_bid 98 = .ok (.aload_n 0, 1) := by decide +kernel
theorem dX8_bid_99 : decode cX8_bid 99 = .ok (.iload_n 3, 1) := by decide +kernel
theorem dX8_bid_100 : decode cX8_bid 100 = .ok (.ifCond .eq 7, 3) := by decide +kernel
theorem dX8_bid_103 : decode cX8_bid 103 = .ok (.iconst 3, 1) := by decide +kernel
theorem dX8_bid_104 : decode cX8_bid 104 = .ok (.goto 4, 3) := by decide +kernel
theorem dX8_bid_107 : decode cX8_bid 107 = .ok (.iconst 0, 1) := by decide +kernel
theorem dX8_bid_108 : decode cX8_bid 108 = .ok (.invokevirtual 169, 3) := by decide +kernel
theorem dX8_bid_111 : decode cX8_bid 111 = .ok (.ifCond .ne 5, 3) := by decide +kernel
theorem dX8_bid_114 : decode cX8_bid 114 = .ok (.iconst 0, 1) := by decide +kernel
theorem dX8_bid_115 : decode cX8_bid 115 = .ok (.ireturn, 1) := by decide +kernel
theorem dX8_bid_116 : decode cX8_bid 116 = .ok (.aload_n 0, 1) := by decide +kernel
theorem dX8_bid_117 : decode cX8_bid 117 = .ok (.iload_n 2, 1) := by decide +kernel
theorem dX8_bid_118 : decode cX8_bid 118 = .ok (.putfield 282, 3) := by decide +kernel
theorem dX8_bid_121 : decode cX8_bid 121 = .ok (.aload_n 0, 1) := by decide +kernel
theorem dX8_bid_122 : decode cX8_bid 122 = .ok (.iload_n 1, 1) := by decide +kernel
theorem dX8_bid_123 : decode cX8_bid 123 = .ok (.putfield 285, 3) := by decide +kernel
theorem dX8_bid_126 : decode cX8_bid 126 = .ok (.aload_n 0, 1) := by decide +kernel
theorem dX8_bid_127 : decode cX8_bid 127 = .ok (.dup, 1) := by decide +kernel
theorem dX8_bid_128 : decode cX8_bid 128 = .ok (.getfield 279, 3) := by decide +kernel
theorem dX8_bid_131 : decode cX8_bid 131 = .ok (.iconst 1, 1) := by decide +kernel
theorem dX8_bid_132 : decode cX8_bid 132 = .ok (.iadd, 1) := by decide +kernel
theorem dX8_bid_133 : decode cX8_bid 133 = .ok (.putfield 279, 3) := by decide +kernel
theorem dX8_bid_136 : decode cX8_bid 136 = .ok (.aload_n 0, 1) := by decide +kernel
theorem dX8_bid_137 : decode cX8_bid 137 = .ok (.getfield 279, 3) := by decide +kernel
theorem dX8_bid_140 : decode cX8_bid 140 = .ok (.ireturn, 1) := by decide +kernel
theorem dX8_sells_0 : decode cX8_sells 0 = .ok (.aload_n 0, 1) := by decide +kernel
theorem dX8_sells_1 : decode cX8_sells 1 = .ok (.getfield 65, 3) := by decide +kernel
theorem dX8_sells_4 : decode cX8_sells 4 = .ok (.aload_n 0, 1) := by decide +kernel
theorem dX8_sells_5 : decode cX8_sells 5 = .ok (.getfield 74, 3) := by decide +kernel
theorem dX8_sells_8 : decode cX8_sells 8 = .ok (.iload_n 1, 1) := by decide +kernel
theorem dX8_sells_9 : decode cX8_sells 9 = .ok (.iastore, 1) := by decide +kernel
theorem dX8_sells_10 : decode cX8_sells 10 = .ok (.aload_n 0, 1) := by decide +kernel
theorem dX8_sells_11 : decode cX8_sells 11 = .ok (.getfield 68, 3) := by decide +kernel
theorem dX8_sells_14 : decode cX8_sells 14 = .ok (.aload_n 0, 1) := by decide +kernel
theorem dX8_sells_15 : decode cX8_sells 15 = .ok (.getfield 74, 3) := by decide +kernel
theorem dX8_sells_18 : decode cX8_sells 18 = .ok (.aload_n 0, 1) := by decide +kernel
theorem dX8_sells_19 : decode cX8_sells 19 = .ok (.getfield 282, 3) := by decide +kernel
theorem dX8_sells_22 : decode cX8_sells 22 = .ok (.iastore, 1) := by decide +kernel
theorem dX8_sells_23 : decode cX8_sells 23 = .ok (.aload_n 0, 1) := by decide +kernel
theorem dX8_sells_24 : decode cX8_sells 24 = .ok (.getfield 56, 3) := by decide +kernel
theorem dX8_sells_27 : decode cX8_sells 27 = .ok (.iload_n 1, 1) := by decide +kernel
theorem dX8_sells_28 : decode cX8_sells 28 = .ok (.dup2, 1) := by decide +kernel
theorem dX8_sells_29 : decode cX8_sells 29 = .ok (.iaload, 1) := by decide +kernel
theorem dX8_sells_30 : decode cX8_sells 30 = .ok (.aload_n 0, 1) := by decide +kernel
theorem dX8_sells_31 : decode cX8_sells 31 = .ok (.getfield 282, 3) := by decide +kernel
theorem dX8_sells_34 : decode cX8_sells 34 = .ok (.isub, 1) := by decide +kernel
theorem dX8_sells_35 : decode cX8_sells 35 = .ok (.iastore, 1) := by decide +kernel
theorem dX8_sells_36 : decode cX8_sells 36 = .ok (.aload_n 0, 1) := by decide +kernel
theorem dX8_sells_37 : decode cX8_sells 37 = .ok (.getfield 59, 3) := by decide +kernel
theorem dX8_sells_40 : decode cX8_sells 40 = .ok (.iload_n 1, 1) := by decide +kernel
theorem dX8_sells_41 : decode cX8_sells 41 = .ok (.dup2, 1) := by decide +kernel
theorem dX8_sells_42 : decode cX8_sells 42 = .ok (.iaload, 1) := by decide +kernel
theorem dX8_sells_43 : decode cX8_sells 43 = .ok (.iconst 1, 1) := by decide +kernel
theorem dX8_sells_44 : decode cX8_sells 44 = .ok (.iadd, 1) := by decide +kernel
theorem dX8_sells_45 : decode cX8_sells 45 = .ok (.iastore, 1) := by decide +kernel
theorem dX8_sells_46 : decode cX8_sells 46 = .ok (.aload_n 0, 1) := by decide +kernel
theorem dX8_sells_47 : decode cX8_sells 47 = .ok (.getfield 62, 3) := by decide +kernel
theorem dX8_sells_50 : decode cX8_sells 50 = .ok (.iload_n 1, 1) := by decide +kernel
theorem dX8_sells_51 : decode cX8_sells 51 = .ok (.dup2, 1) := by decide +kernel
theorem dX8_sells_52 : decode cX8_sells 52 = .ok (.iaload, 1) := by decide +kernel
theorem dX8_sells_53 : decode cX8_sells 53 = .ok (.aload_n 0, 1) := by decide +kernel
theorem dX8_sells_54 : decode cX8_sells 54 = .ok (.getfield 74, 3) := by decide +kernel
theorem dX8_sells_57 : decode cX8_sells 57 = .ok (.invokestatic 273, 3) := by decide +kernel
theorem dX8_sells_60 : decode cX8_sells 60 = .ok (.ifCond .eq 7, 3) := by decide +kernel
theorem dX8_sells_63 : decode cX8_sells 63 = .ok (.iconst 1, 1) := by decide +kernel
theorem dX8_sells_64 : decode cX8_sells 64 = .ok (.goto 4, 3) := by decide +kernel
theorem dX8_sells_67 : decode cX8_sells 67 = .ok (.iconst 0, 1) := by decide +kernel
theorem dX8_sells_68 : decode cX8_sells 68 = .ok (.iadd, 1) := by decide +kernel
theorem dX8_sells_69 : decode cX8_sells 69 = .ok (.iastore, 1) := by decide +kernel
theorem dX8_sells_70 : decode cX8_sells 70 = .ok (.aload_n 0, 1) := by decide +kernel
theorem dX8_sells_71 : decode cX8_sells 71 = .ok (.iconst (-1), 1) := by decide +kernel
theorem dX8_sells_72 : decode cX8_sells 72 = .ok (.putfield 74, 3) := by decide +kernel
theorem dX8_sells_75 : decode cX8_sells 75 = .ok (.aload_n 0, 1) := by decide +kernel
theorem dX8_sells_76 : decode cX8_sells 76 = .ok (.iconst 0, 1) := by decide +kernel
theorem dX8_sells_77 : decode cX8_sells 77 = .ok (.putfield 288, 3) := by decide +kernel
theorem dX8_sells_80 : decode cX8_sells 80 = .ok (.iload_n 1, 1) := by decide +kernel
theorem dX8_sells_81 : decode cX8_sells 81 = .ok (.ireturn, 1) := by decide +kernel
theorem dX8_hammer_0 : decode cX8_hammer 0 = .ok (.aload_n 0, 1) := by decide +kernel
theorem dX8_hammer_1 : decode cX8_hammer 1 = .ok (.aload_n 0, 1) := by decide +kernel
theorem dX8_hammer_2 : decode cX8_hammer 2 = .ok (.getfield 74, 3) := by decide +kernel
theorem dX8_hammer_5 : decode cX8_hammer 5 = .ok (.iconst (-1), 1) := by decide +kernel
theorem dX8_hammer_6 : decode cX8_hammer 6 = .ok (.if_icmp .eq 10, 3) := by decide +kernel
theorem dX8_hammer_9 : decode cX8_hammer 9 = .ok (.aload_n 0, 1) := by decide +kernel
theorem dX8_hammer_10 : decode cX8_hammer 10 = .ok (.getfield 288, 3) := by decide +kernel
theorem dX8_hammer_13 : decode cX8_hammer 13 = .ok (.ifCond .eq 7, 3) := by decide +kernel
theorem dX8_hammer_16 : decode cX8_hammer 16 = .ok (.iconst 1, 1) := by decide +kernel
theorem dX8_hammer_17 : decode cX8_hammer 17 = .ok (.goto 4, 3) := by decide +kernel
theorem dX8_hammer_20 : decode cX8_hammer 20 = .ok (.iconst 0, 1) := by decide +kernel
theorem dX8_hammer_21 : decode cX8_hammer 21 = .ok (.invokevirtual 169, 3) := by decide +kernel
theorem dX8_hammer_24 : decode cX8_hammer 24 = .ok (.ifCond .ne 5, 3) := by decide +kernel
theorem dX8_hammer_27 : decode cX8_hammer 27 = .ok (.iconst 0, 1) := by decide +kernel
theorem dX8_hammer_28 : decode cX8_hammer 28 = .ok (.ireturn, 1) := by decide +kernel
theorem dX8_hammer_29 : decode cX8_hammer 29 = .ok (.aload_n 0, 1) := by decide +kernel
theorem dX8_hammer_30 : decode cX8_hammer 30 = .ok (.getfield 279, 3) := by decide +kernel
theorem dX8_hammer_33 : decode cX8_hammer 33 = .ok (.ifCond .ne 10, 3) := by decide +kernel
theorem dX8_hammer_36 : decode cX8_hammer 36 = .ok (.aload_n 0, 1) := by decide +kernel
theorem dX8_hammer_37 : decode cX8_hammer 37 = .ok (.iconst (-1), 1) := by decide +kernel
theorem dX8_hammer_38 : decode cX8_hammer 38 = .ok (.putfield 74, 3) := by decide +kernel
theorem dX8_hammer_41 : decode cX8_hammer 41 = .ok (.iconst (-1), 1) := by decide +kernel
theorem dX8_hammer_42 : decode cX8_hammer 42 = .ok (.ireturn, 1) := by decide +kernel
theorem dX8_hammer_43 : decode cX8_hammer 43 = .ok (.aload_n 0, 1) := by decide +kernel
theorem dX8_hammer_44 : decode cX8_hammer 44 = .ok (.getfield 71, 3) := by decide +kernel
theorem dX8_hammer_47 : decode cX8_hammer 47 = .ok (.aload_n 0, 1) := by decide +kernel
theorem dX8_hammer_48 : decode cX8_hammer 48 = .ok (.getfield 74, 3) := by decide +kernel
theorem dX8_hammer_51 : decode cX8_hammer 51 = .ok (.iaload, 1) := by decide +kernel
theorem dX8_hammer_52 : decode cX8_hammer 52 = .ok (.istore_n 1, 1) := by decide +kernel
theorem dX8_hammer_53 : decode cX8_hammer 53 = .ok (.iload_n 1, 1) := by decide +kernel
theorem dX8_hammer_54 : decode cX8_hammer 54 = .ok (.iconst (-1), 1) := by decide +kernel
theorem dX8_hammer_55 : decode cX8_hammer 55 = .ok (.if_icmp .eq 34, 3) := by decide +kernel
theorem dX8_hammer_58 : decode cX8_hammer 58 = .ok (.iload_n 1, 1) := by decide +kernel
theorem dX8_hammer_59 : decode cX8_hammer 59 = .ok (.aload_n 0, 1) := by decide +kernel
theorem dX8_hammer_60 : decode cX8_hammer 60 = .ok (.getfield 285, 3) := by decide +kernel
theorem dX8_hammer_63 : decode cX8_hammer 63 = .ok (.if_icmp .eq 26, 3) := by decide +kernel
theorem dX8_hammer_66 : decode cX8_hammer 66 = .ok (.aload_n 0, 1) := by decide +kernel
theorem dX8_hammer_67 : decode cX8_hammer 67 = .ok (.iload_n 1, 1) := by decide +kernel
theorem dX8_hammer_68 : decode cX8_hammer 68 = .ok (.aload_n 0, 1) := by decide +kernel
theorem dX8_hammer_69 : decode cX8_hammer 69 = .ok (.getfield 74, 3) := by decide +kernel
theorem dX8_hammer_72 : decode cX8_hammer 72 = .ok (.aload_n 0, 1) := by decide +kernel
theorem dX8_hammer_73 : decode cX8_hammer 73 = .ok (.getfield 282, 3) := by decide +kernel
theorem dX8_hammer_76 : decode cX8_hammer 76 = .ok (.invokevirtual 294, 3) := by decide +kernel
theorem dX8_hammer_79 : decode cX8_hammer 79 = .ok (.ifCond .eq 10, 3) := by decide +kernel
theorem dX8_hammer_82 : decode cX8_hammer 82 = .ok (.aload_n 0, 1) := by decide +kernel
theorem dX8_hammer_83 : decode cX8_hammer 83 = .ok (.iconst 1, 1) := by decide +kernel
theorem dX8_hammer_84 : decode cX8_hammer 84 = .ok (.putfield 288, 3) := by decide +kernel
theorem dX8_hammer_87 : decode cX8_hammer 87 = .ok (.iconst (-1), 1) := by decide +kernel
theorem dX8_hammer_88 : decode cX8_hammer 88 = .ok (.ireturn, 1) := by decide +kernel
theorem dX8_hammer_89 : decode cX8_hammer 89 = .ok (.aload_n 0, 1) := by decide +kernel
theorem dX8_hammer_90 : decode cX8_hammer 90 = .ok (.aload_n 0, 1) := by decide +kernel
theorem dX8_hammer_91 : decode cX8_hammer 91 = .ok (.getfield 285, 3) := by decide +kernel
theorem dX8_hammer_94 : decode cX8_hammer 94 = .ok (.invokevirtual 297, 3) := by decide +kernel
theorem dX8_hammer_97 : decode cX8_hammer 97 = .ok (.ireturn, 1) := by decide +kernel
theorem dX8_answer_0 : decode cX8_answer 0 = .ok (.aload_n 0, 1) := by decide +kernel
theorem dX8_answer_1 : decode cX8_answer 1 = .ok (.aload_n 0, 1) := by decide +kernel
theorem dX8_answer_2 : decode cX8_answer 2 = .ok (.getfield 74, 3) := by decide +kernel
theorem dX8_answer_5 : decode cX8_answer 5 = .ok (.iconst (-1), 1) := by decide +kernel
theorem dX8_answer_6 : decode cX8_answer 6 = .ok (.if_icmp .eq 14, 3) := by decide +kernel
theorem dX8_answer_9 : decode cX8_answer 9 = .ok (.aload_n 0, 1) := by decide +kernel
theorem dX8_answer_10 : decode cX8_answer 10 = .ok (.getfield 288, 3) := by decide +kernel
theorem dX8_answer_13 : decode cX8_answer 13 = .ok (.ifCond .eq 7, 3) := by decide +kernel
theorem dX8_answer_16 : decode cX8_answer 16 = .ok (.iconst 0, 1) := by decide +kernel
theorem dX8_answer_17 : decode cX8_answer 17 = .ok (.goto 4, 3) := by decide +kernel
theorem dX8_answer_20 : decode cX8_answer 20 = .ok (.iconst 1, 1) := by decide +kernel
theorem dX8_answer_21 : decode cX8_answer 21 = .ok (.invokevirtual 169, 3) := by decide +kernel
theorem dX8_answer_24 : decode cX8_answer 24 = .ok (.ifCond .ne 5, 3) := by decide +kernel
theorem dX8_answer_27 : decode cX8_answer 27 = .ok (.iconst 0, 1) := by decide +kernel
theorem dX8_answer_28 : decode cX8_answer 28 = .ok (.ireturn, 1) := by decide +kernel
theorem dX8_answer_29 : decode cX8_answer 29 = .ok (.aload_n 0, 1) := by decide +kernel
theorem dX8_answer_30 : decode cX8_answer 30 = .ok (.getfield 71, 3) := by decide +kernel
theorem dX8_answer_33 : decode cX8_answer 33 = .ok (.aload_n 0, 1) := by decide +kernel
theorem dX8_answer_34 : decode cX8_answer 34 = .ok (.getfield 74, 3) := by decide +kernel
theorem dX8_answer_37 : decode cX8_answer 37 = .ok (.iaload, 1) := by decide +kernel
theorem dX8_answer_38 : decode cX8_answer 38 = .ok (.istore_n 2, 1) := by decide +kernel
theorem dX8_answer_39 : decode cX8_answer 39 = .ok (.aload_n 0, 1) := by decide +kernel
theorem dX8_answer_40 : decode cX8_answer 40 = .ok (.getfield 71, 3) := by decide +kernel
theorem dX8_answer_43 : decode cX8_answer 43 = .ok (.aload_n 0, 1) := by decide +kernel
theorem dX8_answer_44 : decode cX8_answer 44 = .ok (.getfield 74, 3) := by decide +kernel
theorem dX8_answer_47 : decode cX8_answer 47 = .ok (.iconst (-1), 1) := by decide +kernel
theorem dX8_answer_48 : decode cX8_answer 48 = .ok (.iastore, 1) := by decide +kernel
theorem dX8_answer_49 : decode cX8_answer 49 = .ok (.aload_n 0, 1) := by decide +kernel
theorem dX8_answer_50 : decode cX8_answer 50 = .ok (.iload_n 1, 1) := by decide +kernel
theorem dX8_answer_51 : decode cX8_answer 51 = .ok (.ifCond .eq 7, 3) := by decide +kernel
theorem dX8_answer_54 : decode cX8_answer 54 = .ok (.iload_n 2, 1) := by decide +kernel
theorem dX8_answer_55 : decode cX8_answer 55 = .ok (.goto 7, 3) := by decide +kernel
theorem dX8_answer_58 : decode cX8_answer 58 = .ok (.aload_n 0, 1) := by decide +kernel
theorem dX8_answer_59 : decode cX8_answer 59 = .ok (.getfield 285, 3) := by decide +kernel
theorem dX8_answer_62 : decode cX8_answer 62 = .ok (.invokevirtual 297, 3) := by decide +kernel
theorem dX8_answer_65 : decode cX8_answer 65 = .ok (.ireturn, 1) := by decide +kernel
theorem dX8_lot_0 : decode cX8_lot 0 = .ok (.aload_n 0, 1) := by decide +kernel
theorem dX8_lot_1 : decode cX8_lot 1 = .ok (.iload_n 1, 1) := by decide +kernel
theorem dX8_lot_2 : decode cX8_lot 2 = .ok (.invokestatic 276, 3) := by decide +kernel
theorem dX8_lot_5 : decode cX8_lot 5 = .ok (.ifCond .ne 7, 3) := by decide +kernel
theorem dX8_lot_8 : decode cX8_lot 8 = .ok (.iconst 1, 1) := by decide +kernel
theorem dX8_lot_9 : decode cX8_lot 9 = .ok (.goto 17, 3) := by decide +kernel
theorem dX8_lot_12 : decode cX8_lot 12 = .ok (.iload_n 2, 1) := by decide +kernel
theorem dX8_lot_13 : decode cX8_lot 13 = .ok (.iconst 0, 1) := by decide +kernel
theorem dX8_lot_14 : decode cX8_lot 14 = .ok (.iconst 3, 1) := by decide +kernel
theorem dX8_lot_15 : decode cX8_lot 15 = .ok (.invokestatic 81, 3) := by decide +kernel
theorem dX8_lot_18 : decode cX8_lot 18 = .ok (.ifCond .eq 7, 3) := by decide +kernel
theorem dX8_lot_21 : decode cX8_lot 21 = .ok (.iconst 0, 1) := by decide +kernel
theorem dX8_lot_22 : decode cX8_lot 22 = .ok (.goto 4, 3) := by decide +kernel
theorem dX8_lot_25 : decode cX8_lot 25 = .ok (.iconst 2, 1) := by decide +kernel
theorem dX8_lot_26 : decode cX8_lot 26 = .ok (.invokevirtual 169, 3) := by decide +kernel
theorem dX8_lot_29 : decode cX8_lot 29 = .ok (.ifCond .ne 5, 3) := by decide +kernel
theorem dX8_lot_32 : decode cX8_lot 32 = .ok (.iconst 0, 1) := by decide +kernel
theorem dX8_lot_33 : decode cX8_lot 33 = .ok (.ireturn, 1) := by decide +kernel
theorem dX8_lot_34 : decode cX8_lot 34 = .ok (.iload_n 2, 1) := by decide +kernel
theorem dX8_lot_35 : decode cX8_lot 35 = .ok (.ifCond .ne 12, 3) := by decide +kernel
theorem dX8_lot_38 : decode cX8_lot 38 = .ok (.aload_n 0, 1) := by decide +kernel
theorem dX8_lot_39 : decode cX8_lot 39 = .ok (.getfield 65, 3) := by decide +kernel
theorem dX8_lot_42 : decode cX8_lot 42 = .ok (.iload_n 1, 1) := by decide +kernel
theorem dX8_lot_43 : decode cX8_lot 43 = .ok (.iaload, 1) := by decide +kernel
theorem dX8_lot_44 : decode cX8_lot 44 = .ok (.goto 54, 3) := by decide +kernel
theorem dX8_lot_47 : decode cX8_lot 47 = .ok (.iload_n 2, 1) := by decide +kernel
theorem dX8_lot_48 : decode cX8_lot 48 = .ok (.iconst 1, 1) := by decide +kernel
theorem dX8_lot_49 : decode cX8_lot 49 = .ok (.if_icmp .ne 12, 3) := by decide +kernel
theorem dX8_lot_52 : decode cX8_lot 52 = .ok (.aload_n 0, 1) := by decide +kernel
theorem dX8_lot_53 : decode cX8_lot 53 = .ok (.getfield 68, 3) := by decide +kernel
theorem dX8_lot_56 : decode cX8_lot 56 = .ok (.iload_n 1, 1) := by decide +kernel
theorem dX8_lot_57 : decode cX8_lot 57 = .ok (.iaload, 1) := by decide +kernel
theorem dX8_lot_58 : decode cX8_lot 58 = .ok (.goto 40, 3) := by decide +kernel
theorem dX8_lot_61 : decode cX8_lot 61 = .ok (.iload_n 2, 1) := by decide +kernel
theorem dX8_lot_62 : decode cX8_lot 62 = .ok (.iconst 2, 1) := by decide +kernel
theorem dX8_lot_63 : decode cX8_lot 63 = .ok (.if_icmp .ne 12, 3) := by decide +kernel
theorem dX8_lot_66 : decode cX8_lot 66 = .ok (.aload_n 0, 1) := by decide +kernel
theorem dX8_lot_67 : decode cX8_lot 67 = .ok (.getfield 71, 3) := by decide +kernel
theorem dX8_lot_70 : decode cX8_lot 70 = .ok (.iload_n 1, 1) := by decide +kernel
theorem dX8_lot_71 : decode cX8_lot 71 = .ok (.iaload, 1) := by decide +kernel
theorem dX8_lot_72 : decode cX8_lot 72 = .ok (.goto 26, 3) := by decide +kernel
theorem dX8_lot_75 : decode cX8_lot 75 = .ok (.aload_n 0, 1) := by decide +kernel
theorem dX8_lot_76 : decode cX8_lot 76 = .ok (.getfield 74, 3) := by decide +kernel
theorem dX8_lot_79 : decode cX8_lot 79 = .ok (.iload_n 1, 1) := by decide +kernel
theorem dX8_lot_80 : decode cX8_lot 80 = .ok (.if_icmp .ne 17, 3) := by decide +kernel
theorem dX8_lot_83 : decode cX8_lot 83 = .ok (.aload_n 0, 1) := by decide +kernel
theorem dX8_lot_84 : decode cX8_lot 84 = .ok (.getfield 279, 3) := by decide +kernel
theorem dX8_lot_87 : decode cX8_lot 87 = .ok (.ifCond .le 10, 3) := by decide +kernel
theorem dX8_lot_90 : decode cX8_lot 90 = .ok (.aload_n 0, 1) := by decide +kernel
theorem dX8_lot_91 : decode cX8_lot 91 = .ok (.getfield 282, 3) := by decide +kernel
theorem dX8_lot_94 : decode cX8_lot 94 = .ok (.goto 4, 3) := by decide +kernel
theorem dX8_lot_97 : decode cX8_lot 97 = .ok (.iconst (-1), 1) := by decide +kernel
theorem dX8_lot_98 : decode cX8_lot 98 = .ok (.ireturn, 1) := by decide +kernel
theorem dX8_squad_0 : decode cX8_squad 0 = .ok (.aload_n 0, 1) := by decide +kernel
theorem dX8_squad_1 : decode cX8_squad 1 = .ok (.iload_n 1, 1) := by decide +kernel
theorem dX8_squad_2 : decode cX8_squad 2 = .ok (.invokestatic 163, 3) := by decide +kernel
theorem dX8_squad_5 : decode cX8_squad 5 = .ok (.ifCond .ne 7, 3) := by decide +kernel
theorem dX8_squad_8 : decode cX8_squad 8 = .ok (.iconst 1, 1) := by decide +kernel
theorem dX8_squad_9 : decode cX8_squad 9 = .ok (.goto 17, 3) := by decide +kernel
theorem dX8_squad_12 : decode cX8_squad 12 = .ok (.iload_n 2, 1) := by decide +kernel
theorem dX8_squad_13 : decode cX8_squad 13 = .ok (.iconst 0, 1) := by decide +kernel
theorem dX8_squad_14 : decode cX8_squad 14 = .ok (.iconst 2, 1) := by decide +kernel
theorem dX8_squad_15 : decode cX8_squad 15 = .ok (.invokestatic 81, 3) := by decide +kernel
theorem dX8_squad_18 : decode cX8_squad 18 = .ok (.ifCond .eq 7, 3) := by decide +kernel
theorem dX8_squad_21 : decode cX8_squad 21 = .ok (.iconst 0, 1) := by decide +kernel
theorem dX8_squad_22 : decode cX8_squad 22 = .ok (.goto 4, 3) := by decide +kernel
theorem dX8_squad_25 : decode cX8_squad 25 = .ok (.iconst 2, 1) := by decide +kernel
theorem dX8_squad_26 : decode cX8_squad 26 = .ok (.invokevirtual 169, 3) := by decide +kernel
theorem dX8_squad_29 : decode cX8_squad 29 = .ok (.ifCond .ne 5, 3) := by decide +kernel
theorem dX8_squad_32 : decode cX8_squad 32 = .ok (.iconst 0, 1) := by decide +kernel
theorem dX8_squad_33 : decode cX8_squad 33 = .ok (.ireturn, 1) := by decide +kernel
theorem dX8_squad_34 : decode cX8_squad 34 = .ok (.iload_n 2, 1) := by decide +kernel
theorem dX8_squad_35 : decode cX8_squad 35 = .ok (.ifCond .ne 12, 3) := by decide +kernel
theorem dX8_squad_38 : decode cX8_squad 38 = .ok (.aload_n 0, 1) := by decide +kernel
theorem dX8_squad_39 : decode cX8_squad 39 = .ok (.getfield 56, 3) := by decide +kernel
theorem dX8_squad_42 : decode cX8_squad 42 = .ok (.iload_n 1, 1) := by decide +kernel
theorem dX8_squad_43 : decode cX8_squad 43 = .ok (.iaload, 1) := by decide +kernel
theorem dX8_squad_44 : decode cX8_squad 44 = .ok (.goto 23, 3) := by decide +kernel
theorem dX8_squad_47 : decode cX8_squad 47 = .ok (.iload_n 2, 1) := by decide +kernel
theorem dX8_squad_48 : decode cX8_squad 48 = .ok (.iconst 1, 1) := by decide +kernel
theorem dX8_squad_49 : decode cX8_squad 49 = .ok (.if_icmp .ne 12, 3) := by decide +kernel
theorem dX8_squad_52 : decode cX8_squad 52 = .ok (.aload_n 0, 1) := by decide +kernel
theorem dX8_squad_53 : decode cX8_squad 53 = .ok (.getfield 59, 3) := by decide +kernel
theorem dX8_squad_56 : decode cX8_squad 56 = .ok (.iload_n 1, 1) := by decide +kernel
theorem dX8_squad_57 : decode cX8_squad 57 = .ok (.iaload, 1) := by decide +kernel
theorem dX8_squad_58 : decode cX8_squad 58 = .ok (.goto 9, 3) := by decide +kernel
theorem dX8_squad_61 : decode cX8_squad 61 = .ok (.aload_n 0, 1) := by decide +kernel
theorem dX8_squad_62 : decode cX8_squad 62 = .ok (.getfield 62, 3) := by decide +kernel
theorem dX8_squad_65 : decode cX8_squad 65 = .ok (.iload_n 1, 1) := by decide +kernel
theorem dX8_squad_66 : decode cX8_squad 66 = .ok (.iaload, 1) := by decide +kernel
theorem dX8_squad_67 : decode cX8_squad 67 = .ok (.ireturn, 1) := by decide +kernel
end
section
theorem dX0_init_0 : decode cX0_init 0 = .ok (.aload_n 0, 1) := by decide +kernel
theorem dX0_init_1 : decode cX0_init 1 = .ok (.invokespecial 3, 3) := by decide +kernel
theorem dX0_init_4 : decode cX0_init 4 = .ok (.aload_n 0, 1) := by decide +kernel
theorem dX0_init_5 : decode cX0_init 5 = .ok (.bipush 8, 2) := by decide +kernel
theorem dX0_init_7 : decode cX0_init 7 = .ok (.newarray .int, 2) := by decide +kernel
theorem dX0_init_9 : decode cX0_init 9 = .ok (.putfield 9, 3) := by decide +kernel
theorem dX0_init_12 : decode cX0_init 12 = .ok (.aload_n 0, 1) := by decide +kernel
theorem dX0_init_13 : decode cX0_init 13 = .ok (.bipush 8, 2) := by decide +kernel
theorem dX0_init_15 : decode cX0_init 15 = .ok (.newarray .int, 2) := by decide +kernel
theorem dX0_init_17 : decode cX0_init 17 = .ok (.putfield 15, 3) := by decide +kernel
theorem dX0_init_20 : decode cX0_init 20 = .ok (.aload_n 0, 1) := by decide +kernel
theorem dX0_init_21 : decode cX0_init 21 = .ok (.bipush 8, 2) := by decide +kernel
theorem dX0_init_23 : decode cX0_init 23 = .ok (.newarray .int, 2) := by decide +kernel
theorem dX0_init_25 : decode cX0_init 25 = .ok (.putfield 18, 3) := by decide +kernel
theorem dX0_init_28 : decode cX0_init 28 = .ok (.aload_n 0, 1) := by decide +kernel
theorem dX0_init_29 : decode cX0_init 29 = .ok (.bipush 24, 2) := by decide +kernel
theorem dX0_init_31 : decode cX0_init 31 = .ok (.newarray .int, 2) := by decide +kernel
theorem dX0_init_33 : decode cX0_init 33 = .ok (.putfield 21, 3) := by decide +kernel
theorem dX0_init_36 : decode cX0_init 36 = .ok (.aload_n 0, 1) := by decide +kernel
theorem dX0_init_37 : decode cX0_init 37 = .ok (.bipush 24, 2) := by decide +kernel
theorem dX0_init_39 : decode cX0_init 39 = .ok (.newarray .int, 2) := by decide +kernel
theorem dX0_init_41 : decode cX0_init 41 = .ok (.putfield 24, 3) := by decide +kernel
theorem dX0_init_44 : decode cX0_init 44 = .ok (.aload_n 0, 1) := by decide +kernel
theorem dX0_init_45 : decode cX0_init 45 = .ok (.bipush 24, 2) := by decide +kernel
theorem dX0_init_47 : decode cX0_init 47 = .ok (.newarray .int, 2) := by decide +kernel
theorem dX0_init_49 : decode cX0_init 49 = .ok (.putfield 27, 3) := by decide +kernel
theorem dX0_init_52 : decode cX0_init 52 = .ok (.aload_n 0, 1) := by decide +kernel
theorem dX0_init_53 : decode cX0_init 53 = .ok (.iconst (-1), 1) := by decide +kernel
theorem dX0_init_54 : decode cX0_init 54 = .ok (.putfield 30, 3) := by decide +kernel
theorem dX0_init_57 : decode cX0_init 57 = .ok (.iconst 0, 1) := by decide +kernel
theorem dX0_init_58 : decode cX0_init 58 = .ok (.istore_n 1, 1) := by decide +kernel
theorem dX0_init_59 : decode cX0_init 59 = .ok (.iload_n 1, 1) := by decide +kernel
theorem dX0_init_60 : decode cX0_init 60 = .ok (.bipush 8, 2) := by decide +kernel
theorem dX0_init_62 : decode cX0_init 62 = .ok (.if_icmp .ge 18, 3) := by decide +kernel
theorem dX0_init_65 : decode cX0_init 65 = .ok (.aload_n 0, 1) := by decide +kernel
theorem dX0_init_66 : decode cX0_init 66 = .ok (.getfield 9, 3) := by decide +kernel
theorem dX0_init_69 : decode cX0_init 69 = .ok (.iload_n 1, 1) := by decide +kernel
theorem dX0_init_70 : decode cX0_init 70 = .ok (.sipush 1000, 3) := by decide +kernel
theorem dX0_init_73 : decode cX0_init 73 = .ok (.iastore, 1) := by decide +kernel
theorem dX0_init_74 : decode cX0_init 74 = .ok (.iinc 1 1, 3) := by decide +kernel
theorem dX0_init_77 : decode cX0_init 77 = .ok (.goto (-18), 3) := by decide +kernel
theorem dX0_init_80 : decode cX0_init 80 = .ok (.iconst 0, 1) := by decide +kernel
theorem dX0_init_81 : decode cX0_init 81 = .ok (.istore_n 1, 1) := by decide +kernel
theorem dX0_init_82 : decode cX0_init 82 = .ok (.iload_n 1, 1) := by decide +kernel
theorem dX0_init_83 : decode cX0_init 83 = .ok (.bipush 24, 2) := by decide +kernel
theorem dX0_init_85 : decode cX0_init 85 = .ok (.if_icmp .ge 30, 3) := by decide +kernel
theorem dX0_init_88 : decode cX0_init 88 = .ok (.aload_n 0, 1) := by decide +kernel
theorem dX0_init_89 : decode cX0_init 89 = .ok (.getfield 21, 3) := by decide +kernel
theorem dX0_init_92 : decode cX0_init 92 = .ok (.iload_n 1, 1) := by decide +kernel
theorem dX0_init_93 : decode cX0_init 93 = .ok (.iconst (-1), 1) := by decide +kernel
theorem dX0_init_94 : decode cX0_init 94 = .ok (.iastore, 1) := by decide +kernel
theorem dX0_init_95 : decode cX0_init 95 = .ok (.aload_n 0, 1) := by decide +kernel
theorem dX0_init_96 : decode cX0_init 96 = .ok (.getfield 24, 3) := by decide +kernel
theorem dX0_init_99 : decode cX0_init 99 = .ok (.iload_n 1, 1) := by decide +kernel
theorem dX0_init_100 : decode cX0_init 100 = .ok (.iconst (-1), 1) := by decide +kernel
theorem dX0_init_101 : decode cX0_init 101 = .ok (.iastore, 1) := by decide +kernel
theorem dX0_init_102 : decode cX0_init 102 = .ok (.aload_n 0, 1) := by decide +kernel
theorem dX0_init_103 : decode cX0_init 103 = .ok (.getfield 27, 3) := by decide +kernel
theorem dX0_init_106 : decode cX0_init 106 = .ok (.iload_n 1, 1) := by decide +kernel
theorem dX0_init_107 : decode cX0_init 107 = .ok (.iconst (-1), 1) := by decide +kernel
theorem dX0_init_108 : decode cX0_init 108 = .ok (.iastore, 1) := by decide +kernel
theorem dX0_init_109 : decode cX0_init 109 = .ok (.iinc 1 1, 3) := by decide +kernel
theorem dX0_init_112 : decode cX0_init 112 = .ok (.goto (-30), 3) := by decide +kernel
theorem dX0_init_115 : decode cX0_init 115 = .ok (.return_, 1) := by decide +kernel
theorem dX0_isCalled_0 : decode cX0_isCalled 0 = .ok (.aload_n 0, 1) := by decide +kernel
theorem dX0_isCalled_1 : decode cX0_isCalled 1 = .ok (.getfield 30, 3) := by decide +kernel
theorem dX0_isCalled_4 : decode cX0_isCalled 4 = .ok (.iload_n 1, 1) := by decide +kernel
theorem dX0_isCalled_5 : decode cX0_isCalled 5 = .ok (.if_icmp .ne 7, 3) := by decide +kernel
theorem dX0_isCalled_8 : decode cX0_isCalled 8 = .ok (.iconst 1, 1) := by decide +kernel
theorem dX0_isCalled_9 : decode cX0_isCalled 9 = .ok (.goto 4, 3) := by decide +kernel
theorem dX0_isCalled_12 : decode cX0_isCalled 12 = .ok (.iconst 0, 1) := by decide +kernel
theorem dX0_isCalled_13 : decode cX0_isCalled 13 = .ok (.ireturn, 1) := by decide +kernel
theorem dX0_isBusy_0 : decode cX0_isBusy 0 = .ok (.aload_n 0, 1) := by decide +kernel
theorem dX0_isBusy_1 : decode cX0_isBusy 1 = .ok (.getfield 30, 3) := by decide +kernel
theorem dX0_isBusy_4 : decode cX0_isBusy 4 = .ok (.iconst (-1), 1) := by decide +kernel
theorem dX0_isBusy_5 : decode cX0_isBusy 5 = .ok (.if_icmp .eq 7, 3) := by decide +kernel
theorem dX0_isBusy_8 : decode cX0_isBusy 8 = .ok (.iconst 1, 1) := by decide +kernel
theorem dX0_isBusy_9 : decode cX0_isBusy 9 = .ok (.goto 4, 3) := by decide +kernel
theorem dX0_isBusy_12 : decode cX0_isBusy 12 = .ok (.iconst 0, 1) := by decide +kernel
theorem dX0_isBusy_13 : decode cX0_isBusy 13 = .ok (.ireturn, 1) := by decide +kernel
theorem dX0_isOpen_0 : decode cX0_isOpen 0 = .ok (.aload_n 0, 1) := by decide +kernel
theorem dX0_isOpen_1 : decode cX0_isOpen 1 = .ok (.invokevirtual 34, 3) := by decide +kernel
theorem dX0_isOpen_4 : decode cX0_isOpen 4 = .ok (.ifCond .eq 14, 3) := by decide +kernel
theorem dX0_isOpen_7 : decode cX0_isOpen 7 = .ok (.aload_n 0, 1) := by decide +kernel
theorem dX0_isOpen_8 : decode cX0_isOpen 8 = .ok (.getfield 38, 3) := by decide +kernel
theorem dX0_isOpen_11 : decode cX0_isOpen 11 = .ok (.ifCond .ne 7, 3) := by decide +kernel
theorem dX0_isOpen_14 : decode cX0_isOpen 14 = .ok (.iconst 1, 1) := by decide +kernel
theorem dX0_isOpen_15 : decode cX0_isOpen 15 = .ok (.goto 4, 3) := by decide +kernel
theorem dX0_isOpen_18 : decode cX0_isOpen 18 = .ok (.iconst 0, 1) := by decide +kernel
theorem dX0_isOpen_19 : decode cX0_isOpen 19 = .ok (.ireturn, 1) := by decide +kernel
theorem dX0_isAsking_0 : decode cX0_isAsking 0 = .ok (.aload_n 0, 1) := by decide +kernel
theorem dX0_isAsking_1 : decode cX0_isAsking 1 = .ok (.getfield 38, 3) := by decide +kernel
theorem dX0_isAsking_4 : decode cX0_isAsking 4 = .ok (.ireturn, 1) := by decide +kernel
theorem dX0_isSold_0 : decode cX0_isSold 0 = .ok (.iload_n 1, 1) := by decide +kernel
theorem dX0_isSold_1 : decode cX0_isSold 1 = .ok (.invokestatic 42, 3) := by decide +kernel
theorem dX0_isSold_4 : decode cX0_isSold 4 = .ok (.ifCond .eq 17, 3) := by decide +kernel
theorem dX0_isSold_7 : decode cX0_isSold 7 = .ok (.aload_n 0, 1) := by decide +kernel
theorem dX0_isSold_8 : decode cX0_isSold 8 = .ok (.getfield 21, 3) := by decide +kernel
theorem dX0_isSold_11 : decode cX0_isSold 11 = .ok (.iload_n 1, 1) := by decide +kernel
theorem dX0_isSold_12 : decode cX0_isSold 12 = .ok (.iaload, 1) := by decide +kernel
theorem dX0_isSold_13 : decode cX0_isSold 13 = .ok (.iconst (-1), 1) := by decide +kernel
theorem dX0_isSold_14 : decode cX0_isSold 14 = .ok (.if_icmp .eq 7, 3) := by decide +kernel
theorem dX0_isSold_17 : decode cX0_isSold 17 = .ok (.iconst 1, 1) := by decide +kernel
theorem dX0_isSold_18 : decode cX0_isSold 18 = .ok (.goto 4, 3) := by decide +kernel
theorem dX0_isSold_21 : decode cX0_isSold 21 = .ok (.iconst 0, 1) := by decide +kernel
theorem dX0_isSold_22 : decode cX0_isSold 22 = .ok (.ireturn, 1) := by decide +kernel
theorem dX0_basePrice_0 : decode cX0_basePrice 0 = .ok (.iload_n 0, 1) := by decide +kernel
theorem dX0_basePrice_1 : decode cX0_basePrice 1 = .ok (.iconst 3, 1) := by decide +kernel
theorem dX0_basePrice_2 : decode cX0_basePrice 2 = .ok (.irem, 1) := by decide +kernel
theorem dX0_basePrice_3 : decode cX0_basePrice 3 = .ok (.istore_n 1, 1) := by decide +kernel
theorem dX0_basePrice_4 : decode cX0_basePrice 4 = .ok (.iload_n 1, 1) := by decide +kernel
theorem dX0_basePrice_5 : decode cX0_basePrice 5 = .ok (.ifCond .ne 8, 3) := by decide +kernel
theorem dX0_basePrice_8 : decode cX0_basePrice 8 = .ok (.bipush 50, 2) := by decide +kernel
theorem dX0_basePrice_10 : decode cX0_basePrice 10 = .ok (.goto 15, 3) := by decide +kernel
theorem dX0_basePrice_13 : decode cX0_basePrice 13 = .ok (.iload_n 1, 1) := by decide +kernel
theorem dX0_basePrice_14 : decode cX0_basePrice 14 = .ok (.iconst 1, 1) := by decide +kernel
theorem dX0_basePrice_15 : decode cX0_basePrice 15 = .ok (.if_icmp .ne 8, 3) := by decide +kernel
theorem dX0_basePrice_18 : decode cX0_basePrice 18 = .ok (.bipush 30, 2) := by decide +kernel
theorem dX0_basePrice_20 : decode cX0_basePrice 20 = .ok (.goto 5, 3) := by decide +kernel
theorem dX0_basePrice_23 : decode cX0_basePrice 23 = .ok (.bipush 10, 2) := by decide +kernel
theorem dX0_basePrice_25 : decode cX0_basePrice 25 = .ok (.ireturn, 1) := by decide +kernel
theorem dX0_isForeign_0 : decode cX0_isForeign 0 = .ok (.iload_n 0, 1) := by decide +kernel
theorem dX0_isForeign_1 : decode cX0_isForeign 1 = .ok (.iconst 4, 1) := by decide +kernel
theorem dX0_isForeign_2 : decode cX0_isForeign 2 = .ok (.irem, 1) := by decide +kernel
theorem dX0_isForeign_3 : decode cX0_isForeign 3 = .ok (.ifCond .ne 7, 3) := by decide +kernel
theorem dX0_isForeign_6 : decode cX0_isForeign 6 = .ok (.iconst 1, 1) := by decide +kernel
theorem dX0_isForeign_7 : decode cX0_isForeign 7 = .ok (.goto 4, 3) := by decide +kernel
theorem dX0_isForeign_10 : decode cX0_isForeign 10 = .ok (.iconst 0, 1) := by decide +kernel
theorem dX0_isForeign_11 : decode cX0_isForeign 11 = .ok (.ireturn, 1) := by decide +kernel
theorem dX0_rightOn_0 : decode cX0_rightOn 0 = .ok (.iload_n 1, 1) := by decide +kernel
theorem dX0_rightOn_1 : decode cX0_rightOn 1 = .ok (.invokestatic 42, 3) := by decide +kernel
theorem dX0_rightOn_4 : decode cX0_rightOn 4 = .ok (.ifCond .eq 12, 3) := by decide +kernel
theorem dX0_rightOn_7 : decode cX0_rightOn 7 = .ok (.aload_n 0, 1) := by decide +kernel
theorem dX0_rightOn_8 : decode cX0_rightOn 8 = .ok (.getfield 27, 3) := by decide +kernel
theorem dX0_rightOn_11 : decode cX0_rightOn 11 = .ok (.iload_n 1, 1) := by decide +kernel
theorem dX0_rightOn_12 : decode cX0_rightOn 12 = .ok (.iaload, 1) := by decide +kernel
theorem dX0_rightOn_13 : decode cX0_rightOn 13 = .ok (.goto 4, 3) := by decide +kernel
theorem dX0_rightOn_16 : decode cX0_rightOn 16 = .ok (.iconst (-1), 1) := by decide +kernel
theorem dX0_rightOn_17 : decode cX0_rightOn 17 = .ok (.ireturn, 1) := by decide +kernel
theorem dX0_giveRight_0 : decode cX0_giveRight 0 = .ok (.aload_n 0, 1) := by decide +kernel
theorem dX0_giveRight_1 : decode cX0_giveRight 1 = .ok (.iload_n 2, 1) := by decide +kernel
theorem dX0_giveRight_2 : decode cX0_giveRight 2 = .ok (.invokevirtual 46, 3) := by decide +kernel
theorem dX0_giveRight_5 : decode cX0_giveRight 5 = .ok (.istore_n 3, 1) := by decide +kernel
theorem dX0_giveRight_6 : decode cX0_giveRight 6 = .ok (.iload_n 2, 1) := by decide +kernel
theorem dX0_giveRight_7 : decode cX0_giveRight 7 = .ok (.invokestatic 42, 3) := by decide +kernel
theorem dX0_giveRight_10 : decode cX0_giveRight 10 = .ok (.ifCond .eq 10, 3) := by decide +kernel
theorem dX0_giveRight_13 : decode cX0_giveRight 13 = .ok (.aload_n 0, 1) := by decide +kernel
theorem dX0_giveRight_14 : decode cX0_giveRight 14 = .ok (.getfield 27, 3) := by decide +kernel
theorem dX0_giveRight_17 : decode cX0_giveRight 17 = .ok (.iload_n 2, 1) := by decide +kernel
theorem dX0_giveRight_18 : decode cX0_giveRight 18 = .ok (.iload_n 1, 1) := by decide +kernel
theorem dX0_giveRight_19 : decode cX0_giveRight 19 = .ok (.iastore, 1) := by decide +kernel
theorem dX0_giveRight_20 : decode cX0_giveRight 20 = .ok (.iload_n 3, 1) := by decide +kernel
theorem dX0_giveRight_21 : decode cX0_giveRight 21 = .ok (.ireturn, 1) := by decide +kernel
theorem dX0_callUp_0 : decode cX0_callUp 0 = .ok (.aload_n 0, 1) := by decide +kernel
theorem dX0_callUp_1 : decode cX0_callUp 1 = .ok (.iload_n 1, 1) := by decide +kernel
theorem dX0_callUp_2 : decode cX0_callUp 2 = .ok (.putfield 30, 3) := by decide +kernel
theorem dX0_callUp_5 : decode cX0_callUp 5 = .ok (.aload_n 0, 1) := by decide +kernel
theorem dX0_callUp_6 : decode cX0_callUp 6 = .ok (.iconst 0, 1) := by decide +kernel
theorem dX0_callUp_7 : decode cX0_callUp 7 = .ok (.putfield 50, 3) := by decide +kernel
theorem dX0_callUp_10 : decode cX0_callUp 10 = .ok (.aload_n 0, 1) := by decide +kernel
theorem dX0_callUp_11 : decode cX0_callUp 11 = .ok (.iconst (-1), 1) := by decide +kernel
theorem dX0_callUp_12 : decode cX0_callUp 12 = .ok (.putfield 53, 3) := by decide +kernel
theorem dX0_callUp_15 : decode cX0_callUp 15 = .ok (.aload_n 0, 1) := by decide +kernel
theorem dX0_callUp_16 : decode cX0_callUp 16 = .ok (.iconst (-1), 1) := by decide +kernel
theorem dX0_callUp_17 : decode cX0_callUp 17 = .ok (.putfield 56, 3) := by decide +kernel
theorem dX0_callUp_20 : decode cX0_callUp 20 = .ok (.iload_n 1, 1) := by decide +kernel
theorem dX0_callUp_21 : decode cX0_callUp 21 = .ok (.invokestatic 59, 3) := by decide +kernel
theorem dX0_callUp_24 : decode cX0_callUp 24 = .ok (.ireturn, 1) := by decide +kernel
theorem dX0_leastBid_0 : decode cX0_leastBid 0 = .ok (.aload_n 0, 1) := by decide +kernel
theorem dX0_leastBid_1 : decode cX0_leastBid 1 = .ok (.getfield 50, 3) := by decide +kernel
theorem dX0_leastBid_4 : decode cX0_leastBid 4 = .ok (.ifCond .ne 13, 3) := by decide +kernel
theorem dX0_leastBid_7 : decode cX0_leastBid 7 = .ok (.aload_n 0, 1) := by decide +kernel
theorem dX0_leastBid_8 : decode cX0_leastBid 8 = .ok (.getfield 30, 3) := by decide +kernel
theorem dX0_leastBid_11 : decode cX0_leastBid 11 = .ok (.invokestatic 59, 3) := by decide +kernel
theorem dX0_leastBid_14 : decode cX0_leastBid 14 = .ok (.goto 9, 3) := by decide +kernel
theorem dX0_leastBid_17 : decode cX0_leastBid 17 = .ok (.aload_n 0, 1) := by decide +kernel
theorem dX0_leastBid_18 : decode cX0_leastBid 18 = .ok (.getfield 53, 3) := by decide +kernel
theorem dX0_leastBid_21 : decode cX0_leastBid 21 = .ok (.iconst 5, 1) := by decide +kernel
theorem dX0_leastBid_22 : decode cX0_leastBid 22 = .ok (.iadd, 1) := by decide +kernel
theorem dX0_leastBid_23 : decode cX0_leastBid 23 = .ok (.ireturn, 1) := by decide +kernel
theorem dX0_canPay_0 : decode cX0_canPay 0 = .ok (.iload_n 1, 1) := by decide +kernel
theorem dX0_canPay_1 : decode cX0_canPay 1 = .ok (.invokestatic 62, 3) := by decide +kernel
theorem dX0_canPay_4 : decode cX0_canPay 4 = .ok (.ifCond .eq 48, 3) := by decide +kernel
theorem dX0_canPay_7 : decode cX0_canPay 7 = .ok (.aload_n 0, 1) := by decide +kernel
theorem dX0_canPay_8 : decode cX0_canPay 8 = .ok (.getfield 9, 3) := by decide +kernel
theorem dX0_canPay_11 : decode cX0_canPay 11 = .ok (.iload_n 1, 1) := by decide +kernel
theorem dX0_canPay_12 : decode cX0_canPay 12 = .ok (.iaload, 1) := by decide +kernel
theorem dX0_canPay_13 : decode cX0_canPay 13 = .ok (.iload_n 2, 1) := by decide +kernel
theorem dX0_canPay_14 : decode cX0_canPay 14 = .ok (.if_icmp .lt 38, 3) := by decide +kernel
theorem dX0_canPay_17 : decode cX0_canPay 17 = .ok (.aload_n 0, 1) := by decide +kernel
theorem dX0_canPay_18 : decode cX0_canPay 18 = .ok (.getfield 15, 3) := by decide +kernel
theorem dX0_canPay_21 : decode cX0_canPay 21 = .ok (.iload_n 1, 1) := by decide +kernel
theorem dX0_canPay_22 : decode cX0_canPay 22 = .ok (.iaload, 1) := by decide +kernel
theorem dX0_canPay_23 : decode cX0_canPay 23 = .ok (.bipush 6, 2) := by decide +kernel
theorem dX0_canPay_25 : decode cX0_canPay 25 = .ok (.if_icmp .ge 27, 3) := by decide +kernel
theorem dX0_canPay_28 : decode cX0_canPay 28 = .ok (.aload_n 0, 1) := by decide +kernel
theorem dX0_canPay_29 : decode cX0_canPay 29 = .ok (.getfield 30, 3) := by decide +kernel
theorem dX0_canPay_32 : decode cX0_canPay 32 = .ok (.invokestatic 65, 3) := by decide +kernel
theorem dX0_canPay_35 : decode cX0_canPay 35 = .ok (.ifCond .eq 13, 3) := by decide +kernel
theorem dX0_canPay_38 : decode cX0_canPay 38 = .ok (.aload_n 0, 1) := by decide +kernel
theorem dX0_canPay_39 : decode cX0_canPay 39 = .ok (.getfield 18, 3) := by decide +kernel
theorem dX0_canPay_42 : decode cX0_canPay 42 = .ok (.iload_n 1, 1) := by decide +kernel
theorem dX0_canPay_43 : decode cX0_canPay 43 = .ok (.iaload, 1) := by decide +kernel
theorem dX0_canPay_44 : decode cX0_canPay 44 = .ok (.iconst 2, 1) := by decide +kernel
theorem dX0_canPay_45 : decode cX0_canPay 45 = .ok (.if_icmp .ge 7, 3) := by decide +kernel
theorem dX0_canPay_48 : decode cX0_canPay 48 = .ok (.iconst 1, 1) := by decide +kernel
theorem dX0_canPay_49 : decode cX0_canPay 49 = .ok (.goto 4, 3) := by decide +kernel
theorem dX0_canPay_52 : decode cX0_canPay 52 = .ok (.iconst 0, 1) := by decide +kernel
theorem dX0_canPay_53 : decode cX0_canPay 53 = .ok (.ireturn, 1) := by decide +kernel
theorem dX0_takeBid_0 : decode cX0_takeBid 0 = .ok (.aload_n 0, 1) := by decide +kernel
theorem dX0_takeBid_1 : decode cX0_takeBid 1 = .ok (.iload_n 2, 1) := by decide +kernel
theorem dX0_takeBid_2 : decode cX0_takeBid 2 = .ok (.putfield 53, 3) := by decide +kernel
theorem dX0_takeBid_5 : decode cX0_takeBid 5 = .ok (.aload_n 0, 1) := by decide +kernel
theorem dX0_takeBid_6 : decode cX0_takeBid 6 = .ok (.iload_n 1, 1) := by decide +kernel
theorem dX0_takeBid_7 : decode cX0_takeBid 7 = .ok (.putfield 56, 3) := by decide +kernel
theorem dX0_takeBid_10 : decode cX0_takeBid 10 = .ok (.aload_n 0, 1) := by decide +kernel
theorem dX0_takeBid_11 : decode cX0_takeBid 11 = .ok (.dup, 1) := by decide +kernel
theorem dX0_takeBid_12 : decode cX0_takeBid 12 = .ok (.getfield 50, 3) := by decide +kernel
theorem dX0_takeBid_15 : decode cX0_takeBid 15 = .ok (.iconst 1, 1) := by decide +kernel
theorem dX0_takeBid_16 : decode cX0_takeBid 16 = .ok (.iadd, 1) := by decide +kernel
theorem dX0_takeBid_17 : decode cX0_takeBid 17 = .ok (.putfield 50, 3) := by decide +kernel
theorem dX0_takeBid_20 : decode cX0_takeBid 20 = .ok (.aload_n 0, 1) := by decide +kernel
theorem dX0_takeBid_21 : decode cX0_takeBid 21 = .ok (.getfield 50, 3) := by decide +kernel
theorem dX0_takeBid_24 : decode cX0_takeBid 24 = .ok (.ireturn, 1) := by decide +kernel
theorem dX0_strike_0 : decode cX0_strike 0 = .ok (.aload_n 0, 1) := by decide +kernel
theorem dX0_strike_1 : decode cX0_strike 1 = .ok (.getfield 50, 3) := by decide +kernel
theorem dX0_strike_4 : decode cX0_strike 4 = .ok (.ifCond .ne 10, 3) := by decide +kernel
theorem dX0_strike_7 : decode cX0_strike 7 = .ok (.aload_n 0, 1) := by decide +kernel
theorem dX0_strike_8 : decode cX0_strike 8 = .ok (.iconst (-1), 1) := by decide +kernel
theorem dX0_strike_9 : decode cX0_strike 9 = .ok (.putfield 30, 3) := by decide +kernel
theorem dX0_strike_12 : decode cX0_strike 12 = .ok (.iconst (-1), 1) := by decide +kernel
theorem dX0_strike_13 : decode cX0_strike 13 = .ok (.ireturn, 1) := by decide +kernel
theorem dX0_strike_14 : decode cX0_strike 14 = .ok (.aload_n 0, 1) := by decide +kernel
theorem dX0_strike_15 : decode cX0_strike 15 = .ok (.aload_n 0, 1) := by decide +kernel
theorem dX0_strike_16 : decode cX0_strike 16 = .ok (.getfield 30, 3) := by decide +kernel
theorem dX0_strike_19 : decode cX0_strike 19 = .ok (.invokevirtual 46, 3) := by decide +kernel
theorem dX0_strike_22 : decode cX0_strike 22 = .ok (.istore_n 1, 1) := by decide +kernel
theorem dX0_strike_23 : decode cX0_strike 23 = .ok (.iload_n 1, 1) := by decide +kernel
theorem dX0_strike_24 : decode cX0_strike 24 = .ok (.iconst (-1), 1) := by decide +kernel
theorem dX0_strike_25 : decode cX0_strike 25 = .ok (.if_icmp .eq 30, 3) := by decide +kernel
theorem dX0_strike_28 : decode cX0_strike 28 = .ok (.iload_n 1, 1) := by decide +kernel
theorem dX0_strike_29 : decode cX0_strike 29 = .ok (.aload_n 0, 1) := by decide +kernel
theorem dX0_strike_30 : decode cX0_strike 30 = .ok (.getfield 56, 3) := by decide +kernel
theorem dX0_strike_33 : decode cX0_strike 33 = .ok (.if_icmp .eq 22, 3) := by decide +kernel
theorem dX0_strike_36 : decode cX0_strike 36 = .ok (.aload_n 0, 1) := by decide +kernel
theorem dX0_strike_37 : decode cX0_strike 37 = .ok (.iload_n 1, 1) := by decide +kernel
theorem dX0_strike_38 : decode cX0_strike 38 = .ok (.aload_n 0, 1) := by decide +kernel
theorem dX0_strike_39 : decode cX0_strike 39 = .ok (.getfield 53, 3) := by decide +kernel
theorem dX0_strike_42 : decode cX0_strike 42 = .ok (.invokevirtual 68, 3) := by decide +kernel
theorem dX0_strike_45 : decode cX0_strike 45 = .ok (.ifCond .eq 10, 3) := by decide +kernel
theorem dX0_strike_48 : decode cX0_strike 48 = .ok (.aload_n 0, 1) := by decide +kernel
theorem dX0_strike_49 : decode cX0_strike 49 = .ok (.iconst 1, 1) := by decide +kernel
theorem dX0_strike_50 : decode cX0_strike 50 = .ok (.putfield 38, 3) := by decide +kernel
theorem dX0_strike_53 : decode cX0_strike 53 = .ok (.iconst (-1), 1) := by decide +kernel
theorem dX0_strike_54 : decode cX0_strike 54 = .ok (.ireturn, 1) := by decide +kernel
theorem dX0_strike_55 : decode cX0_strike 55 = .ok (.aload_n 0, 1) := by decide +kernel
theorem dX0_strike_56 : decode cX0_strike 56 = .ok (.aload_n 0, 1) := by decide +kernel
theorem dX0_strike_57 : decode cX0_strike 57 = .ok (.getfield 56, 3) := by decide +kernel
theorem dX0_strike_60 : decode cX0_strike 60 = .ok (.invokevirtual 72, 3) := by decide +kernel
theorem dX0_strike_63 : decode cX0_strike 63 = .ok (.ireturn, 1) := by decide +kernel
theorem dX0_settle_0 : decode cX0_settle 0 = .ok (.iload_n 1, 1) := by decide +kernel
theorem dX0_settle_1 : decode cX0_settle 1 = .ok (.ifCond .eq 14, 3) := by decide +kernel
theorem dX0_settle_4 : decode cX0_settle 4 = .ok (.aload_n 0, 1) := by decide +kernel
theorem dX0_settle_5 : decode cX0_settle 5 = .ok (.aload_n 0, 1) := by decide +kernel
theorem dX0_settle_6 : decode cX0_settle 6 = .ok (.getfield 30, 3) := by decide +kernel
theorem dX0_settle_9 : decode cX0_settle 9 = .ok (.invokevirtual 46, 3) := by decide +kernel
theorem dX0_settle_12 : decode cX0_settle 12 = .ok (.goto 7, 3) := by decide +kernel
theorem dX0_settle_15 : decode cX0_settle 15 = .ok (.aload_n 0, 1) := by decide +kernel
theorem dX0_settle_16 : decode cX0_settle 16 = .ok (.getfield 56, 3) := by decide +kernel
theorem dX0_settle_19 : decode cX0_settle 19 = .ok (.istore_n 2, 1) := by decide +kernel
theorem dX0_settle_20 : decode cX0_settle 20 = .ok (.aload_n 0, 1) := by decide +kernel
theorem dX0_settle_21 : decode cX0_settle 21 = .ok (.getfield 30, 3) := by decide +kernel
theorem dX0_settle_24 : decode cX0_settle 24 = .ok (.invokestatic 42, 3) := by decide +kernel
theorem dX0_settle_27 : decode cX0_settle 27 = .ok (.ifCond .eq 13, 3) := by decide +kernel
theorem dX0_settle_30 : decode cX0_settle 30 = .ok (.aload_n 0, 1) := by decide +kernel
theorem dX0_settle_31 : decode cX0_settle 31 = .ok (.getfield 27, 3) := by decide +kernel
theorem dX0_settle_34 : decode cX0_settle 34 = .ok (.aload_n 0, 1) := by decide +kernel
theorem dX0_settle_35 : decode cX0_settle 35 = .ok (.getfield 30, 3) := by decide +kernel
theorem dX0_settle_38 : decode cX0_settle 38 = .ok (.iconst (-1), 1) := by decide +kernel
theorem dX0_settle_39 : decode cX0_settle 39 = .ok (.iastore, 1) := by decide +kernel
theorem dX0_settle_40 : decode cX0_settle 40 = .ok (.aload_n 0, 1) := by decide +kernel
theorem dX0_settle_41 : decode cX0_settle 41 = .ok (.iconst 0, 1) := by decide +kernel
theorem dX0_settle_42 : decode cX0_settle 42 = .ok (.putfield 38, 3) := by decide +kernel
theorem dX0_settle_45 : decode cX0_settle 45 = .ok (.aload_n 0, 1) := by decide +kernel
theorem dX0_settle_46 : decode cX0_settle 46 = .ok (.iload_n 2, 1) := by decide +kernel
theorem dX0_settle_47 : decode cX0_settle 47 = .ok (.invokevirtual 72, 3) := by decide +kernel
theorem dX0_settle_50 : decode cX0_settle 50 = .ok (.ireturn, 1) := by decide +kernel
theorem dX0_sellTo_0 : decode cX0_sellTo 0 = .ok (.iload_n 1, 1) := by decide +kernel
theorem dX0_sellTo_1 : decode cX0_sellTo 1 = .ok (.invokestatic 62, 3) := by decide +kernel
theorem dX0_sellTo_4 : decode cX0_sellTo 4 = .ok (.ifCond .eq 79, 3) := by decide +kernel
theorem dX0_sellTo_7 : decode cX0_sellTo 7 = .ok (.aload_n 0, 1) := by decide +kernel
theorem dX0_sellTo_8 : decode cX0_sellTo 8 = .ok (.getfield 30, 3) := by decide +kernel
theorem dX0_sellTo_11 : decode cX0_sellTo 11 = .ok (.invokestatic 42, 3) := by decide +kernel
theorem dX0_sellTo_14 : decode cX0_sellTo 14 = .ok (.ifCond .eq 69, 3) := by decide +kernel
theorem dX0_sellTo_17 : decode cX0_sellTo 17 = .ok (.aload_n 0, 1) := by decide +kernel
theorem dX0_sellTo_18 : decode cX0_sellTo 18 = .ok (.getfield 21, 3) := by decide +kernel
theorem dX0_sellTo_21 : decode cX0_sellTo 21 = .ok (.aload_n 0, 1) := by decide +kernel
theorem dX0_sellTo_22 : decode cX0_sellTo 22 = .ok (.getfield 30, 3) := by decide +kernel
theorem dX0_sellTo_25 : decode cX0_sellTo 25 = .ok (.iload_n 1, 1) := by decide +kernel
theorem dX0_sellTo_26 : decode cX0_sellTo 26 = .ok (.iastore, 1) := by decide +kernel
theorem dX0_sellTo_27 : decode cX0_sellTo 27 = .ok (.aload_n 0, 1) := by decide +kernel
theorem dX0_sellTo_28 : decode cX0_sellTo 28 = .ok (.getfield 24, 3) := by decide +kernel
theorem dX0_sellTo_31 : decode cX0_sellTo 31 = .ok (.aload_n 0, 1) := by decide +kernel
theorem dX0_sellTo_32 : decode cX0_sellTo 32 = .ok (.getfield 30, 3) := by decide +kernel
theorem dX0_sellTo_35 : decode cX0_sellTo 35 = .ok (.aload_n 0, 1) := by decide +kernel
theorem dX0_sellTo_36 : decode cX0_sellTo 36 = .ok (.getfield 53, 3) := by decide +kernel
theorem dX0_sellTo_39 : decode cX0_sellTo 39 = .ok (.iastore, 1) := by decide +kernel
theorem dX0_sellTo_40 : decode cX0_sellTo 40 = .ok (.aload_n 0, 1) := by decide +kernel
theorem dX0_sellTo_41 : decode cX0_sellTo 41 = .ok (.getfield 9, 3) := by decide +kernel
theorem dX0_sellTo_44 : decode cX0_sellTo 44 = .ok (.iload_n 1, 1) := by decide +kernel
theorem dX0_sellTo_45 : decode cX0_sellTo 45 = .ok (.dup2, 1) := by decide +kernel
theorem dX0_sellTo_46 : decode cX0_sellTo 46 = .ok (.iaload, 1) := by decide +kernel
theorem dX0_sellTo_47 : decode cX0_sellTo 47 = .ok (.aload_n 0, 1) := by decide +kernel
theorem dX0_sellTo_48 : decode cX0_sellTo 48 = .ok (.getfield 53, 3) := by decide +kernel
theorem dX0_sellTo_51 : decode cX0_sellTo 51 = .ok (.isub, 1) := by decide +kernel
theorem dX0_sellTo_52 : decode cX0_sellTo 52 = .ok (.iastore, 1) := by decide +kernel
theorem dX0_sellTo_53 : decode cX0_sellTo 53 = .ok (.aload_n 0, 1) := by decide +kernel
theorem dX0_sellTo_54 : decode cX0_sellTo 54 = .ok (.getfield 15, 3) := by decide +kernel
theorem dX0_sellTo_57 : decode cX0_sellTo 57 = .ok (.iload_n 1, 1) := by decide +kernel
theorem dX0_sellTo_58 : decode cX0_sellTo 58 = .ok (.dup2, 1) := by decide +kernel
theorem dX0_sellTo_59 : decode cX0_sellTo 59 = .ok (.iaload, 1) := by decide +kernel
theorem dX0_sellTo_60 : decode cX0_sellTo 60 = .ok (.iconst 1, 1) := by decide +kernel
theorem dX0_sellTo_61 : decode cX0_sellTo 61 = .ok (.iadd, 1) := by decide +kernel
theorem dX0_sellTo_62 : decode cX0_sellTo 62 = .ok (.iastore, 1) := by decide +kernel
theorem dX0_sellTo_63 : decode cX0_sellTo 63 = .ok (.aload_n 0, 1) := by decide +kernel
theorem dX0_sellTo_64 : decode cX0_sellTo 64 = .ok (.getfield 30, 3) := by decide +kernel
theorem dX0_sellTo_67 : decode cX0_sellTo 67 = .ok (.invokestatic 65, 3) := by decide +kernel
theorem dX0_sellTo_70 : decode cX0_sellTo 70 = .ok (.ifCond .eq 13, 3) := by decide +kernel
theorem dX0_sellTo_73 : decode cX0_sellTo 73 = .ok (.aload_n 0, 1) := by decide +kernel
theorem dX0_sellTo_74 : decode cX0_sellTo 74 = .ok (.getfield 18, 3) := by decide +kernel
theorem dX0_sellTo_77 : decode cX0_sellTo 77 = .ok (.iload_n 1, 1) := by decide +kernel
theorem dX0_sellTo_78 : decode cX0_sellTo 78 = .ok (.dup2, 1) := by decide +kernel
theorem dX0_sellTo_79 : decode cX0_sellTo 79 = .ok (.iaload, 1) := by decide +kernel
theorem dX0_sellTo_80 : decode cX0_sellTo 80 = .ok (.iconst 1, 1) := by decide +kernel
theorem dX0_sellTo_81 : decode cX0_sellTo 81 = .ok (.iadd, 1) := by decide +kernel
theorem dX0_sellTo_82 : decode cX0_sellTo 82 = .ok (.iastore, 1) := by decide +kernel
theorem dX0_sellTo_83 : decode cX0_sellTo 83 = .ok (.aload_n 0, 1) := by decide +kernel
theorem dX0_sellTo_84 : decode cX0_sellTo 84 = .ok (.iconst (-1), 1) := by decide +kernel
theorem dX0_sellTo_85 : decode cX0_sellTo 85 = .ok (.putfield 30, 3) := by decide +kernel
theorem dX0_sellTo_88 : decode cX0_sellTo 88 = .ok (.iload_n 1, 1) := by decide +kernel
theorem dX0_sellTo_89 : decode cX0_sellTo 89 = .ok (.ireturn, 1) := by decide +kernel
theorem dX0_tellOfLot_0 : decode cX0_tellOfLot 0 = .ok (.iload_n 1, 1) := by decide +kernel
theorem dX0_tellOfLot_1 : decode cX0_tellOfLot 1 = .ok (.invokestatic 42, 3) := by decide +kernel
theorem dX0_tellOfLot_4 : decode cX0_tellOfLot 4 = .ok (.ifCond .ne 5, 3) := by decide +kernel
theorem dX0_tellOfLot_7 : decode cX0_tellOfLot 7 = .ok (.iconst (-1), 1) := by decide +kernel
theorem dX0_tellOfLot_8 : decode cX0_tellOfLot 8 = .ok (.ireturn, 1) := by decide +kernel
theorem dX0_tellOfLot_9 : decode cX0_tellOfLot 9 = .ok (.iload_n 2, 1) := by decide +kernel
theorem dX0_tellOfLot_10 : decode cX0_tellOfLot 10 = .ok (.tableswitch 47 0 2 #[26, 33, 40], 26) := by decide +kernel
theorem dX0_tellOfLot_36 : decode cX0_tellOfLot 36 = .ok (.aload_n 0, 1) := by decide +kernel
theorem dX0_tellOfLot_37 : decode cX0_tellOfLot 37 = .ok (.getfield 21, 3) := by decide +kernel
theorem dX0_tellOfLot_40 : decode cX0_tellOfLot 40 = .ok (.iload_n 1, 1) := by decide +kernel
theorem dX0_tellOfLot_41 : decode cX0_tellOfLot 41 = .ok (.iaload, 1) := by decide +kernel
theorem dX0_tellOfLot_42 : decode cX0_tellOfLot 42 = .ok (.ireturn, 1) := by decide +kernel
theorem dX0_tellOfLot_43 : decode cX0_tellOfLot 43 = .ok (.aload_n 0, 1) := by decide +kernel
theorem dX0_tellOfLot_44 : decode cX0_tellOfLot 44 = .ok (.getfield 24, 3) := by decide +kernel
theorem dX0_tellOfLot_47 : decode cX0_tellOfLot 47 = .ok (.iload_n 1, 1) := by decide +kernel
theorem dX0_tellOfLot_48 : decode cX0_tellOfLot 48 = .ok (.iaload, 1) := by decide +kernel
theorem dX0_tellOfLot_49 : decode cX0_tellOfLot 49 = .ok (.ireturn, 1) := by decide +kernel
theorem dX0_tellOfLot_50 : decode cX0_tellOfLot 50 = .ok (.aload_n 0, 1) := by decide +kernel
theorem dX0_tellOfLot_51 : decode cX0_tellOfLot 51 = .ok (.getfield 27, 3) := by decide +kernel
theorem dX0_tellOfLot_54 : decode cX0_tellOfLot 54 = .ok (.iload_n 1, 1) := by decide +kernel
theorem dX0_tellOfLot_55 : decode cX0_tellOfLot 55 = .ok (.iaload, 1) := by decide +kernel
theorem dX0_tellOfLot_56 : decode cX0_tellOfLot 56 = .ok (.ireturn, 1) := by decide +kernel
theorem dX0_tellOfLot_57 : decode cX0_tellOfLot 57 = .ok (.aload_n 0, 1) := by decide +kernel
theorem dX0_tellOfLot_58 : decode cX0_tellOfLot 58 = .ok (.iload_n 1, 1) := by decide +kernel
theorem dX0_tellOfLot_59 : decode cX0_tellOfLot 59 = .ok (.invokevirtual 75, 3) := by decide +kernel
theorem dX0_tellOfLot_62 : decode cX0_tellOfLot 62 = .ok (.ifCond .eq 10, 3) := by decide +kernel
theorem dX0_tellOfLot_65 : decode cX0_tellOfLot 65 = .ok (.aload_n 0, 1) := by decide +kernel
theorem dX0_tellOfLot_66 : decode cX0_tellOfLot 66 = .ok (.getfield 53, 3) := by decide +kernel
theorem dX0_tellOfLot_69 : decode cX0_tellOfLot 69 = .ok (.goto 4, 3) := by decide +kernel
theorem dX0_tellOfLot_72 : decode cX0_tellOfLot 72 = .ok (.iconst (-1), 1) := by decide +kernel
theorem dX0_tellOfLot_73 : decode cX0_tellOfLot 73 = .ok (.ireturn, 1) := by decide +kernel
theorem dX0_tellOfClub_0 : decode cX0_tellOfClub 0 = .ok (.iload_n 1, 1) := by decide +kernel
theorem dX0_tellOfClub_1 : decode cX0_tellOfClub 1 = .ok (.invokestatic 62, 3) := by decide +kernel
theorem dX0_tellOfClub_4 : decode cX0_tellOfClub 4 = .ok (.ifCond .ne 5, 3) := by decide +kernel
theorem dX0_tellOfClub_7 : decode cX0_tellOfClub 7 = .ok (.iconst (-1), 1) := by decide +kernel
theorem dX0_tellOfClub_8 : decode cX0_tellOfClub 8 = .ok (.ireturn, 1) := by decide +kernel
theorem dX0_tellOfClub_9 : decode cX0_tellOfClub 9 = .ok (.iload_n 2, 1) := by decide +kernel
theorem dX0_tellOfClub_10 : decode cX0_tellOfClub 10 = .ok (.lookupswitch 40 #[(0, 26), (1, 33)], 26) := by decide +kernel
theorem dX0_tellOfClub_36 : decode cX0_tellOfClub 36 = .ok (.aload_n 0, 1) := by decide +kernel
theorem dX0_tellOfClub_37 : decode cX0_tellOfClub 37 = .ok (.getfield 9, 3) := by decide +kernel
theorem dX0_tellOfClub_40 : decode cX0_tellOfClub 40 = .ok (.iload_n 1, 1) := by decide +kernel
theorem dX0_tellOfClub_41 : decode cX0_tellOfClub 41 = .ok (.iaload, 1) := by decide +kernel
theorem dX0_tellOfClub_42 : decode cX0_tellOfClub 42 = .ok (.ireturn, 1) := by decide +kernel
theorem dX0_tellOfClub_43 : decode cX0_tellOfClub 43 = .ok (.aload_n 0, 1) := by decide +kernel
theorem dX0_tellOfClub_44 : decode cX0_tellOfClub 44 = .ok (.getfield 15, 3) := by decide +kernel
theorem dX0_tellOfClub_47 : decode cX0_tellOfClub 47 = .ok (.iload_n 1, 1) := by decide +kernel
theorem dX0_tellOfClub_48 : decode cX0_tellOfClub 48 = .ok (.iaload, 1) := by decide +kernel
theorem dX0_tellOfClub_49 : decode cX0_tellOfClub 49 = .ok (.ireturn, 1) := by decide +kernel
theorem dX0_tellOfClub_50 : decode cX0_tellOfClub 50 = .ok (.aload_n 0, 1) := by decide +kernel
theorem dX0_tellOfClub_51 : decode cX0_tellOfClub 51 = .ok (.getfield 18, 3) := by decide +kernel
theorem dX0_tellOfClub_54 : decode cX0_tellOfClub 54 = .ok (.iload_n 1, 1) := by decide +kernel
theorem dX0_tellOfClub_55 : decode cX0_tellOfClub 55 = .ok (.iaload, 1) := by decide +kernel
theorem dX0_tellOfClub_56 : decode cX0_tellOfClub 56 = .ok (.ireturn, 1) := by decide +kernel
theorem dX1_init_0 : decode cX1_init 0 = .ok (.aload_n 0, 1) := by decide +kernel
theorem dX1_init_1 : decode cX1_init 1 = .ok (.invokespecial 3, 3) := by decide +kernel
theorem dX1_init_4 : decode cX1_init 4 = .ok (.aload_n 0, 1) := by decide +kernel
theorem dX1_init_5 : decode cX1_init 5 = .ok (.bipush 60, 2) := by decide +kernel
theorem dX1_init_7 : decode cX1_init 7 = .ok (.anewarray 9, 3) := by decide +kernel
theorem dX1_init_10 : decode cX1_init 10 = .ok (.putfield 11, 3) := by decide +kernel
theorem dX1_init_13 : decode cX1_init 13 = .ok (.aload_n 0, 1) := by decide +kernel
theorem dX1_init_14 : decode cX1_init 14 = .ok (.new 17, 3) := by decide +kernel
theorem dX1_init_17 : decode cX1_init 17 = .ok (.dup, 1) := by decide +kernel
theorem dX1_init_18 : decode cX1_init 18 = .ok (.invokespecial 19, 3) := by decide +kernel
theorem dX1_init_21 : decode cX1_init 21 = .ok (.putfield 20, 3) := by decide +kernel
theorem dX1_init_24 : decode cX1_init 24 = .ok (.aload_n 0, 1) := by decide +kernel
theorem dX1_init_25 : decode cX1_init 25 = .ok (.new 17, 3) := by decide +kernel
theorem dX1_init_28 : decode cX1_init 28 = .ok (.dup, 1) := by decide +kernel
theorem dX1_init_29 : decode cX1_init 29 = .ok (.invokespecial 19, 3) := by decide +kernel
theorem dX1_init_32 : decode cX1_init 32 = .ok (.putfield 24, 3) := by decide +kernel
theorem dX1_init_35 : decode cX1_init 35 = .ok (.iconst 0, 1) := by decide +kernel
theorem dX1_init_36 : decode cX1_init 36 = .ok (.istore_n 1, 1) := by decide +kernel
theorem dX1_init_37 : decode cX1_init 37 = .ok (.iload_n 1, 1) := by decide +kernel
theorem dX1_init_38 : decode cX1_init 38 = .ok (.bipush 60, 2) := by decide +kernel
theorem dX1_init_40 : decode cX1_init 40 = .ok (.if_icmp .ge 22, 3) := by decide +kernel
theorem dX1_init_43 : decode cX1_init 43 = .ok (.aload_n 0, 1) := by decide +kernel
theorem dX1_init_44 : decode cX1_init 44 = .ok (.getfield 11, 3) := by decide +kernel
theorem dX1_init_47 : decode cX1_init 47 = .ok (.iload_n 1, 1) := by decide +kernel
theorem dX1_init_48 : decode cX1_init 48 = .ok (.new 9, 3) := by decide +kernel
theorem dX1_init_51 : decode cX1_init 51 = .ok (.dup, 1) := by decide +kernel
theorem dX1_init_52 : decode cX1_init 52 = .ok (.invokespecial 27, 3) := by decide +kernel
theorem dX1_init_55 : decode cX1_init 55 = .ok (.aastore, 1) := by decide +kernel
theorem dX1_init_56 : decode cX1_init 56 = .ok (.iinc 1 1, 3) := by decide +kernel
theorem dX1_init_59 : decode cX1_init 59 = .ok (.goto (-22), 3) := by decide +kernel
theorem dX1_init_62 : decode cX1_init 62 = .ok (.return_, 1) := by decide +kernel
theorem dX1_isThere_0 : decode cX1_isThere 0 = .ok (.aload_n 0, 1) := by decide +kernel
theorem dX1_isThere_1 : decode cX1_isThere 1 = .ok (.getfield 28, 3) := by decide +kernel
theorem dX1_isThere_4 : decode cX1_isThere 4 = .ok (.ireturn, 1) := by decide +kernel
theorem dX1_open_0 : decode cX1_open 0 = .ok (.aload_n 0, 1) := by decide +kernel
theorem dX1_open_1 : decode cX1_open 1 = .ok (.iconst 1, 1) := by decide +kernel
theorem dX1_open_2 : decode cX1_open 2 = .ok (.putfield 28, 3) := by decide +kernel
theorem dX1_open_5 : decode cX1_open 5 = .ok (.aload_n 0, 1) := by decide +kernel
theorem dX1_open_6 : decode cX1_open 6 = .ok (.iconst 0, 1) := by decide +kernel
theorem dX1_open_7 : decode cX1_open 7 = .ok (.putfield 32, 3) := by decide +kernel
theorem dX1_open_10 : decode cX1_open 10 = .ok (.aload_n 0, 1) := by decide +kernel
theorem dX1_open_11 : decode cX1_open 11 = .ok (.iconst 0, 1) := by decide +kernel
theorem dX1_open_12 : decode cX1_open 12 = .ok (.putfield 35, 3) := by decide +kernel
theorem dX1_open_15 : decode cX1_open 15 = .ok (.aload_n 0, 1) := by decide +kernel
theorem dX1_open_16 : decode cX1_open 16 = .ok (.iload_n 1, 1) := by decide +kernel
theorem dX1_open_17 : decode cX1_open 17 = .ok (.putfield 39, 3) := by decide +kernel
theorem dX1_open_20 : decode cX1_open 20 = .ok (.aload_n 0, 1) := by decide +kernel
theorem dX1_open_21 : decode cX1_open 21 = .ok (.iload_n 2, 1) := by decide +kernel
theorem dX1_open_22 : decode cX1_open 22 = .ok (.putfield 42, 3) := by decide +kernel
theorem dX1_open_25 : decode cX1_open 25 = .ok (.aload_n 0, 1) := by decide +kernel
theorem dX1_open_26 : decode cX1_open 26 = .ok (.iload_n 3, 1) := by decide +kernel
theorem dX1_open_27 : decode cX1_open 27 = .ok (.putfield 45, 3) := by decide +kernel
theorem dX1_open_30 : decode cX1_open 30 = .ok (.aload_n 0, 1) := by decide +kernel
theorem dX1_open_31 : decode cX1_open 31 = .ok (.iconst 0, 1) := by decide +kernel
theorem dX1_open_32 : decode cX1_open 32 = .ok (.putfield 48, 3) := by decide +kernel
theorem dX1_open_35 : decode cX1_open 35 = .ok (.aload_n 0, 1) := by decide +kernel
theorem dX1_open_36 : decode cX1_open 36 = .ok (.getfield 20, 3) := by decide +kernel
theorem dX1_open_39 : decode cX1_open 39 = .ok (.invokevirtual 51, 3) := by decide +kernel
theorem dX1_open_42 : decode cX1_open 42 = .ok (.aload_n 0, 1) := by decide +kernel
theorem dX1_open_43 : decode cX1_open 43 = .ok (.dup, 1) := by decide +kernel
theorem dX1_open_44 : decode cX1_open 44 = .ok (.getfield 54, 3) := by decide +kernel
theorem dX1_open_47 : decode cX1_open 47 = .ok (.iconst 1, 1) := by decide +kernel
theorem dX1_open_48 : decode cX1_open 48 = .ok (.iadd, 1) := by decide +kernel
theorem dX1_open_49 : decode cX1_open 49 = .ok (.putfield 54, 3) := by decide +kernel
theorem dX1_open_52 : decode cX1_open 52 = .ok (.aload_n 0, 1) := by decide +kernel
theorem dX1_open_53 : decode cX1_open 53 = .ok (.getfield 54, 3) := by decide +kernel
theorem dX1_open_56 : decode cX1_open 56 = .ok (.ireturn, 1) := by decide +kernel
theorem dX1_close_0 : decode cX1_close 0 = .ok (.aload_n 0, 1) := by decide +kernel
theorem dX1_close_1 : decode cX1_close 1 = .ok (.iconst 0, 1) := by decide +kernel
theorem dX1_close_2 : decode cX1_close 2 = .ok (.putfield 28, 3) := by decide +kernel
theorem dX1_close_5 : decode cX1_close 5 = .ok (.aload_n 0, 1) := by decide +kernel
theorem dX1_close_6 : decode cX1_close 6 = .ok (.iconst 0, 1) := by decide +kernel
theorem dX1_close_7 : decode cX1_close 7 = .ok (.putfield 35, 3) := by decide +kernel
theorem dX1_close_10 : decode cX1_close 10 = .ok (.return_, 1) := by decide +kernel
theorem dX1_countEvents_0 : decode cX1_countEvents 0 = .ok (.aload_n 0, 1) := by decide +kernel
theorem dX1_countEvents_1 : decode cX1_countEvents 1 = .ok (.getfield 35, 3) := by decide +kernel
theorem dX1_countEvents_4 : decode cX1_countEvents 4 = .ok (.ireturn, 1) := by decide +kernel
theorem dX1_countEnded_0 : decode cX1_countEnded 0 = .ok (.aload_n 0, 1) := by decide +kernel
theorem dX1_countEnded_1 : decode cX1_countEnded 1 = .ok (.getfield 32, 3) := by decide +kernel
theorem dX1_countEnded_4 : decode cX1_countEnded 4 = .ok (.ifCond .eq 12, 3) := by decide +kernel
theorem dX1_countEnded_7 : decode cX1_countEnded 7 = .ok (.aload_n 0, 1) := by decide +kernel
theorem dX1_countEnded_8 : decode cX1_countEnded 8 = .ok (.getfield 35, 3) := by decide +kernel
theorem dX1_countEnded_11 : decode cX1_countEnded 11 = .ok (.iconst 1, 1) := by decide +kernel
theorem dX1_countEnded_12 : decode cX1_countEnded 12 = .ok (.isub, 1) := by decide +kernel
theorem dX1_countEnded_13 : decode cX1_countEnded 13 = .ok (.goto 7, 3) := by decide +kernel
theorem dX1_countEnded_16 : decode cX1_countEnded 16 = .ok (.aload_n 0, 1) := by decide +kernel
theorem dX1_countEnded_17 : decode cX1_countEnded 17 = .ok (.getfield 35, 3) := by decide +kernel
theorem dX1_countEnded_20 : decode cX1_countEnded 20 = .ok (.ireturn, 1) := by decide +kernel
theorem dX1_isBetweenRaids_0 : decode cX1_isBetweenRaids 0 = .ok (.aload_n 0, 1) := by decide +kernel
theorem dX1_isBetweenRaids_1 : decode cX1_isBetweenRaids 1 = .ok (.getfield 28, 3) := by decide +kernel
theorem dX1_isBetweenRaids_4 : decode cX1_isBetweenRaids 4 = .ok (.ifCond .eq 14, 3) := by decide +kernel
theorem dX1_isBetweenRaids_7 : decode cX1_isBetweenRaids 7 = .ok (.aload_n 0, 1) := by decide +kernel
theorem dX1_isBetweenRaids_8 : decode cX1_isBetweenRaids 8 = .ok (.getfield 32, 3) := by decide +kernel
theorem dX1_isBetweenRaids_11 : decode cX1_isBetweenRaids 11 = .ok (.ifCond .ne 7, 3) := by decide +kernel
theorem dX1_isBetweenRaids_14 : decode cX1_isBetweenRaids 14 = .ok (.iconst 1, 1) := by decide +kernel
theorem dX1_isBetweenRaids_15 : decode cX1_isBetweenRaids 15 = .ok (.goto 4, 3) := by decide +kernel
theorem dX1_isBetweenRaids_18 : decode cX1_isBetweenRaids 18 = .ok (.iconst 0, 1) := by decide +kernel
theorem dX1_isBetweenRaids_19 : decode cX1_isBetweenRaids 19 = .ok (.ireturn, 1) := by decide +kernel
theorem dX1_isOver_0 : decode cX1_isOver 0 = .ok (.aload_n 0, 1) := by decide +kernel
theorem dX1_isOver_1 : decode cX1_isOver 1 = .ok (.invokevirtual 57, 3) := by decide +kernel
theorem dX1_isOver_4 : decode cX1_isOver 4 = .ok (.ifCond .eq 21, 3) := by decide +kernel
theorem dX1_isOver_7 : decode cX1_isOver 7 = .ok (.aload_n 0, 1) := by decide +kernel
theorem dX1_isOver_8 : decode cX1_isOver 8 = .ok (.getfield 20, 3) := by decide +kernel
theorem dX1_isOver_11 : decode cX1_isOver 11 = .ok (.getfield 61, 3) := by decide +kernel
theorem dX1_isOver_14 : decode cX1_isOver 14 = .ok (.aload_n 0, 1) := by decide +kernel
theorem dX1_isOver_15 : decode cX1_isOver 15 = .ok (.getfield 45, 3) := by decide +kernel
theorem dX1_isOver_18 : decode cX1_isOver 18 = .ok (.if_icmp .lt 7, 3) := by decide +kernel
theorem dX1_isOver_21 : decode cX1_isOver 21 = .ok (.iconst 1, 1) := by decide +kernel
theorem dX1_isOver_22 : decode cX1_isOver 22 = .ok (.goto 4, 3) := by decide +kernel
theorem dX1_isOver_25 : decode cX1_isOver 25 = .ok (.iconst 0, 1) := by decide +kernel
theorem dX1_isOver_26 : decode cX1_isOver 26 = .ok (.ireturn, 1) := by decide +kernel
theorem dX1_eventAt_0 : decode cX1_eventAt 0 = .ok (.iload_n 1, 1) := by decide +kernel
theorem dX1_eventAt_1 : decode cX1_eventAt 1 = .ok (.ifCond .lt 26, 3) := by decide +kernel
theorem dX1_eventAt_4 : decode cX1_eventAt 4 = .ok (.iload_n 1, 1) := by decide +kernel
theorem dX1_eventAt_5 : decode cX1_eventAt 5 = .ok (.aload_n 0, 1) := by decide +kernel
theorem dX1_eventAt_6 : decode cX1_eventAt 6 = .ok (.getfield 35, 3) := by decide +kernel
theorem dX1_eventAt_9 : decode cX1_eventAt 9 = .ok (.if_icmp .ge 18, 3) := by decide +kernel
theorem dX1_eventAt_12 : decode cX1_eventAt 12 = .ok (.iload_n 1, 1) := by decide +kernel
theorem dX1_eventAt_13 : decode cX1_eventAt 13 = .ok (.bipush 60, 2) := by decide +kernel
theorem dX1_eventAt_15 : decode cX1_eventAt 15 = .ok (.if_icmp .ge 12, 3) := by decide +kernel
theorem dX1_eventAt_18 : decode cX1_eventAt 18 = .ok (.aload_n 0, 1) := by decide +kernel
theorem dX1_eventAt_19 : decode cX1_eventAt 19 = .ok (.getfield 11, 3) := by decide +kernel
theorem dX1_eventAt_22 : decode cX1_eventAt 22 = .ok (.iload_n 1, 1) := by decide +kernel
theorem dX1_eventAt_23 : decode cX1_eventAt 23 = .ok (.aaload, 1) := by decide +kernel
theorem dX1_eventAt_24 : decode cX1_eventAt 24 = .ok (.goto 4, 3) := by decide +kernel
theorem dX1_eventAt_27 : decode cX1_eventAt 27 = .ok (.aconst_null, 1) := by decide +kernel
theorem dX1_eventAt_28 : decode cX1_eventAt 28 = .ok (.areturn, 1) := by decide +kernel
theorem dX1_raidGoingOn_0 : decode cX1_raidGoingOn 0 = .ok (.aload_n 0, 1) := by decide +kernel
theorem dX1_raidGoingOn_1 : decode cX1_raidGoingOn 1 = .ok (.getfield 32, 3) := by decide +kernel
theorem dX1_raidGoingOn_4 : decode cX1_raidGoingOn 4 = .ok (.ifCond .eq 16, 3) := by decide +kernel
theorem dX1_raidGoingOn_7 : decode cX1_raidGoingOn 7 = .ok (.aload_n 0, 1) := by decide +kernel
theorem dX1_raidGoingOn_8 : decode cX1_raidGoingOn 8 = .ok (.aload_n 0, 1) := by decide +kernel
theorem dX1_raidGoingOn_9 : decode cX1_raidGoingOn 9 = .ok (.getfield 35, 3) := by decide +kernel
theorem dX1_raidGoingOn_12 : decode cX1_raidGoingOn 12 = .ok (.iconst 1, 1) := by decide +kernel
theorem dX1_raidGoingOn_13 : decode cX1_raidGoingOn 13 = .ok (.isub, 1) := by decide +kernel
theorem dX1_raidGoingOn_14 : decode cX1_raidGoingOn 14 = .ok (.invokevirtual 64, 3) := by decide +kernel
theorem dX1_raidGoingOn_17 : decode cX1_raidGoingOn 17 = .ok (.goto 4, 3) := by decide +kernel
theorem dX1_raidGoingOn_20 : decode cX1_raidGoingOn 20 = .ok (.aconst_null, 1) := by decide +kernel
theorem dX1_raidGoingOn_21 : decode cX1_raidGoingOn 21 = .ok (.areturn, 1) := by decide +kernel
theorem dX1_addEvent_0 : decode cX1_addEvent 0 = .ok (.aload_n 0, 1) := by decide +kernel
theorem dX1_addEvent_1 : decode cX1_addEvent 1 = .ok (.getfield 35, 3) := by decide +kernel
theorem dX1_addEvent_4 : decode cX1_addEvent 4 = .ok (.ifCond .lt 12, 3) := by decide +kernel
theorem dX1_addEvent_7 : decode cX1_addEvent 7 = .ok (.aload_n 0, 1) := by decide +kernel
theorem dX1_addEvent_8 : decode cX1_addEvent 8 = .ok (.getfield 35, 3) := by decide +kernel
theorem dX1_addEvent_11 : decode cX1_addEvent 11 = .ok (.bipush 60, 2) := by decide +kernel
theorem dX1_addEvent_13 : decode cX1_addEvent 13 = .ok (.if_icmp .lt 5, 3) := by decide +kernel
theorem dX1_addEvent_16 : decode cX1_addEvent 16 = .ok (.aconst_null, 1) := by decide +kernel
theorem dX1_addEvent_17 : decode cX1_addEvent 17 = .ok (.areturn, 1) := by decide +kernel
theorem dX1_addEvent_18 : decode cX1_addEvent 18 = .ok (.aload_n 0, 1) := by decide +kernel
theorem dX1_addEvent_19 : decode cX1_addEvent 19 = .ok (.getfield 11, 3) := by decide +kernel
theorem dX1_addEvent_22 : decode cX1_addEvent 22 = .ok (.aload_n 0, 1) := by decide +kernel
theorem dX1_addEvent_23 : decode cX1_addEvent 23 = .ok (.getfield 35, 3) := by decide +kernel
theorem dX1_addEvent_26 : decode cX1_addEvent 26 = .ok (.aaload, 1) := by decide +kernel
theorem dX1_addEvent_27 : decode cX1_addEvent 27 = .ok (.astore 5, 2) := by decide +kernel
theorem dX1_addEvent_29 : decode cX1_addEvent 29 = .ok (.aload 5, 2) := by decide +kernel
theorem dX1_addEvent_31 : decode cX1_addEvent 31 = .ok (.ifnull 23, 3) := by decide +kernel
theorem dX1_addEvent_34 : decode cX1_addEvent 34 = .ok (.aload 5, 2) := by decide +kernel
theorem dX1_addEvent_36 : decode cX1_addEvent 36 = .ok (.iload_n 1, 1) := by decide +kernel
theorem dX1_addEvent_37 : decode cX1_addEvent 37 = .ok (.iload_n 2, 1) := by decide +kernel
theorem dX1_addEvent_38 : decode cX1_addEvent 38 = .ok (.iload_n 3, 1) := by decide +kernel
theorem dX1_addEvent_39 : decode cX1_addEvent 39 = .ok (.iload 4, 2) := by decide +kernel
theorem dX1_addEvent_41 : decode cX1_addEvent 41 = .ok (.invokevirtual 68, 3) := by decide +kernel
theorem dX1_addEvent_44 : decode cX1_addEvent 44 = .ok (.aload_n 0, 1) := by decide +kernel
theorem dX1_addEvent_45 : decode cX1_addEvent 45 = .ok (.dup, 1) := by decide +kernel
theorem dX1_addEvent_46 : decode cX1_addEvent 46 = .ok (.getfield 35, 3) := by decide +kernel
theorem dX1_addEvent_49 : decode cX1_addEvent 49 = .ok (.iconst 1, 1) := by decide +kernel
theorem dX1_addEvent_50 : decode cX1_addEvent 50 = .ok (.iadd, 1) := by decide +kernel
theorem dX1_addEvent_51 : decode cX1_addEvent 51 = .ok (.putfield 35, 3) := by decide +kernel
theorem dX1_addEvent_54 : decode cX1_addEvent 54 = .ok (.aload 5, 2) := by decide +kernel
theorem dX1_addEvent_56 : decode cX1_addEvent 56 = .ok (.areturn, 1) := by decide +kernel
theorem dX1_mayAdd_0 : decode cX1_mayAdd 0 = .ok (.aload_n 0, 1) := by decide +kernel
theorem dX1_mayAdd_1 : decode cX1_mayAdd 1 = .ok (.invokevirtual 57, 3) := by decide +kernel
theorem dX1_mayAdd_4 : decode cX1_mayAdd 4 = .ok (.ifCond .eq 16, 3) := by decide +kernel
theorem dX1_mayAdd_7 : decode cX1_mayAdd 7 = .ok (.aload_n 0, 1) := by decide +kernel
theorem dX1_mayAdd_8 : decode cX1_mayAdd 8 = .ok (.getfield 35, 3) := by decide +kernel
theorem dX1_mayAdd_11 : decode cX1_mayAdd 11 = .ok (.bipush 60, 2) := by decide +kernel
theorem dX1_mayAdd_13 : decode cX1_mayAdd 13 = .ok (.if_icmp .ge 7, 3) := by decide +kernel
theorem dX1_mayAdd_16 : decode cX1_mayAdd 16 = .ok (.iconst 1, 1) := by decide +kernel
theorem dX1_mayAdd_17 : decode cX1_mayAdd 17 = .ok (.goto 4, 3) := by decide +kernel
theorem dX1_mayAdd_20 : decode cX1_mayAdd 20 = .ok (.iconst 0, 1) := by decide +kernel
theorem dX1_mayAdd_21 : decode cX1_mayAdd 21 = .ok (.ireturn, 1) := by decide +kernel
theorem dX1_mayStartRaid_0 : decode cX1_mayStartRaid 0 = .ok (.aload_n 0, 1) := by decide +kernel
theorem dX1_mayStartRaid_1 : decode cX1_mayStartRaid 1 = .ok (.invokevirtual 72, 3) := by decide +kernel
theorem dX1_mayStartRaid_4 : decode cX1_mayStartRaid 4 = .ok (.ifCond .eq 42, 3) := by decide +kernel
theorem dX1_mayStartRaid_7 : decode cX1_mayStartRaid 7 = .ok (.aload_n 0, 1) := by decide +kernel
theorem dX1_mayStartRaid_8 : decode cX1_mayStartRaid 8 = .ok (.getfield 20, 3) := by decide +kernel
theorem dX1_mayStartRaid_11 : decode cX1_mayStartRaid 11 = .ok (.getfield 61, 3) := by decide +kernel
theorem dX1_mayStartRaid_14 : decode cX1_mayStartRaid 14 = .ok (.aload_n 0, 1) := by decide +kernel
theorem dX1_mayStartRaid_15 : decode cX1_mayStartRaid 15 = .ok (.getfield 45, 3) := by decide +kernel
theorem dX1_mayStartRaid_18 : decode cX1_mayStartRaid 18 = .ok (.if_icmp .ge 28, 3) := by decide +kernel
theorem dX1_mayStartRaid_21 : decode cX1_mayStartRaid 21 = .ok (.aload_n 0, 1) := by decide +kernel
theorem dX1_mayStartRaid_22 : decode cX1_mayStartRaid 22 = .ok (.getfield 20, 3) := by decide +kernel
theorem dX1_mayStartRaid_25 : decode cX1_mayStartRaid 25 = .ok (.aload_n 0, 1) := by decide +kernel
theorem dX1_mayStartRaid_26 : decode cX1_mayStartRaid 26 = .ok (.getfield 20, 3) := by decide +kernel
theorem dX1_mayStartRaid_29 : decode cX1_mayStartRaid 29 = .ok (.invokevirtual 75, 3) := by decide +kernel
theorem dX1_mayStartRaid_32 : decode cX1_mayStartRaid 32 = .ok (.invokevirtual 79, 3) := by decide +kernel
theorem dX1_mayStartRaid_35 : decode cX1_mayStartRaid 35 = .ok (.iload_n 1, 1) := by decide +kernel
theorem dX1_mayStartRaid_36 : decode cX1_mayStartRaid 36 = .ok (.invokevirtual 83, 3) := by decide +kernel
theorem dX1_mayStartRaid_39 : decode cX1_mayStartRaid 39 = .ok (.ifCond .eq 7, 3) := by decide +kernel
theorem dX1_mayStartRaid_42 : decode cX1_mayStartRaid 42 = .ok (.iconst 1, 1) := by decide +kernel
theorem dX1_mayStartRaid_43 : decode cX1_mayStartRaid 43 = .ok (.goto 4, 3) := by decide +kernel
theorem dX1_mayStartRaid_46 : decode cX1_mayStartRaid 46 = .ok (.iconst 0, 1) := by decide +kernel
theorem dX1_mayStartRaid_47 : decode cX1_mayStartRaid 47 = .ok (.ireturn, 1) := by decide +kernel
theorem dX1_startRaid_0 : decode cX1_startRaid 0 = .ok (.aload_n 0, 1) := by decide +kernel
theorem dX1_startRaid_1 : decode cX1_startRaid 1 = .ok (.iconst 0, 1) := by decide +kernel
theorem dX1_startRaid_2 : decode cX1_startRaid 2 = .ok (.aload_n 0, 1) := by decide +kernel
theorem dX1_startRaid_3 : decode cX1_startRaid 3 = .ok (.getfield 20, 3) := by decide +kernel
theorem dX1_startRaid_6 : decode cX1_startRaid 6 = .ok (.invokevirtual 75, 3) := by decide +kernel
theorem dX1_startRaid_9 : decode cX1_startRaid 9 = .ok (.iload_n 1, 1) := by decide +kernel
theorem dX1_startRaid_10 : decode cX1_startRaid 10 = .ok (.iconst (-1), 1) := by decide +kernel
theorem dX1_startRaid_11 : decode cX1_startRaid 11 = .ok (.invokevirtual 89, 3) := by decide +kernel
theorem dX1_startRaid_14 : decode cX1_startRaid 14 = .ok (.pop, 1) := by decide +kernel
theorem dX1_startRaid_15 : decode cX1_startRaid 15 = .ok (.aload_n 0, 1) := by decide +kernel
theorem dX1_startRaid_16 : decode cX1_startRaid 16 = .ok (.iconst 1, 1) := by decide +kernel
theorem dX1_startRaid_17 : decode cX1_startRaid 17 = .ok (.putfield 32, 3) := by decide +kernel
theorem dX1_startRaid_20 : decode cX1_startRaid 20 = .ok (.aload_n 0, 1) := by decide +kernel
theorem dX1_startRaid_21 : decode cX1_startRaid 21 = .ok (.getfield 35, 3) := by decide +kernel
theorem dX1_startRaid_24 : decode cX1_startRaid 24 = .ok (.iconst 1, 1) := by decide +kernel
theorem dX1_startRaid_25 : decode cX1_startRaid 25 = .ok (.isub, 1) := by decide +kernel
theorem dX1_startRaid_26 : decode cX1_startRaid 26 = .ok (.ireturn, 1) := by decide +kernel
theorem dX1_mayTell_0 : decode cX1_mayTell 0 = .ok (.aload_n 0, 1) := by decide +kernel
theorem dX1_mayTell_1 : decode cX1_mayTell 1 = .ok (.invokevirtual 93, 3) := by decide +kernel
theorem dX1_mayTell_4 : decode cX1_mayTell 4 = .ok (.astore 4, 2) := by decide +kernel
theorem dX1_mayTell_6 : decode cX1_mayTell 6 = .ok (.aload 4, 2) := by decide +kernel
theorem dX1_mayTell_8 : decode cX1_mayTell 8 = .ok (.ifnull 36, 3) := by decide +kernel
theorem dX1_mayTell_11 : decode cX1_mayTell 11 = .ok (.iload_n 3, 1) := by decide +kernel
theorem dX1_mayTell_12 : decode cX1_mayTell 12 = .ok (.aload 4, 2) := by decide +kernel
theorem dX1_mayTell_14 : decode cX1_mayTell 14 = .ok (.invokevirtual 97, 3) := by decide +kernel
theorem dX1_mayTell_17 : decode cX1_mayTell 17 = .ok (.if_icmp .le 27, 3) := by decide +kernel
theorem dX1_mayTell_20 : decode cX1_mayTell 20 = .ok (.aload_n 0, 1) := by decide +kernel
theorem dX1_mayTell_21 : decode cX1_mayTell 21 = .ok (.getfield 20, 3) := by decide +kernel
theorem dX1_mayTell_24 : decode cX1_mayTell 24 = .ok (.aload 4, 2) := by decide +kernel
theorem dX1_mayTell_26 : decode cX1_mayTell 26 = .ok (.aload 4, 2) := by decide +kernel
theorem dX1_mayTell_28 : decode cX1_mayTell 28 = .ok (.getfield 100, 3) := by decide +kernel
theorem dX1_mayTell_31 : decode cX1_mayTell 31 = .ok (.iload_n 1, 1) := by decide +kernel
theorem dX1_mayTell_32 : decode cX1_mayTell 32 = .ok (.iload_n 2, 1) := by decide +kernel
theorem dX1_mayTell_33 : decode cX1_mayTell 33 = .ok (.iload_n 3, 1) := by decide +kernel
theorem dX1_mayTell_34 : decode cX1_mayTell 34 = .ok (.invokevirtual 101, 3) := by decide +kernel
theorem dX1_mayTell_37 : decode cX1_mayTell 37 = .ok (.ifCond .eq 7, 3) := by decide +kernel
theorem dX1_mayTell_40 : decode cX1_mayTell 40 = .ok (.iconst 1, 1) := by decide +kernel
theorem dX1_mayTell_41 : decode cX1_mayTell 41 = .ok (.goto 4, 3) := by decide +kernel
theorem dX1_mayTell_44 : decode cX1_mayTell 44 = .ok (.iconst 0, 1) := by decide +kernel
theorem dX1_mayTell_45 : decode cX1_mayTell 45 = .ok (.ireturn, 1) := by decide +kernel
theorem dX1_tell_0 : decode cX1_tell 0 = .ok (.aload_n 0, 1) := by decide +kernel
theorem dX1_tell_1 : decode cX1_tell 1 = .ok (.invokevirtual 93, 3) := by decide +kernel
theorem dX1_tell_4 : decode cX1_tell 4 = .ok (.astore 4, 2) := by decide +kernel
theorem dX1_tell_6 : decode cX1_tell 6 = .ok (.aload 4, 2) := by decide +kernel
theorem dX1_tell_8 : decode cX1_tell 8 = .ok (.ifnonnull 5, 3) := by decide +kernel
theorem dX1_tell_11 : decode cX1_tell 11 = .ok (.iconst (-1), 1) := by decide +kernel
theorem dX1_tell_12 : decode cX1_tell 12 = .ok (.ireturn, 1) := by decide +kernel
theorem dX1_tell_13 : decode cX1_tell 13 = .ok (.aload 4, 2) := by decide +kernel
theorem dX1_tell_15 : decode cX1_tell 15 = .ok (.iload_n 1, 1) := by decide +kernel
theorem dX1_tell_16 : decode cX1_tell 16 = .ok (.iload_n 2, 1) := by decide +kernel
theorem dX1_tell_17 : decode cX1_tell 17 = .ok (.iload_n 3, 1) := by decide +kernel
theorem dX1_tell_18 : decode cX1_tell 18 = .ok (.invokevirtual 105, 3) := by decide +kernel
theorem dX1_tell_21 : decode cX1_tell 21 = .ok (.iload_n 1, 1) := by decide +kernel
theorem dX1_tell_22 : decode cX1_tell 22 = .ok (.invokestatic 109, 3) := by decide +kernel
theorem dX1_tell_25 : decode cX1_tell 25 = .ok (.ifCond .ne 5, 3) := by decide +kernel
theorem dX1_tell_28 : decode cX1_tell 28 = .ok (.iconst (-1), 1) := by decide +kernel
theorem dX1_tell_29 : decode cX1_tell 29 = .ok (.ireturn, 1) := by decide +kernel
theorem dX1_tell_30 : decode cX1_tell 30 = .ok (.aload_n 0, 1) := by decide +kernel
theorem dX1_tell_31 : decode cX1_tell 31 = .ok (.getfield 20, 3) := by decide +kernel
theorem dX1_tell_34 : decode cX1_tell 34 = .ok (.invokevirtual 75, 3) := by decide +kernel
theorem dX1_tell_37 : decode cX1_tell 37 = .ok (.istore 5, 2) := by decide +kernel
theorem dX1_tell_39 : decode cX1_tell 39 = .ok (.bipush 10, 2) := by decide +kernel
theorem dX1_tell_41 : decode cX1_tell 41 = .ok (.aload_n 0, 1) := by decide +kernel
theorem dX1_tell_42 : decode cX1_tell 42 = .ok (.iload 5, 2) := by decide +kernel
theorem dX1_tell_44 : decode cX1_tell 44 = .ok (.invokevirtual 112, 3) := by decide +kernel
theorem dX1_tell_47 : decode cX1_tell 47 = .ok (.imul, 1) := by decide +kernel
theorem dX1_tell_48 : decode cX1_tell 48 = .ok (.aload_n 0, 1) := by decide +kernel
theorem dX1_tell_49 : decode cX1_tell 49 = .ok (.iconst 1, 1) := by decide +kernel
theorem dX1_tell_50 : decode cX1_tell 50 = .ok (.iload 5, 2) := by decide +kernel
theorem dX1_tell_52 : decode cX1_tell 52 = .ok (.isub, 1) := by decide +kernel
theorem dX1_tell_53 : decode cX1_tell 53 = .ok (.invokevirtual 112, 3) := by decide +kernel
theorem dX1_tell_56 : decode cX1_tell 56 = .ok (.iadd, 1) := by decide +kernel
theorem dX1_tell_57 : decode cX1_tell 57 = .ok (.istore 6, 2) := by decide +kernel
theorem dX1_tell_59 : decode cX1_tell 59 = .ok (.aload_n 0, 1) := by decide +kernel
theorem dX1_tell_60 : decode cX1_tell 60 = .ok (.getfield 20, 3) := by decide +kernel
theorem dX1_tell_63 : decode cX1_tell 63 = .ok (.aload 4, 2) := by decide +kernel
theorem dX1_tell_65 : decode cX1_tell 65 = .ok (.invokevirtual 116, 3) := by decide +kernel
theorem dX1_tell_68 : decode cX1_tell 68 = .ok (.aload 4, 2) := by decide +kernel
theorem dX1_tell_70 : decode cX1_tell 70 = .ok (.aload_n 0, 1) := by decide +kernel
theorem dX1_tell_71 : decode cX1_tell 71 = .ok (.getfield 20, 3) := by decide +kernel
theorem dX1_tell_74 : decode cX1_tell 74 = .ok (.invokevirtual 120, 3) := by decide +kernel
theorem dX1_tell_77 : decode cX1_tell 77 = .ok (.aload_n 0, 1) := by decide +kernel
theorem dX1_tell_78 : decode cX1_tell 78 = .ok (.iconst 0, 1) := by decide +kernel
theorem dX1_tell_79 : decode cX1_tell 79 = .ok (.putfield 32, 3) := by decide +kernel
theorem dX1_tell_82 : decode cX1_tell 82 = .ok (.bipush 10, 2) := by decide +kernel
theorem dX1_tell_84 : decode cX1_tell 84 = .ok (.aload_n 0, 1) := by decide +kernel
theorem dX1_tell_85 : decode cX1_tell 85 = .ok (.iload 5, 2) := by decide +kernel
theorem dX1_tell_87 : decode cX1_tell 87 = .ok (.invokevirtual 112, 3) := by decide +kernel
theorem dX1_tell_90 : decode cX1_tell 90 = .ok (.imul, 1) := by decide +kernel
theorem dX1_tell_91 : decode cX1_tell 91 = .ok (.aload_n 0, 1) := by decide +kernel
theorem dX1_tell_92 : decode cX1_tell 92 = .ok (.iconst 1, 1) := by decide +kernel
theorem dX1_tell_93 : decode cX1_tell 93 = .ok (.iload 5, 2) := by decide +kernel
theorem dX1_tell_95 : decode cX1_tell 95 = .ok (.isub, 1) := by decide +kernel
theorem dX1_tell_96 : decode cX1_tell 96 = .ok (.invokevirtual 112, 3) := by decide +kernel
theorem dX1_tell_99 : decode cX1_tell 99 = .ok (.iadd, 1) := by decide +kernel
theorem dX1_tell_100 : decode cX1_tell 100 = .ok (.iload 6, 2) := by decide +kernel
theorem dX1_tell_102 : decode cX1_tell 102 = .ok (.isub, 1) := by decide +kernel
theorem dX1_tell_103 : decode cX1_tell 103 = .ok (.ireturn, 1) := by decide +kernel
theorem dX1_mayShowCard_0 : decode cX1_mayShowCard 0 = .ok (.aload_n 0, 1) := by decide +kernel
theorem dX1_mayShowCard_1 : decode cX1_mayShowCard 1 = .ok (.invokevirtual 72, 3) := by decide +kernel
theorem dX1_mayShowCard_4 : decode cX1_mayShowCard 4 = .ok (.ifCond .eq 23, 3) := by decide +kernel
theorem dX1_mayShowCard_7 : decode cX1_mayShowCard 7 = .ok (.aload_n 0, 1) := by decide +kernel
theorem dX1_mayShowCard_8 : decode cX1_mayShowCard 8 = .ok (.getfield 20, 3) := by decide +kernel
theorem dX1_mayShowCard_11 : decode cX1_mayShowCard 11 = .ok (.iload_n 1, 1) := by decide +kernel
theorem dX1_mayShowCard_12 : decode cX1_mayShowCard 12 = .ok (.invokevirtual 79, 3) := by decide +kernel
theorem dX1_mayShowCard_15 : decode cX1_mayShowCard 15 = .ok (.iload_n 2, 1) := by decide +kernel
theorem dX1_mayShowCard_16 : decode cX1_mayShowCard 16 = .ok (.iload_n 3, 1) := by decide +kernel
theorem dX1_mayShowCard_17 : decode cX1_mayShowCard 17 = .ok (.invokevirtual 124, 3) := by decide +kernel
theorem dX1_mayShowCard_20 : decode cX1_mayShowCard 20 = .ok (.ifCond .eq 7, 3) := by decide +kernel
theorem dX1_mayShowCard_23 : decode cX1_mayShowCard 23 = .ok (.iconst 1, 1) := by decide +kernel
theorem dX1_mayShowCard_24 : decode cX1_mayShowCard 24 = .ok (.goto 4, 3) := by decide +kernel
theorem dX1_mayShowCard_27 : decode cX1_mayShowCard 27 = .ok (.iconst 0, 1) := by decide +kernel
theorem dX1_mayShowCard_28 : decode cX1_mayShowCard 28 = .ok (.ireturn, 1) := by decide +kernel
theorem dX1_showCard_0 : decode cX1_showCard 0 = .ok (.aload_n 0, 1) := by decide +kernel
theorem dX1_showCard_1 : decode cX1_showCard 1 = .ok (.getfield 20, 3) := by decide +kernel
theorem dX1_showCard_4 : decode cX1_showCard 4 = .ok (.iload_n 1, 1) := by decide +kernel
theorem dX1_showCard_5 : decode cX1_showCard 5 = .ok (.invokevirtual 79, 3) := by decide +kernel
theorem dX1_showCard_8 : decode cX1_showCard 8 = .ok (.iload_n 2, 1) := by decide +kernel
theorem dX1_showCard_9 : decode cX1_showCard 9 = .ok (.iload_n 3, 1) := by decide +kernel
theorem dX1_showCard_10 : decode cX1_showCard 10 = .ok (.invokevirtual 128, 3) := by decide +kernel
theorem dX1_showCard_13 : decode cX1_showCard 13 = .ok (.istore 4, 2) := by decide +kernel
theorem dX1_showCard_15 : decode cX1_showCard 15 = .ok (.aload_n 0, 1) := by decide +kernel
theorem dX1_showCard_16 : decode cX1_showCard 16 = .ok (.iconst 1, 1) := by decide +kernel
theorem dX1_showCard_17 : decode cX1_showCard 17 = .ok (.iload_n 1, 1) := by decide +kernel
theorem dX1_showCard_18 : decode cX1_showCard 18 = .ok (.iload_n 2, 1) := by decide +kernel
theorem dX1_showCard_19 : decode cX1_showCard 19 = .ok (.iload_n 3, 1) := by decide +kernel
theorem dX1_showCard_20 : decode cX1_showCard 20 = .ok (.invokevirtual 89, 3) := by decide +kernel
theorem dX1_showCard_23 : decode cX1_showCard 23 = .ok (.astore 5, 2) := by decide +kernel
theorem dX1_showCard_25 : decode cX1_showCard 25 = .ok (.aload 5, 2) := by decide +kernel
theorem dX1_showCard_27 : decode cX1_showCard 27 = .ok (.ifnull 21, 3) := by decide +kernel
theorem dX1_showCard_30 : decode cX1_showCard 30 = .ok (.aload_n 0, 1) := by decide +kernel
theorem dX1_showCard_31 : decode cX1_showCard 31 = .ok (.getfield 20, 3) := by decide +kernel
theorem dX1_showCard_34 : decode cX1_showCard 34 = .ok (.aload 5, 2) := by decide +kernel
theorem dX1_showCard_36 : decode cX1_showCard 36 = .ok (.invokevirtual 116, 3) := by decide +kernel
theorem dX1_showCard_39 : decode cX1_showCard 39 = .ok (.aload 5, 2) := by decide +kernel
theorem dX1_showCard_41 : decode cX1_showCard 41 = .ok (.aload_n 0, 1) := by decide +kernel
theorem dX1_showCard_42 : decode cX1_showCard 42 = .ok (.getfield 20, 3) := by decide +kernel
theorem dX1_showCard_45 : decode cX1_showCard 45 = .ok (.invokevirtual 120, 3) := by decide +kernel
theorem dX1_showCard_48 : decode cX1_showCard 48 = .ok (.iload 4, 2) := by decide +kernel
theorem dX1_showCard_50 : decode cX1_showCard 50 = .ok (.ireturn, 1) := by decide +kernel
theorem dX1_maySwap_0 : decode cX1_maySwap 0 = .ok (.aload_n 0, 1) := by decide +kernel
theorem dX1_maySwap_1 : decode cX1_maySwap 1 = .ok (.invokevirtual 72, 3) := by decide +kernel
theorem dX1_maySwap_4 : decode cX1_maySwap 4 = .ok (.ifCond .eq 23, 3) := by decide +kernel
theorem dX1_maySwap_7 : decode cX1_maySwap 7 = .ok (.aload_n 0, 1) := by decide +kernel
theorem dX1_maySwap_8 : decode cX1_maySwap 8 = .ok (.getfield 20, 3) := by decide +kernel
theorem dX1_maySwap_11 : decode cX1_maySwap 11 = .ok (.iload_n 1, 1) := by decide +kernel
theorem dX1_maySwap_12 : decode cX1_maySwap 12 = .ok (.invokevirtual 79, 3) := by decide +kernel
theorem dX1_maySwap_15 : decode cX1_maySwap 15 = .ok (.iload_n 2, 1) := by decide +kernel
theorem dX1_maySwap_16 : decode cX1_maySwap 16 = .ok (.iload_n 3, 1) := by decide +kernel
theorem dX1_maySwap_17 : decode cX1_maySwap 17 = .ok (.invokevirtual 132, 3) := by decide +kernel
theorem dX1_maySwap_20 : decode cX1_maySwap 20 = .ok (.ifCond .eq 7, 3) := by decide +kernel
theorem dX1_maySwap_23 : decode cX1_maySwap 23 = .ok (.iconst 1, 1) := by decide +kernel
theorem dX1_maySwap_24 : decode cX1_maySwap 24 = .ok (.goto 4, 3) := by decide +kernel
theorem dX1_maySwap_27 : decode cX1_maySwap 27 = .ok (.iconst 0, 1) := by decide +kernel
theorem dX1_maySwap_28 : decode cX1_maySwap 28 = .ok (.ireturn, 1) := by decide +kernel
theorem dX1_swap_0 : decode cX1_swap 0 = .ok (.aload_n 0, 1) := by decide +kernel
theorem dX1_swap_1 : decode cX1_swap 1 = .ok (.iconst 2, 1) := by decide +kernel
theorem dX1_swap_2 : decode cX1_swap 2 = .ok (.iload_n 1, 1) := by decide +kernel
theorem dX1_swap_3 : decode cX1_swap 3 = .ok (.iload_n 2, 1) := by decide +kernel
theorem dX1_swap_4 : decode cX1_swap 4 = .ok (.iload_n 3, 1) := by decide +kernel
theorem dX1_swap_5 : decode cX1_swap 5 = .ok (.invokevirtual 89, 3) := by decide +kernel
theorem dX1_swap_8 : decode cX1_swap 8 = .ok (.astore 4, 2) := by decide +kernel
theorem dX1_swap_10 : decode cX1_swap 10 = .ok (.aload 4, 2) := by decide +kernel
theorem dX1_swap_12 : decode cX1_swap 12 = .ok (.ifnull 21, 3) := by decide +kernel
theorem dX1_swap_15 : decode cX1_swap 15 = .ok (.aload_n 0, 1) := by decide +kernel
theorem dX1_swap_16 : decode cX1_swap 16 = .ok (.getfield 20, 3) := by decide +kernel
theorem dX1_swap_19 : decode cX1_swap 19 = .ok (.aload 4, 2) := by decide +kernel
theorem dX1_swap_21 : decode cX1_swap 21 = .ok (.invokevirtual 116, 3) := by decide +kernel
theorem dX1_swap_24 : decode cX1_swap 24 = .ok (.aload 4, 2) := by decide +kernel
theorem dX1_swap_26 : decode cX1_swap 26 = .ok (.aload_n 0, 1) := by decide +kernel
theorem dX1_swap_27 : decode cX1_swap 27 = .ok (.getfield 20, 3) := by decide +kernel
theorem dX1_swap_30 : decode cX1_swap 30 = .ok (.invokevirtual 120, 3) := by decide +kernel
theorem dX1_swap_33 : decode cX1_swap 33 = .ok (.aload_n 0, 1) := by decide +kernel
theorem dX1_swap_34 : decode cX1_swap 34 = .ok (.getfield 20, 3) := by decide +kernel
theorem dX1_swap_37 : decode cX1_swap 37 = .ok (.iload_n 1, 1) := by decide +kernel
theorem dX1_swap_38 : decode cX1_swap 38 = .ok (.invokevirtual 79, 3) := by decide +kernel
theorem dX1_swap_41 : decode cX1_swap 41 = .ok (.getfield 135, 3) := by decide +kernel
theorem dX1_swap_44 : decode cX1_swap 44 = .ok (.ireturn, 1) := by decide +kernel
theorem dX1_stepsOf_0 : decode cX1_stepsOf 0 = .ok (.iload_n 1, 1) := by decide +kernel
theorem dX1_stepsOf_1 : decode cX1_stepsOf 1 = .ok (.aload_n 0, 1) := by decide +kernel
theorem dX1_stepsOf_2 : decode cX1_stepsOf 2 = .ok (.invokevirtual 138, 3) := by decide +kernel
theorem dX1_stepsOf_5 : decode cX1_stepsOf 5 = .ok (.if_icmp .ge 11, 3) := by decide +kernel
theorem dX1_stepsOf_8 : decode cX1_stepsOf 8 = .ok (.aload_n 0, 1) := by decide +kernel
theorem dX1_stepsOf_9 : decode cX1_stepsOf 9 = .ok (.iload_n 1, 1) := by decide +kernel
theorem dX1_stepsOf_10 : decode cX1_stepsOf 10 = .ok (.invokevirtual 64, 3) := by decide +kernel
theorem dX1_stepsOf_13 : decode cX1_stepsOf 13 = .ok (.goto 4, 3) := by decide +kernel
theorem dX1_stepsOf_16 : decode cX1_stepsOf 16 = .ok (.aconst_null, 1) := by decide +kernel
theorem dX1_stepsOf_17 : decode cX1_stepsOf 17 = .ok (.astore_n 2, 1) := by decide +kernel
theorem dX1_stepsOf_18 : decode cX1_stepsOf 18 = .ok (.aload_n 2, 1) := by decide +kernel
theorem dX1_stepsOf_19 : decode cX1_stepsOf 19 = .ok (.ifnull 17, 3) := by decide +kernel
theorem dX1_stepsOf_22 : decode cX1_stepsOf 22 = .ok (.aload_n 2, 1) := by decide +kernel
theorem dX1_stepsOf_23 : decode cX1_stepsOf 23 = .ok (.invokevirtual 141, 3) := by decide +kernel
theorem dX1_stepsOf_26 : decode cX1_stepsOf 26 = .ok (.ifCond .eq 10, 3) := by decide +kernel
theorem dX1_stepsOf_29 : decode cX1_stepsOf 29 = .ok (.aload_n 2, 1) := by decide +kernel
theorem dX1_stepsOf_30 : decode cX1_stepsOf 30 = .ok (.getfield 100, 3) := by decide +kernel
theorem dX1_stepsOf_33 : decode cX1_stepsOf 33 = .ok (.goto 4, 3) := by decide +kernel
theorem dX1_stepsOf_36 : decode cX1_stepsOf 36 = .ok (.iconst 0, 1) := by decide +kernel
theorem dX1_stepsOf_37 : decode cX1_stepsOf 37 = .ok (.ireturn, 1) := by decide +kernel
theorem dX1_keepsReview_0 : decode cX1_keepsReview 0 = .ok (.aload_n 0, 1) := by decide +kernel
theorem dX1_keepsReview_1 : decode cX1_keepsReview 1 = .ok (.getfield 48, 3) := by decide +kernel
theorem dX1_keepsReview_4 : decode cX1_keepsReview 4 = .ok (.iload_n 1, 1) := by decide +kernel
theorem dX1_keepsReview_5 : decode cX1_keepsReview 5 = .ok (.ishr, 1) := by decide +kernel
theorem dX1_keepsReview_6 : decode cX1_keepsReview 6 = .ok (.iconst 1, 1) := by decide +kernel
theorem dX1_keepsReview_7 : decode cX1_keepsReview 7 = .ok (.iand, 1) := by decide +kernel
theorem dX1_keepsReview_8 : decode cX1_keepsReview 8 = .ok (.ifCond .ne 7, 3) := by decide +kernel
theorem dX1_keepsReview_11 : decode cX1_keepsReview 11 = .ok (.iconst 1, 1) := by decide +kernel
theorem dX1_keepsReview_12 : decode cX1_keepsReview 12 = .ok (.goto 4, 3) := by decide +kernel
theorem dX1_keepsReview_15 : decode cX1_keepsReview 15 = .ok (.iconst 0, 1) := by decide +kernel
theorem dX1_keepsReview_16 : decode cX1_keepsReview 16 = .ok (.ireturn, 1) := by decide +kernel
theorem dX1_firstFallen_0 : decode cX1_firstFallen 0 = .ok (.aload_n 0, 1) := by decide +kernel
theorem dX1_firstFallen_1 : decode cX1_firstFallen 1 = .ok (.iload_n 1, 1) := by decide +kernel
theorem dX1_firstFallen_2 : decode cX1_firstFallen 2 = .ok (.invokevirtual 64, 3) := by decide +kernel
theorem dX1_firstFallen_5 : decode cX1_firstFallen 5 = .ok (.astore 5, 2) := by decide +kernel
theorem dX1_firstFallen_7 : decode cX1_firstFallen 7 = .ok (.aload 5, 2) := by decide +kernel
theorem dX1_firstFallen_9 : decode cX1_firstFallen 9 = .ok (.ifnull 19, 3) := by decide +kernel
theorem dX1_firstFallen_12 : decode cX1_firstFallen 12 = .ok (.aload 5, 2) := by decide +kernel
theorem dX1_firstFallen_14 : decode cX1_firstFallen 14 = .ok (.iload_n 2, 1) := by decide +kernel
theorem dX1_firstFallen_15 : decode cX1_firstFallen 15 = .ok (.invokevirtual 144, 3) := by decide +kernel
theorem dX1_firstFallen_18 : decode cX1_firstFallen 18 = .ok (.invokestatic 109, 3) := by decide +kernel
theorem dX1_firstFallen_21 : decode cX1_firstFallen 21 = .ok (.iload_n 3, 1) := by decide +kernel
theorem dX1_firstFallen_22 : decode cX1_firstFallen 22 = .ok (.invokestatic 109, 3) := by decide +kernel
theorem dX1_firstFallen_25 : decode cX1_firstFallen 25 = .ok (.if_icmp .eq 5, 3) := by decide +kernel
theorem dX1_firstFallen_28 : decode cX1_firstFallen 28 = .ok (.iload_n 1, 1) := by decide +kernel
theorem dX1_firstFallen_29 : decode cX1_firstFallen 29 = .ok (.ireturn, 1) := by decide +kernel
theorem dX1_firstFallen_30 : decode cX1_firstFallen 30 = .ok (.aload 5, 2) := by decide +kernel
theorem dX1_firstFallen_32 : decode cX1_firstFallen 32 = .ok (.iload_n 2, 1) := by decide +kernel
theorem dX1_firstFallen_33 : decode cX1_firstFallen 33 = .ok (.invokevirtual 144, 3) := by decide +kernel
theorem dX1_firstFallen_36 : decode cX1_firstFallen 36 = .ok (.istore 6, 2) := by decide +kernel
theorem dX1_firstFallen_38 : decode cX1_firstFallen 38 = .ok (.aload 5, 2) := by decide +kernel
theorem dX1_firstFallen_40 : decode cX1_firstFallen 40 = .ok (.iload_n 2, 1) := by decide +kernel
theorem dX1_firstFallen_41 : decode cX1_firstFallen 41 = .ok (.invokevirtual 147, 3) := by decide +kernel
theorem dX1_firstFallen_44 : decode cX1_firstFallen 44 = .ok (.istore 7, 2) := by decide +kernel
theorem dX1_firstFallen_46 : decode cX1_firstFallen 46 = .ok (.aload 5, 2) := by decide +kernel
theorem dX1_firstFallen_48 : decode cX1_firstFallen 48 = .ok (.iload_n 2, 1) := by decide +kernel
theorem dX1_firstFallen_49 : decode cX1_firstFallen 49 = .ok (.iload_n 3, 1) := by decide +kernel
theorem dX1_firstFallen_50 : decode cX1_firstFallen 50 = .ok (.iload 4, 2) := by decide +kernel
theorem dX1_firstFallen_52 : decode cX1_firstFallen 52 = .ok (.invokevirtual 150, 3) := by decide +kernel
theorem dX1_firstFallen_55 : decode cX1_firstFallen 55 = .ok (.aload_n 0, 1) := by decide +kernel
theorem dX1_firstFallen_56 : decode cX1_firstFallen 56 = .ok (.aload_n 0, 1) := by decide +kernel
theorem dX1_firstFallen_57 : decode cX1_firstFallen 57 = .ok (.invokevirtual 138, 3) := by decide +kernel
theorem dX1_firstFallen_60 : decode cX1_firstFallen 60 = .ok (.invokevirtual 153, 3) := by decide +kernel
theorem dX1_firstFallen_63 : decode cX1_firstFallen 63 = .ok (.istore 8, 2) := by decide +kernel
theorem dX1_firstFallen_65 : decode cX1_firstFallen 65 = .ok (.aload 5, 2) := by decide +kernel
theorem dX1_firstFallen_67 : decode cX1_firstFallen 67 = .ok (.iload_n 2, 1) := by decide +kernel
theorem dX1_firstFallen_68 : decode cX1_firstFallen 68 = .ok (.iload 6, 2) := by decide +kernel
theorem dX1_firstFallen_70 : decode cX1_firstFallen 70 = .ok (.iload 7, 2) := by decide +kernel
theorem dX1_firstFallen_72 : decode cX1_firstFallen 72 = .ok (.invokevirtual 150, 3) := by decide +kernel
theorem dX1_firstFallen_75 : decode cX1_firstFallen 75 = .ok (.iload 8, 2) := by decide +kernel
theorem dX1_firstFallen_77 : decode cX1_firstFallen 77 = .ok (.ireturn, 1) := by decide +kernel
theorem dX1_goThrough_0 : decode cX1_goThrough 0 = .ok (.aload_n 0, 1) := by decide +kernel
theorem dX1_goThrough_1 : decode cX1_goThrough 1 = .ok (.getfield 24, 3) := by decide +kernel
theorem dX1_goThrough_4 : decode cX1_goThrough 4 = .ok (.invokevirtual 51, 3) := by decide +kernel
theorem dX1_goThrough_7 : decode cX1_goThrough 7 = .ok (.iconst 0, 1) := by decide +kernel
theorem dX1_goThrough_8 : decode cX1_goThrough 8 = .ok (.istore_n 2, 1) := by decide +kernel
theorem dX1_goThrough_9 : decode cX1_goThrough 9 = .ok (.iload_n 2, 1) := by decide +kernel
theorem dX1_goThrough_10 : decode cX1_goThrough 10 = .ok (.iload_n 1, 1) := by decide +kernel
theorem dX1_goThrough_11 : decode cX1_goThrough 11 = .ok (.if_icmp .ge 47, 3) := by decide +kernel
theorem dX1_goThrough_14 : decode cX1_goThrough 14 = .ok (.iload_n 2, 1) := by decide +kernel
theorem dX1_goThrough_15 : decode cX1_goThrough 15 = .ok (.bipush 60, 2) := by decide +kernel
theorem dX1_goThrough_17 : decode cX1_goThrough 17 = .ok (.if_icmp .ge 41, 3) := by decide +kernel
theorem dX1_goThrough_20 : decode cX1_goThrough 20 = .ok (.aload_n 0, 1) := by decide +kernel
theorem dX1_goThrough_21 : decode cX1_goThrough 21 = .ok (.getfield 11, 3) := by decide +kernel
theorem dX1_goThrough_24 : decode cX1_goThrough 24 = .ok (.iload_n 2, 1) := by decide +kernel
theorem dX1_goThrough_25 : decode cX1_goThrough 25 = .ok (.aaload, 1) := by decide +kernel
theorem dX1_goThrough_26 : decode cX1_goThrough 26 = .ok (.astore_n 3, 1) := by decide +kernel
theorem dX1_goThrough_27 : decode cX1_goThrough 27 = .ok (.aload_n 3, 1) := by decide +kernel
theorem dX1_goThrough_28 : decode cX1_goThrough 28 = .ok (.ifnull 14, 3) := by decide +kernel
theorem dX1_goThrough_31 : decode cX1_goThrough 31 = .ok (.aload_n 0, 1) := by decide +kernel
theorem dX1_goThrough_32 : decode cX1_goThrough 32 = .ok (.getfield 24, 3) := by decide +kernel
theorem dX1_goThrough_35 : decode cX1_goThrough 35 = .ok (.aload_n 3, 1) := by decide +kernel
theorem dX1_goThrough_36 : decode cX1_goThrough 36 = .ok (.invokevirtual 156, 3) := by decide +kernel
theorem dX1_goThrough_39 : decode cX1_goThrough 39 = .ok (.ifCond .ne 5, 3) := by decide +kernel
theorem dX1_goThrough_42 : decode cX1_goThrough 42 = .ok (.iload_n 2, 1) := by decide +kernel
theorem dX1_goThrough_43 : decode cX1_goThrough 43 = .ok (.ireturn, 1) := by decide +kernel
theorem dX1_goThrough_44 : decode cX1_goThrough 44 = .ok (.aload_n 0, 1) := by decide +kernel
theorem dX1_goThrough_45 : decode cX1_goThrough 45 = .ok (.getfield 24, 3) := by decide +kernel
theorem dX1_goThrough_48 : decode cX1_goThrough 48 = .ok (.aload_n 3, 1) := by decide +kernel
theorem dX1_goThrough_49 : decode cX1_goThrough 49 = .ok (.invokevirtual 116, 3) := by decide +kernel
theorem dX1_goThrough_52 : decode cX1_goThrough 52 = .ok (.iinc 2 1, 3) := by decide +kernel
theorem dX1_goThrough_55 : decode cX1_goThrough 55 = .ok (.goto (-46), 3) := by decide +kernel
theorem dX1_goThrough_58 : decode cX1_goThrough 58 = .ok (.iconst (-1), 1) := by decide +kernel
theorem dX1_goThrough_59 : decode cX1_goThrough 59 = .ok (.ireturn, 1) := by decide +kernel
theorem dX1_playAllAnew_0 : decode cX1_playAllAnew 0 = .ok (.aload_n 0, 1) := by decide +kernel
theorem dX1_playAllAnew_1 : decode cX1_playAllAnew 1 = .ok (.getfield 20, 3) := by decide +kernel
theorem dX1_playAllAnew_4 : decode cX1_playAllAnew 4 = .ok (.invokevirtual 51, 3) := by decide +kernel
theorem dX1_playAllAnew_7 : decode cX1_playAllAnew 7 = .ok (.iconst 0, 1) := by decide +kernel
theorem dX1_playAllAnew_8 : decode cX1_playAllAnew 8 = .ok (.istore_n 1, 1) := by decide +kernel
theorem dX1_playAllAnew_9 : decode cX1_playAllAnew 9 = .ok (.iload_n 1, 1) := by decide +kernel
theorem dX1_playAllAnew_10 : decode cX1_playAllAnew 10 = .ok (.aload_n 0, 1) := by decide +kernel
theorem dX1_playAllAnew_11 : decode cX1_playAllAnew 11 = .ok (.getfield 35, 3) := by decide +kernel
theorem dX1_playAllAnew_14 : decode cX1_playAllAnew 14 = .ok (.if_icmp .ge 42, 3) := by decide +kernel
theorem dX1_playAllAnew_17 : decode cX1_playAllAnew 17 = .ok (.iload_n 1, 1) := by decide +kernel
theorem dX1_playAllAnew_18 : decode cX1_playAllAnew 18 = .ok (.bipush 60, 2) := by decide +kernel
theorem dX1_playAllAnew_20 : decode cX1_playAllAnew 20 = .ok (.if_icmp .ge 36, 3) := by decide +kernel
theorem dX1_playAllAnew_23 : decode cX1_playAllAnew 23 = .ok (.aload_n 0, 1) := by decide +kernel
theorem dX1_playAllAnew_24 : decode cX1_playAllAnew 24 = .ok (.getfield 11, 3) := by decide +kernel
theorem dX1_playAllAnew_27 : decode cX1_playAllAnew 27 = .ok (.iload_n 1, 1) := by decide +kernel
theorem dX1_playAllAnew_28 : decode cX1_playAllAnew 28 = .ok (.aaload, 1) := by decide +kernel
theorem dX1_playAllAnew_29 : decode cX1_playAllAnew 29 = .ok (.astore_n 2, 1) := by decide +kernel
theorem dX1_playAllAnew_30 : decode cX1_playAllAnew 30 = .ok (.aload_n 2, 1) := by decide +kernel
theorem dX1_playAllAnew_31 : decode cX1_playAllAnew 31 = .ok (.ifnull 19, 3) := by decide +kernel
theorem dX1_playAllAnew_34 : decode cX1_playAllAnew 34 = .ok (.aload_n 0, 1) := by decide +kernel
theorem dX1_playAllAnew_35 : decode cX1_playAllAnew 35 = .ok (.getfield 20, 3) := by decide +kernel
theorem dX1_playAllAnew_38 : decode cX1_playAllAnew 38 = .ok (.aload_n 2, 1) := by decide +kernel
theorem dX1_playAllAnew_39 : decode cX1_playAllAnew 39 = .ok (.invokevirtual 116, 3) := by decide +kernel
theorem dX1_playAllAnew_42 : decode cX1_playAllAnew 42 = .ok (.aload_n 2, 1) := by decide +kernel
theorem dX1_playAllAnew_43 : decode cX1_playAllAnew 43 = .ok (.aload_n 0, 1) := by decide +kernel
theorem dX1_playAllAnew_44 : decode cX1_playAllAnew 44 = .ok (.getfield 20, 3) := by decide +kernel
theorem dX1_playAllAnew_47 : decode cX1_playAllAnew 47 = .ok (.invokevirtual 120, 3) := by decide +kernel
theorem dX1_playAllAnew_50 : decode cX1_playAllAnew 50 = .ok (.iinc 1 1, 3) := by decide +kernel
theorem dX1_playAllAnew_53 : decode cX1_playAllAnew 53 = .ok (.goto (-44), 3) := by decide +kernel
theorem dX1_playAllAnew_56 : decode cX1_playAllAnew 56 = .ok (.return_, 1) := by decide +kernel
theorem dX1_amend_0 : decode cX1_amend 0 = .ok (.aload_n 0, 1) := by decide +kernel
theorem dX1_amend_1 : decode cX1_amend 1 = .ok (.iload_n 1, 1) := by decide +kernel
theorem dX1_amend_2 : decode cX1_amend 2 = .ok (.invokevirtual 160, 3) := by decide +kernel
theorem dX1_amend_5 : decode cX1_amend 5 = .ok (.istore 6, 2) := by decide +kernel
theorem dX1_amend_7 : decode cX1_amend 7 = .ok (.aload_n 0, 1) := by decide +kernel
theorem dX1_amend_8 : decode cX1_amend 8 = .ok (.iload_n 2, 1) := by decide +kernel
theorem dX1_amend_9 : decode cX1_amend 9 = .ok (.invokevirtual 64, 3) := by decide +kernel
theorem dX1_amend_12 : decode cX1_amend 12 = .ok (.astore 7, 2) := by decide +kernel
theorem dX1_amend_14 : decode cX1_amend 14 = .ok (.aload 7, 2) := by decide +kernel
theorem dX1_amend_16 : decode cX1_amend 16 = .ok (.ifnull 17, 3) := by decide +kernel
theorem dX1_amend_19 : decode cX1_amend 19 = .ok (.aload 7, 2) := by decide +kernel
theorem dX1_amend_21 : decode cX1_amend 21 = .ok (.iload_n 3, 1) := by decide +kernel
theorem dX1_amend_22 : decode cX1_amend 22 = .ok (.iload 4, 2) := by decide +kernel
theorem dX1_amend_24 : decode cX1_amend 24 = .ok (.iload 5, 2) := by decide +kernel
theorem dX1_amend_26 : decode cX1_amend 26 = .ok (.invokevirtual 150, 3) := by decide +kernel
theorem dX1_amend_29 : decode cX1_amend 29 = .ok (.aload_n 0, 1) := by decide +kernel
theorem dX1_amend_30 : decode cX1_amend 30 = .ok (.invokevirtual 163, 3) := by decide +kernel
theorem dX1_amend_33 : decode cX1_amend 33 = .ok (.aload_n 0, 1) := by decide +kernel
theorem dX1_amend_34 : decode cX1_amend 34 = .ok (.iload_n 1, 1) := by decide +kernel
theorem dX1_amend_35 : decode cX1_amend 35 = .ok (.invokevirtual 160, 3) := by decide +kernel
theorem dX1_amend_38 : decode cX1_amend 38 = .ok (.iload 6, 2) := by decide +kernel
theorem dX1_amend_40 : decode cX1_amend 40 = .ok (.isub, 1) := by decide +kernel
theorem dX1_amend_41 : decode cX1_amend 41 = .ok (.istore 8, 2) := by decide +kernel
theorem dX1_amend_43 : decode cX1_amend 43 = .ok (.iload 8, 2) := by decide +kernel
theorem dX1_amend_45 : decode cX1_amend 45 = .ok (.ifCond .gt 15, 3) := by decide +kernel
theorem dX1_amend_48 : decode cX1_amend 48 = .ok (.aload_n 0, 1) := by decide +kernel
theorem dX1_amend_49 : decode cX1_amend 49 = .ok (.dup, 1) := by decide +kernel
theorem dX1_amend_50 : decode cX1_amend 50 = .ok (.getfield 48, 3) := by decide +kernel
theorem dX1_amend_53 : decode cX1_amend 53 = .ok (.iconst 1, 1) := by decide +kernel
theorem dX1_amend_54 : decode cX1_amend 54 = .ok (.iload_n 1, 1) := by decide +kernel
theorem dX1_amend_55 : decode cX1_amend 55 = .ok (.ishl, 1) := by decide +kernel
theorem dX1_amend_56 : decode cX1_amend 56 = .ok (.ior, 1) := by decide +kernel
theorem dX1_amend_57 : decode cX1_amend 57 = .ok (.putfield 48, 3) := by decide +kernel
theorem dX1_amend_60 : decode cX1_amend 60 = .ok (.iload 8, 2) := by decide +kernel
theorem dX1_amend_62 : decode cX1_amend 62 = .ok (.ireturn, 1) := by decide +kernel
theorem dX1_leadOf_0 : decode cX1_leadOf 0 = .ok (.aload_n 0, 1) := by decide +kernel
theorem dX1_leadOf_1 : decode cX1_leadOf 1 = .ok (.iload_n 1, 1) := by decide +kernel
theorem dX1_leadOf_2 : decode cX1_leadOf 2 = .ok (.invokevirtual 112, 3) := by decide +kernel
theorem dX1_leadOf_5 : decode cX1_leadOf 5 = .ok (.aload_n 0, 1) := by decide +kernel
theorem dX1_leadOf_6 : decode cX1_leadOf 6 = .ok (.iconst 1, 1) := by decide +kernel
theorem dX1_leadOf_7 : decode cX1_leadOf 7 = .ok (.iload_n 1, 1) := by decide +kernel
theorem dX1_leadOf_8 : decode cX1_leadOf 8 = .ok (.isub, 1) := by decide +kernel
theorem dX1_leadOf_9 : decode cX1_leadOf 9 = .ok (.invokevirtual 112, 3) := by decide +kernel
theorem dX1_leadOf_12 : decode cX1_leadOf 12 = .ok (.isub, 1) := by decide +kernel
theorem dX1_leadOf_13 : decode cX1_leadOf 13 = .ok (.ireturn, 1) := by decide +kernel
theorem dX1_dropFrom_0 : decode cX1_dropFrom 0 = .ok (.aload_n 0, 1) := by decide +kernel
theorem dX1_dropFrom_1 : decode cX1_dropFrom 1 = .ok (.getfield 35, 3) := by decide +kernel
theorem dX1_dropFrom_4 : decode cX1_dropFrom 4 = .ok (.iload_n 1, 1) := by decide +kernel
theorem dX1_dropFrom_5 : decode cX1_dropFrom 5 = .ok (.isub, 1) := by decide +kernel
theorem dX1_dropFrom_6 : decode cX1_dropFrom 6 = .ok (.istore_n 2, 1) := by decide +kernel
theorem dX1_dropFrom_7 : decode cX1_dropFrom 7 = .ok (.aload_n 0, 1) := by decide +kernel
theorem dX1_dropFrom_8 : decode cX1_dropFrom 8 = .ok (.iload_n 1, 1) := by decide +kernel
theorem dX1_dropFrom_9 : decode cX1_dropFrom 9 = .ok (.putfield 35, 3) := by decide +kernel
theorem dX1_dropFrom_12 : decode cX1_dropFrom 12 = .ok (.aload_n 0, 1) := by decide +kernel
theorem dX1_dropFrom_13 : decode cX1_dropFrom 13 = .ok (.iconst 0, 1) := by decide +kernel
theorem dX1_dropFrom_14 : decode cX1_dropFrom 14 = .ok (.putfield 32, 3) := by decide +kernel
theorem dX1_dropFrom_17 : decode cX1_dropFrom 17 = .ok (.aload_n 0, 1) := by decide +kernel
theorem dX1_dropFrom_18 : decode cX1_dropFrom 18 = .ok (.invokevirtual 163, 3) := by decide +kernel
theorem dX1_dropFrom_21 : decode cX1_dropFrom 21 = .ok (.iload_n 2, 1) := by decide +kernel
theorem dX1_dropFrom_22 : decode cX1_dropFrom 22 = .ok (.ireturn, 1) := by decide +kernel
theorem dX1_sideNow_0 : decode cX1_sideNow 0 = .ok (.aload_n 0, 1) := by decide +kernel
theorem dX1_sideNow_1 : decode cX1_sideNow 1 = .ok (.getfield 20, 3) := by decide +kernel
theorem dX1_sideNow_4 : decode cX1_sideNow 4 = .ok (.iload_n 1, 1) := by decide +kernel
theorem dX1_sideNow_5 : decode cX1_sideNow 5 = .ok (.invokevirtual 79, 3) := by decide +kernel
theorem dX1_sideNow_8 : decode cX1_sideNow 8 = .ok (.areturn, 1) := by decide +kernel
theorem dX1_pointsOf_0 : decode cX1_pointsOf 0 = .ok (.aload_n 0, 1) := by decide +kernel
theorem dX1_pointsOf_1 : decode cX1_pointsOf 1 = .ok (.getfield 20, 3) := by decide +kernel
theorem dX1_pointsOf_4 : decode cX1_pointsOf 4 = .ok (.iload_n 1, 1) := by decide +kernel
theorem dX1_pointsOf_5 : decode cX1_pointsOf 5 = .ok (.invokevirtual 79, 3) := by decide +kernel
theorem dX1_pointsOf_8 : decode cX1_pointsOf 8 = .ok (.getfield 166, 3) := by decide +kernel
theorem dX1_pointsOf_11 : decode cX1_pointsOf 11 = .ok (.ireturn, 1) := by decide +kernel
theorem dX1_clubOf_0 : decode cX1_clubOf 0 = .ok (.iload_n 1, 1) := by decide +kernel
theorem dX1_clubOf_1 : decode cX1_clubOf 1 = .ok (.ifCond .ne 10, 3) := by decide +kernel
theorem dX1_clubOf_4 : decode cX1_clubOf 4 = .ok (.aload_n 0, 1) := by decide +kernel
theorem dX1_clubOf_5 : decode cX1_clubOf 5 = .ok (.getfield 39, 3) := by decide +kernel
theorem dX1_clubOf_8 : decode cX1_clubOf 8 = .ok (.goto 7, 3) := by decide +kernel
theorem dX1_clubOf_11 : decode cX1_clubOf 11 = .ok (.aload_n 0, 1) := by decide +kernel
theorem dX1_clubOf_12 : decode cX1_clubOf 12 = .ok (.getfield 42, 3) := by decide +kernel
theorem dX1_clubOf_15 : decode cX1_clubOf 15 = .ok (.ireturn, 1) := by decide +kernel
theorem dX1_tellOf_0 : decode cX1_tellOf 0 = .ok (.iload_n 1, 1) := by decide +kernel
theorem dX1_tellOf_1 : decode cX1_tellOf 1 = .ok (.tableswitch 102 0 5 #[39, 47, 55, 60, 73, 89], 39) := by decide +kernel
theorem dX1_tellOf_40 : decode cX1_tellOf 40 = .ok (.aload_n 0, 1) := by decide +kernel
theorem dX1_tellOf_41 : decode cX1_tellOf 41 = .ok (.getfield 20, 3) := by decide +kernel
theorem dX1_tellOf_44 : decode cX1_tellOf 44 = .ok (.getfield 61, 3) := by decide +kernel
theorem dX1_tellOf_47 : decode cX1_tellOf 47 = .ok (.ireturn, 1) := by decide +kernel
theorem dX1_tellOf_48 : decode cX1_tellOf 48 = .ok (.aload_n 0, 1) := by decide +kernel
theorem dX1_tellOf_49 : decode cX1_tellOf 49 = .ok (.getfield 20, 3) := by decide +kernel
theorem dX1_tellOf_52 : decode cX1_tellOf 52 = .ok (.invokevirtual 75, 3) := by decide +kernel
theorem dX1_tellOf_55 : decode cX1_tellOf 55 = .ok (.ireturn, 1) := by decide +kernel
theorem dX1_tellOf_56 : decode cX1_tellOf 56 = .ok (.aload_n 0, 1) := by decide +kernel
theorem dX1_tellOf_57 : decode cX1_tellOf 57 = .ok (.getfield 35, 3) := by decide +kernel
theorem dX1_tellOf_60 : decode cX1_tellOf 60 = .ok (.ireturn, 1) := by decide +kernel
theorem dX1_tellOf_61 : decode cX1_tellOf 61 = .ok (.aload_n 0, 1) := by decide +kernel
theorem dX1_tellOf_62 : decode cX1_tellOf 62 = .ok (.getfield 32, 3) := by decide +kernel
theorem dX1_tellOf_65 : decode cX1_tellOf 65 = .ok (.ifCond .eq 7, 3) := by decide +kernel
theorem dX1_tellOf_68 : decode cX1_tellOf 68 = .ok (.iconst 1, 1) := by decide +kernel
theorem dX1_tellOf_69 : decode cX1_tellOf 69 = .ok (.goto 4, 3) := by decide +kernel
theorem dX1_tellOf_72 : decode cX1_tellOf 72 = .ok (.iconst 0, 1) := by decide +kernel
theorem dX1_tellOf_73 : decode cX1_tellOf 73 = .ok (.ireturn, 1) := by decide +kernel
theorem dX1_tellOf_74 : decode cX1_tellOf 74 = .ok (.aload_n 0, 1) := by decide +kernel
theorem dX1_tellOf_75 : decode cX1_tellOf 75 = .ok (.getfield 20, 3) := by decide +kernel
theorem dX1_tellOf_78 : decode cX1_tellOf 78 = .ok (.invokevirtual 169, 3) := by decide +kernel
theorem dX1_tellOf_81 : decode cX1_tellOf 81 = .ok (.ifCond .eq 7, 3) := by decide +kernel
theorem dX1_tellOf_84 : decode cX1_tellOf 84 = .ok (.iconst 1, 1) := by decide +kernel
theorem dX1_tellOf_85 : decode cX1_tellOf 85 = .ok (.goto 4, 3) := by decide +kernel
theorem dX1_tellOf_88 : decode cX1_tellOf 88 = .ok (.iconst 0, 1) := by decide +kernel
theorem dX1_tellOf_89 : decode cX1_tellOf 89 = .ok (.ireturn, 1) := by decide +kernel
theorem dX1_tellOf_90 : decode cX1_tellOf 90 = .ok (.aload_n 0, 1) := by decide +kernel
theorem dX1_tellOf_91 : decode cX1_tellOf 91 = .ok (.invokevirtual 172, 3) := by decide +kernel
theorem dX1_tellOf_94 : decode cX1_tellOf 94 = .ok (.ifCond .eq 7, 3) := by decide +kernel
theorem dX1_tellOf_97 : decode cX1_tellOf 97 = .ok (.iconst 1, 1) := by decide +kernel
theorem dX1_tellOf_98 : decode cX1_tellOf 98 = .ok (.goto 4, 3) := by decide +kernel
theorem dX1_tellOf_101 : decode cX1_tellOf 101 = .ok (.iconst 0, 1) := by decide +kernel
theorem dX1_tellOf_102 : decode cX1_tellOf 102 = .ok (.ireturn, 1) := by decide +kernel
theorem dX1_tellOf_103 : decode cX1_tellOf 103 = .ok (.aload_n 0, 1) := by decide +kernel
theorem dX1_tellOf_104 : decode cX1_tellOf 104 = .ok (.iload_n 1, 1) := by decide +kernel
theorem dX1_tellOf_105 : decode cX1_tellOf 105 = .ok (.bipush 6, 2) := by decide +kernel
theorem dX1_tellOf_107 : decode cX1_tellOf 107 = .ok (.isub, 1) := by decide +kernel
theorem dX1_tellOf_108 : decode cX1_tellOf 108 = .ok (.invokevirtual 175, 3) := by decide +kernel
theorem dX1_tellOf_111 : decode cX1_tellOf 111 = .ok (.ireturn, 1) := by decide +kernel
theorem dX1_onAfter_0 : decode cX1_onAfter 0 = .ok (.aload_n 0, 1) := by decide +kernel
theorem dX1_onAfter_1 : decode cX1_onAfter 1 = .ok (.iload_n 1, 1) := by decide +kernel
theorem dX1_onAfter_2 : decode cX1_onAfter 2 = .ok (.invokevirtual 64, 3) := by decide +kernel
theorem dX1_onAfter_5 : decode cX1_onAfter 5 = .ok (.astore_n 3, 1) := by decide +kernel
theorem dX1_onAfter_6 : decode cX1_onAfter 6 = .ok (.aload_n 3, 1) := by decide +kernel
theorem dX1_onAfter_7 : decode cX1_onAfter 7 = .ok (.ifnonnull 7, 3) := by decide +kernel
theorem dX1_onAfter_10 : decode cX1_onAfter 10 = .ok (.iconst 0, 1) := by decide +kernel
theorem dX1_onAfter_11 : decode cX1_onAfter 11 = .ok (.goto 8, 3) := by decide +kernel
theorem dX1_onAfter_14 : decode cX1_onAfter 14 = .ok (.aload_n 3, 1) := by decide +kernel
theorem dX1_onAfter_15 : decode cX1_onAfter 15 = .ok (.iload_n 2, 1) := by decide +kernel
theorem dX1_onAfter_16 : decode cX1_onAfter 16 = .ok (.invokevirtual 178, 3) := by decide +kernel
theorem dX1_onAfter_19 : decode cX1_onAfter 19 = .ok (.ireturn, 1) := by decide +kernel
theorem dX1_onAnew_0 : decode cX1_onAnew 0 = .ok (.aload_n 0, 1) := by decide +kernel
theorem dX1_onAnew_1 : decode cX1_onAnew 1 = .ok (.iload_n 1, 1) := by decide +kernel
theorem dX1_onAnew_2 : decode cX1_onAnew 2 = .ok (.iconst 1, 1) := by decide +kernel
theorem dX1_onAnew_3 : decode cX1_onAnew 3 = .ok (.iadd, 1) := by decide +kernel
theorem dX1_onAnew_4 : decode cX1_onAnew 4 = .ok (.invokevirtual 153, 3) := by decide +kernel
theorem dX1_onAnew_7 : decode cX1_onAnew 7 = .ok (.pop, 1) := by decide +kernel
theorem dX1_onAnew_8 : decode cX1_onAnew 8 = .ok (.aload_n 0, 1) := by decide +kernel
theorem dX1_onAnew_9 : decode cX1_onAnew 9 = .ok (.getfield 24, 3) := by decide +kernel
theorem dX1_onAnew_12 : decode cX1_onAnew 12 = .ok (.iload_n 2, 1) := by decide +kernel
theorem dX1_onAnew_13 : decode cX1_onAnew 13 = .ok (.invokevirtual 79, 3) := by decide +kernel
theorem dX1_onAnew_16 : decode cX1_onAnew 16 = .ok (.invokevirtual 181, 3) := by decide +kernel
theorem dX1_onAnew_19 : decode cX1_onAnew 19 = .ok (.ireturn, 1) := by decide +kernel
theorem dX1_pointsBehind_0 : decode cX1_pointsBehind 0 = .ok (.aload_n 0, 1) := by decide +kernel
theorem dX1_pointsBehind_1 : decode cX1_pointsBehind 1 = .ok (.iload_n 1, 1) := by decide +kernel
theorem dX1_pointsBehind_2 : decode cX1_pointsBehind 2 = .ok (.invokevirtual 64, 3) := by decide +kernel
theorem dX1_pointsBehind_5 : decode cX1_pointsBehind 5 = .ok (.astore_n 3, 1) := by decide +kernel
theorem dX1_pointsBehind_6 : decode cX1_pointsBehind 6 = .ok (.aload_n 3, 1) := by decide +kernel
theorem dX1_pointsBehind_7 : decode cX1_pointsBehind 7 = .ok (.ifnonnull 7, 3) := by decide +kernel
theorem dX1_pointsBehind_10 : decode cX1_pointsBehind 10 = .ok (.iconst 0, 1) := by decide +kernel
theorem dX1_pointsBehind_11 : decode cX1_pointsBehind 11 = .ok (.goto 8, 3) := by decide +kernel
theorem dX1_pointsBehind_14 : decode cX1_pointsBehind 14 = .ok (.aload_n 3, 1) := by decide +kernel
theorem dX1_pointsBehind_15 : decode cX1_pointsBehind 15 = .ok (.iload_n 2, 1) := by decide +kernel
theorem dX1_pointsBehind_16 : decode cX1_pointsBehind 16 = .ok (.invokevirtual 184, 3) := by decide +kernel
theorem dX1_pointsBehind_19 : decode cX1_pointsBehind 19 = .ok (.ireturn, 1) := by decide +kernel
theorem dX2_init_0 : decode cX2_init 0 = .ok (.aload_n 0, 1) := by decide +kernel
theorem dX2_init_1 : decode cX2_init 1 = .ok (.invokespecial 3, 3) := by decide +kernel
theorem dX2_init_4 : decode cX2_init 4 = .ok (.aload_n 0, 1) := by decide +kernel
theorem dX2_init_5 : decode cX2_init 5 = .ok (.bipush 10, 2) := by decide +kernel
theorem dX2_init_7 : decode cX2_init 7 = .ok (.newarray .int, 2) := by decide +kernel
theorem dX2_init_9 : decode cX2_init 9 = .ok (.putfield 9, 3) := by decide +kernel
theorem dX2_init_12 : decode cX2_init 12 = .ok (.aload_n 0, 1) := by decide +kernel
theorem dX2_init_13 : decode cX2_init 13 = .ok (.bipush 10, 2) := by decide +kernel
theorem dX2_init_15 : decode cX2_init 15 = .ok (.newarray .int, 2) := by decide +kernel
theorem dX2_init_17 : decode cX2_init 17 = .ok (.putfield 15, 3) := by decide +kernel
theorem dX2_init_20 : decode cX2_init 20 = .ok (.aload_n 0, 1) := by decide +kernel
theorem dX2_init_21 : decode cX2_init 21 = .ok (.bipush 10, 2) := by decide +kernel
theorem dX2_init_23 : decode cX2_init 23 = .ok (.newarray .int, 2) := by decide +kernel
theorem dX2_init_25 : decode cX2_init 25 = .ok (.putfield 18, 3) := by decide +kernel
theorem dX2_init_28 : decode cX2_init 28 = .ok (.aload_n 0, 1) := by decide +kernel
theorem dX2_init_29 : decode cX2_init 29 = .ok (.iconst 2, 1) := by decide +kernel
theorem dX2_init_30 : decode cX2_init 30 = .ok (.newarray .int, 2) := by decide +kernel
theorem dX2_init_32 : decode cX2_init 32 = .ok (.putfield 21, 3) := by decide +kernel
theorem dX2_init_35 : decode cX2_init 35 = .ok (.aload_n 0, 1) := by decide +kernel
theorem dX2_init_36 : decode cX2_init 36 = .ok (.iconst 2, 1) := by decide +kernel
theorem dX2_init_37 : decode cX2_init 37 = .ok (.newarray .int, 2) := by decide +kernel
theorem dX2_init_39 : decode cX2_init 39 = .ok (.putfield 24, 3) := by decide +kernel
theorem dX2_init_42 : decode cX2_init 42 = .ok (.return_, 1) := by decide +kernel
theorem dX2_fill_0 : decode cX2_fill 0 = .ok (.aload_n 0, 1) := by decide +kernel
theorem dX2_fill_1 : decode cX2_fill 1 = .ok (.iload_n 1, 1) := by decide +kernel
theorem dX2_fill_2 : decode cX2_fill 2 = .ok (.putfield 27, 3) := by decide +kernel
theorem dX2_fill_5 : decode cX2_fill 5 = .ok (.aload_n 0, 1) := by decide +kernel
theorem dX2_fill_6 : decode cX2_fill 6 = .ok (.iload_n 2, 1) := by decide +kernel
theorem dX2_fill_7 : decode cX2_fill 7 = .ok (.putfield 31, 3) := by decide +kernel
theorem dX2_fill_10 : decode cX2_fill 10 = .ok (.aload_n 0, 1) := by decide +kernel
theorem dX2_fill_11 : decode cX2_fill 11 = .ok (.iload_n 3, 1) := by decide +kernel
theorem dX2_fill_12 : decode cX2_fill 12 = .ok (.putfield 34, 3) := by decide +kernel
theorem dX2_fill_15 : decode cX2_fill 15 = .ok (.aload_n 0, 1) := by decide +kernel
theorem dX2_fill_16 : decode cX2_fill 16 = .ok (.iload 4, 2) := by decide +kernel
theorem dX2_fill_18 : decode cX2_fill 18 = .ok (.putfield 37, 3) := by decide +kernel
theorem dX2_fill_21 : decode cX2_fill 21 = .ok (.aload_n 0, 1) := by decide +kernel
theorem dX2_fill_22 : decode cX2_fill 22 = .ok (.iconst 0, 1) := by decide +kernel
theorem dX2_fill_23 : decode cX2_fill 23 = .ok (.putfield 40, 3) := by decide +kernel
theorem dX2_fill_26 : decode cX2_fill 26 = .ok (.return_, 1) := by decide +kernel
theorem dX2_isRaid_0 : decode cX2_isRaid 0 = .ok (.aload_n 0, 1) := by decide +kernel
theorem dX2_isRaid_1 : decode cX2_isRaid 1 = .ok (.getfield 27, 3) := by decide +kernel
theorem dX2_isRaid_4 : decode cX2_isRaid 4 = .ok (.ifCond .ne 7, 3) := by decide +kernel
theorem dX2_isRaid_7 : decode cX2_isRaid 7 = .ok (.iconst 1, 1) := by decide +kernel
theorem dX2_isRaid_8 : decode cX2_isRaid 8 = .ok (.goto 4, 3) := by decide +kernel
theorem dX2_isRaid_11 : decode cX2_isRaid 11 = .ok (.iconst 0, 1) := by decide +kernel
theorem dX2_isRaid_12 : decode cX2_isRaid 12 = .ok (.ireturn, 1) := by decide +kernel
theorem dX2_isPlace_0 : decode cX2_isPlace 0 = .ok (.iload_n 1, 1) := by decide +kernel
theorem dX2_isPlace_1 : decode cX2_isPlace 1 = .ok (.ifCond .lt 21, 3) := by decide +kernel
theorem dX2_isPlace_4 : decode cX2_isPlace 4 = .ok (.iload_n 1, 1) := by decide +kernel
theorem dX2_isPlace_5 : decode cX2_isPlace 5 = .ok (.aload_n 0, 1) := by decide +kernel
theorem dX2_isPlace_6 : decode cX2_isPlace 6 = .ok (.getfield 40, 3) := by decide +kernel
theorem dX2_isPlace_9 : decode cX2_isPlace 9 = .ok (.if_icmp .ge 13, 3) := by decide +kernel
theorem dX2_isPlace_12 : decode cX2_isPlace 12 = .ok (.iload_n 1, 1) := by decide +kernel
theorem dX2_isPlace_13 : decode cX2_isPlace 13 = .ok (.bipush 10, 2) := by decide +kernel
theorem dX2_isPlace_15 : decode cX2_isPlace 15 = .ok (.if_icmp .ge 7, 3) := by decide +kernel
theorem dX2_isPlace_18 : decode cX2_isPlace 18 = .ok (.iconst 1, 1) := by decide +kernel
theorem dX2_isPlace_19 : decode cX2_isPlace 19 = .ok (.goto 4, 3) := by decide +kernel
theorem dX2_isPlace_22 : decode cX2_isPlace 22 = .ok (.iconst 0, 1) := by decide +kernel
theorem dX2_isPlace_23 : decode cX2_isPlace 23 = .ok (.ireturn, 1) := by decide +kernel
theorem dX2_kindAt_0 : decode cX2_kindAt 0 = .ok (.aload_n 0, 1) := by decide +kernel
theorem dX2_kindAt_1 : decode cX2_kindAt 1 = .ok (.iload_n 1, 1) := by decide +kernel
theorem dX2_kindAt_2 : decode cX2_kindAt 2 = .ok (.invokevirtual 43, 3) := by decide +kernel
theorem dX2_kindAt_5 : decode cX2_kindAt 5 = .ok (.ifCond .eq 12, 3) := by decide +kernel
theorem dX2_kindAt_8 : decode cX2_kindAt 8 = .ok (.aload_n 0, 1) := by decide +kernel
theorem dX2_kindAt_9 : decode cX2_kindAt 9 = .ok (.getfield 9, 3) := by decide +kernel
theorem dX2_kindAt_12 : decode cX2_kindAt 12 = .ok (.iload_n 1, 1) := by decide +kernel
theorem dX2_kindAt_13 : decode cX2_kindAt 13 = .ok (.iaload, 1) := by decide +kernel
theorem dX2_kindAt_14 : decode cX2_kindAt 14 = .ok (.goto 4, 3) := by decide +kernel
theorem dX2_kindAt_17 : decode cX2_kindAt 17 = .ok (.iconst (-1), 1) := by decide +kernel
theorem dX2_kindAt_18 : decode cX2_kindAt 18 = .ok (.ireturn, 1) := by decide +kernel
theorem dX2_whoAt_0 : decode cX2_whoAt 0 = .ok (.aload_n 0, 1) := by decide +kernel
theorem dX2_whoAt_1 : decode cX2_whoAt 1 = .ok (.iload_n 1, 1) := by decide +kernel
theorem dX2_whoAt_2 : decode cX2_whoAt 2 = .ok (.invokevirtual 43, 3) := by decide +kernel
theorem dX2_whoAt_5 : decode cX2_whoAt 5 = .ok (.ifCond .eq 12, 3) := by decide +kernel
theorem dX2_whoAt_8 : decode cX2_whoAt 8 = .ok (.aload_n 0, 1) := by decide +kernel
theorem dX2_whoAt_9 : decode cX2_whoAt 9 = .ok (.getfield 15, 3) := by decide +kernel
theorem dX2_whoAt_12 : decode cX2_whoAt 12 = .ok (.iload_n 1, 1) := by decide +kernel
theorem dX2_whoAt_13 : decode cX2_whoAt 13 = .ok (.iaload, 1) := by decide +kernel
theorem dX2_whoAt_14 : decode cX2_whoAt 14 = .ok (.goto 4, 3) := by decide +kernel
theorem dX2_whoAt_17 : decode cX2_whoAt 17 = .ok (.iconst (-1), 1) := by decide +kernel
theorem dX2_whoAt_18 : decode cX2_whoAt 18 = .ok (.ireturn, 1) := by decide +kernel
theorem dX2_tenthAt_0 : decode cX2_tenthAt 0 = .ok (.aload_n 0, 1) := by decide +kernel
theorem dX2_tenthAt_1 : decode cX2_tenthAt 1 = .ok (.iload_n 1, 1) := by decide +kernel
theorem dX2_tenthAt_2 : decode cX2_tenthAt 2 = .ok (.invokevirtual 43, 3) := by decide +kernel
theorem dX2_tenthAt_5 : decode cX2_tenthAt 5 = .ok (.ifCond .eq 12, 3) := by decide +kernel
theorem dX2_tenthAt_8 : decode cX2_tenthAt 8 = .ok (.aload_n 0, 1) := by decide +kernel
theorem dX2_tenthAt_9 : decode cX2_tenthAt 9 = .ok (.getfield 18, 3) := by decide +kernel
theorem dX2_tenthAt_12 : decode cX2_tenthAt 12 = .ok (.iload_n 1, 1) := by decide +kernel
theorem dX2_tenthAt_13 : decode cX2_tenthAt 13 = .ok (.iaload, 1) := by decide +kernel
theorem dX2_tenthAt_14 : decode cX2_tenthAt 14 = .ok (.goto 4, 3) := by decide +kernel
theorem dX2_tenthAt_17 : decode cX2_tenthAt 17 = .ok (.iconst 0, 1) := by decide +kernel
theorem dX2_tenthAt_18 : decode cX2_tenthAt 18 = .ok (.ireturn, 1) := by decide +kernel
theorem dX2_add_0 : decode cX2_add 0 = .ok (.aload_n 0, 1) := by decide +kernel
theorem dX2_add_1 : decode cX2_add 1 = .ok (.getfield 40, 3) := by decide +kernel
theorem dX2_add_4 : decode cX2_add 4 = .ok (.ifCond .lt 52, 3) := by decide +kernel
theorem dX2_add_7 : decode cX2_add 7 = .ok (.aload_n 0, 1) := by decide +kernel
theorem dX2_add_8 : decode cX2_add 8 = .ok (.getfield 40, 3) := by decide +kernel
theorem dX2_add_11 : decode cX2_add 11 = .ok (.bipush 10, 2) := by decide +kernel
theorem dX2_add_13 : decode cX2_add 13 = .ok (.if_icmp .ge 43, 3) := by decide +kernel
theorem dX2_add_16 : decode cX2_add 16 = .ok (.aload_n 0, 1) := by decide +kernel
theorem dX2_add_17 : decode cX2_add 17 = .ok (.getfield 9, 3) := by decide +kernel
theorem dX2_add_20 : decode cX2_add 20 = .ok (.aload_n 0, 1) := by decide +kernel
theorem dX2_add_21 : decode cX2_add 21 = .ok (.getfield 40, 3) := by decide +kernel
theorem dX2_add_24 : decode cX2_add 24 = .ok (.iload_n 1, 1) := by decide +kernel
theorem dX2_add_25 : decode cX2_add 25 = .ok (.iastore, 1) := by decide +kernel
theorem dX2_add_26 : decode cX2_add 26 = .ok (.aload_n 0, 1) := by decide +kernel
theorem dX2_add_27 : decode cX2_add 27 = .ok (.getfield 15, 3) := by decide +kernel
theorem dX2_add_30 : decode cX2_add 30 = .ok (.aload_n 0, 1) := by decide +kernel
theorem dX2_add_31 : decode cX2_add 31 = .ok (.getfield 40, 3) := by decide +kernel
theorem dX2_add_34 : decode cX2_add 34 = .ok (.iload_n 2, 1) := by decide +kernel
theorem dX2_add_35 : decode cX2_add 35 = .ok (.iastore, 1) := by decide +kernel
theorem dX2_add_36 : decode cX2_add 36 = .ok (.aload_n 0, 1) := by decide +kernel
theorem dX2_add_37 : decode cX2_add 37 = .ok (.getfield 18, 3) := by decide +kernel
theorem dX2_add_40 : decode cX2_add 40 = .ok (.aload_n 0, 1) := by decide +kernel
theorem dX2_add_41 : decode cX2_add 41 = .ok (.getfield 40, 3) := by decide +kernel
theorem dX2_add_44 : decode cX2_add 44 = .ok (.iload_n 3, 1) := by decide +kernel
theorem dX2_add_45 : decode cX2_add 45 = .ok (.iastore, 1) := by decide +kernel
theorem dX2_add_46 : decode cX2_add 46 = .ok (.aload_n 0, 1) := by decide +kernel
theorem dX2_add_47 : decode cX2_add 47 = .ok (.dup, 1) := by decide +kernel
theorem dX2_add_48 : decode cX2_add 48 = .ok (.getfield 40, 3) := by decide +kernel
theorem dX2_add_51 : decode cX2_add 51 = .ok (.iconst 1, 1) := by decide +kernel
theorem dX2_add_52 : decode cX2_add 52 = .ok (.iadd, 1) := by decide +kernel
theorem dX2_add_53 : decode cX2_add 53 = .ok (.putfield 40, 3) := by decide +kernel
theorem dX2_add_56 : decode cX2_add 56 = .ok (.return_, 1) := by decide +kernel
theorem dX2_correct_0 : decode cX2_correct 0 = .ok (.aload_n 0, 1) := by decide +kernel
theorem dX2_correct_1 : decode cX2_correct 1 = .ok (.iload_n 1, 1) := by decide +kernel
theorem dX2_correct_2 : decode cX2_correct 2 = .ok (.invokevirtual 43, 3) := by decide +kernel
theorem dX2_correct_5 : decode cX2_correct 5 = .ok (.ifCond .eq 17, 3) := by decide +kernel
theorem dX2_correct_8 : decode cX2_correct 8 = .ok (.aload_n 0, 1) := by decide +kernel
theorem dX2_correct_9 : decode cX2_correct 9 = .ok (.getfield 9, 3) := by decide +kernel
theorem dX2_correct_12 : decode cX2_correct 12 = .ok (.iload_n 1, 1) := by decide +kernel
theorem dX2_correct_13 : decode cX2_correct 13 = .ok (.iload_n 2, 1) := by decide +kernel
theorem dX2_correct_14 : decode cX2_correct 14 = .ok (.iastore, 1) := by decide +kernel
theorem dX2_correct_15 : decode cX2_correct 15 = .ok (.aload_n 0, 1) := by decide +kernel
theorem dX2_correct_16 : decode cX2_correct 16 = .ok (.getfield 15, 3) := by decide +kernel
theorem dX2_correct_19 : decode cX2_correct 19 = .ok (.iload_n 1, 1) := by decide +kernel
theorem dX2_correct_20 : decode cX2_correct 20 = .ok (.iload_n 3, 1) := by decide +kernel
theorem dX2_correct_21 : decode cX2_correct 21 = .ok (.iastore, 1) := by decide +kernel
theorem dX2_correct_22 : decode cX2_correct 22 = .ok (.return_, 1) := by decide +kernel
theorem dX2_hasAmongFirst_0 : decode cX2_hasAmongFirst 0 = .ok (.iconst 0, 1) := by decide +kernel
theorem dX2_hasAmongFirst_1 : decode cX2_hasAmongFirst 1 = .ok (.istore 4, 2) := by decide +kernel
theorem dX2_hasAmongFirst_3 : decode cX2_hasAmongFirst 3 = .ok (.iload 4, 2) := by decide +kernel
theorem dX2_hasAmongFirst_5 : decode cX2_hasAmongFirst 5 = .ok (.iload_n 1, 1) := by decide +kernel
theorem dX2_hasAmongFirst_6 : decode cX2_hasAmongFirst 6 = .ok (.if_icmp .ge 40, 3) := by decide +kernel
theorem dX2_hasAmongFirst_9 : decode cX2_hasAmongFirst 9 = .ok (.iload 4, 2) := by decide +kernel
theorem dX2_hasAmongFirst_11 : decode cX2_hasAmongFirst 11 = .ok (.bipush 10, 2) := by decide +kernel
theorem dX2_hasAmongFirst_13 : decode cX2_hasAmongFirst 13 = .ok (.if_icmp .ge 33, 3) := by decide +kernel
theorem dX2_hasAmongFirst_16 : decode cX2_hasAmongFirst 16 = .ok (.aload_n 0, 1) := by decide +kernel
theorem dX2_hasAmongFirst_17 : decode cX2_hasAmongFirst 17 = .ok (.getfield 9, 3) := by decide +kernel
theorem dX2_hasAmongFirst_20 : decode cX2_hasAmongFirst 20 = .ok (.iload 4, 2) := by decide +kernel
theorem dX2_hasAmongFirst_22 : decode cX2_hasAmongFirst 22 = .ok (.iaload, 1) := by decide +kernel
theorem dX2_hasAmongFirst_23 : decode cX2_hasAmongFirst 23 = .ok (.iload_n 2, 1) := by decide +kernel
theorem dX2_hasAmongFirst_24 : decode cX2_hasAmongFirst 24 = .ok (.if_icmp .ne 16, 3) := by decide +kernel
theorem dX2_hasAmongFirst_27 : decode cX2_hasAmongFirst 27 = .ok (.aload_n 0, 1) := by decide +kernel
theorem dX2_hasAmongFirst_28 : decode cX2_hasAmongFirst 28 = .ok (.getfield 15, 3) := by decide +kernel
theorem dX2_hasAmongFirst_31 : decode cX2_hasAmongFirst 31 = .ok (.iload 4, 2) := by decide +kernel
theorem dX2_hasAmongFirst_33 : decode cX2_hasAmongFirst 33 = .ok (.iaload, 1) := by decide +kernel
theorem dX2_hasAmongFirst_34 : decode cX2_hasAmongFirst 34 = .ok (.iload_n 3, 1) := by decide +kernel
theorem dX2_hasAmongFirst_35 : decode cX2_hasAmongFirst 35 = .ok (.if_icmp .ne 5, 3) := by decide +kernel
theorem dX2_hasAmongFirst_38 : decode cX2_hasAmongFirst 38 = .ok (.iconst 1, 1) := by decide +kernel
theorem dX2_hasAmongFirst_39 : decode cX2_hasAmongFirst 39 = .ok (.ireturn, 1) := by decide +kernel
theorem dX2_hasAmongFirst_40 : decode cX2_hasAmongFirst 40 = .ok (.iinc 4 1, 3) := by decide +kernel
theorem dX2_hasAmongFirst_43 : decode cX2_hasAmongFirst 43 = .ok (.goto (-40), 3) := by decide +kernel
theorem dX2_hasAmongFirst_46 : decode cX2_hasAmongFirst 46 = .ok (.iconst 0, 1) := by decide +kernel
theorem dX2_hasAmongFirst_47 : decode cX2_hasAmongFirst 47 = .ok (.ireturn, 1) := by decide +kernel
theorem dX2_has_0 : decode cX2_has 0 = .ok (.aload_n 0, 1) := by decide +kernel
theorem dX2_has_1 : decode cX2_has 1 = .ok (.aload_n 0, 1) := by decide +kernel
theorem dX2_has_2 : decode cX2_has 2 = .ok (.getfield 40, 3) := by decide +kernel
theorem dX2_has_5 : decode cX2_has 5 = .ok (.iload_n 1, 1) := by decide +kernel
theorem dX2_has_6 : decode cX2_has 6 = .ok (.iconst (-1), 1) := by decide +kernel
theorem dX2_has_7 : decode cX2_has 7 = .ok (.invokevirtual 47, 3) := by decide +kernel
theorem dX2_has_10 : decode cX2_has 10 = .ok (.ireturn, 1) := by decide +kernel
theorem dX2_countTouches_0 : decode cX2_countTouches 0 = .ok (.iconst 0, 1) := by decide +kernel
theorem dX2_countTouches_1 : decode cX2_countTouches 1 = .ok (.istore_n 1, 1) := by decide +kernel
theorem dX2_countTouches_2 : decode cX2_countTouches 2 = .ok (.iconst 0, 1) := by decide +kernel
theorem dX2_countTouches_3 : decode cX2_countTouches 3 = .ok (.istore_n 2, 1) := by decide +kernel
theorem dX2_countTouches_4 : decode cX2_countTouches 4 = .ok (.iload_n 2, 1) := by decide +kernel
theorem dX2_countTouches_5 : decode cX2_countTouches 5 = .ok (.aload_n 0, 1) := by decide +kernel
theorem dX2_countTouches_6 : decode cX2_countTouches 6 = .ok (.getfield 40, 3) := by decide +kernel
theorem dX2_countTouches_9 : decode cX2_countTouches 9 = .ok (.if_icmp .ge 27, 3) := by decide +kernel
theorem dX2_countTouches_12 : decode cX2_countTouches 12 = .ok (.iload_n 2, 1) := by decide +kernel
theorem dX2_countTouches_13 : decode cX2_countTouches 13 = .ok (.bipush 10, 2) := by decide +kernel
theorem dX2_countTouches_15 : decode cX2_countTouches 15 = .ok (.if_icmp .ge 21, 3) := by decide +kernel
theorem dX2_countTouches_18 : decode cX2_countTouches 18 = .ok (.aload_n 0, 1) := by decide +kernel
theorem dX2_countTouches_19 : decode cX2_countTouches 19 = .ok (.getfield 9, 3) := by decide +kernel
theorem dX2_countTouches_22 : decode cX2_countTouches 22 = .ok (.iload_n 2, 1) := by decide +kernel
theorem dX2_countTouches_23 : decode cX2_countTouches 23 = .ok (.iaload, 1) := by decide +kernel
theorem dX2_countTouches_24 : decode cX2_countTouches 24 = .ok (.ifCond .ne 6, 3) := by decide +kernel
theorem dX2_countTouches_27 : decode cX2_countTouches 27 = .ok (.iinc 1 1, 3) := by decide +kernel
theorem dX2_countTouches_30 : decode cX2_countTouches 30 = .ok (.iinc 2 1, 3) := by decide +kernel
theorem dX2_countTouches_33 : decode cX2_countTouches 33 = .ok (.goto (-29), 3) := by decide +kernel
theorem dX2_countTouches_36 : decode cX2_countTouches 36 = .ok (.iload_n 1, 1) := by decide +kernel
theorem dX2_countTouches_37 : decode cX2_countTouches 37 = .ok (.ireturn, 1) := by decide +kernel
theorem dX2_lastTenth_0 : decode cX2_lastTenth 0 = .ok (.aload_n 0, 1) := by decide +kernel
theorem dX2_lastTenth_1 : decode cX2_lastTenth 1 = .ok (.aload_n 0, 1) := by decide +kernel
theorem dX2_lastTenth_2 : decode cX2_lastTenth 2 = .ok (.getfield 40, 3) := by decide +kernel
theorem dX2_lastTenth_5 : decode cX2_lastTenth 5 = .ok (.iconst 1, 1) := by decide +kernel
theorem dX2_lastTenth_6 : decode cX2_lastTenth 6 = .ok (.isub, 1) := by decide +kernel
theorem dX2_lastTenth_7 : decode cX2_lastTenth 7 = .ok (.invokevirtual 51, 3) := by decide +kernel
theorem dX2_lastTenth_10 : decode cX2_lastTenth 10 = .ok (.ireturn, 1) := by decide +kernel
theorem dX2_lastKind_0 : decode cX2_lastKind 0 = .ok (.aload_n 0, 1) := by decide +kernel
theorem dX2_lastKind_1 : decode cX2_lastKind 1 = .ok (.aload_n 0, 1) := by decide +kernel
theorem dX2_lastKind_2 : decode cX2_lastKind 2 = .ok (.getfield 40, 3) := by decide +kernel
theorem dX2_lastKind_5 : decode cX2_lastKind 5 = .ok (.iconst 1, 1) := by decide +kernel
theorem dX2_lastKind_6 : decode cX2_lastKind 6 = .ok (.isub, 1) := by decide +kernel
theorem dX2_lastKind_7 : decode cX2_lastKind 7 = .ok (.invokevirtual 55, 3) := by decide +kernel
theorem dX2_lastKind_10 : decode cX2_lastKind 10 = .ok (.ireturn, 1) := by decide +kernel
theorem dX2_keepWhatStands_0 : decode cX2_keepWhatStands 0 = .ok (.iconst 0, 1) := by decide +kernel
theorem dX2_keepWhatStands_1 : decode cX2_keepWhatStands 1 = .ok (.istore_n 2, 1) := by decide +kernel
theorem dX2_keepWhatStands_2 : decode cX2_keepWhatStands 2 = .ok (.iload_n 2, 1) := by decide +kernel
theorem dX2_keepWhatStands_3 : decode cX2_keepWhatStands 3 = .ok (.iconst 2, 1) := by decide +kernel
theorem dX2_keepWhatStands_4 : decode cX2_keepWhatStands 4 = .ok (.if_icmp .ge 37, 3) := by decide +kernel
theorem dX2_keepWhatStands_7 : decode cX2_keepWhatStands 7 = .ok (.aload_n 0, 1) := by decide +kernel
theorem dX2_keepWhatStands_8 : decode cX2_keepWhatStands 8 = .ok (.getfield 21, 3) := by decide +kernel
theorem dX2_keepWhatStands_11 : decode cX2_keepWhatStands 11 = .ok (.iload_n 2, 1) := by decide +kernel
theorem dX2_keepWhatStands_12 : decode cX2_keepWhatStands 12 = .ok (.aload_n 1, 1) := by decide +kernel
theorem dX2_keepWhatStands_13 : decode cX2_keepWhatStands 13 = .ok (.iload_n 2, 1) := by decide +kernel
theorem dX2_keepWhatStands_14 : decode cX2_keepWhatStands 14 = .ok (.invokevirtual 58, 3) := by decide +kernel
theorem dX2_keepWhatStands_17 : decode cX2_keepWhatStands 17 = .ok (.invokevirtual 64, 3) := by decide +kernel
theorem dX2_keepWhatStands_20 : decode cX2_keepWhatStands 20 = .ok (.iastore, 1) := by decide +kernel
theorem dX2_keepWhatStands_21 : decode cX2_keepWhatStands 21 = .ok (.aload_n 0, 1) := by decide +kernel
theorem dX2_keepWhatStands_22 : decode cX2_keepWhatStands 22 = .ok (.getfield 24, 3) := by decide +kernel
theorem dX2_keepWhatStands_25 : decode cX2_keepWhatStands 25 = .ok (.iload_n 2, 1) := by decide +kernel
theorem dX2_keepWhatStands_26 : decode cX2_keepWhatStands 26 = .ok (.aload_n 1, 1) := by decide +kernel
theorem dX2_keepWhatStands_27 : decode cX2_keepWhatStands 27 = .ok (.iload_n 2, 1) := by decide +kernel
theorem dX2_keepWhatStands_28 : decode cX2_keepWhatStands 28 = .ok (.invokevirtual 58, 3) := by decide +kernel
theorem dX2_keepWhatStands_31 : decode cX2_keepWhatStands 31 = .ok (.getfield 69, 3) := by decide +kernel
theorem dX2_keepWhatStands_34 : decode cX2_keepWhatStands 34 = .ok (.iastore, 1) := by decide +kernel
theorem dX2_keepWhatStands_35 : decode cX2_keepWhatStands 35 = .ok (.iinc 2 1, 3) := by decide +kernel
theorem dX2_keepWhatStands_38 : decode cX2_keepWhatStands 38 = .ok (.goto (-36), 3) := by decide +kernel
theorem dX2_keepWhatStands_41 : decode cX2_keepWhatStands 41 = .ok (.return_, 1) := by decide +kernel
theorem dX2_onBitsOf_0 : decode cX2_onBitsOf 0 = .ok (.iload_n 1, 1) := by decide +kernel
theorem dX2_onBitsOf_1 : decode cX2_onBitsOf 1 = .ok (.invokestatic 72, 3) := by decide +kernel
theorem dX2_onBitsOf_4 : decode cX2_onBitsOf 4 = .ok (.ifCond .eq 12, 3) := by decide +kernel
theorem dX2_onBitsOf_7 : decode cX2_onBitsOf 7 = .ok (.aload_n 0, 1) := by decide +kernel
theorem dX2_onBitsOf_8 : decode cX2_onBitsOf 8 = .ok (.getfield 21, 3) := by decide +kernel
theorem dX2_onBitsOf_11 : decode cX2_onBitsOf 11 = .ok (.iload_n 1, 1) := by decide +kernel
theorem dX2_onBitsOf_12 : decode cX2_onBitsOf 12 = .ok (.iaload, 1) := by decide +kernel
theorem dX2_onBitsOf_13 : decode cX2_onBitsOf 13 = .ok (.goto 4, 3) := by decide +kernel
theorem dX2_onBitsOf_16 : decode cX2_onBitsOf 16 = .ok (.iconst 0, 1) := by decide +kernel
theorem dX2_onBitsOf_17 : decode cX2_onBitsOf 17 = .ok (.ireturn, 1) := by decide +kernel
theorem dX2_scoreOf_0 : decode cX2_scoreOf 0 = .ok (.iload_n 1, 1) := by decide +kernel
theorem dX2_scoreOf_1 : decode cX2_scoreOf 1 = .ok (.invokestatic 72, 3) := by decide +kernel
theorem dX2_scoreOf_4 : decode cX2_scoreOf 4 = .ok (.ifCond .eq 12, 3) := by decide +kernel
theorem dX2_scoreOf_7 : decode cX2_scoreOf 7 = .ok (.aload_n 0, 1) := by decide +kernel
theorem dX2_scoreOf_8 : decode cX2_scoreOf 8 = .ok (.getfield 24, 3) := by decide +kernel
theorem dX2_scoreOf_11 : decode cX2_scoreOf 11 = .ok (.iload_n 1, 1) := by decide +kernel
theorem dX2_scoreOf_12 : decode cX2_scoreOf 12 = .ok (.iaload, 1) := by decide +kernel
theorem dX2_scoreOf_13 : decode cX2_scoreOf 13 = .ok (.goto 4, 3) := by decide +kernel
theorem dX2_scoreOf_16 : decode cX2_scoreOf 16 = .ok (.iconst 0, 1) := by decide +kernel
theorem dX2_scoreOf_17 : decode cX2_scoreOf 17 = .ok (.ireturn, 1) := by decide +kernel
theorem dX3_init_0 : decode cX3_init 0 = .ok (.aload_n 0, 1) := by decide +kernel
theorem dX3_init_1 : decode cX3_init 1 = .ok (.invokespecial 3, 3) := by decide +kernel
theorem dX3_init_4 : decode cX3_init 4 = .ok (.aload_n 0, 1) := by decide +kernel
theorem dX3_init_5 : decode cX3_init 5 = .ok (.bipush 8, 2) := by decide +kernel
theorem dX3_init_7 : decode cX3_init 7 = .ok (.newarray .int, 2) := by decide +kernel
theorem dX3_init_9 : decode cX3_init 9 = .ok (.putfield 9, 3) := by decide +kernel
theorem dX3_init_12 : decode cX3_init 12 = .ok (.aload_n 0, 1) := by decide +kernel
theorem dX3_init_13 : decode cX3_init 13 = .ok (.bipush 8, 2) := by decide +kernel
theorem dX3_init_15 : decode cX3_init 15 = .ok (.newarray .int, 2) := by decide +kernel
theorem dX3_init_17 : decode cX3_init 17 = .ok (.putfield 15, 3) := by decide +kernel
theorem dX3_init_20 : decode cX3_init 20 = .ok (.aload_n 0, 1) := by decide +kernel
theorem dX3_init_21 : decode cX3_init 21 = .ok (.bipush 8, 2) := by decide +kernel
theorem dX3_init_23 : decode cX3_init 23 = .ok (.newarray .int, 2) := by decide +kernel
theorem dX3_init_25 : decode cX3_init 25 = .ok (.putfield 18, 3) := by decide +kernel
theorem dX3_init_28 : decode cX3_init 28 = .ok (.aload_n 0, 1) := by decide +kernel
theorem dX3_init_29 : decode cX3_init 29 = .ok (.bipush 8, 2) := by decide +kernel
theorem dX3_init_31 : decode cX3_init 31 = .ok (.newarray .int, 2) := by decide +kernel
theorem dX3_init_33 : decode cX3_init 33 = .ok (.putfield 21, 3) := by decide +kernel
theorem dX3_init_36 : decode cX3_init 36 = .ok (.aload_n 0, 1) := by decide +kernel
theorem dX3_init_37 : decode cX3_init 37 = .ok (.bipush 8, 2) := by decide +kernel
theorem dX3_init_39 : decode cX3_init 39 = .ok (.newarray .int, 2) := by decide +kernel
theorem dX3_init_41 : decode cX3_init 41 = .ok (.putfield 24, 3) := by decide +kernel
theorem dX3_init_44 : decode cX3_init 44 = .ok (.aload_n 0, 1) := by decide +kernel
theorem dX3_init_45 : decode cX3_init 45 = .ok (.bipush 8, 2) := by decide +kernel
theorem dX3_init_47 : decode cX3_init 47 = .ok (.newarray .int, 2) := by decide +kernel
theorem dX3_init_49 : decode cX3_init 49 = .ok (.putfield 27, 3) := by decide +kernel
theorem dX3_init_52 : decode cX3_init 52 = .ok (.return_, 1) := by decide +kernel
theorem dX3_note_0 : decode cX3_note 0 = .ok (.aload_n 0, 1) := by decide +kernel
theorem dX3_note_1 : decode cX3_note 1 = .ok (.iload_n 1, 1) := by decide +kernel
theorem dX3_note_2 : decode cX3_note 2 = .ok (.iload_n 2, 1) := by decide +kernel
theorem dX3_note_3 : decode cX3_note 3 = .ok (.iload 4, 2) := by decide +kernel
theorem dX3_note_5 : decode cX3_note 5 = .ok (.invokevirtual 30, 3) := by decide +kernel
theorem dX3_note_8 : decode cX3_note 8 = .ok (.aload_n 0, 1) := by decide +kernel
theorem dX3_note_9 : decode cX3_note 9 = .ok (.iload_n 3, 1) := by decide +kernel
theorem dX3_note_10 : decode cX3_note 10 = .ok (.iload 4, 2) := by decide +kernel
theorem dX3_note_12 : decode cX3_note 12 = .ok (.iload_n 2, 1) := by decide +kernel
theorem dX3_note_13 : decode cX3_note 13 = .ok (.invokevirtual 30, 3) := by decide +kernel
theorem dX3_note_16 : decode cX3_note 16 = .ok (.iload_n 2, 1) := by decide +kernel
theorem dX3_note_17 : decode cX3_note 17 = .ok (.iload 4, 2) := by decide +kernel
theorem dX3_note_19 : decode cX3_note 19 = .ok (.if_icmp .ne 5, 3) := by decide +kernel
theorem dX3_note_22 : decode cX3_note 22 = .ok (.iconst (-1), 1) := by decide +kernel
theorem dX3_note_23 : decode cX3_note 23 = .ok (.ireturn, 1) := by decide +kernel
theorem dX3_note_24 : decode cX3_note 24 = .ok (.iload_n 2, 1) := by decide +kernel
theorem dX3_note_25 : decode cX3_note 25 = .ok (.iload 4, 2) := by decide +kernel
theorem dX3_note_27 : decode cX3_note 27 = .ok (.if_icmp .le 7, 3) := by decide +kernel
theorem dX3_note_30 : decode cX3_note 30 = .ok (.iload_n 1, 1) := by decide +kernel
theorem dX3_note_31 : decode cX3_note 31 = .ok (.goto 4, 3) := by decide +kernel
theorem dX3_note_34 : decode cX3_note 34 = .ok (.iload_n 3, 1) := by decide +kernel
theorem dX3_note_35 : decode cX3_note 35 = .ok (.ireturn, 1) := by decide +kernel
theorem dX3_noteFor_0 : decode cX3_noteFor 0 = .ok (.iload_n 1, 1) := by decide +kernel
theorem dX3_noteFor_1 : decode cX3_noteFor 1 = .ok (.invokestatic 34, 3) := by decide +kernel
theorem dX3_noteFor_4 : decode cX3_noteFor 4 = .ok (.ifCond .ne 4, 3) := by decide +kernel
theorem dX3_noteFor_7 : decode cX3_noteFor 7 = .ok (.return_, 1) := by decide +kernel
theorem dX3_noteFor_8 : decode cX3_noteFor 8 = .ok (.aload_n 0, 1) := by decide +kernel
theorem dX3_noteFor_9 : decode cX3_noteFor 9 = .ok (.getfield 9, 3) := by decide +kernel
theorem dX3_noteFor_12 : decode cX3_noteFor 12 = .ok (.iload_n 1, 1) := by decide +kernel
theorem dX3_noteFor_13 : decode cX3_noteFor 13 = .ok (.dup2, 1) := by decide +kernel
theorem dX3_noteFor_14 : decode cX3_noteFor 14 = .ok (.iaload, 1) := by decide +kernel
theorem dX3_noteFor_15 : decode cX3_noteFor 15 = .ok (.iconst 1, 1) := by decide +kernel
theorem dX3_noteFor_16 : decode cX3_noteFor 16 = .ok (.iadd, 1) := by decide +kernel
theorem dX3_noteFor_17 : decode cX3_noteFor 17 = .ok (.iastore, 1) := by decide +kernel
theorem dX3_noteFor_18 : decode cX3_noteFor 18 = .ok (.aload_n 0, 1) := by decide +kernel
theorem dX3_noteFor_19 : decode cX3_noteFor 19 = .ok (.getfield 24, 3) := by decide +kernel
theorem dX3_noteFor_22 : decode cX3_noteFor 22 = .ok (.iload_n 1, 1) := by decide +kernel
theorem dX3_noteFor_23 : decode cX3_noteFor 23 = .ok (.dup2, 1) := by decide +kernel
theorem dX3_noteFor_24 : decode cX3_noteFor 24 = .ok (.iaload, 1) := by decide +kernel
theorem dX3_noteFor_25 : decode cX3_noteFor 25 = .ok (.iload_n 2, 1) := by decide +kernel
theorem dX3_noteFor_26 : decode cX3_noteFor 26 = .ok (.iadd, 1) := by decide +kernel
theorem dX3_noteFor_27 : decode cX3_noteFor 27 = .ok (.iastore, 1) := by decide +kernel
theorem dX3_noteFor_28 : decode cX3_noteFor 28 = .ok (.aload_n 0, 1) := by decide +kernel
theorem dX3_noteFor_29 : decode cX3_noteFor 29 = .ok (.getfield 27, 3) := by decide +kernel
theorem dX3_noteFor_32 : decode cX3_noteFor 32 = .ok (.iload_n 1, 1) := by decide +kernel
theorem dX3_noteFor_33 : decode cX3_noteFor 33 = .ok (.dup2, 1) := by decide +kernel
theorem dX3_noteFor_34 : decode cX3_noteFor 34 = .ok (.iaload, 1) := by decide +kernel
theorem dX3_noteFor_35 : decode cX3_noteFor 35 = .ok (.iload_n 3, 1) := by decide +kernel
theorem dX3_noteFor_36 : decode cX3_noteFor 36 = .ok (.iadd, 1) := by decide +kernel
theorem dX3_noteFor_37 : decode cX3_noteFor 37 = .ok (.iastore, 1) := by decide +kernel
theorem dX3_noteFor_38 : decode cX3_noteFor 38 = .ok (.iload_n 2, 1) := by decide +kernel
theorem dX3_noteFor_39 : decode cX3_noteFor 39 = .ok (.iload_n 3, 1) := by decide +kernel
theorem dX3_noteFor_40 : decode cX3_noteFor 40 = .ok (.if_icmp .le 26, 3) := by decide +kernel
theorem dX3_noteFor_43 : decode cX3_noteFor 43 = .ok (.aload_n 0, 1) := by decide +kernel
theorem dX3_noteFor_44 : decode cX3_noteFor 44 = .ok (.getfield 15, 3) := by decide +kernel
theorem dX3_noteFor_47 : decode cX3_noteFor 47 = .ok (.iload_n 1, 1) := by decide +kernel
theorem dX3_noteFor_48 : decode cX3_noteFor 48 = .ok (.dup2, 1) := by decide +kernel
theorem dX3_noteFor_49 : decode cX3_noteFor 49 = .ok (.iaload, 1) := by decide +kernel
theorem dX3_noteFor_50 : decode cX3_noteFor 50 = .ok (.iconst 1, 1) := by decide +kernel
theorem dX3_noteFor_51 : decode cX3_noteFor 51 = .ok (.iadd, 1) := by decide +kernel
theorem dX3_noteFor_52 : decode cX3_noteFor 52 = .ok (.iastore, 1) := by decide +kernel
theorem dX3_noteFor_53 : decode cX3_noteFor 53 = .ok (.aload_n 0, 1) := by decide +kernel
theorem dX3_noteFor_54 : decode cX3_noteFor 54 = .ok (.getfield 21, 3) := by decide +kernel
theorem dX3_noteFor_57 : decode cX3_noteFor 57 = .ok (.iload_n 1, 1) := by decide +kernel
theorem dX3_noteFor_58 : decode cX3_noteFor 58 = .ok (.dup2, 1) := by decide +kernel
theorem dX3_noteFor_59 : decode cX3_noteFor 59 = .ok (.iaload, 1) := by decide +kernel
theorem dX3_noteFor_60 : decode cX3_noteFor 60 = .ok (.iconst 5, 1) := by decide +kernel
theorem dX3_noteFor_61 : decode cX3_noteFor 61 = .ok (.iadd, 1) := by decide +kernel
theorem dX3_noteFor_62 : decode cX3_noteFor 62 = .ok (.iastore, 1) := by decide +kernel
theorem dX3_noteFor_63 : decode cX3_noteFor 63 = .ok (.goto 49, 3) := by decide +kernel
theorem dX3_noteFor_66 : decode cX3_noteFor 66 = .ok (.iload_n 2, 1) := by decide +kernel
theorem dX3_noteFor_67 : decode cX3_noteFor 67 = .ok (.iload_n 3, 1) := by decide +kernel
theorem dX3_noteFor_68 : decode cX3_noteFor 68 = .ok (.if_icmp .ne 26, 3) := by decide +kernel
theorem dX3_noteFor_71 : decode cX3_noteFor 71 = .ok (.aload_n 0, 1) := by decide +kernel
theorem dX3_noteFor_72 : decode cX3_noteFor 72 = .ok (.getfield 18, 3) := by decide +kernel
theorem dX3_noteFor_75 : decode cX3_noteFor 75 = .ok (.iload_n 1, 1) := by decide +kernel
theorem dX3_noteFor_76 : decode cX3_noteFor 76 = .ok (.dup2, 1) := by decide +kernel
theorem dX3_noteFor_77 : decode cX3_noteFor 77 = .ok (.iaload, 1) := by decide +kernel
theorem dX3_noteFor_78 : decode cX3_noteFor 78 = .ok (.iconst 1, 1) := by decide +kernel
theorem dX3_noteFor_79 : decode cX3_noteFor 79 = .ok (.iadd, 1) := by decide +kernel
theorem dX3_noteFor_80 : decode cX3_noteFor 80 = .ok (.iastore, 1) := by decide +kernel
theorem dX3_noteFor_81 : decode cX3_noteFor 81 = .ok (.aload_n 0, 1) := by decide +kernel
theorem dX3_noteFor_82 : decode cX3_noteFor 82 = .ok (.getfield 21, 3) := by decide +kernel
theorem dX3_noteFor_85 : decode cX3_noteFor 85 = .ok (.iload_n 1, 1) := by decide +kernel
theorem dX3_noteFor_86 : decode cX3_noteFor 86 = .ok (.dup2, 1) := by decide +kernel
theorem dX3_noteFor_87 : decode cX3_noteFor 87 = .ok (.iaload, 1) := by decide +kernel
theorem dX3_noteFor_88 : decode cX3_noteFor 88 = .ok (.iconst 3, 1) := by decide +kernel
theorem dX3_noteFor_89 : decode cX3_noteFor 89 = .ok (.iadd, 1) := by decide +kernel
theorem dX3_noteFor_90 : decode cX3_noteFor 90 = .ok (.iastore, 1) := by decide +kernel
theorem dX3_noteFor_91 : decode cX3_noteFor 91 = .ok (.goto 21, 3) := by decide +kernel
theorem dX3_noteFor_94 : decode cX3_noteFor 94 = .ok (.iload_n 3, 1) := by decide +kernel
theorem dX3_noteFor_95 : decode cX3_noteFor 95 = .ok (.iload_n 2, 1) := by decide +kernel
theorem dX3_noteFor_96 : decode cX3_noteFor 96 = .ok (.isub, 1) := by decide +kernel
theorem dX3_noteFor_97 : decode cX3_noteFor 97 = .ok (.bipush 7, 2) := by decide +kernel
theorem dX3_noteFor_99 : decode cX3_noteFor 99 = .ok (.if_icmp .gt 13, 3) := by decide +kernel
theorem dX3_noteFor_102 : decode cX3_noteFor 102 = .ok (.aload_n 0, 1) := by decide +kernel
theorem dX3_noteFor_103 : decode cX3_noteFor 103 = .ok (.getfield 21, 3) := by decide +kernel
theorem dX3_noteFor_106 : decode cX3_noteFor 106 = .ok (.iload_n 1, 1) := by decide +kernel
theorem dX3_noteFor_107 : decode cX3_noteFor 107 = .ok (.dup2, 1) := by decide +kernel
theorem dX3_noteFor_108 : decode cX3_noteFor 108 = .ok (.iaload, 1) := by decide +kernel
theorem dX3_noteFor_109 : decode cX3_noteFor 109 = .ok (.iconst 1, 1) := by decide +kernel
theorem dX3_noteFor_110 : decode cX3_noteFor 110 = .ok (.iadd, 1) := by decide +kernel
theorem dX3_noteFor_111 : decode cX3_noteFor 111 = .ok (.iastore, 1) := by decide +kernel
theorem dX3_noteFor_112 : decode cX3_noteFor 112 = .ok (.return_, 1) := by decide +kernel
theorem dX3_tellOf_0 : decode cX3_tellOf 0 = .ok (.iload_n 1, 1) := by decide +kernel
theorem dX3_tellOf_1 : decode cX3_tellOf 1 = .ok (.invokestatic 34, 3) := by decide +kernel
theorem dX3_tellOf_4 : decode cX3_tellOf 4 = .ok (.ifCond .ne 5, 3) := by decide +kernel
theorem dX3_tellOf_7 : decode cX3_tellOf 7 = .ok (.iconst (-1), 1) := by decide +kernel
theorem dX3_tellOf_8 : decode cX3_tellOf 8 = .ok (.ireturn, 1) := by decide +kernel
theorem dX3_tellOf_9 : decode cX3_tellOf 9 = .ok (.iload_n 2, 1) := by decide +kernel
theorem dX3_tellOf_10 : decode cX3_tellOf 10 = .ok (.tableswitch 80 0 5 #[38, 45, 52, 59, 66, 73], 38) := by decide +kernel
theorem dX3_tellOf_48 : decode cX3_tellOf 48 = .ok (.aload_n 0, 1) := by decide +kernel
theorem dX3_tellOf_49 : decode cX3_tellOf 49 = .ok (.getfield 9, 3) := by decide +kernel
theorem dX3_tellOf_52 : decode cX3_tellOf 52 = .ok (.iload_n 1, 1) := by decide +kernel
theorem dX3_tellOf_53 : decode cX3_tellOf 53 = .ok (.iaload, 1) := by decide +kernel
theorem dX3_tellOf_54 : decode cX3_tellOf 54 = .ok (.ireturn, 1) := by decide +kernel
theorem dX3_tellOf_55 : decode cX3_tellOf 55 = .ok (.aload_n 0, 1) := by decide +kernel
theorem dX3_tellOf_56 : decode cX3_tellOf 56 = .ok (.getfield 15, 3) := by decide +kernel
theorem dX3_tellOf_59 : decode cX3_tellOf 59 = .ok (.iload_n 1, 1) := by decide +kernel
theorem dX3_tellOf_60 : decode cX3_tellOf 60 = .ok (.iaload, 1) := by decide +kernel
theorem dX3_tellOf_61 : decode cX3_tellOf 61 = .ok (.ireturn, 1) := by decide +kernel
theorem dX3_tellOf_62 : decode cX3_tellOf 62 = .ok (.aload_n 0, 1) := by decide +kernel
theorem dX3_tellOf_63 : decode cX3_tellOf 63 = .ok (.getfield 18, 3) := by decide +kernel
theorem dX3_tellOf_66 : decode cX3_tellOf 66 = .ok (.iload_n 1, 1) := by decide +kernel
theorem dX3_tellOf_67 : decode cX3_tellOf 67 = .ok (.iaload, 1) := by decide +kernel
theorem dX3_tellOf_68 : decode cX3_tellOf 68 = .ok (.ireturn, 1) := by decide +kernel
theorem dX3_tellOf_69 : decode cX3_tellOf 69 = .ok (.aload_n 0, 1) := by decide +kernel
theorem dX3_tellOf_70 : decode cX3_tellOf 70 = .ok (.getfield 21, 3) := by decide +kernel
theorem dX3_tellOf_73 : decode cX3_tellOf 73 = .ok (.iload_n 1, 1) := by decide +kernel
theorem dX3_tellOf_74 : decode cX3_tellOf 74 = .ok (.iaload, 1) := by decide +kernel
theorem dX3_tellOf_75 : decode cX3_tellOf 75 = .ok (.ireturn, 1) := by decide +kernel
theorem dX3_tellOf_76 : decode cX3_tellOf 76 = .ok (.aload_n 0, 1) := by decide +kernel
theorem dX3_tellOf_77 : decode cX3_tellOf 77 = .ok (.getfield 24, 3) := by decide +kernel
theorem dX3_tellOf_80 : decode cX3_tellOf 80 = .ok (.iload_n 1, 1) := by decide +kernel
theorem dX3_tellOf_81 : decode cX3_tellOf 81 = .ok (.iaload, 1) := by decide +kernel
theorem dX3_tellOf_82 : decode cX3_tellOf 82 = .ok (.ireturn, 1) := by decide +kernel
theorem dX3_tellOf_83 : decode cX3_tellOf 83 = .ok (.aload_n 0, 1) := by decide +kernel
theorem dX3_tellOf_84 : decode cX3_tellOf 84 = .ok (.getfield 27, 3) := by decide +kernel
theorem dX3_tellOf_87 : decode cX3_tellOf 87 = .ok (.iload_n 1, 1) := by decide +kernel
theorem dX3_tellOf_88 : decode cX3_tellOf 88 = .ok (.iaload, 1) := by decide +kernel
theorem dX3_tellOf_89 : decode cX3_tellOf 89 = .ok (.ireturn, 1) := by decide +kernel
theorem dX3_tellOf_90 : decode cX3_tellOf 90 = .ok (.aload_n 0, 1) := by decide +kernel
theorem dX3_tellOf_91 : decode cX3_tellOf 91 = .ok (.iload_n 1, 1) := by decide +kernel
theorem dX3_tellOf_92 : decode cX3_tellOf 92 = .ok (.invokevirtual 38, 3) := by decide +kernel
theorem dX3_tellOf_95 : decode cX3_tellOf 95 = .ok (.ireturn, 1) := by decide +kernel
theorem dX3_rankOf_0 : decode cX3_rankOf 0 = .ok (.iconst 0, 1) := by decide +kernel
theorem dX3_rankOf_1 : decode cX3_rankOf 1 = .ok (.istore_n 2, 1) := by decide +kernel
theorem dX3_rankOf_2 : decode cX3_rankOf 2 = .ok (.iconst 0, 1) := by decide +kernel
theorem dX3_rankOf_3 : decode cX3_rankOf 3 = .ok (.istore_n 3, 1) := by decide +kernel
theorem dX3_rankOf_4 : decode cX3_rankOf 4 = .ok (.iload_n 3, 1) := by decide +kernel
theorem dX3_rankOf_5 : decode cX3_rankOf 5 = .ok (.bipush 8, 2) := by decide +kernel
theorem dX3_rankOf_7 : decode cX3_rankOf 7 = .ok (.if_icmp .ge 26, 3) := by decide +kernel
theorem dX3_rankOf_10 : decode cX3_rankOf 10 = .ok (.iload_n 3, 1) := by decide +kernel
theorem dX3_rankOf_11 : decode cX3_rankOf 11 = .ok (.iload_n 1, 1) := by decide +kernel
theorem dX3_rankOf_12 : decode cX3_rankOf 12 = .ok (.if_icmp .eq 15, 3) := by decide +kernel
theorem dX3_rankOf_15 : decode cX3_rankOf 15 = .ok (.aload_n 0, 1) := by decide +kernel
theorem dX3_rankOf_16 : decode cX3_rankOf 16 = .ok (.iload_n 3, 1) := by decide +kernel
theorem dX3_rankOf_17 : decode cX3_rankOf 17 = .ok (.iload_n 1, 1) := by decide +kernel
theorem dX3_rankOf_18 : decode cX3_rankOf 18 = .ok (.invokevirtual 42, 3) := by decide +kernel
theorem dX3_rankOf_21 : decode cX3_rankOf 21 = .ok (.ifCond .eq 6, 3) := by decide +kernel
theorem dX3_rankOf_24 : decode cX3_rankOf 24 = .ok (.iinc 2 1, 3) := by decide +kernel
theorem dX3_rankOf_27 : decode cX3_rankOf 27 = .ok (.iinc 3 1, 3) := by decide +kernel
theorem dX3_rankOf_30 : decode cX3_rankOf 30 = .ok (.goto (-26), 3) := by decide +kernel
theorem dX3_rankOf_33 : decode cX3_rankOf 33 = .ok (.iload_n 2, 1) := by decide +kernel
theorem dX3_rankOf_34 : decode cX3_rankOf 34 = .ok (.ireturn, 1) := by decide +kernel
theorem dX3_isAhead_0 : decode cX3_isAhead 0 = .ok (.iload_n 1, 1) := by decide +kernel
theorem dX3_isAhead_1 : decode cX3_isAhead 1 = .ok (.invokestatic 34, 3) := by decide +kernel
theorem dX3_isAhead_4 : decode cX3_isAhead 4 = .ok (.ifCond .eq 10, 3) := by decide +kernel
theorem dX3_isAhead_7 : decode cX3_isAhead 7 = .ok (.iload_n 2, 1) := by decide +kernel
theorem dX3_isAhead_8 : decode cX3_isAhead 8 = .ok (.invokestatic 34, 3) := by decide +kernel
theorem dX3_isAhead_11 : decode cX3_isAhead 11 = .ok (.ifCond .ne 5, 3) := by decide +kernel
theorem dX3_isAhead_14 : decode cX3_isAhead 14 = .ok (.iconst 0, 1) := by decide +kernel
theorem dX3_isAhead_15 : decode cX3_isAhead 15 = .ok (.ireturn, 1) := by decide +kernel
theorem dX3_isAhead_16 : decode cX3_isAhead 16 = .ok (.aload_n 0, 1) := by decide +kernel
theorem dX3_isAhead_17 : decode cX3_isAhead 17 = .ok (.getfield 21, 3) := by decide +kernel
theorem dX3_isAhead_20 : decode cX3_isAhead 20 = .ok (.iload_n 1, 1) := by decide +kernel
theorem dX3_isAhead_21 : decode cX3_isAhead 21 = .ok (.iaload, 1) := by decide +kernel
theorem dX3_isAhead_22 : decode cX3_isAhead 22 = .ok (.aload_n 0, 1) := by decide +kernel
theorem dX3_isAhead_23 : decode cX3_isAhead 23 = .ok (.getfield 21, 3) := by decide +kernel
theorem dX3_isAhead_26 : decode cX3_isAhead 26 = .ok (.iload_n 2, 1) := by decide +kernel
theorem dX3_isAhead_27 : decode cX3_isAhead 27 = .ok (.iaload, 1) := by decide +kernel
theorem dX3_isAhead_28 : decode cX3_isAhead 28 = .ok (.if_icmp .eq 24, 3) := by decide +kernel
theorem dX3_isAhead_31 : decode cX3_isAhead 31 = .ok (.aload_n 0, 1) := by decide +kernel
theorem dX3_isAhead_32 : decode cX3_isAhead 32 = .ok (.getfield 21, 3) := by decide +kernel
theorem dX3_isAhead_35 : decode cX3_isAhead 35 = .ok (.iload_n 1, 1) := by decide +kernel
theorem dX3_isAhead_36 : decode cX3_isAhead 36 = .ok (.iaload, 1) := by decide +kernel
theorem dX3_isAhead_37 : decode cX3_isAhead 37 = .ok (.aload_n 0, 1) := by decide +kernel
theorem dX3_isAhead_38 : decode cX3_isAhead 38 = .ok (.getfield 21, 3) := by decide +kernel
theorem dX3_isAhead_41 : decode cX3_isAhead 41 = .ok (.iload_n 2, 1) := by decide +kernel
theorem dX3_isAhead_42 : decode cX3_isAhead 42 = .ok (.iaload, 1) := by decide +kernel
theorem dX3_isAhead_43 : decode cX3_isAhead 43 = .ok (.if_icmp .le 7, 3) := by decide +kernel
theorem dX3_isAhead_46 : decode cX3_isAhead 46 = .ok (.iconst 1, 1) := by decide +kernel
theorem dX3_isAhead_47 : decode cX3_isAhead 47 = .ok (.goto 4, 3) := by decide +kernel
theorem dX3_isAhead_50 : decode cX3_isAhead 50 = .ok (.iconst 0, 1) := by decide +kernel
theorem dX3_isAhead_51 : decode cX3_isAhead 51 = .ok (.ireturn, 1) := by decide +kernel
theorem dX3_isAhead_52 : decode cX3_isAhead 52 = .ok (.aload_n 0, 1) := by decide +kernel
theorem dX3_isAhead_53 : decode cX3_isAhead 53 = .ok (.iload_n 1, 1) := by decide +kernel
theorem dX3_isAhead_54 : decode cX3_isAhead 54 = .ok (.invokevirtual 46, 3) := by decide +kernel
theorem dX3_isAhead_57 : decode cX3_isAhead 57 = .ok (.aload_n 0, 1) := by decide +kernel
theorem dX3_isAhead_58 : decode cX3_isAhead 58 = .ok (.iload_n 2, 1) := by decide +kernel
theorem dX3_isAhead_59 : decode cX3_isAhead 59 = .ok (.invokevirtual 50, 3) := by decide +kernel
theorem dX3_isAhead_62 : decode cX3_isAhead 62 = .ok (.lmul, 1) := by decide +kernel
theorem dX3_isAhead_63 : decode cX3_isAhead 63 = .ok (.lstore_n 3, 1) := by decide +kernel
theorem dX3_isAhead_64 : decode cX3_isAhead 64 = .ok (.aload_n 0, 1) := by decide +kernel
theorem dX3_isAhead_65 : decode cX3_isAhead 65 = .ok (.iload_n 2, 1) := by decide +kernel
theorem dX3_isAhead_66 : decode cX3_isAhead 66 = .ok (.invokevirtual 46, 3) := by decide +kernel
theorem dX3_isAhead_69 : decode cX3_isAhead 69 = .ok (.aload_n 0, 1) := by decide +kernel
theorem dX3_isAhead_70 : decode cX3_isAhead 70 = .ok (.iload_n 1, 1) := by decide +kernel
theorem dX3_isAhead_71 : decode cX3_isAhead 71 = .ok (.invokevirtual 50, 3) := by decide +kernel
theorem dX3_isAhead_74 : decode cX3_isAhead 74 = .ok (.lmul, 1) := by decide +kernel
theorem dX3_isAhead_75 : decode cX3_isAhead 75 = .ok (.lstore 5, 2) := by decide +kernel
theorem dX3_isAhead_77 : decode cX3_isAhead 77 = .ok (.lload_n 3, 1) := by decide +kernel
theorem dX3_isAhead_78 : decode cX3_isAhead 78 = .ok (.lload 5, 2) := by decide +kernel
theorem dX3_isAhead_80 : decode cX3_isAhead 80 = .ok (.lcmp, 1) := by decide +kernel
theorem dX3_isAhead_81 : decode cX3_isAhead 81 = .ok (.ifCond .ne 16, 3) := by decide +kernel
theorem dX3_isAhead_84 : decode cX3_isAhead 84 = .ok (.iload_n 1, 1) := by decide +kernel
theorem dX3_isAhead_85 : decode cX3_isAhead 85 = .ok (.iload_n 2, 1) := by decide +kernel
theorem dX3_isAhead_86 : decode cX3_isAhead 86 = .ok (.if_icmp .ge 7, 3) := by decide +kernel
theorem dX3_isAhead_89 : decode cX3_isAhead 89 = .ok (.iconst 1, 1) := by decide +kernel
theorem dX3_isAhead_90 : decode cX3_isAhead 90 = .ok (.goto 19, 3) := by decide +kernel
theorem dX3_isAhead_93 : decode cX3_isAhead 93 = .ok (.iconst 0, 1) := by decide +kernel
theorem dX3_isAhead_94 : decode cX3_isAhead 94 = .ok (.goto 15, 3) := by decide +kernel
theorem dX3_isAhead_97 : decode cX3_isAhead 97 = .ok (.lload_n 3, 1) := by decide +kernel
theorem dX3_isAhead_98 : decode cX3_isAhead 98 = .ok (.lload 5, 2) := by decide +kernel
theorem dX3_isAhead_100 : decode cX3_isAhead 100 = .ok (.lcmp, 1) := by decide +kernel
theorem dX3_isAhead_101 : decode cX3_isAhead 101 = .ok (.ifCond .le 7, 3) := by decide +kernel
theorem dX3_isAhead_104 : decode cX3_isAhead 104 = .ok (.iconst 1, 1) := by decide +kernel
theorem dX3_isAhead_105 : decode cX3_isAhead 105 = .ok (.goto 4, 3) := by decide +kernel
theorem dX3_isAhead_108 : decode cX3_isAhead 108 = .ok (.iconst 0, 1) := by decide +kernel
theorem dX3_isAhead_109 : decode cX3_isAhead 109 = .ok (.ireturn, 1) := by decide +kernel
theorem dX3_upper_0 : decode cX3_upper 0 = .ok (.aload_n 0, 1) := by decide +kernel
theorem dX3_upper_1 : decode cX3_upper 1 = .ok (.getfield 27, 3) := by decide +kernel
theorem dX3_upper_4 : decode cX3_upper 4 = .ok (.iload_n 1, 1) := by decide +kernel
theorem dX3_upper_5 : decode cX3_upper 5 = .ok (.iaload, 1) := by decide +kernel
theorem dX3_upper_6 : decode cX3_upper 6 = .ok (.ifCond .ne 7, 3) := by decide +kernel
theorem dX3_upper_9 : decode cX3_upper 9 = .ok (.lconst 1, 1) := by decide +kernel
theorem dX3_upper_10 : decode cX3_upper 10 = .ok (.goto 10, 3) := by decide +kernel
theorem dX3_upper_13 : decode cX3_upper 13 = .ok (.aload_n 0, 1) := by decide +kernel
theorem dX3_upper_14 : decode cX3_upper 14 = .ok (.getfield 24, 3) := by decide +kernel
theorem dX3_upper_17 : decode cX3_upper 17 = .ok (.iload_n 1, 1) := by decide +kernel
theorem dX3_upper_18 : decode cX3_upper 18 = .ok (.iaload, 1) := by decide +kernel
theorem dX3_upper_19 : decode cX3_upper 19 = .ok (.i2l, 1) := by decide +kernel
theorem dX3_upper_20 : decode cX3_upper 20 = .ok (.lreturn, 1) := by decide +kernel
theorem dX3_lower_0 : decode cX3_lower 0 = .ok (.aload_n 0, 1) := by decide +kernel
theorem dX3_lower_1 : decode cX3_lower 1 = .ok (.getfield 27, 3) := by decide +kernel
theorem dX3_lower_4 : decode cX3_lower 4 = .ok (.iload_n 1, 1) := by decide +kernel
theorem dX3_lower_5 : decode cX3_lower 5 = .ok (.iaload, 1) := by decide +kernel
theorem dX3_lower_6 : decode cX3_lower 6 = .ok (.ifCond .ne 16, 3) := by decide +kernel
theorem dX3_lower_9 : decode cX3_lower 9 = .ok (.aload_n 0, 1) := by decide +kernel
theorem dX3_lower_10 : decode cX3_lower 10 = .ok (.getfield 24, 3) := by decide +kernel
theorem dX3_lower_13 : decode cX3_lower 13 = .ok (.iload_n 1, 1) := by decide +kernel
theorem dX3_lower_14 : decode cX3_lower 14 = .ok (.iaload, 1) := by decide +kernel
theorem dX3_lower_15 : decode cX3_lower 15 = .ok (.ifCond .ne 7, 3) := by decide +kernel
theorem dX3_lower_18 : decode cX3_lower 18 = .ok (.lconst 1, 1) := by decide +kernel
theorem dX3_lower_19 : decode cX3_lower 19 = .ok (.goto 10, 3) := by decide +kernel
theorem dX3_lower_22 : decode cX3_lower 22 = .ok (.aload_n 0, 1) := by decide +kernel
theorem dX3_lower_23 : decode cX3_lower 23 = .ok (.getfield 27, 3) := by decide +kernel
theorem dX3_lower_26 : decode cX3_lower 26 = .ok (.iload_n 1, 1) := by decide +kernel
theorem dX3_lower_27 : decode cX3_lower 27 = .ok (.iaload, 1) := by decide +kernel
theorem dX3_lower_28 : decode cX3_lower 28 = .ok (.i2l, 1) := by decide +kernel
theorem dX3_lower_29 : decode cX3_lower 29 = .ok (.lreturn, 1) := by decide +kernel
theorem dX4_init_0 : decode cX4_init 0 = .ok (.aload_n 0, 1) := by decide +kernel
theorem dX4_init_1 : decode cX4_init 1 = .ok (.invokespecial 3, 3) := by decide +kernel
theorem dX4_init_4 : decode cX4_init 4 = .ok (.aload_n 0, 1) := by decide +kernel
theorem dX4_init_5 : decode cX4_init 5 = .ok (.new 9, 3) := by decide +kernel
theorem dX4_init_8 : decode cX4_init 8 = .ok (.dup, 1) := by decide +kernel
theorem dX4_init_9 : decode cX4_init 9 = .ok (.invokespecial 11, 3) := by decide +kernel
theorem dX4_init_12 : decode cX4_init 12 = .ok (.putfield 12, 3) := by decide +kernel
theorem dX4_init_15 : decode cX4_init 15 = .ok (.aload_n 0, 1) := by decide +kernel
theorem dX4_init_16 : decode cX4_init 16 = .ok (.new 9, 3) := by decide +kernel
theorem dX4_init_19 : decode cX4_init 19 = .ok (.dup, 1) := by decide +kernel
theorem dX4_init_20 : decode cX4_init 20 = .ok (.invokespecial 11, 3) := by decide +kernel
theorem dX4_init_23 : decode cX4_init 23 = .ok (.putfield 18, 3) := by decide +kernel
theorem dX4_init_26 : decode cX4_init 26 = .ok (.return_, 1) := by decide +kernel
theorem dX4_reset_0 : decode cX4_reset 0 = .ok (.aload_n 0, 1) := by decide +kernel
theorem dX4_reset_1 : decode cX4_reset 1 = .ok (.getfield 12, 3) := by decide +kernel
theorem dX4_reset_4 : decode cX4_reset 4 = .ok (.invokevirtual 21, 3) := by decide +kernel
theorem dX4_reset_7 : decode cX4_reset 7 = .ok (.aload_n 0, 1) := by decide +kernel
theorem dX4_reset_8 : decode cX4_reset 8 = .ok (.getfield 18, 3) := by decide +kernel
theorem dX4_reset_11 : decode cX4_reset 11 = .ok (.invokevirtual 21, 3) := by decide +kernel
theorem dX4_reset_14 : decode cX4_reset 14 = .ok (.aload_n 0, 1) := by decide +kernel
theorem dX4_reset_15 : decode cX4_reset 15 = .ok (.iconst 0, 1) := by decide +kernel
theorem dX4_reset_16 : decode cX4_reset 16 = .ok (.putfield 24, 3) := by decide +kernel
theorem dX4_reset_19 : decode cX4_reset 19 = .ok (.aload_n 0, 1) := by decide +kernel
theorem dX4_reset_20 : decode cX4_reset 20 = .ok (.iconst 0, 1) := by decide +kernel
theorem dX4_reset_21 : decode cX4_reset 21 = .ok (.putfield 28, 3) := by decide +kernel
theorem dX4_reset_24 : decode cX4_reset 24 = .ok (.return_, 1) := by decide +kernel
theorem dX4_sideAt_0 : decode cX4_sideAt 0 = .ok (.iload_n 1, 1) := by decide +kernel
theorem dX4_sideAt_1 : decode cX4_sideAt 1 = .ok (.ifCond .ne 10, 3) := by decide +kernel
theorem dX4_sideAt_4 : decode cX4_sideAt 4 = .ok (.aload_n 0, 1) := by decide +kernel
theorem dX4_sideAt_5 : decode cX4_sideAt 5 = .ok (.getfield 12, 3) := by decide +kernel
theorem dX4_sideAt_8 : decode cX4_sideAt 8 = .ok (.goto 7, 3) := by decide +kernel
theorem dX4_sideAt_11 : decode cX4_sideAt 11 = .ok (.aload_n 0, 1) := by decide +kernel
theorem dX4_sideAt_12 : decode cX4_sideAt 12 = .ok (.getfield 18, 3) := by decide +kernel
theorem dX4_sideAt_15 : decode cX4_sideAt 15 = .ok (.areturn, 1) := by decide +kernel
theorem dX4_turn_0 : decode cX4_turn 0 = .ok (.aload_n 0, 1) := by decide +kernel
theorem dX4_turn_1 : decode cX4_turn 1 = .ok (.getfield 28, 3) := by decide +kernel
theorem dX4_turn_4 : decode cX4_turn 4 = .ok (.iconst 1, 1) := by decide +kernel
theorem dX4_turn_5 : decode cX4_turn 5 = .ok (.iand, 1) := by decide +kernel
theorem dX4_turn_6 : decode cX4_turn 6 = .ok (.ireturn, 1) := by decide +kernel
theorem dX4_isDoOrDie_0 : decode cX4_isDoOrDie 0 = .ok (.aload_n 0, 1) := by decide +kernel
theorem dX4_isDoOrDie_1 : decode cX4_isDoOrDie 1 = .ok (.aload_n 0, 1) := by decide +kernel
theorem dX4_isDoOrDie_2 : decode cX4_isDoOrDie 2 = .ok (.invokevirtual 31, 3) := by decide +kernel
theorem dX4_isDoOrDie_5 : decode cX4_isDoOrDie 5 = .ok (.invokevirtual 35, 3) := by decide +kernel
theorem dX4_isDoOrDie_8 : decode cX4_isDoOrDie 8 = .ok (.getfield 39, 3) := by decide +kernel
theorem dX4_isDoOrDie_11 : decode cX4_isDoOrDie 11 = .ok (.iconst 2, 1) := by decide +kernel
theorem dX4_isDoOrDie_12 : decode cX4_isDoOrDie 12 = .ok (.if_icmp .lt 7, 3) := by decide +kernel
theorem dX4_isDoOrDie_15 : decode cX4_isDoOrDie 15 = .ok (.iconst 1, 1) := by decide +kernel
theorem dX4_isDoOrDie_16 : decode cX4_isDoOrDie 16 = .ok (.goto 4, 3) := by decide +kernel
theorem dX4_isDoOrDie_19 : decode cX4_isDoOrDie 19 = .ok (.iconst 0, 1) := by decide +kernel
theorem dX4_isDoOrDie_20 : decode cX4_isDoOrDie 20 = .ok (.ireturn, 1) := by decide +kernel
theorem dX4_mayStep_0 : decode cX4_mayStep 0 = .ok (.iload_n 3, 1) := by decide +kernel
theorem dX4_mayStep_1 : decode cX4_mayStep 1 = .ok (.bipush 6, 2) := by decide +kernel
theorem dX4_mayStep_3 : decode cX4_mayStep 3 = .ok (.if_icmp .ne 17, 3) := by decide +kernel
theorem dX4_mayStep_6 : decode cX4_mayStep 6 = .ok (.iload 5, 2) := by decide +kernel
theorem dX4_mayStep_8 : decode cX4_mayStep 8 = .ok (.sipush 300, 3) := by decide +kernel
theorem dX4_mayStep_11 : decode cX4_mayStep 11 = .ok (.if_icmp .ne 7, 3) := by decide +kernel
theorem dX4_mayStep_14 : decode cX4_mayStep 14 = .ok (.iconst 1, 1) := by decide +kernel
theorem dX4_mayStep_15 : decode cX4_mayStep 15 = .ok (.goto 4, 3) := by decide +kernel
theorem dX4_mayStep_18 : decode cX4_mayStep 18 = .ok (.iconst 0, 1) := by decide +kernel
theorem dX4_mayStep_19 : decode cX4_mayStep 19 = .ok (.ireturn, 1) := by decide +kernel
theorem dX4_mayStep_20 : decode cX4_mayStep 20 = .ok (.iload_n 3, 1) := by decide +kernel
theorem dX4_mayStep_21 : decode cX4_mayStep 21 = .ok (.invokestatic 42, 3) := by decide +kernel
theorem dX4_mayStep_24 : decode cX4_mayStep 24 = .ok (.ifCond .eq 5, 3) := by decide +kernel
theorem dX4_mayStep_27 : decode cX4_mayStep 27 = .ok (.iconst 1, 1) := by decide +kernel
theorem dX4_mayStep_28 : decode cX4_mayStep 28 = .ok (.ireturn, 1) := by decide +kernel
theorem dX4_mayStep_29 : decode cX4_mayStep 29 = .ok (.iload_n 3, 1) := by decide +kernel
theorem dX4_mayStep_30 : decode cX4_mayStep 30 = .ok (.ifCond .ne 23, 3) := by decide +kernel
theorem dX4_mayStep_33 : decode cX4_mayStep 33 = .ok (.aload_n 0, 1) := by decide +kernel
theorem dX4_mayStep_34 : decode cX4_mayStep 34 = .ok (.iconst 1, 1) := by decide +kernel
theorem dX4_mayStep_35 : decode cX4_mayStep 35 = .ok (.aload_n 0, 1) := by decide +kernel
theorem dX4_mayStep_36 : decode cX4_mayStep 36 = .ok (.invokevirtual 31, 3) := by decide +kernel
theorem dX4_mayStep_39 : decode cX4_mayStep 39 = .ok (.isub, 1) := by decide +kernel
theorem dX4_mayStep_40 : decode cX4_mayStep 40 = .ok (.invokevirtual 35, 3) := by decide +kernel
theorem dX4_mayStep_43 : decode cX4_mayStep 43 = .ok (.iload 4, 2) := by decide +kernel
theorem dX4_mayStep_45 : decode cX4_mayStep 45 = .ok (.invokevirtual 46, 3) := by decide +kernel
theorem dX4_mayStep_48 : decode cX4_mayStep 48 = .ok (.ifCond .ne 5, 3) := by decide +kernel
theorem dX4_mayStep_51 : decode cX4_mayStep 51 = .ok (.iconst 0, 1) := by decide +kernel
theorem dX4_mayStep_52 : decode cX4_mayStep 52 = .ok (.ireturn, 1) := by decide +kernel
theorem dX4_mayStep_53 : decode cX4_mayStep 53 = .ok (.aload_n 1, 1) := by decide +kernel
theorem dX4_mayStep_54 : decode cX4_mayStep 54 = .ok (.iload_n 2, 1) := by decide +kernel
theorem dX4_mayStep_55 : decode cX4_mayStep 55 = .ok (.iload_n 3, 1) := by decide +kernel
theorem dX4_mayStep_56 : decode cX4_mayStep 56 = .ok (.iload 4, 2) := by decide +kernel
theorem dX4_mayStep_58 : decode cX4_mayStep 58 = .ok (.invokevirtual 49, 3) := by decide +kernel
theorem dX4_mayStep_61 : decode cX4_mayStep 61 = .ok (.ifCond .ne 7, 3) := by decide +kernel
theorem dX4_mayStep_64 : decode cX4_mayStep 64 = .ok (.iconst 1, 1) := by decide +kernel
theorem dX4_mayStep_65 : decode cX4_mayStep 65 = .ok (.goto 4, 3) := by decide +kernel
theorem dX4_mayStep_68 : decode cX4_mayStep 68 = .ok (.iconst 0, 1) := by decide +kernel
theorem dX4_mayStep_69 : decode cX4_mayStep 69 = .ok (.ireturn, 1) := by decide +kernel
theorem dX4_mayStand_0 : decode cX4_mayStand 0 = .ok (.aload_n 1, 1) := by decide +kernel
theorem dX4_mayStand_1 : decode cX4_mayStand 1 = .ok (.getfield 55, 3) := by decide +kernel
theorem dX4_mayStand_4 : decode cX4_mayStand 4 = .ok (.iconst 1, 1) := by decide +kernel
theorem dX4_mayStand_5 : decode cX4_mayStand 5 = .ok (.if_icmp .ne 23, 3) := by decide +kernel
theorem dX4_mayStand_8 : decode cX4_mayStand 8 = .ok (.aload_n 0, 1) := by decide +kernel
theorem dX4_mayStand_9 : decode cX4_mayStand 9 = .ok (.aload_n 1, 1) := by decide +kernel
theorem dX4_mayStand_10 : decode cX4_mayStand 10 = .ok (.getfield 58, 3) := by decide +kernel
theorem dX4_mayStand_13 : decode cX4_mayStand 13 = .ok (.invokevirtual 35, 3) := by decide +kernel
theorem dX4_mayStand_16 : decode cX4_mayStand 16 = .ok (.aload_n 1, 1) := by decide +kernel
theorem dX4_mayStand_17 : decode cX4_mayStand 17 = .ok (.getfield 61, 3) := by decide +kernel
theorem dX4_mayStand_20 : decode cX4_mayStand 20 = .ok (.aload_n 1, 1) := by decide +kernel
theorem dX4_mayStand_21 : decode cX4_mayStand 21 = .ok (.getfield 64, 3) := by decide +kernel
theorem dX4_mayStand_24 : decode cX4_mayStand 24 = .ok (.invokevirtual 67, 3) := by decide +kernel
theorem dX4_mayStand_27 : decode cX4_mayStand 27 = .ok (.ireturn, 1) := by decide +kernel
theorem dX4_mayStand_28 : decode cX4_mayStand 28 = .ok (.aload_n 1, 1) := by decide +kernel
theorem dX4_mayStand_29 : decode cX4_mayStand 29 = .ok (.getfield 55, 3) := by decide +kernel
theorem dX4_mayStand_32 : decode cX4_mayStand 32 = .ok (.iconst 2, 1) := by decide +kernel
theorem dX4_mayStand_33 : decode cX4_mayStand 33 = .ok (.if_icmp .ne 23, 3) := by decide +kernel
theorem dX4_mayStand_36 : decode cX4_mayStand 36 = .ok (.aload_n 0, 1) := by decide +kernel
theorem dX4_mayStand_37 : decode cX4_mayStand 37 = .ok (.aload_n 1, 1) := by decide +kernel
theorem dX4_mayStand_38 : decode cX4_mayStand 38 = .ok (.getfield 58, 3) := by decide +kernel
theorem dX4_mayStand_41 : decode cX4_mayStand 41 = .ok (.invokevirtual 35, 3) := by decide +kernel
theorem dX4_mayStand_44 : decode cX4_mayStand 44 = .ok (.aload_n 1, 1) := by decide +kernel
theorem dX4_mayStand_45 : decode cX4_mayStand 45 = .ok (.getfield 61, 3) := by decide +kernel
theorem dX4_mayStand_48 : decode cX4_mayStand 48 = .ok (.aload_n 1, 1) := by decide +kernel
theorem dX4_mayStand_49 : decode cX4_mayStand 49 = .ok (.getfield 64, 3) := by decide +kernel
theorem dX4_mayStand_52 : decode cX4_mayStand 52 = .ok (.invokevirtual 71, 3) := by decide +kernel
theorem dX4_mayStand_55 : decode cX4_mayStand 55 = .ok (.ireturn, 1) := by decide +kernel
theorem dX4_mayStand_56 : decode cX4_mayStand 56 = .ok (.aload_n 0, 1) := by decide +kernel
theorem dX4_mayStand_57 : decode cX4_mayStand 57 = .ok (.aload_n 1, 1) := by decide +kernel
theorem dX4_mayStand_58 : decode cX4_mayStand 58 = .ok (.invokevirtual 74, 3) := by decide +kernel
theorem dX4_mayStand_61 : decode cX4_mayStand 61 = .ok (.ireturn, 1) := by decide +kernel
theorem dX4_mayStandAsRaid_0 : decode cX4_mayStandAsRaid 0 = .ok (.aload_n 0, 1) := by decide +kernel
theorem dX4_mayStandAsRaid_1 : decode cX4_mayStandAsRaid 1 = .ok (.aload_n 0, 1) := by decide +kernel
theorem dX4_mayStandAsRaid_2 : decode cX4_mayStandAsRaid 2 = .ok (.invokevirtual 31, 3) := by decide +kernel
theorem dX4_mayStandAsRaid_5 : decode cX4_mayStandAsRaid 5 = .ok (.invokevirtual 35, 3) := by decide +kernel
theorem dX4_mayStandAsRaid_8 : decode cX4_mayStandAsRaid 8 = .ok (.aload_n 1, 1) := by decide +kernel
theorem dX4_mayStandAsRaid_9 : decode cX4_mayStandAsRaid 9 = .ok (.getfield 61, 3) := by decide +kernel
theorem dX4_mayStandAsRaid_12 : decode cX4_mayStandAsRaid 12 = .ok (.invokevirtual 46, 3) := by decide +kernel
theorem dX4_mayStandAsRaid_15 : decode cX4_mayStandAsRaid 15 = .ok (.ifCond .ne 5, 3) := by decide +kernel
theorem dX4_mayStandAsRaid_18 : decode cX4_mayStandAsRaid 18 = .ok (.iconst 0, 1) := by decide +kernel
theorem dX4_mayStandAsRaid_19 : decode cX4_mayStandAsRaid 19 = .ok (.ireturn, 1) := by decide +kernel
theorem dX4_mayStandAsRaid_20 : decode cX4_mayStandAsRaid 20 = .ok (.iconst 0, 1) := by decide +kernel
theorem dX4_mayStandAsRaid_21 : decode cX4_mayStandAsRaid 21 = .ok (.istore_n 2, 1) := by decide +kernel
theorem dX4_mayStandAsRaid_22 : decode cX4_mayStandAsRaid 22 = .ok (.iload_n 2, 1) := by decide +kernel
theorem dX4_mayStandAsRaid_23 : decode cX4_mayStandAsRaid 23 = .ok (.aload_n 1, 1) := by decide +kernel
theorem dX4_mayStandAsRaid_24 : decode cX4_mayStandAsRaid 24 = .ok (.getfield 78, 3) := by decide +kernel
theorem dX4_mayStandAsRaid_27 : decode cX4_mayStandAsRaid 27 = .ok (.if_icmp .ge 41, 3) := by decide +kernel
theorem dX4_mayStandAsRaid_30 : decode cX4_mayStandAsRaid 30 = .ok (.iload_n 2, 1) := by decide +kernel
theorem dX4_mayStandAsRaid_31 : decode cX4_mayStandAsRaid 31 = .ok (.bipush 10, 2) := by decide +kernel
theorem dX4_mayStandAsRaid_33 : decode cX4_mayStandAsRaid 33 = .ok (.if_icmp .ge 35, 3) := by decide +kernel
theorem dX4_mayStandAsRaid_36 : decode cX4_mayStandAsRaid 36 = .ok (.aload_n 0, 1) := by decide +kernel
theorem dX4_mayStandAsRaid_37 : decode cX4_mayStandAsRaid 37 = .ok (.aload_n 1, 1) := by decide +kernel
theorem dX4_mayStandAsRaid_38 : decode cX4_mayStandAsRaid 38 = .ok (.iload_n 2, 1) := by decide +kernel
theorem dX4_mayStandAsRaid_39 : decode cX4_mayStandAsRaid 39 = .ok (.aload_n 1, 1) := by decide +kernel
theorem dX4_mayStandAsRaid_40 : decode cX4_mayStandAsRaid 40 = .ok (.iload_n 2, 1) := by decide +kernel
theorem dX4_mayStandAsRaid_41 : decode cX4_mayStandAsRaid 41 = .ok (.invokevirtual 81, 3) := by decide +kernel
theorem dX4_mayStandAsRaid_44 : decode cX4_mayStandAsRaid 44 = .ok (.aload_n 1, 1) := by decide +kernel
theorem dX4_mayStandAsRaid_45 : decode cX4_mayStandAsRaid 45 = .ok (.iload_n 2, 1) := by decide +kernel
theorem dX4_mayStandAsRaid_46 : decode cX4_mayStandAsRaid 46 = .ok (.invokevirtual 85, 3) := by decide +kernel
theorem dX4_mayStandAsRaid_49 : decode cX4_mayStandAsRaid 49 = .ok (.aload_n 1, 1) := by decide +kernel
theorem dX4_mayStandAsRaid_50 : decode cX4_mayStandAsRaid 50 = .ok (.iload_n 2, 1) := by decide +kernel
theorem dX4_mayStandAsRaid_51 : decode cX4_mayStandAsRaid 51 = .ok (.invokevirtual 88, 3) := by decide +kernel
theorem dX4_mayStandAsRaid_54 : decode cX4_mayStandAsRaid 54 = .ok (.invokevirtual 91, 3) := by decide +kernel
theorem dX4_mayStandAsRaid_57 : decode cX4_mayStandAsRaid 57 = .ok (.ifCond .ne 5, 3) := by decide +kernel
theorem dX4_mayStandAsRaid_60 : decode cX4_mayStandAsRaid 60 = .ok (.iconst 0, 1) := by decide +kernel
theorem dX4_mayStandAsRaid_61 : decode cX4_mayStandAsRaid 61 = .ok (.ireturn, 1) := by decide +kernel
theorem dX4_mayStandAsRaid_62 : decode cX4_mayStandAsRaid 62 = .ok (.iinc 2 1, 3) := by decide +kernel
theorem dX4_mayStandAsRaid_65 : decode cX4_mayStandAsRaid 65 = .ok (.goto (-43), 3) := by decide +kernel
theorem dX4_mayStandAsRaid_68 : decode cX4_mayStandAsRaid 68 = .ok (.iconst 1, 1) := by decide +kernel
theorem dX4_mayStandAsRaid_69 : decode cX4_mayStandAsRaid 69 = .ok (.ireturn, 1) := by decide +kernel
theorem dX4_play_0 : decode cX4_play 0 = .ok (.aload_n 1, 1) := by decide +kernel
theorem dX4_play_1 : decode cX4_play 1 = .ok (.getfield 55, 3) := by decide +kernel
theorem dX4_play_4 : decode cX4_play 4 = .ok (.iconst 1, 1) := by decide +kernel
theorem dX4_play_5 : decode cX4_play 5 = .ok (.if_icmp .ne 11, 3) := by decide +kernel
theorem dX4_play_8 : decode cX4_play 8 = .ok (.aload_n 0, 1) := by decide +kernel
theorem dX4_play_9 : decode cX4_play 9 = .ok (.aload_n 1, 1) := by decide +kernel
theorem dX4_play_10 : decode cX4_play 10 = .ok (.invokevirtual 95, 3) := by decide +kernel
theorem dX4_play_13 : decode cX4_play 13 = .ok (.goto 38, 3) := by decide +kernel
theorem dX4_play_16 : decode cX4_play 16 = .ok (.aload_n 1, 1) := by decide +kernel
theorem dX4_play_17 : decode cX4_play 17 = .ok (.getfield 55, 3) := by decide +kernel
theorem dX4_play_20 : decode cX4_play 20 = .ok (.iconst 2, 1) := by decide +kernel
theorem dX4_play_21 : decode cX4_play 21 = .ok (.if_icmp .ne 25, 3) := by decide +kernel
theorem dX4_play_24 : decode cX4_play 24 = .ok (.aload_n 0, 1) := by decide +kernel
theorem dX4_play_25 : decode cX4_play 25 = .ok (.aload_n 1, 1) := by decide +kernel
theorem dX4_play_26 : decode cX4_play 26 = .ok (.getfield 58, 3) := by decide +kernel
theorem dX4_play_29 : decode cX4_play 29 = .ok (.invokevirtual 35, 3) := by decide +kernel
theorem dX4_play_32 : decode cX4_play 32 = .ok (.aload_n 1, 1) := by decide +kernel
theorem dX4_play_33 : decode cX4_play 33 = .ok (.getfield 61, 3) := by decide +kernel
theorem dX4_play_36 : decode cX4_play 36 = .ok (.aload_n 1, 1) := by decide +kernel
theorem dX4_play_37 : decode cX4_play 37 = .ok (.getfield 64, 3) := by decide +kernel
theorem dX4_play_40 : decode cX4_play 40 = .ok (.invokevirtual 99, 3) := by decide +kernel
theorem dX4_play_43 : decode cX4_play 43 = .ok (.goto 8, 3) := by decide +kernel
theorem dX4_play_46 : decode cX4_play 46 = .ok (.aload_n 0, 1) := by decide +kernel
theorem dX4_play_47 : decode cX4_play 47 = .ok (.aload_n 1, 1) := by decide +kernel
theorem dX4_play_48 : decode cX4_play 48 = .ok (.invokevirtual 103, 3) := by decide +kernel
theorem dX4_play_51 : decode cX4_play 51 = .ok (.return_, 1) := by decide +kernel
theorem dX4_playCard_0 : decode cX4_playCard 0 = .ok (.aload_n 0, 1) := by decide +kernel
theorem dX4_playCard_1 : decode cX4_playCard 1 = .ok (.aload_n 1, 1) := by decide +kernel
theorem dX4_playCard_2 : decode cX4_playCard 2 = .ok (.getfield 58, 3) := by decide +kernel
theorem dX4_playCard_5 : decode cX4_playCard 5 = .ok (.invokevirtual 35, 3) := by decide +kernel
theorem dX4_playCard_8 : decode cX4_playCard 8 = .ok (.astore_n 2, 1) := by decide +kernel
theorem dX4_playCard_9 : decode cX4_playCard 9 = .ok (.aload_n 2, 1) := by decide +kernel
theorem dX4_playCard_10 : decode cX4_playCard 10 = .ok (.aload_n 1, 1) := by decide +kernel
theorem dX4_playCard_11 : decode cX4_playCard 11 = .ok (.getfield 61, 3) := by decide +kernel
theorem dX4_playCard_14 : decode cX4_playCard 14 = .ok (.aload_n 1, 1) := by decide +kernel
theorem dX4_playCard_15 : decode cX4_playCard 15 = .ok (.getfield 64, 3) := by decide +kernel
theorem dX4_playCard_18 : decode cX4_playCard 18 = .ok (.invokevirtual 106, 3) := by decide +kernel
theorem dX4_playCard_21 : decode cX4_playCard 21 = .ok (.istore_n 3, 1) := by decide +kernel
theorem dX4_playCard_22 : decode cX4_playCard 22 = .ok (.aload_n 2, 1) := by decide +kernel
theorem dX4_playCard_23 : decode cX4_playCard 23 = .ok (.aload_n 1, 1) := by decide +kernel
theorem dX4_playCard_24 : decode cX4_playCard 24 = .ok (.getfield 61, 3) := by decide +kernel
theorem dX4_playCard_27 : decode cX4_playCard 27 = .ok (.iload_n 3, 1) := by decide +kernel
theorem dX4_playCard_28 : decode cX4_playCard 28 = .ok (.aload_n 0, 1) := by decide +kernel
theorem dX4_playCard_29 : decode cX4_playCard 29 = .ok (.getfield 24, 3) := by decide +kernel
theorem dX4_playCard_32 : decode cX4_playCard 32 = .ok (.invokevirtual 110, 3) := by decide +kernel
theorem dX4_playCard_35 : decode cX4_playCard 35 = .ok (.iload_n 3, 1) := by decide +kernel
theorem dX4_playCard_36 : decode cX4_playCard 36 = .ok (.iconst 2, 1) := by decide +kernel
theorem dX4_playCard_37 : decode cX4_playCard 37 = .ok (.if_icmp .ne 22, 3) := by decide +kernel
theorem dX4_playCard_40 : decode cX4_playCard 40 = .ok (.aload_n 0, 1) := by decide +kernel
theorem dX4_playCard_41 : decode cX4_playCard 41 = .ok (.iconst 1, 1) := by decide +kernel
theorem dX4_playCard_42 : decode cX4_playCard 42 = .ok (.aload_n 1, 1) := by decide +kernel
theorem dX4_playCard_43 : decode cX4_playCard 43 = .ok (.getfield 58, 3) := by decide +kernel
theorem dX4_playCard_46 : decode cX4_playCard 46 = .ok (.isub, 1) := by decide +kernel
theorem dX4_playCard_47 : decode cX4_playCard 47 = .ok (.invokevirtual 35, 3) := by decide +kernel
theorem dX4_playCard_50 : decode cX4_playCard 50 = .ok (.dup, 1) := by decide +kernel
theorem dX4_playCard_51 : decode cX4_playCard 51 = .ok (.getfield 114, 3) := by decide +kernel
theorem dX4_playCard_54 : decode cX4_playCard 54 = .ok (.iconst 1, 1) := by decide +kernel
theorem dX4_playCard_55 : decode cX4_playCard 55 = .ok (.iadd, 1) := by decide +kernel
theorem dX4_playCard_56 : decode cX4_playCard 56 = .ok (.putfield 114, 3) := by decide +kernel
theorem dX4_playCard_59 : decode cX4_playCard 59 = .ok (.aload_n 0, 1) := by decide +kernel
theorem dX4_playCard_60 : decode cX4_playCard 60 = .ok (.aload_n 1, 1) := by decide +kernel
theorem dX4_playCard_61 : decode cX4_playCard 61 = .ok (.getfield 58, 3) := by decide +kernel
theorem dX4_playCard_64 : decode cX4_playCard 64 = .ok (.invokevirtual 117, 3) := by decide +kernel
theorem dX4_playCard_67 : decode cX4_playCard 67 = .ok (.return_, 1) := by decide +kernel
theorem dX4_playRaid_0 : decode cX4_playRaid 0 = .ok (.aload_n 0, 1) := by decide +kernel
theorem dX4_playRaid_1 : decode cX4_playRaid 1 = .ok (.aload_n 0, 1) := by decide +kernel
theorem dX4_playRaid_2 : decode cX4_playRaid 2 = .ok (.invokevirtual 31, 3) := by decide +kernel
theorem dX4_playRaid_5 : decode cX4_playRaid 5 = .ok (.invokevirtual 35, 3) := by decide +kernel
theorem dX4_playRaid_8 : decode cX4_playRaid 8 = .ok (.astore_n 2, 1) := by decide +kernel
theorem dX4_playRaid_9 : decode cX4_playRaid 9 = .ok (.aload_n 0, 1) := by decide +kernel
theorem dX4_playRaid_10 : decode cX4_playRaid 10 = .ok (.iconst 1, 1) := by decide +kernel
theorem dX4_playRaid_11 : decode cX4_playRaid 11 = .ok (.aload_n 0, 1) := by decide +kernel
theorem dX4_playRaid_12 : decode cX4_playRaid 12 = .ok (.invokevirtual 31, 3) := by decide +kernel
theorem dX4_playRaid_15 : decode cX4_playRaid 15 = .ok (.isub, 1) := by decide +kernel
theorem dX4_playRaid_16 : decode cX4_playRaid 16 = .ok (.invokevirtual 35, 3) := by decide +kernel
theorem dX4_playRaid_19 : decode cX4_playRaid 19 = .ok (.astore_n 3, 1) := by decide +kernel
theorem dX4_playRaid_20 : decode cX4_playRaid 20 = .ok (.aload_n 1, 1) := by decide +kernel
theorem dX4_playRaid_21 : decode cX4_playRaid 21 = .ok (.invokevirtual 121, 3) := by decide +kernel
theorem dX4_playRaid_24 : decode cX4_playRaid 24 = .ok (.istore 4, 2) := by decide +kernel
theorem dX4_playRaid_26 : decode cX4_playRaid 26 = .ok (.aload_n 1, 1) := by decide +kernel
theorem dX4_playRaid_27 : decode cX4_playRaid 27 = .ok (.iconst 1, 1) := by decide +kernel
theorem dX4_playRaid_28 : decode cX4_playRaid 28 = .ok (.invokevirtual 124, 3) := by decide +kernel
theorem dX4_playRaid_31 : decode cX4_playRaid 31 = .ok (.ifCond .eq 16, 3) := by decide +kernel
theorem dX4_playRaid_34 : decode cX4_playRaid 34 = .ok (.aload_n 3, 1) := by decide +kernel
theorem dX4_playRaid_35 : decode cX4_playRaid 35 = .ok (.invokevirtual 127, 3) := by decide +kernel
theorem dX4_playRaid_38 : decode cX4_playRaid 38 = .ok (.bipush 6, 2) := by decide +kernel
theorem dX4_playRaid_40 : decode cX4_playRaid 40 = .ok (.if_icmp .lt 7, 3) := by decide +kernel
theorem dX4_playRaid_43 : decode cX4_playRaid 43 = .ok (.iconst 1, 1) := by decide +kernel
theorem dX4_playRaid_44 : decode cX4_playRaid 44 = .ok (.goto 4, 3) := by decide +kernel
theorem dX4_playRaid_47 : decode cX4_playRaid 47 = .ok (.iconst 0, 1) := by decide +kernel
theorem dX4_playRaid_48 : decode cX4_playRaid 48 = .ok (.istore 5, 2) := by decide +kernel
theorem dX4_playRaid_50 : decode cX4_playRaid 50 = .ok (.iload 4, 2) := by decide +kernel
theorem dX4_playRaid_52 : decode cX4_playRaid 52 = .ok (.ifCond .ne 23, 3) := by decide +kernel
theorem dX4_playRaid_55 : decode cX4_playRaid 55 = .ok (.aload_n 1, 1) := by decide +kernel
theorem dX4_playRaid_56 : decode cX4_playRaid 56 = .ok (.iconst 1, 1) := by decide +kernel
theorem dX4_playRaid_57 : decode cX4_playRaid 57 = .ok (.invokevirtual 124, 3) := by decide +kernel
theorem dX4_playRaid_60 : decode cX4_playRaid 60 = .ok (.ifCond .ne 15, 3) := by decide +kernel
theorem dX4_playRaid_63 : decode cX4_playRaid 63 = .ok (.aload_n 1, 1) := by decide +kernel
theorem dX4_playRaid_64 : decode cX4_playRaid 64 = .ok (.iconst 2, 1) := by decide +kernel
theorem dX4_playRaid_65 : decode cX4_playRaid 65 = .ok (.invokevirtual 124, 3) := by decide +kernel
theorem dX4_playRaid_68 : decode cX4_playRaid 68 = .ok (.ifCond .ne 7, 3) := by decide +kernel
theorem dX4_playRaid_71 : decode cX4_playRaid 71 = .ok (.iconst 1, 1) := by decide +kernel
theorem dX4_playRaid_72 : decode cX4_playRaid 72 = .ok (.goto 4, 3) := by decide +kernel
theorem dX4_playRaid_75 : decode cX4_playRaid 75 = .ok (.iconst 0, 1) := by decide +kernel
theorem dX4_playRaid_76 : decode cX4_playRaid 76 = .ok (.istore 6, 2) := by decide +kernel
theorem dX4_playRaid_78 : decode cX4_playRaid 78 = .ok (.iconst 0, 1) := by decide +kernel
theorem dX4_playRaid_79 : decode cX4_playRaid 79 = .ok (.istore 7, 2) := by decide +kernel
theorem dX4_playRaid_81 : decode cX4_playRaid 81 = .ok (.aload_n 1, 1) := by decide +kernel
theorem dX4_playRaid_82 : decode cX4_playRaid 82 = .ok (.invokevirtual 130, 3) := by decide +kernel
theorem dX4_playRaid_85 : decode cX4_playRaid 85 = .ok (.iconst 3, 1) := by decide +kernel
theorem dX4_playRaid_86 : decode cX4_playRaid 86 = .ok (.if_icmp .eq 50, 3) := by decide +kernel
theorem dX4_playRaid_89 : decode cX4_playRaid 89 = .ok (.aload_n 1, 1) := by decide +kernel
theorem dX4_playRaid_90 : decode cX4_playRaid 90 = .ok (.invokevirtual 130, 3) := by decide +kernel
theorem dX4_playRaid_93 : decode cX4_playRaid 93 = .ok (.iconst 4, 1) := by decide +kernel
theorem dX4_playRaid_94 : decode cX4_playRaid 94 = .ok (.if_icmp .ne 15, 3) := by decide +kernel
theorem dX4_playRaid_97 : decode cX4_playRaid 97 = .ok (.aload_n 3, 1) := by decide +kernel
theorem dX4_playRaid_98 : decode cX4_playRaid 98 = .ok (.invokevirtual 127, 3) := by decide +kernel
theorem dX4_playRaid_101 : decode cX4_playRaid 101 = .ok (.iconst 3, 1) := by decide +kernel
theorem dX4_playRaid_102 : decode cX4_playRaid 102 = .ok (.if_icmp .gt 7, 3) := by decide +kernel
theorem dX4_playRaid_105 : decode cX4_playRaid 105 = .ok (.iconst 2, 1) := by decide +kernel
theorem dX4_playRaid_106 : decode cX4_playRaid 106 = .ok (.goto 4, 3) := by decide +kernel
theorem dX4_playRaid_109 : decode cX4_playRaid 109 = .ok (.iconst 1, 1) := by decide +kernel
theorem dX4_playRaid_110 : decode cX4_playRaid 110 = .ok (.istore 8, 2) := by decide +kernel
theorem dX4_playRaid_112 : decode cX4_playRaid 112 = .ok (.aload_n 2, 1) := by decide +kernel
theorem dX4_playRaid_113 : decode cX4_playRaid 113 = .ok (.aload_n 1, 1) := by decide +kernel
theorem dX4_playRaid_114 : decode cX4_playRaid 114 = .ok (.getfield 61, 3) := by decide +kernel
theorem dX4_playRaid_117 : decode cX4_playRaid 117 = .ok (.iload 5, 2) := by decide +kernel
theorem dX4_playRaid_119 : decode cX4_playRaid 119 = .ok (.invokevirtual 133, 3) := by decide +kernel
theorem dX4_playRaid_122 : decode cX4_playRaid 122 = .ok (.aload_n 2, 1) := by decide +kernel
theorem dX4_playRaid_123 : decode cX4_playRaid 123 = .ok (.aload_n 3, 1) := by decide +kernel
theorem dX4_playRaid_124 : decode cX4_playRaid 124 = .ok (.aload_n 1, 1) := by decide +kernel
theorem dX4_playRaid_125 : decode cX4_playRaid 125 = .ok (.getfield 61, 3) := by decide +kernel
theorem dX4_playRaid_128 : decode cX4_playRaid 128 = .ok (.iload 8, 2) := by decide +kernel
theorem dX4_playRaid_130 : decode cX4_playRaid 130 = .ok (.invokestatic 136, 3) := by decide +kernel
theorem dX4_playRaid_133 : decode cX4_playRaid 133 = .ok (.goto 66, 3) := by decide +kernel
theorem dX4_playRaid_136 : decode cX4_playRaid 136 = .ok (.iload 4, 2) := by decide +kernel
theorem dX4_playRaid_138 : decode cX4_playRaid 138 = .ok (.iload 5, 2) := by decide +kernel
theorem dX4_playRaid_140 : decode cX4_playRaid 140 = .ok (.iadd, 1) := by decide +kernel
theorem dX4_playRaid_141 : decode cX4_playRaid 141 = .ok (.ifCond .le 30, 3) := by decide +kernel
theorem dX4_playRaid_144 : decode cX4_playRaid 144 = .ok (.aload_n 2, 1) := by decide +kernel
theorem dX4_playRaid_145 : decode cX4_playRaid 145 = .ok (.aload_n 1, 1) := by decide +kernel
theorem dX4_playRaid_146 : decode cX4_playRaid 146 = .ok (.getfield 61, 3) := by decide +kernel
theorem dX4_playRaid_149 : decode cX4_playRaid 149 = .ok (.iload 4, 2) := by decide +kernel
theorem dX4_playRaid_151 : decode cX4_playRaid 151 = .ok (.iload 5, 2) := by decide +kernel
theorem dX4_playRaid_153 : decode cX4_playRaid 153 = .ok (.iadd, 1) := by decide +kernel
theorem dX4_playRaid_154 : decode cX4_playRaid 154 = .ok (.invokevirtual 133, 3) := by decide +kernel
theorem dX4_playRaid_157 : decode cX4_playRaid 157 = .ok (.aload_n 1, 1) := by decide +kernel
theorem dX4_playRaid_158 : decode cX4_playRaid 158 = .ok (.aload_n 3, 1) := by decide +kernel
theorem dX4_playRaid_159 : decode cX4_playRaid 159 = .ok (.invokestatic 140, 3) := by decide +kernel
theorem dX4_playRaid_162 : decode cX4_playRaid 162 = .ok (.aload_n 2, 1) := by decide +kernel
theorem dX4_playRaid_163 : decode cX4_playRaid 163 = .ok (.iload 4, 2) := by decide +kernel
theorem dX4_playRaid_165 : decode cX4_playRaid 165 = .ok (.invokevirtual 144, 3) := by decide +kernel
theorem dX4_playRaid_168 : decode cX4_playRaid 168 = .ok (.goto 31, 3) := by decide +kernel
theorem dX4_playRaid_171 : decode cX4_playRaid 171 = .ok (.iload 6, 2) := by decide +kernel
theorem dX4_playRaid_173 : decode cX4_playRaid 173 = .ok (.ifCond .ne 10, 3) := by decide +kernel
theorem dX4_playRaid_176 : decode cX4_playRaid 176 = .ok (.aload_n 0, 1) := by decide +kernel
theorem dX4_playRaid_177 : decode cX4_playRaid 177 = .ok (.invokevirtual 147, 3) := by decide +kernel
theorem dX4_playRaid_180 : decode cX4_playRaid 180 = .ok (.ifCond .eq 16, 3) := by decide +kernel
theorem dX4_playRaid_183 : decode cX4_playRaid 183 = .ok (.aload_n 2, 1) := by decide +kernel
theorem dX4_playRaid_184 : decode cX4_playRaid 184 = .ok (.aload_n 3, 1) := by decide +kernel
theorem dX4_playRaid_185 : decode cX4_playRaid 185 = .ok (.aload_n 1, 1) := by decide +kernel
theorem dX4_playRaid_186 : decode cX4_playRaid 186 = .ok (.getfield 61, 3) := by decide +kernel
theorem dX4_playRaid_189 : decode cX4_playRaid 189 = .ok (.iconst 1, 1) := by decide +kernel
theorem dX4_playRaid_190 : decode cX4_playRaid 190 = .ok (.invokestatic 136, 3) := by decide +kernel
theorem dX4_playRaid_193 : decode cX4_playRaid 193 = .ok (.goto 6, 3) := by decide +kernel
theorem dX4_playRaid_196 : decode cX4_playRaid 196 = .ok (.iconst 1, 1) := by decide +kernel
theorem dX4_playRaid_197 : decode cX4_playRaid 197 = .ok (.istore 7, 2) := by decide +kernel
theorem dX4_playRaid_199 : decode cX4_playRaid 199 = .ok (.aload_n 2, 1) := by decide +kernel
theorem dX4_playRaid_200 : decode cX4_playRaid 200 = .ok (.iload 7, 2) := by decide +kernel
theorem dX4_playRaid_202 : decode cX4_playRaid 202 = .ok (.ifCond .eq 12, 3) := by decide +kernel
theorem dX4_playRaid_205 : decode cX4_playRaid 205 = .ok (.aload_n 2, 1) := by decide +kernel
theorem dX4_playRaid_206 : decode cX4_playRaid 206 = .ok (.getfield 39, 3) := by decide +kernel
theorem dX4_playRaid_209 : decode cX4_playRaid 209 = .ok (.iconst 1, 1) := by decide +kernel
theorem dX4_playRaid_210 : decode cX4_playRaid 210 = .ok (.iadd, 1) := by decide +kernel
theorem dX4_playRaid_211 : decode cX4_playRaid 211 = .ok (.goto 4, 3) := by decide +kernel
theorem dX4_playRaid_214 : decode cX4_playRaid 214 = .ok (.iconst 0, 1) := by decide +kernel
theorem dX4_playRaid_215 : decode cX4_playRaid 215 = .ok (.putfield 39, 3) := by decide +kernel
theorem dX4_playRaid_218 : decode cX4_playRaid 218 = .ok (.aload_n 0, 1) := by decide +kernel
theorem dX4_playRaid_219 : decode cX4_playRaid 219 = .ok (.iconst 0, 1) := by decide +kernel
theorem dX4_playRaid_220 : decode cX4_playRaid 220 = .ok (.invokevirtual 117, 3) := by decide +kernel
theorem dX4_playRaid_223 : decode cX4_playRaid 223 = .ok (.aload_n 0, 1) := by decide +kernel
theorem dX4_playRaid_224 : decode cX4_playRaid 224 = .ok (.iconst 1, 1) := by decide +kernel
theorem dX4_playRaid_225 : decode cX4_playRaid 225 = .ok (.invokevirtual 117, 3) := by decide +kernel
theorem dX4_playRaid_228 : decode cX4_playRaid 228 = .ok (.aload_n 0, 1) := by decide +kernel
theorem dX4_playRaid_229 : decode cX4_playRaid 229 = .ok (.aload_n 1, 1) := by decide +kernel
theorem dX4_playRaid_230 : decode cX4_playRaid 230 = .ok (.invokevirtual 151, 3) := by decide +kernel
theorem dX4_playRaid_233 : decode cX4_playRaid 233 = .ok (.invokevirtual 154, 3) := by decide +kernel
theorem dX4_playRaid_236 : decode cX4_playRaid 236 = .ok (.return_, 1) := by decide +kernel
theorem dX4_loseRaider_0 : decode cX4_loseRaider 0 = .ok (.aload_n 0, 1) := by decide +kernel
theorem dX4_loseRaider_1 : decode cX4_loseRaider 1 = .ok (.iload_n 2, 1) := by decide +kernel
theorem dX4_loseRaider_2 : decode cX4_loseRaider 2 = .ok (.invokevirtual 157, 3) := by decide +kernel
theorem dX4_loseRaider_5 : decode cX4_loseRaider 5 = .ok (.aload_n 1, 1) := by decide +kernel
theorem dX4_loseRaider_6 : decode cX4_loseRaider 6 = .ok (.dup, 1) := by decide +kernel
theorem dX4_loseRaider_7 : decode cX4_loseRaider 7 = .ok (.getfield 114, 3) := by decide +kernel
theorem dX4_loseRaider_10 : decode cX4_loseRaider 10 = .ok (.iload_n 3, 1) := by decide +kernel
theorem dX4_loseRaider_11 : decode cX4_loseRaider 11 = .ok (.iadd, 1) := by decide +kernel
theorem dX4_loseRaider_12 : decode cX4_loseRaider 12 = .ok (.putfield 114, 3) := by decide +kernel
theorem dX4_loseRaider_15 : decode cX4_loseRaider 15 = .ok (.aload_n 1, 1) := by decide +kernel
theorem dX4_loseRaider_16 : decode cX4_loseRaider 16 = .ok (.iconst 1, 1) := by decide +kernel
theorem dX4_loseRaider_17 : decode cX4_loseRaider 17 = .ok (.invokevirtual 144, 3) := by decide +kernel
theorem dX4_loseRaider_20 : decode cX4_loseRaider 20 = .ok (.return_, 1) := by decide +kernel
theorem dX4_sendTouchedOut_0 : decode cX4_sendTouchedOut 0 = .ok (.iconst 0, 1) := by decide +kernel
theorem dX4_sendTouchedOut_1 : decode cX4_sendTouchedOut 1 = .ok (.istore_n 2, 1) := by decide +kernel
theorem dX4_sendTouchedOut_2 : decode cX4_sendTouchedOut 2 = .ok (.iload_n 2, 1) := by decide +kernel
theorem dX4_sendTouchedOut_3 : decode cX4_sendTouchedOut 3 = .ok (.aload_n 0, 1) := by decide +kernel
theorem dX4_sendTouchedOut_4 : decode cX4_sendTouchedOut 4 = .ok (.getfield 78, 3) := by decide +kernel
theorem dX4_sendTouchedOut_7 : decode cX4_sendTouchedOut 7 = .ok (.if_icmp .ge 32, 3) := by decide +kernel
theorem dX4_sendTouchedOut_10 : decode cX4_sendTouchedOut 10 = .ok (.iload_n 2, 1) := by decide +kernel
theorem dX4_sendTouchedOut_11 : decode cX4_sendTouchedOut 11 = .ok (.bipush 10, 2) := by decide +kernel
theorem dX4_sendTouchedOut_13 : decode cX4_sendTouchedOut 13 = .ok (.if_icmp .ge 26, 3) := by decide +kernel
theorem dX4_sendTouchedOut_16 : decode cX4_sendTouchedOut 16 = .ok (.aload_n 0, 1) := by decide +kernel
theorem dX4_sendTouchedOut_17 : decode cX4_sendTouchedOut 17 = .ok (.iload_n 2, 1) := by decide +kernel
theorem dX4_sendTouchedOut_18 : decode cX4_sendTouchedOut 18 = .ok (.invokevirtual 81, 3) := by decide +kernel
theorem dX4_sendTouchedOut_21 : decode cX4_sendTouchedOut 21 = .ok (.ifCond .ne 12, 3) := by decide +kernel
theorem dX4_sendTouchedOut_24 : decode cX4_sendTouchedOut 24 = .ok (.aload_n 1, 1) := by decide +kernel
theorem dX4_sendTouchedOut_25 : decode cX4_sendTouchedOut 25 = .ok (.aload_n 0, 1) := by decide +kernel
theorem dX4_sendTouchedOut_26 : decode cX4_sendTouchedOut 26 = .ok (.iload_n 2, 1) := by decide +kernel
theorem dX4_sendTouchedOut_27 : decode cX4_sendTouchedOut 27 = .ok (.invokevirtual 85, 3) := by decide +kernel
theorem dX4_sendTouchedOut_30 : decode cX4_sendTouchedOut 30 = .ok (.invokevirtual 157, 3) := by decide +kernel
theorem dX4_sendTouchedOut_33 : decode cX4_sendTouchedOut 33 = .ok (.iinc 2 1, 3) := by decide +kernel
theorem dX4_sendTouchedOut_36 : decode cX4_sendTouchedOut 36 = .ok (.goto (-34), 3) := by decide +kernel
theorem dX4_sendTouchedOut_39 : decode cX4_sendTouchedOut 39 = .ok (.return_, 1) := by decide +kernel
theorem dX4_passTime_0 : decode cX4_passTime 0 = .ok (.aload_n 0, 1) := by decide +kernel
theorem dX4_passTime_1 : decode cX4_passTime 1 = .ok (.dup, 1) := by decide +kernel
theorem dX4_passTime_2 : decode cX4_passTime 2 = .ok (.getfield 24, 3) := by decide +kernel
theorem dX4_passTime_5 : decode cX4_passTime 5 = .ok (.iload_n 1, 1) := by decide +kernel
theorem dX4_passTime_6 : decode cX4_passTime 6 = .ok (.iadd, 1) := by decide +kernel
theorem dX4_passTime_7 : decode cX4_passTime 7 = .ok (.putfield 24, 3) := by decide +kernel
theorem dX4_passTime_10 : decode cX4_passTime 10 = .ok (.aload_n 0, 1) := by decide +kernel
theorem dX4_passTime_11 : decode cX4_passTime 11 = .ok (.dup, 1) := by decide +kernel
theorem dX4_passTime_12 : decode cX4_passTime 12 = .ok (.getfield 28, 3) := by decide +kernel
theorem dX4_passTime_15 : decode cX4_passTime 15 = .ok (.iconst 1, 1) := by decide +kernel
theorem dX4_passTime_16 : decode cX4_passTime 16 = .ok (.iadd, 1) := by decide +kernel
theorem dX4_passTime_17 : decode cX4_passTime 17 = .ok (.putfield 28, 3) := by decide +kernel
theorem dX4_passTime_20 : decode cX4_passTime 20 = .ok (.aload_n 0, 1) := by decide +kernel
theorem dX4_passTime_21 : decode cX4_passTime 21 = .ok (.getfield 12, 3) := by decide +kernel
theorem dX4_passTime_24 : decode cX4_passTime 24 = .ok (.aload_n 0, 1) := by decide +kernel
theorem dX4_passTime_25 : decode cX4_passTime 25 = .ok (.getfield 24, 3) := by decide +kernel
theorem dX4_passTime_28 : decode cX4_passTime 28 = .ok (.invokevirtual 160, 3) := by decide +kernel
theorem dX4_passTime_31 : decode cX4_passTime 31 = .ok (.aload_n 0, 1) := by decide +kernel
theorem dX4_passTime_32 : decode cX4_passTime 32 = .ok (.getfield 18, 3) := by decide +kernel
theorem dX4_passTime_35 : decode cX4_passTime 35 = .ok (.aload_n 0, 1) := by decide +kernel
theorem dX4_passTime_36 : decode cX4_passTime 36 = .ok (.getfield 24, 3) := by decide +kernel
theorem dX4_passTime_39 : decode cX4_passTime 39 = .ok (.invokevirtual 160, 3) := by decide +kernel
theorem dX4_passTime_42 : decode cX4_passTime 42 = .ok (.return_, 1) := by decide +kernel
theorem dX4_endAllOut_0 : decode cX4_endAllOut 0 = .ok (.aload_n 0, 1) := by decide +kernel
theorem dX4_endAllOut_1 : decode cX4_endAllOut 1 = .ok (.iload_n 1, 1) := by decide +kernel
theorem dX4_endAllOut_2 : decode cX4_endAllOut 2 = .ok (.invokevirtual 35, 3) := by decide +kernel
theorem dX4_endAllOut_5 : decode cX4_endAllOut 5 = .ok (.astore_n 2, 1) := by decide +kernel
theorem dX4_endAllOut_6 : decode cX4_endAllOut 6 = .ok (.aload_n 2, 1) := by decide +kernel
theorem dX4_endAllOut_7 : decode cX4_endAllOut 7 = .ok (.iconst 0, 1) := by decide +kernel
theorem dX4_endAllOut_8 : decode cX4_endAllOut 8 = .ok (.invokevirtual 163, 3) := by decide +kernel
theorem dX4_endAllOut_11 : decode cX4_endAllOut 11 = .ok (.ifCond .ne 25, 3) := by decide +kernel
theorem dX4_endAllOut_14 : decode cX4_endAllOut 14 = .ok (.aload_n 0, 1) := by decide +kernel
theorem dX4_endAllOut_15 : decode cX4_endAllOut 15 = .ok (.iconst 1, 1) := by decide +kernel
theorem dX4_endAllOut_16 : decode cX4_endAllOut 16 = .ok (.iload_n 1, 1) := by decide +kernel
theorem dX4_endAllOut_17 : decode cX4_endAllOut 17 = .ok (.isub, 1) := by decide +kernel
theorem dX4_endAllOut_18 : decode cX4_endAllOut 18 = .ok (.invokevirtual 35, 3) := by decide +kernel
theorem dX4_endAllOut_21 : decode cX4_endAllOut 21 = .ok (.dup, 1) := by decide +kernel
theorem dX4_endAllOut_22 : decode cX4_endAllOut 22 = .ok (.getfield 114, 3) := by decide +kernel
theorem dX4_endAllOut_25 : decode cX4_endAllOut 25 = .ok (.iconst 2, 1) := by decide +kernel
theorem dX4_endAllOut_26 : decode cX4_endAllOut 26 = .ok (.iadd, 1) := by decide +kernel
theorem dX4_endAllOut_27 : decode cX4_endAllOut 27 = .ok (.putfield 114, 3) := by decide +kernel
theorem dX4_endAllOut_30 : decode cX4_endAllOut 30 = .ok (.aload_n 2, 1) := by decide +kernel
theorem dX4_endAllOut_31 : decode cX4_endAllOut 31 = .ok (.bipush 10, 2) := by decide +kernel
theorem dX4_endAllOut_33 : decode cX4_endAllOut 33 = .ok (.invokevirtual 144, 3) := by decide +kernel
theorem dX4_endAllOut_36 : decode cX4_endAllOut 36 = .ok (.return_, 1) := by decide +kernel
theorem dX5_init_0 : decode cX5_init 0 = .ok (.aload_n 0, 1) := by decide +kernel
theorem dX5_init_1 : decode cX5_init 1 = .ok (.invokespecial 3, 3) := by decide +kernel
theorem dX5_init_4 : decode cX5_init 4 = .ok (.aload_n 0, 1) := by decide +kernel
theorem dX5_init_5 : decode cX5_init 5 = .ok (.bipush 60, 2) := by decide +kernel
theorem dX5_init_7 : decode cX5_init 7 = .ok (.newarray .int, 2) := by decide +kernel
theorem dX5_init_9 : decode cX5_init 9 = .ok (.putfield 9, 3) := by decide +kernel
theorem dX5_init_12 : decode cX5_init 12 = .ok (.return_, 1) := by decide +kernel
theorem dX5_hasRoom_0 : decode cX5_hasRoom 0 = .ok (.aload_n 0, 1) := by decide +kernel
theorem dX5_hasRoom_1 : decode cX5_hasRoom 1 = .ok (.getfield 15, 3) := by decide +kernel
theorem dX5_hasRoom_4 : decode cX5_hasRoom 4 = .ok (.bipush 60, 2) := by decide +kernel
theorem dX5_hasRoom_6 : decode cX5_hasRoom 6 = .ok (.if_icmp .ge 7, 3) := by decide +kernel
theorem dX5_hasRoom_9 : decode cX5_hasRoom 9 = .ok (.iconst 1, 1) := by decide +kernel
theorem dX5_hasRoom_10 : decode cX5_hasRoom 10 = .ok (.goto 4, 3) := by decide +kernel
theorem dX5_hasRoom_13 : decode cX5_hasRoom 13 = .ok (.iconst 0, 1) := by decide +kernel
theorem dX5_hasRoom_14 : decode cX5_hasRoom 14 = .ok (.ireturn, 1) := by decide +kernel
theorem dX5_put_0 : decode cX5_put 0 = .ok (.aload_n 0, 1) := by decide +kernel
theorem dX5_put_1 : decode cX5_put 1 = .ok (.getfield 15, 3) := by decide +kernel
theorem dX5_put_4 : decode cX5_put 4 = .ok (.ifCond .lt 32, 3) := by decide +kernel
theorem dX5_put_7 : decode cX5_put 7 = .ok (.aload_n 0, 1) := by decide +kernel
theorem dX5_put_8 : decode cX5_put 8 = .ok (.getfield 15, 3) := by decide +kernel
theorem dX5_put_11 : decode cX5_put 11 = .ok (.bipush 60, 2) := by decide +kernel
theorem dX5_put_13 : decode cX5_put 13 = .ok (.if_icmp .ge 23, 3) := by decide +kernel
theorem dX5_put_16 : decode cX5_put 16 = .ok (.aload_n 0, 1) := by decide +kernel
theorem dX5_put_17 : decode cX5_put 17 = .ok (.getfield 9, 3) := by decide +kernel
theorem dX5_put_20 : decode cX5_put 20 = .ok (.aload_n 0, 1) := by decide +kernel
theorem dX5_put_21 : decode cX5_put 21 = .ok (.getfield 15, 3) := by decide +kernel
theorem dX5_put_24 : decode cX5_put 24 = .ok (.iload_n 1, 1) := by decide +kernel
theorem dX5_put_25 : decode cX5_put 25 = .ok (.iastore, 1) := by decide +kernel
theorem dX5_put_26 : decode cX5_put 26 = .ok (.aload_n 0, 1) := by decide +kernel
theorem dX5_put_27 : decode cX5_put 27 = .ok (.dup, 1) := by decide +kernel
theorem dX5_put_28 : decode cX5_put 28 = .ok (.getfield 15, 3) := by decide +kernel
theorem dX5_put_31 : decode cX5_put 31 = .ok (.iconst 1, 1) := by decide +kernel
theorem dX5_put_32 : decode cX5_put 32 = .ok (.iadd, 1) := by decide +kernel
theorem dX5_put_33 : decode cX5_put 33 = .ok (.putfield 15, 3) := by decide +kernel
theorem dX5_put_36 : decode cX5_put 36 = .ok (.aload_n 0, 1) := by decide +kernel
theorem dX5_put_37 : decode cX5_put 37 = .ok (.getfield 15, 3) := by decide +kernel
theorem dX5_put_40 : decode cX5_put 40 = .ok (.ireturn, 1) := by decide +kernel
theorem dX5_wipe_0 : decode cX5_wipe 0 = .ok (.aload_n 0, 1) := by decide +kernel
theorem dX5_wipe_1 : decode cX5_wipe 1 = .ok (.getfield 15, 3) := by decide +kernel
theorem dX5_wipe_4 : decode cX5_wipe 4 = .ok (.istore_n 1, 1) := by decide +kernel
theorem dX5_wipe_5 : decode cX5_wipe 5 = .ok (.aload_n 0, 1) := by decide +kernel
theorem dX5_wipe_6 : decode cX5_wipe 6 = .ok (.iconst 0, 1) := by decide +kernel
theorem dX5_wipe_7 : decode cX5_wipe 7 = .ok (.putfield 15, 3) := by decide +kernel
theorem dX5_wipe_10 : decode cX5_wipe 10 = .ok (.iload_n 1, 1) := by decide +kernel
theorem dX5_wipe_11 : decode cX5_wipe 11 = .ok (.ireturn, 1) := by decide +kernel
theorem dX5_rewind_0 : decode cX5_rewind 0 = .ok (.aload_n 0, 1) := by decide +kernel
theorem dX5_rewind_1 : decode cX5_rewind 1 = .ok (.iconst 0, 1) := by decide +kernel
theorem dX5_rewind_2 : decode cX5_rewind 2 = .ok (.putfield 19, 3) := by decide +kernel
theorem dX5_rewind_5 : decode cX5_rewind 5 = .ok (.return_, 1) := by decide +kernel
theorem dX5_findFault_0 : decode cX5_findFault 0 = .ok (.aload_n 0, 1) := by decide +kernel
theorem dX5_findFault_1 : decode cX5_findFault 1 = .ok (.invokevirtual 22, 3) := by decide +kernel
theorem dX5_findFault_4 : decode cX5_findFault 4 = .ok (.iconst 0, 1) := by decide +kernel
theorem dX5_findFault_5 : decode cX5_findFault 5 = .ok (.istore_n 1, 1) := by decide +kernel
theorem dX5_findFault_6 : decode cX5_findFault 6 = .ok (.iload_n 1, 1) := by decide +kernel
theorem dX5_findFault_7 : decode cX5_findFault 7 = .ok (.bipush 60, 2) := by decide +kernel
theorem dX5_findFault_9 : decode cX5_findFault 9 = .ok (.if_icmp .ge 32, 3) := by decide +kernel
theorem dX5_findFault_12 : decode cX5_findFault 12 = .ok (.aload_n 0, 1) := by decide +kernel
theorem dX5_findFault_13 : decode cX5_findFault 13 = .ok (.getfield 19, 3) := by decide +kernel
theorem dX5_findFault_16 : decode cX5_findFault 16 = .ok (.aload_n 0, 1) := by decide +kernel
theorem dX5_findFault_17 : decode cX5_findFault 17 = .ok (.getfield 15, 3) := by decide +kernel
theorem dX5_findFault_20 : decode cX5_findFault 20 = .ok (.if_icmp .ge 21, 3) := by decide +kernel
theorem dX5_findFault_23 : decode cX5_findFault 23 = .ok (.aload_n 0, 1) := by decide +kernel
theorem dX5_findFault_24 : decode cX5_findFault 24 = .ok (.invokevirtual 25, 3) := by decide +kernel
theorem dX5_findFault_27 : decode cX5_findFault 27 = .ok (.ifCond .ne 8, 3) := by decide +kernel
theorem dX5_findFault_30 : decode cX5_findFault 30 = .ok (.aload_n 0, 1) := by decide +kernel
theorem dX5_findFault_31 : decode cX5_findFault 31 = .ok (.getfield 19, 3) := by decide +kernel
theorem dX5_findFault_34 : decode cX5_findFault 34 = .ok (.ireturn, 1) := by decide +kernel
theorem dX5_findFault_35 : decode cX5_findFault 35 = .ok (.iinc 1 1, 3) := by decide +kernel
theorem dX5_findFault_38 : decode cX5_findFault 38 = .ok (.goto (-32), 3) := by decide +kernel
theorem dX5_findFault_41 : decode cX5_findFault 41 = .ok (.iconst (-1), 1) := by decide +kernel
theorem dX5_findFault_42 : decode cX5_findFault 42 = .ok (.ireturn, 1) := by decide +kernel
theorem dX5_readOrder_0 : decode cX5_readOrder 0 = .ok (.aload_n 0, 1) := by decide +kernel
theorem dX5_readOrder_1 : decode cX5_readOrder 1 = .ok (.iconst (-1), 1) := by decide +kernel
theorem dX5_readOrder_2 : decode cX5_readOrder 2 = .ok (.putfield 29, 3) := by decide +kernel
theorem dX5_readOrder_5 : decode cX5_readOrder 5 = .ok (.aload_n 0, 1) := by decide +kernel
theorem dX5_readOrder_6 : decode cX5_readOrder 6 = .ok (.invokevirtual 32, 3) := by decide +kernel
theorem dX5_readOrder_9 : decode cX5_readOrder 9 = .ok (.ifCond .ne 5, 3) := by decide +kernel
theorem dX5_readOrder_12 : decode cX5_readOrder 12 = .ok (.iconst 0, 1) := by decide +kernel
theorem dX5_readOrder_13 : decode cX5_readOrder 13 = .ok (.ireturn, 1) := by decide +kernel
theorem dX5_readOrder_14 : decode cX5_readOrder 14 = .ok (.aload_n 0, 1) := by decide +kernel
theorem dX5_readOrder_15 : decode cX5_readOrder 15 = .ok (.getfield 35, 3) := by decide +kernel
theorem dX5_readOrder_18 : decode cX5_readOrder 18 = .ok (.bipush 7, 2) := by decide +kernel
theorem dX5_readOrder_20 : decode cX5_readOrder 20 = .ok (.if_icmp .eq 10, 3) := by decide +kernel
theorem dX5_readOrder_23 : decode cX5_readOrder 23 = .ok (.aload_n 0, 1) := by decide +kernel
theorem dX5_readOrder_24 : decode cX5_readOrder 24 = .ok (.getfield 35, 3) := by decide +kernel
theorem dX5_readOrder_27 : decode cX5_readOrder 27 = .ok (.ifCond .ne 12, 3) := by decide +kernel
theorem dX5_readOrder_30 : decode cX5_readOrder 30 = .ok (.aload_n 0, 1) := by decide +kernel
theorem dX5_readOrder_31 : decode cX5_readOrder 31 = .ok (.invokevirtual 38, 3) := by decide +kernel
theorem dX5_readOrder_34 : decode cX5_readOrder 34 = .ok (.ifCond .ne 5, 3) := by decide +kernel
theorem dX5_readOrder_37 : decode cX5_readOrder 37 = .ok (.iconst 0, 1) := by decide +kernel
theorem dX5_readOrder_38 : decode cX5_readOrder 38 = .ok (.ireturn, 1) := by decide +kernel
theorem dX5_readOrder_39 : decode cX5_readOrder 39 = .ok (.aload_n 0, 1) := by decide +kernel
theorem dX5_readOrder_40 : decode cX5_readOrder 40 = .ok (.getfield 35, 3) := by decide +kernel
theorem dX5_readOrder_43 : decode cX5_readOrder 43 = .ok (.bipush 7, 2) := by decide +kernel
theorem dX5_readOrder_45 : decode cX5_readOrder 45 = .ok (.if_icmp .eq 21, 3) := by decide +kernel
theorem dX5_readOrder_48 : decode cX5_readOrder 48 = .ok (.aload_n 0, 1) := by decide +kernel
theorem dX5_readOrder_49 : decode cX5_readOrder 49 = .ok (.bipush 64, 2) := by decide +kernel
theorem dX5_readOrder_51 : decode cX5_readOrder 51 = .ok (.invokevirtual 41, 3) := by decide +kernel
theorem dX5_readOrder_54 : decode cX5_readOrder 54 = .ok (.ifCond .eq 10, 3) := by decide +kernel
theorem dX5_readOrder_57 : decode cX5_readOrder 57 = .ok (.aload_n 0, 1) := by decide +kernel
theorem dX5_readOrder_58 : decode cX5_readOrder 58 = .ok (.invokevirtual 45, 3) := by decide +kernel
theorem dX5_readOrder_61 : decode cX5_readOrder 61 = .ok (.ifCond .ne 5, 3) := by decide +kernel
theorem dX5_readOrder_64 : decode cX5_readOrder 64 = .ok (.iconst 0, 1) := by decide +kernel
theorem dX5_readOrder_65 : decode cX5_readOrder 65 = .ok (.ireturn, 1) := by decide +kernel
theorem dX5_readOrder_66 : decode cX5_readOrder 66 = .ok (.aload_n 0, 1) := by decide +kernel
theorem dX5_readOrder_67 : decode cX5_readOrder 67 = .ok (.bipush 59, 2) := by decide +kernel
theorem dX5_readOrder_69 : decode cX5_readOrder 69 = .ok (.invokevirtual 41, 3) := by decide +kernel
theorem dX5_readOrder_72 : decode cX5_readOrder 72 = .ok (.ireturn, 1) := by decide +kernel
theorem dX5_readWord_0 : decode cX5_readWord 0 = .ok (.sipush 255, 3) := by decide +kernel
theorem dX5_readWord_3 : decode cX5_readWord 3 = .ok (.istore_n 1, 1) := by decide +kernel
theorem dX5_readWord_4 : decode cX5_readWord 4 = .ok (.iconst 0, 1) := by decide +kernel
theorem dX5_readWord_5 : decode cX5_readWord 5 = .ok (.istore_n 2, 1) := by decide +kernel
theorem dX5_readWord_6 : decode cX5_readWord 6 = .ok (.iload_n 2, 1) := by decide +kernel
theorem dX5_readWord_7 : decode cX5_readWord 7 = .ok (.bipush 60, 2) := by decide +kernel
theorem dX5_readWord_9 : decode cX5_readWord 9 = .ok (.if_icmp .ge 73, 3) := by decide +kernel
theorem dX5_readWord_12 : decode cX5_readWord 12 = .ok (.aload_n 0, 1) := by decide +kernel
theorem dX5_readWord_13 : decode cX5_readWord 13 = .ok (.iload_n 1, 1) := by decide +kernel
theorem dX5_readWord_14 : decode cX5_readWord 14 = .ok (.iload_n 2, 1) := by decide +kernel
theorem dX5_readWord_15 : decode cX5_readWord 15 = .ok (.invokevirtual 48, 3) := by decide +kernel
theorem dX5_readWord_18 : decode cX5_readWord 18 = .ok (.istore_n 1, 1) := by decide +kernel
theorem dX5_readWord_19 : decode cX5_readWord 19 = .ok (.iload_n 1, 1) := by decide +kernel
theorem dX5_readWord_20 : decode cX5_readWord 20 = .ok (.ifCond .ne 5, 3) := by decide +kernel
theorem dX5_readWord_23 : decode cX5_readWord 23 = .ok (.iconst 0, 1) := by decide +kernel
theorem dX5_readWord_24 : decode cX5_readWord 24 = .ok (.ireturn, 1) := by decide +kernel
theorem dX5_readWord_25 : decode cX5_readWord 25 = .ok (.aload_n 0, 1) := by decide +kernel
theorem dX5_readWord_26 : decode cX5_readWord 26 = .ok (.dup, 1) := by decide +kernel
theorem dX5_readWord_27 : decode cX5_readWord 27 = .ok (.getfield 19, 3) := by decide +kernel
theorem dX5_readWord_30 : decode cX5_readWord 30 = .ok (.iconst 1, 1) := by decide +kernel
theorem dX5_readWord_31 : decode cX5_readWord 31 = .ok (.iadd, 1) := by decide +kernel
theorem dX5_readWord_32 : decode cX5_readWord 32 = .ok (.putfield 19, 3) := by decide +kernel
theorem dX5_readWord_35 : decode cX5_readWord 35 = .ok (.iconst 0, 1) := by decide +kernel
theorem dX5_readWord_36 : decode cX5_readWord 36 = .ok (.istore_n 3, 1) := by decide +kernel
theorem dX5_readWord_37 : decode cX5_readWord 37 = .ok (.iload_n 3, 1) := by decide +kernel
theorem dX5_readWord_38 : decode cX5_readWord 38 = .ok (.bipush 8, 2) := by decide +kernel
theorem dX5_readWord_40 : decode cX5_readWord 40 = .ok (.if_icmp .ge 36, 3) := by decide +kernel
theorem dX5_readWord_43 : decode cX5_readWord 43 = .ok (.iload_n 1, 1) := by decide +kernel
theorem dX5_readWord_44 : decode cX5_readWord 44 = .ok (.iconst 1, 1) := by decide +kernel
theorem dX5_readWord_45 : decode cX5_readWord 45 = .ok (.iload_n 3, 1) := by decide +kernel
theorem dX5_readWord_46 : decode cX5_readWord 46 = .ok (.ishl, 1) := by decide +kernel
theorem dX5_readWord_47 : decode cX5_readWord 47 = .ok (.if_icmp .ne 23, 3) := by decide +kernel
theorem dX5_readWord_50 : decode cX5_readWord 50 = .ok (.iload_n 3, 1) := by decide +kernel
theorem dX5_readWord_51 : decode cX5_readWord 51 = .ok (.invokestatic 52, 3) := by decide +kernel
theorem dX5_readWord_54 : decode cX5_readWord 54 = .ok (.invokevirtual 56, 3) := by decide +kernel
theorem dX5_readWord_57 : decode cX5_readWord 57 = .ok (.iload_n 2, 1) := by decide +kernel
theorem dX5_readWord_58 : decode cX5_readWord 58 = .ok (.iconst 1, 1) := by decide +kernel
theorem dX5_readWord_59 : decode cX5_readWord 59 = .ok (.iadd, 1) := by decide +kernel
theorem dX5_readWord_60 : decode cX5_readWord 60 = .ok (.if_icmp .ne 10, 3) := by decide +kernel
theorem dX5_readWord_63 : decode cX5_readWord 63 = .ok (.aload_n 0, 1) := by decide +kernel
theorem dX5_readWord_64 : decode cX5_readWord 64 = .ok (.iload_n 3, 1) := by decide +kernel
theorem dX5_readWord_65 : decode cX5_readWord 65 = .ok (.putfield 35, 3) := by decide +kernel
theorem dX5_readWord_68 : decode cX5_readWord 68 = .ok (.iconst 1, 1) := by decide +kernel
theorem dX5_readWord_69 : decode cX5_readWord 69 = .ok (.ireturn, 1) := by decide +kernel
theorem dX5_readWord_70 : decode cX5_readWord 70 = .ok (.iinc 3 1, 3) := by decide +kernel
theorem dX5_readWord_73 : decode cX5_readWord 73 = .ok (.goto (-36), 3) := by decide +kernel
theorem dX5_readWord_76 : decode cX5_readWord 76 = .ok (.iinc 2 1, 3) := by decide +kernel
theorem dX5_readWord_79 : decode cX5_readWord 79 = .ok (.goto (-73), 3) := by decide +kernel
theorem dX5_readWord_82 : decode cX5_readWord 82 = .ok (.iconst 0, 1) := by decide +kernel
theorem dX5_readWord_83 : decode cX5_readWord 83 = .ok (.ireturn, 1) := by decide +kernel
theorem dX5_keepFitting_0 : decode cX5_keepFitting 0 = .ok (.iconst 0, 1) := by decide +kernel
theorem dX5_keepFitting_1 : decode cX5_keepFitting 1 = .ok (.istore_n 3, 1) := by decide +kernel
theorem dX5_keepFitting_2 : decode cX5_keepFitting 2 = .ok (.aload_n 0, 1) := by decide +kernel
theorem dX5_keepFitting_3 : decode cX5_keepFitting 3 = .ok (.invokevirtual 62, 3) := by decide +kernel
theorem dX5_keepFitting_6 : decode cX5_keepFitting 6 = .ok (.istore 4, 2) := by decide +kernel
theorem dX5_keepFitting_8 : decode cX5_keepFitting 8 = .ok (.iconst 0, 1) := by decide +kernel
theorem dX5_keepFitting_9 : decode cX5_keepFitting 9 = .ok (.istore 5, 2) := by decide +kernel
theorem dX5_keepFitting_11 : decode cX5_keepFitting 11 = .ok (.iload 5, 2) := by decide +kernel
theorem dX5_keepFitting_13 : decode cX5_keepFitting 13 = .ok (.bipush 8, 2) := by decide +kernel
theorem dX5_keepFitting_15 : decode cX5_keepFitting 15 = .ok (.if_icmp .ge 53, 3) := by decide +kernel
theorem dX5_keepFitting_18 : decode cX5_keepFitting 18 = .ok (.iload 5, 2) := by decide +kernel
theorem dX5_keepFitting_20 : decode cX5_keepFitting 20 = .ok (.invokestatic 52, 3) := by decide +kernel
theorem dX5_keepFitting_23 : decode cX5_keepFitting 23 = .ok (.astore 6, 2) := by decide +kernel
theorem dX5_keepFitting_25 : decode cX5_keepFitting 25 = .ok (.iload_n 1, 1) := by decide +kernel
theorem dX5_keepFitting_26 : decode cX5_keepFitting 26 = .ok (.iload 5, 2) := by decide +kernel
theorem dX5_keepFitting_28 : decode cX5_keepFitting 28 = .ok (.ishr, 1) := by decide +kernel
theorem dX5_keepFitting_29 : decode cX5_keepFitting 29 = .ok (.iconst 1, 1) := by decide +kernel
theorem dX5_keepFitting_30 : decode cX5_keepFitting 30 = .ok (.iand, 1) := by decide +kernel
theorem dX5_keepFitting_31 : decode cX5_keepFitting 31 = .ok (.iconst 1, 1) := by decide +kernel
theorem dX5_keepFitting_32 : decode cX5_keepFitting 32 = .ok (.if_icmp .ne 30, 3) := by decide +kernel
theorem dX5_keepFitting_35 : decode cX5_keepFitting 35 = .ok (.iload_n 2, 1) := by decide +kernel
theorem dX5_keepFitting_36 : decode cX5_keepFitting 36 = .ok (.aload 6, 2) := by decide +kernel
theorem dX5_keepFitting_38 : decode cX5_keepFitting 38 = .ok (.invokevirtual 56, 3) := by decide +kernel
theorem dX5_keepFitting_41 : decode cX5_keepFitting 41 = .ok (.if_icmp .ge 21, 3) := by decide +kernel
theorem dX5_keepFitting_44 : decode cX5_keepFitting 44 = .ok (.aload 6, 2) := by decide +kernel
theorem dX5_keepFitting_46 : decode cX5_keepFitting 46 = .ok (.iload_n 2, 1) := by decide +kernel
theorem dX5_keepFitting_47 : decode cX5_keepFitting 47 = .ok (.invokevirtual 65, 3) := by decide +kernel
theorem dX5_keepFitting_50 : decode cX5_keepFitting 50 = .ok (.iload 4, 2) := by decide +kernel
theorem dX5_keepFitting_52 : decode cX5_keepFitting 52 = .ok (.if_icmp .ne 10, 3) := by decide +kernel
theorem dX5_keepFitting_55 : decode cX5_keepFitting 55 = .ok (.iload_n 3, 1) := by decide +kernel
theorem dX5_keepFitting_56 : decode cX5_keepFitting 56 = .ok (.iconst 1, 1) := by decide +kernel
theorem dX5_keepFitting_57 : decode cX5_keepFitting 57 = .ok (.iload 5, 2) := by decide +kernel
theorem dX5_keepFitting_59 : decode cX5_keepFitting 59 = .ok (.ishl, 1) := by decide +kernel
theorem dX5_keepFitting_60 : decode cX5_keepFitting 60 = .ok (.ior, 1) := by decide +kernel
theorem dX5_keepFitting_61 : decode cX5_keepFitting 61 = .ok (.istore_n 3, 1) := by decide +kernel
theorem dX5_keepFitting_62 : decode cX5_keepFitting 62 = .ok (.iinc 5 1, 3) := by decide +kernel
theorem dX5_keepFitting_65 : decode cX5_keepFitting 65 = .ok (.goto (-54), 3) := by decide +kernel
theorem dX5_keepFitting_68 : decode cX5_keepFitting 68 = .ok (.iload_n 3, 1) := by decide +kernel
theorem dX5_keepFitting_69 : decode cX5_keepFitting 69 = .ok (.ireturn, 1) := by decide +kernel
theorem dX5_textOf_0 : decode cX5_textOf 0 = .ok (.iload_n 0, 1) := by decide +kernel
theorem dX5_textOf_1 : decode cX5_textOf 1 = .ok (.tableswitch 64 0 6 #[43, 46, 49, 52, 55, 58, 61], 43) := by decide +kernel
theorem dX5_textOf_44 : decode cX5_textOf 44 = .ok (.ldc 69, 2) := by decide +kernel
theorem dX5_textOf_46 : decode cX5_textOf 46 = .ok (.areturn, 1) := by decide +kernel
theorem dX5_textOf_47 : decode cX5_textOf 47 = .ok (.ldc 71, 2) := by decide +kernel
theorem dX5_textOf_49 : decode cX5_textOf 49 = .ok (.areturn, 1) := by decide +kernel
theorem dX5_textOf_50 : decode cX5_textOf 50 = .ok (.ldc 73, 2) := by decide +kernel
theorem dX5_textOf_52 : decode cX5_textOf 52 = .ok (.areturn, 1) := by decide +kernel
theorem dX5_textOf_53 : decode cX5_textOf 53 = .ok (.ldc 75, 2) := by decide +kernel
theorem dX5_textOf_55 : decode cX5_textOf 55 = .ok (.areturn, 1) := by decide +kernel
theorem dX5_textOf_56 : decode cX5_textOf 56 = .ok (.ldc 77, 2) := by decide +kernel
theorem dX5_textOf_58 : decode cX5_textOf 58 = .ok (.areturn, 1) := by decide +kernel
theorem dX5_textOf_59 : decode cX5_textOf 59 = .ok (.ldc 79, 2) := by decide +kernel
theorem dX5_textOf_61 : decode cX5_textOf 61 = .ok (.areturn, 1) := by decide +kernel
theorem dX5_textOf_62 : decode cX5_textOf 62 = .ok (.ldc 81, 2) := by decide +kernel
theorem dX5_textOf_64 : decode cX5_textOf 64 = .ok (.areturn, 1) := by decide +kernel
theorem dX5_textOf_65 : decode cX5_textOf 65 = .ok (.ldc 83, 2) := by decide +kernel
theorem dX5_textOf_67 : decode cX5_textOf 67 = .ok (.areturn, 1) := by decide +kernel
theorem dX5_nextSign_0 : decode cX5_nextSign 0 = .ok (.aload_n 0, 1) := by decide +kernel
theorem dX5_nextSign_1 : decode cX5_nextSign 1 = .ok (.getfield 19, 3) := by decide +kernel
theorem dX5_nextSign_4 : decode cX5_nextSign 4 = .ok (.ifCond .lt 35, 3) := by decide +kernel
theorem dX5_nextSign_7 : decode cX5_nextSign 7 = .ok (.aload_n 0, 1) := by decide +kernel
theorem dX5_nextSign_8 : decode cX5_nextSign 8 = .ok (.getfield 19, 3) := by decide +kernel
theorem dX5_nextSign_11 : decode cX5_nextSign 11 = .ok (.aload_n 0, 1) := by decide +kernel
theorem dX5_nextSign_12 : decode cX5_nextSign 12 = .ok (.getfield 15, 3) := by decide +kernel
theorem dX5_nextSign_15 : decode cX5_nextSign 15 = .ok (.if_icmp .ge 24, 3) := by decide +kernel
theorem dX5_nextSign_18 : decode cX5_nextSign 18 = .ok (.aload_n 0, 1) := by decide +kernel
theorem dX5_nextSign_19 : decode cX5_nextSign 19 = .ok (.getfield 19, 3) := by decide +kernel
theorem dX5_nextSign_22 : decode cX5_nextSign 22 = .ok (.bipush 60, 2) := by decide +kernel
theorem dX5_nextSign_24 : decode cX5_nextSign 24 = .ok (.if_icmp .ge 15, 3) := by decide +kernel
theorem dX5_nextSign_27 : decode cX5_nextSign 27 = .ok (.aload_n 0, 1) := by decide +kernel
theorem dX5_nextSign_28 : decode cX5_nextSign 28 = .ok (.getfield 9, 3) := by decide +kernel
theorem dX5_nextSign_31 : decode cX5_nextSign 31 = .ok (.aload_n 0, 1) := by decide +kernel
theorem dX5_nextSign_32 : decode cX5_nextSign 32 = .ok (.getfield 19, 3) := by decide +kernel
theorem dX5_nextSign_35 : decode cX5_nextSign 35 = .ok (.iaload, 1) := by decide +kernel
theorem dX5_nextSign_36 : decode cX5_nextSign 36 = .ok (.goto 4, 3) := by decide +kernel
theorem dX5_nextSign_39 : decode cX5_nextSign 39 = .ok (.iconst (-1), 1) := by decide +kernel
theorem dX5_nextSign_40 : decode cX5_nextSign 40 = .ok (.ireturn, 1) := by decide +kernel
theorem dX5_isAtDigit_0 : decode cX5_isAtDigit 0 = .ok (.aload_n 0, 1) := by decide +kernel
theorem dX5_isAtDigit_1 : decode cX5_isAtDigit 1 = .ok (.invokevirtual 62, 3) := by decide +kernel
theorem dX5_isAtDigit_4 : decode cX5_isAtDigit 4 = .ok (.bipush 48, 2) := by decide +kernel
theorem dX5_isAtDigit_6 : decode cX5_isAtDigit 6 = .ok (.bipush 57, 2) := by decide +kernel
theorem dX5_isAtDigit_8 : decode cX5_isAtDigit 8 = .ok (.invokestatic 85, 3) := by decide +kernel
theorem dX5_isAtDigit_11 : decode cX5_isAtDigit 11 = .ok (.ireturn, 1) := by decide +kernel
theorem dX5_readSign_0 : decode cX5_readSign 0 = .ok (.aload_n 0, 1) := by decide +kernel
theorem dX5_readSign_1 : decode cX5_readSign 1 = .ok (.invokevirtual 62, 3) := by decide +kernel
theorem dX5_readSign_4 : decode cX5_readSign 4 = .ok (.iload_n 1, 1) := by decide +kernel
theorem dX5_readSign_5 : decode cX5_readSign 5 = .ok (.if_icmp .eq 5, 3) := by decide +kernel
theorem dX5_readSign_8 : decode cX5_readSign 8 = .ok (.iconst 0, 1) := by decide +kernel
theorem dX5_readSign_9 : decode cX5_readSign 9 = .ok (.ireturn, 1) := by decide +kernel
theorem dX5_readSign_10 : decode cX5_readSign 10 = .ok (.aload_n 0, 1) := by decide +kernel
theorem dX5_readSign_11 : decode cX5_readSign 11 = .ok (.dup, 1) := by decide +kernel
theorem dX5_readSign_12 : decode cX5_readSign 12 = .ok (.getfield 19, 3) := by decide +kernel
theorem dX5_readSign_15 : decode cX5_readSign 15 = .ok (.iconst 1, 1) := by decide +kernel
theorem dX5_readSign_16 : decode cX5_readSign 16 = .ok (.iadd, 1) := by decide +kernel
theorem dX5_readSign_17 : decode cX5_readSign 17 = .ok (.putfield 19, 3) := by decide +kernel
theorem dX5_readSign_20 : decode cX5_readSign 20 = .ok (.iconst 1, 1) := by decide +kernel
theorem dX5_readSign_21 : decode cX5_readSign 21 = .ok (.ireturn, 1) := by decide +kernel
theorem dX5_readPlayer_0 : decode cX5_readPlayer 0 = .ok (.aload_n 0, 1) := by decide +kernel
theorem dX5_readPlayer_1 : decode cX5_readPlayer 1 = .ok (.invokevirtual 89, 3) := by decide +kernel
theorem dX5_readPlayer_4 : decode cX5_readPlayer 4 = .ok (.ifCond .ne 5, 3) := by decide +kernel
theorem dX5_readPlayer_7 : decode cX5_readPlayer 7 = .ok (.iconst 0, 1) := by decide +kernel
theorem dX5_readPlayer_8 : decode cX5_readPlayer 8 = .ok (.ireturn, 1) := by decide +kernel
theorem dX5_readPlayer_9 : decode cX5_readPlayer 9 = .ok (.aload_n 0, 1) := by decide +kernel
theorem dX5_readPlayer_10 : decode cX5_readPlayer 10 = .ok (.aload_n 0, 1) := by decide +kernel
theorem dX5_readPlayer_11 : decode cX5_readPlayer 11 = .ok (.invokevirtual 62, 3) := by decide +kernel
theorem dX5_readPlayer_14 : decode cX5_readPlayer 14 = .ok (.bipush 48, 2) := by decide +kernel
theorem dX5_readPlayer_16 : decode cX5_readPlayer 16 = .ok (.isub, 1) := by decide +kernel
theorem dX5_readPlayer_17 : decode cX5_readPlayer 17 = .ok (.putfield 29, 3) := by decide +kernel
theorem dX5_readPlayer_20 : decode cX5_readPlayer 20 = .ok (.aload_n 0, 1) := by decide +kernel
theorem dX5_readPlayer_21 : decode cX5_readPlayer 21 = .ok (.dup, 1) := by decide +kernel
theorem dX5_readPlayer_22 : decode cX5_readPlayer 22 = .ok (.getfield 19, 3) := by decide +kernel
theorem dX5_readPlayer_25 : decode cX5_readPlayer 25 = .ok (.iconst 1, 1) := by decide +kernel
theorem dX5_readPlayer_26 : decode cX5_readPlayer 26 = .ok (.iadd, 1) := by decide +kernel
theorem dX5_readPlayer_27 : decode cX5_readPlayer 27 = .ok (.putfield 19, 3) := by decide +kernel
theorem dX5_readPlayer_30 : decode cX5_readPlayer 30 = .ok (.iconst 1, 1) := by decide +kernel
theorem dX5_readPlayer_31 : decode cX5_readPlayer 31 = .ok (.ireturn, 1) := by decide +kernel
theorem dX5_readNumber_0 : decode cX5_readNumber 0 = .ok (.aload_n 0, 1) := by decide +kernel
theorem dX5_readNumber_1 : decode cX5_readNumber 1 = .ok (.invokevirtual 89, 3) := by decide +kernel
theorem dX5_readNumber_4 : decode cX5_readNumber 4 = .ok (.ifCond .ne 5, 3) := by decide +kernel
theorem dX5_readNumber_7 : decode cX5_readNumber 7 = .ok (.iconst 0, 1) := by decide +kernel
theorem dX5_readNumber_8 : decode cX5_readNumber 8 = .ok (.ireturn, 1) := by decide +kernel
theorem dX5_readNumber_9 : decode cX5_readNumber 9 = .ok (.aload_n 0, 1) := by decide +kernel
theorem dX5_readNumber_10 : decode cX5_readNumber 10 = .ok (.iconst 0, 1) := by decide +kernel
theorem dX5_readNumber_11 : decode cX5_readNumber 11 = .ok (.putfield 92, 3) := by decide +kernel
theorem dX5_readNumber_14 : decode cX5_readNumber 14 = .ok (.iconst 0, 1) := by decide +kernel
theorem dX5_readNumber_15 : decode cX5_readNumber 15 = .ok (.istore_n 1, 1) := by decide +kernel
theorem dX5_readNumber_16 : decode cX5_readNumber 16 = .ok (.iload_n 1, 1) := by decide +kernel
theorem dX5_readNumber_17 : decode cX5_readNumber 17 = .ok (.iconst 3, 1) := by decide +kernel
theorem dX5_readNumber_18 : decode cX5_readNumber 18 = .ok (.if_icmp .ge 45, 3) := by decide +kernel
theorem dX5_readNumber_21 : decode cX5_readNumber 21 = .ok (.aload_n 0, 1) := by decide +kernel
theorem dX5_readNumber_22 : decode cX5_readNumber 22 = .ok (.invokevirtual 89, 3) := by decide +kernel
theorem dX5_readNumber_25 : decode cX5_readNumber 25 = .ok (.ifCond .eq 38, 3) := by decide +kernel
theorem dX5_readNumber_28 : decode cX5_readNumber 28 = .ok (.aload_n 0, 1) := by decide +kernel
theorem dX5_readNumber_29 : decode cX5_readNumber 29 = .ok (.bipush 10, 2) := by decide +kernel
theorem dX5_readNumber_31 : decode cX5_readNumber 31 = .ok (.aload_n 0, 1) := by decide +kernel
theorem dX5_readNumber_32 : decode cX5_readNumber 32 = .ok (.getfield 92, 3) := by decide +kernel
theorem dX5_readNumber_35 : decode cX5_readNumber 35 = .ok (.imul, 1) := by decide +kernel
theorem dX5_readNumber_36 : decode cX5_readNumber 36 = .ok (.aload_n 0, 1) := by decide +kernel
theorem dX5_readNumber_37 : decode cX5_readNumber 37 = .ok (.invokevirtual 62, 3) := by decide +kernel
theorem dX5_readNumber_40 : decode cX5_readNumber 40 = .ok (.iadd, 1) := by decide +kernel
theorem dX5_readNumber_41 : decode cX5_readNumber 41 = .ok (.bipush 48, 2) := by decide +kernel
theorem dX5_readNumber_43 : decode cX5_readNumber 43 = .ok (.isub, 1) := by decide +kernel
theorem dX5_readNumber_44 : decode cX5_readNumber 44 = .ok (.putfield 92, 3) := by decide +kernel
theorem dX5_readNumber_47 : decode cX5_readNumber 47 = .ok (.aload_n 0, 1) := by decide +kernel
theorem dX5_readNumber_48 : decode cX5_readNumber 48 = .ok (.dup, 1) := by decide +kernel
theorem dX5_readNumber_49 : decode cX5_readNumber 49 = .ok (.getfield 19, 3) := by decide +kernel
theorem dX5_readNumber_52 : decode cX5_readNumber 52 = .ok (.iconst 1, 1) := by decide +kernel
theorem dX5_readNumber_53 : decode cX5_readNumber 53 = .ok (.iadd, 1) := by decide +kernel
theorem dX5_readNumber_54 : decode cX5_readNumber 54 = .ok (.putfield 19, 3) := by decide +kernel
theorem dX5_readNumber_57 : decode cX5_readNumber 57 = .ok (.iinc 1 1, 3) := by decide +kernel
theorem dX5_readNumber_60 : decode cX5_readNumber 60 = .ok (.goto (-44), 3) := by decide +kernel
theorem dX5_readNumber_63 : decode cX5_readNumber 63 = .ok (.iconst 1, 1) := by decide +kernel
theorem dX5_readNumber_64 : decode cX5_readNumber 64 = .ok (.ireturn, 1) := by decide +kernel
theorem dX6_init_0 : decode cX6_init 0 = .ok (.aload_n 0, 1) := by decide +kernel
theorem dX6_init_1 : decode cX6_init 1 = .ok (.invokespecial 3, 3) := by decide +kernel
theorem dX6_init_4 : decode cX6_init 4 = .ok (.aload_n 0, 1) := by decide +kernel
theorem dX6_init_5 : decode cX6_init 5 = .ok (.bipush 10, 2) := by decide +kernel
theorem dX6_init_7 : decode cX6_init 7 = .ok (.newarray .int, 2) := by decide +kernel
theorem dX6_init_9 : decode cX6_init 9 = .ok (.putfield 9, 3) := by decide +kernel
theorem dX6_init_12 : decode cX6_init 12 = .ok (.aload_n 0, 1) := by decide +kernel
theorem dX6_init_13 : decode cX6_init 13 = .ok (.bipush 10, 2) := by decide +kernel
theorem dX6_init_15 : decode cX6_init 15 = .ok (.newarray .int, 2) := by decide +kernel
theorem dX6_init_17 : decode cX6_init 17 = .ok (.putfield 15, 3) := by decide +kernel
theorem dX6_init_20 : decode cX6_init 20 = .ok (.aload_n 0, 1) := by decide +kernel
theorem dX6_init_21 : decode cX6_init 21 = .ok (.bipush 10, 2) := by decide +kernel
theorem dX6_init_23 : decode cX6_init 23 = .ok (.newarray .int, 2) := by decide +kernel
theorem dX6_init_25 : decode cX6_init 25 = .ok (.putfield 18, 3) := by decide +kernel
theorem dX6_init_28 : decode cX6_init 28 = .ok (.aload_n 0, 1) := by decide +kernel
theorem dX6_init_29 : decode cX6_init 29 = .ok (.bipush 10, 2) := by decide +kernel
theorem dX6_init_31 : decode cX6_init 31 = .ok (.newarray .int, 2) := by decide +kernel
theorem dX6_init_33 : decode cX6_init 33 = .ok (.putfield 21, 3) := by decide +kernel
theorem dX6_init_36 : decode cX6_init 36 = .ok (.aload_n 0, 1) := by decide +kernel
theorem dX6_init_37 : decode cX6_init 37 = .ok (.bipush 10, 2) := by decide +kernel
theorem dX6_init_39 : decode cX6_init 39 = .ok (.newarray .int, 2) := by decide +kernel
theorem dX6_init_41 : decode cX6_init 41 = .ok (.putfield 24, 3) := by decide +kernel
theorem dX6_init_44 : decode cX6_init 44 = .ok (.return_, 1) := by decide +kernel
theorem dX6_reset_0 : decode cX6_reset 0 = .ok (.iconst 0, 1) := by decide +kernel
theorem dX6_reset_1 : decode cX6_reset 1 = .ok (.istore_n 1, 1) := by decide +kernel
theorem dX6_reset_2 : decode cX6_reset 2 = .ok (.iload_n 1, 1) := by decide +kernel
theorem dX6_reset_3 : decode cX6_reset 3 = .ok (.bipush 10, 2) := by decide +kernel
theorem dX6_reset_5 : decode cX6_reset 5 = .ok (.if_icmp .ge 47, 3) := by decide +kernel
theorem dX6_reset_8 : decode cX6_reset 8 = .ok (.aload_n 0, 1) := by decide +kernel
theorem dX6_reset_9 : decode cX6_reset 9 = .ok (.getfield 9, 3) := by decide +kernel
theorem dX6_reset_12 : decode cX6_reset 12 = .ok (.iload_n 1, 1) := by decide +kernel
theorem dX6_reset_13 : decode cX6_reset 13 = .ok (.iload_n 1, 1) := by decide +kernel
theorem dX6_reset_14 : decode cX6_reset 14 = .ok (.bipush 7, 2) := by decide +kernel
theorem dX6_reset_16 : decode cX6_reset 16 = .ok (.if_icmp .ge 7, 3) := by decide +kernel
theorem dX6_reset_19 : decode cX6_reset 19 = .ok (.iconst 0, 1) := by decide +kernel
theorem dX6_reset_20 : decode cX6_reset 20 = .ok (.goto 4, 3) := by decide +kernel
theorem dX6_reset_23 : decode cX6_reset 23 = .ok (.iconst 1, 1) := by decide +kernel
theorem dX6_reset_24 : decode cX6_reset 24 = .ok (.iastore, 1) := by decide +kernel
theorem dX6_reset_25 : decode cX6_reset 25 = .ok (.aload_n 0, 1) := by decide +kernel
theorem dX6_reset_26 : decode cX6_reset 26 = .ok (.getfield 15, 3) := by decide +kernel
theorem dX6_reset_29 : decode cX6_reset 29 = .ok (.iload_n 1, 1) := by decide +kernel
theorem dX6_reset_30 : decode cX6_reset 30 = .ok (.iconst 0, 1) := by decide +kernel
theorem dX6_reset_31 : decode cX6_reset 31 = .ok (.iastore, 1) := by decide +kernel
theorem dX6_reset_32 : decode cX6_reset 32 = .ok (.aload_n 0, 1) := by decide +kernel
theorem dX6_reset_33 : decode cX6_reset 33 = .ok (.getfield 18, 3) := by decide +kernel
theorem dX6_reset_36 : decode cX6_reset 36 = .ok (.iload_n 1, 1) := by decide +kernel
theorem dX6_reset_37 : decode cX6_reset 37 = .ok (.iconst 0, 1) := by decide +kernel
theorem dX6_reset_38 : decode cX6_reset 38 = .ok (.iastore, 1) := by decide +kernel
theorem dX6_reset_39 : decode cX6_reset 39 = .ok (.aload_n 0, 1) := by decide +kernel
theorem dX6_reset_40 : decode cX6_reset 40 = .ok (.getfield 21, 3) := by decide +kernel
theorem dX6_reset_43 : decode cX6_reset 43 = .ok (.iload_n 1, 1) := by decide +kernel
theorem dX6_reset_44 : decode cX6_reset 44 = .ok (.iconst 0, 1) := by decide +kernel
theorem dX6_reset_45 : decode cX6_reset 45 = .ok (.iastore, 1) := by decide +kernel
theorem dX6_reset_46 : decode cX6_reset 46 = .ok (.iinc 1 1, 3) := by decide +kernel
theorem dX6_reset_49 : decode cX6_reset 49 = .ok (.goto (-47), 3) := by decide +kernel
theorem dX6_reset_52 : decode cX6_reset 52 = .ok (.aload_n 0, 1) := by decide +kernel
theorem dX6_reset_53 : decode cX6_reset 53 = .ok (.iconst 0, 1) := by decide +kernel
theorem dX6_reset_54 : decode cX6_reset 54 = .ok (.putfield 27, 3) := by decide +kernel
theorem dX6_reset_57 : decode cX6_reset 57 = .ok (.aload_n 0, 1) := by decide +kernel
theorem dX6_reset_58 : decode cX6_reset 58 = .ok (.iconst 0, 1) := by decide +kernel
theorem dX6_reset_59 : decode cX6_reset 59 = .ok (.putfield 31, 3) := by decide +kernel
theorem dX6_reset_62 : decode cX6_reset 62 = .ok (.aload_n 0, 1) := by decide +kernel
theorem dX6_reset_63 : decode cX6_reset 63 = .ok (.iconst 0, 1) := by decide +kernel
theorem dX6_reset_64 : decode cX6_reset 64 = .ok (.putfield 34, 3) := by decide +kernel
theorem dX6_reset_67 : decode cX6_reset 67 = .ok (.aload_n 0, 1) := by decide +kernel
theorem dX6_reset_68 : decode cX6_reset 68 = .ok (.iconst 0, 1) := by decide +kernel
theorem dX6_reset_69 : decode cX6_reset 69 = .ok (.putfield 37, 3) := by decide +kernel
theorem dX6_reset_72 : decode cX6_reset 72 = .ok (.return_, 1) := by decide +kernel
theorem dX6_stateOf_0 : decode cX6_stateOf 0 = .ok (.iload_n 1, 1) := by decide +kernel
theorem dX6_stateOf_1 : decode cX6_stateOf 1 = .ok (.invokestatic 40, 3) := by decide +kernel
theorem dX6_stateOf_4 : decode cX6_stateOf 4 = .ok (.ifCond .eq 12, 3) := by decide +kernel
theorem dX6_stateOf_7 : decode cX6_stateOf 7 = .ok (.aload_n 0, 1) := by decide +kernel
theorem dX6_stateOf_8 : decode cX6_stateOf 8 = .ok (.getfield 9, 3) := by decide +kernel
theorem dX6_stateOf_11 : decode cX6_stateOf 11 = .ok (.iload_n 1, 1) := by decide +kernel
theorem dX6_stateOf_12 : decode cX6_stateOf 12 = .ok (.iaload, 1) := by decide +kernel
theorem dX6_stateOf_13 : decode cX6_stateOf 13 = .ok (.goto 4, 3) := by decide +kernel
theorem dX6_stateOf_16 : decode cX6_stateOf 16 = .ok (.iconst (-1), 1) := by decide +kernel
theorem dX6_stateOf_17 : decode cX6_stateOf 17 = .ok (.ireturn, 1) := by decide +kernel
theorem dX6_isOn_0 : decode cX6_isOn 0 = .ok (.iload_n 1, 1) := by decide +kernel
theorem dX6_isOn_1 : decode cX6_isOn 1 = .ok (.invokestatic 40, 3) := by decide +kernel
theorem dX6_isOn_4 : decode cX6_isOn 4 = .ok (.ifCond .eq 16, 3) := by decide +kernel
theorem dX6_isOn_7 : decode cX6_isOn 7 = .ok (.aload_n 0, 1) := by decide +kernel
theorem dX6_isOn_8 : decode cX6_isOn 8 = .ok (.getfield 9, 3) := by decide +kernel
theorem dX6_isOn_11 : decode cX6_isOn 11 = .ok (.iload_n 1, 1) := by decide +kernel
theorem dX6_isOn_12 : decode cX6_isOn 12 = .ok (.iaload, 1) := by decide +kernel
theorem dX6_isOn_13 : decode cX6_isOn 13 = .ok (.ifCond .ne 7, 3) := by decide +kernel
theorem dX6_isOn_16 : decode cX6_isOn 16 = .ok (.iconst 1, 1) := by decide +kernel
theorem dX6_isOn_17 : decode cX6_isOn 17 = .ok (.goto 4, 3) := by decide +kernel
theorem dX6_isOn_20 : decode cX6_isOn 20 = .ok (.iconst 0, 1) := by decide +kernel
theorem dX6_isOn_21 : decode cX6_isOn 21 = .ok (.ireturn, 1) := by decide +kernel
theorem dX6_count_0 : decode cX6_count 0 = .ok (.iconst 0, 1) := by decide +kernel
theorem dX6_count_1 : decode cX6_count 1 = .ok (.istore_n 2, 1) := by decide +kernel
theorem dX6_count_2 : decode cX6_count 2 = .ok (.iconst 0, 1) := by decide +kernel
theorem dX6_count_3 : decode cX6_count 3 = .ok (.istore_n 3, 1) := by decide +kernel
theorem dX6_count_4 : decode cX6_count 4 = .ok (.iload_n 3, 1) := by decide +kernel
theorem dX6_count_5 : decode cX6_count 5 = .ok (.bipush 10, 2) := by decide +kernel
theorem dX6_count_7 : decode cX6_count 7 = .ok (.if_icmp .ge 22, 3) := by decide +kernel
theorem dX6_count_10 : decode cX6_count 10 = .ok (.aload_n 0, 1) := by decide +kernel
theorem dX6_count_11 : decode cX6_count 11 = .ok (.getfield 9, 3) := by decide +kernel
theorem dX6_count_14 : decode cX6_count 14 = .ok (.iload_n 3, 1) := by decide +kernel
theorem dX6_count_15 : decode cX6_count 15 = .ok (.iaload, 1) := by decide +kernel
theorem dX6_count_16 : decode cX6_count 16 = .ok (.iload_n 1, 1) := by decide +kernel
theorem dX6_count_17 : decode cX6_count 17 = .ok (.if_icmp .ne 6, 3) := by decide +kernel
theorem dX6_count_20 : decode cX6_count 20 = .ok (.iinc 2 1, 3) := by decide +kernel
theorem dX6_count_23 : decode cX6_count 23 = .ok (.iinc 3 1, 3) := by decide +kernel
theorem dX6_count_26 : decode cX6_count 26 = .ok (.goto (-22), 3) := by decide +kernel
theorem dX6_count_29 : decode cX6_count 29 = .ok (.iload_n 2, 1) := by decide +kernel
theorem dX6_count_30 : decode cX6_count 30 = .ok (.ireturn, 1) := by decide +kernel
theorem dX6_countStanding_0 : decode cX6_countStanding 0 = .ok (.aload_n 0, 1) := by decide +kernel
theorem dX6_countStanding_1 : decode cX6_countStanding 1 = .ok (.iconst 0, 1) := by decide +kernel
theorem dX6_countStanding_2 : decode cX6_countStanding 2 = .ok (.invokevirtual 44, 3) := by decide +kernel
theorem dX6_countStanding_5 : decode cX6_countStanding 5 = .ok (.aload_n 0, 1) := by decide +kernel
theorem dX6_countStanding_6 : decode cX6_countStanding 6 = .ok (.iconst 3, 1) := by decide +kernel
theorem dX6_countStanding_7 : decode cX6_countStanding 7 = .ok (.invokevirtual 44, 3) := by decide +kernel
theorem dX6_countStanding_10 : decode cX6_countStanding 10 = .ok (.iadd, 1) := by decide +kernel
theorem dX6_countStanding_11 : decode cX6_countStanding 11 = .ok (.ireturn, 1) := by decide +kernel
theorem dX6_onBits_0 : decode cX6_onBits 0 = .ok (.iconst 0, 1) := by decide +kernel
theorem dX6_onBits_1 : decode cX6_onBits 1 = .ok (.istore_n 1, 1) := by decide +kernel
theorem dX6_onBits_2 : decode cX6_onBits 2 = .ok (.iconst 0, 1) := by decide +kernel
theorem dX6_onBits_3 : decode cX6_onBits 3 = .ok (.istore_n 2, 1) := by decide +kernel
theorem dX6_onBits_4 : decode cX6_onBits 4 = .ok (.iload_n 2, 1) := by decide +kernel
theorem dX6_onBits_5 : decode cX6_onBits 5 = .ok (.bipush 10, 2) := by decide +kernel
theorem dX6_onBits_7 : decode cX6_onBits 7 = .ok (.if_icmp .ge 24, 3) := by decide +kernel
theorem dX6_onBits_10 : decode cX6_onBits 10 = .ok (.aload_n 0, 1) := by decide +kernel
theorem dX6_onBits_11 : decode cX6_onBits 11 = .ok (.getfield 9, 3) := by decide +kernel
theorem dX6_onBits_14 : decode cX6_onBits 14 = .ok (.iload_n 2, 1) := by decide +kernel
theorem dX6_onBits_15 : decode cX6_onBits 15 = .ok (.iaload, 1) := by decide +kernel
theorem dX6_onBits_16 : decode cX6_onBits 16 = .ok (.ifCond .ne 9, 3) := by decide +kernel
theorem dX6_onBits_19 : decode cX6_onBits 19 = .ok (.iload_n 1, 1) := by decide +kernel
theorem dX6_onBits_20 : decode cX6_onBits 20 = .ok (.iconst 1, 1) := by decide +kernel
theorem dX6_onBits_21 : decode cX6_onBits 21 = .ok (.iload_n 2, 1) := by decide +kernel
theorem dX6_onBits_22 : decode cX6_onBits 22 = .ok (.ishl, 1) := by decide +kernel
theorem dX6_onBits_23 : decode cX6_onBits 23 = .ok (.ior, 1) := by decide +kernel
theorem dX6_onBits_24 : decode cX6_onBits 24 = .ok (.istore_n 1, 1) := by decide +kernel
theorem dX6_onBits_25 : decode cX6_onBits 25 = .ok (.iinc 2 1, 3) := by decide +kernel
theorem dX6_onBits_28 : decode cX6_onBits 28 = .ok (.goto (-24), 3) := by decide +kernel
theorem dX6_onBits_31 : decode cX6_onBits 31 = .ok (.iload_n 1, 1) := by decide +kernel
theorem dX6_onBits_32 : decode cX6_onBits 32 = .ok (.ireturn, 1) := by decide +kernel
theorem dX6_outAt_0 : decode cX6_outAt 0 = .ok (.iload_n 1, 1) := by decide +kernel
theorem dX6_outAt_1 : decode cX6_outAt 1 = .ok (.ifCond .lt 26, 3) := by decide +kernel
theorem dX6_outAt_4 : decode cX6_outAt 4 = .ok (.iload_n 1, 1) := by decide +kernel
theorem dX6_outAt_5 : decode cX6_outAt 5 = .ok (.aload_n 0, 1) := by decide +kernel
theorem dX6_outAt_6 : decode cX6_outAt 6 = .ok (.getfield 27, 3) := by decide +kernel
theorem dX6_outAt_9 : decode cX6_outAt 9 = .ok (.if_icmp .ge 18, 3) := by decide +kernel
theorem dX6_outAt_12 : decode cX6_outAt 12 = .ok (.iload_n 1, 1) := by decide +kernel
theorem dX6_outAt_13 : decode cX6_outAt 13 = .ok (.bipush 10, 2) := by decide +kernel
theorem dX6_outAt_15 : decode cX6_outAt 15 = .ok (.if_icmp .ge 12, 3) := by decide +kernel
theorem dX6_outAt_18 : decode cX6_outAt 18 = .ok (.aload_n 0, 1) := by decide +kernel
theorem dX6_outAt_19 : decode cX6_outAt 19 = .ok (.getfield 24, 3) := by decide +kernel
theorem dX6_outAt_22 : decode cX6_outAt 22 = .ok (.iload_n 1, 1) := by decide +kernel
theorem dX6_outAt_23 : decode cX6_outAt 23 = .ok (.iaload, 1) := by decide +kernel
theorem dX6_outAt_24 : decode cX6_outAt 24 = .ok (.goto 4, 3) := by decide +kernel
theorem dX6_outAt_27 : decode cX6_outAt 27 = .ok (.iconst (-1), 1) := by decide +kernel
theorem dX6_outAt_28 : decode cX6_outAt 28 = .ok (.ireturn, 1) := by decide +kernel
theorem dX6_madeBy_0 : decode cX6_madeBy 0 = .ok (.iload_n 1, 1) := by decide +kernel
theorem dX6_madeBy_1 : decode cX6_madeBy 1 = .ok (.invokestatic 40, 3) := by decide +kernel
theorem dX6_madeBy_4 : decode cX6_madeBy 4 = .ok (.ifCond .eq 12, 3) := by decide +kernel
theorem dX6_madeBy_7 : decode cX6_madeBy 7 = .ok (.aload_n 0, 1) := by decide +kernel
theorem dX6_madeBy_8 : decode cX6_madeBy 8 = .ok (.getfield 21, 3) := by decide +kernel
theorem dX6_madeBy_11 : decode cX6_madeBy 11 = .ok (.iload_n 1, 1) := by decide +kernel
theorem dX6_madeBy_12 : decode cX6_madeBy 12 = .ok (.iaload, 1) := by decide +kernel
theorem dX6_madeBy_13 : decode cX6_madeBy 13 = .ok (.goto 4, 3) := by decide +kernel
theorem dX6_madeBy_16 : decode cX6_madeBy 16 = .ok (.iconst 0, 1) := by decide +kernel
theorem dX6_madeBy_17 : decode cX6_madeBy 17 = .ok (.ireturn, 1) := by decide +kernel
theorem dX6_scoreBy_0 : decode cX6_scoreBy 0 = .ok (.aload_n 0, 1) := by decide +kernel
theorem dX6_scoreBy_1 : decode cX6_scoreBy 1 = .ok (.dup, 1) := by decide +kernel
theorem dX6_scoreBy_2 : decode cX6_scoreBy 2 = .ok (.getfield 34, 3) := by decide +kernel
theorem dX6_scoreBy_5 : decode cX6_scoreBy 5 = .ok (.iload_n 2, 1) := by decide +kernel
theorem dX6_scoreBy_6 : decode cX6_scoreBy 6 = .ok (.iadd, 1) := by decide +kernel
theorem dX6_scoreBy_7 : decode cX6_scoreBy 7 = .ok (.putfield 34, 3) := by decide +kernel
theorem dX6_scoreBy_10 : decode cX6_scoreBy 10 = .ok (.iload_n 1, 1) := by decide +kernel
theorem dX6_scoreBy_11 : decode cX6_scoreBy 11 = .ok (.invokestatic 40, 3) := by decide +kernel
theorem dX6_scoreBy_14 : decode cX6_scoreBy 14 = .ok (.ifCond .eq 13, 3) := by decide +kernel
theorem dX6_scoreBy_17 : decode cX6_scoreBy 17 = .ok (.aload_n 0, 1) := by decide +kernel
theorem dX6_scoreBy_18 : decode cX6_scoreBy 18 = .ok (.getfield 21, 3) := by decide +kernel
theorem dX6_scoreBy_21 : decode cX6_scoreBy 21 = .ok (.iload_n 1, 1) := by decide +kernel
theorem dX6_scoreBy_22 : decode cX6_scoreBy 22 = .ok (.dup2, 1) := by decide +kernel
theorem dX6_scoreBy_23 : decode cX6_scoreBy 23 = .ok (.iaload, 1) := by decide +kernel
theorem dX6_scoreBy_24 : decode cX6_scoreBy 24 = .ok (.iload_n 2, 1) := by decide +kernel
theorem dX6_scoreBy_25 : decode cX6_scoreBy 25 = .ok (.iadd, 1) := by decide +kernel
theorem dX6_scoreBy_26 : decode cX6_scoreBy 26 = .ok (.iastore, 1) := by decide +kernel
theorem dX6_scoreBy_27 : decode cX6_scoreBy 27 = .ok (.return_, 1) := by decide +kernel
theorem dX6_sendOut_0 : decode cX6_sendOut 0 = .ok (.iload_n 1, 1) := by decide +kernel
theorem dX6_sendOut_1 : decode cX6_sendOut 1 = .ok (.invokestatic 40, 3) := by decide +kernel
theorem dX6_sendOut_4 : decode cX6_sendOut 4 = .ok (.ifCond .eq 46, 3) := by decide +kernel
theorem dX6_sendOut_7 : decode cX6_sendOut 7 = .ok (.aload_n 0, 1) := by decide +kernel
theorem dX6_sendOut_8 : decode cX6_sendOut 8 = .ok (.getfield 27, 3) := by decide +kernel
theorem dX6_sendOut_11 : decode cX6_sendOut 11 = .ok (.ifCond .lt 39, 3) := by decide +kernel
theorem dX6_sendOut_14 : decode cX6_sendOut 14 = .ok (.aload_n 0, 1) := by decide +kernel
theorem dX6_sendOut_15 : decode cX6_sendOut 15 = .ok (.getfield 27, 3) := by decide +kernel
theorem dX6_sendOut_18 : decode cX6_sendOut 18 = .ok (.bipush 10, 2) := by decide +kernel
theorem dX6_sendOut_20 : decode cX6_sendOut 20 = .ok (.if_icmp .ge 30, 3) := by decide +kernel
theorem dX6_sendOut_23 : decode cX6_sendOut 23 = .ok (.aload_n 0, 1) := by decide +kernel
theorem dX6_sendOut_24 : decode cX6_sendOut 24 = .ok (.getfield 9, 3) := by decide +kernel
theorem dX6_sendOut_27 : decode cX6_sendOut 27 = .ok (.iload_n 1, 1) := by decide +kernel
theorem dX6_sendOut_28 : decode cX6_sendOut 28 = .ok (.iconst 2, 1) := by decide +kernel
theorem dX6_sendOut_29 : decode cX6_sendOut 29 = .ok (.iastore, 1) := by decide +kernel
theorem dX6_sendOut_30 : decode cX6_sendOut 30 = .ok (.aload_n 0, 1) := by decide +kernel
theorem dX6_sendOut_31 : decode cX6_sendOut 31 = .ok (.getfield 24, 3) := by decide +kernel
theorem dX6_sendOut_34 : decode cX6_sendOut 34 = .ok (.aload_n 0, 1) := by decide +kernel
theorem dX6_sendOut_35 : decode cX6_sendOut 35 = .ok (.getfield 27, 3) := by decide +kernel
theorem dX6_sendOut_38 : decode cX6_sendOut 38 = .ok (.iload_n 1, 1) := by decide +kernel
theorem dX6_sendOut_39 : decode cX6_sendOut 39 = .ok (.iastore, 1) := by decide +kernel
theorem dX6_sendOut_40 : decode cX6_sendOut 40 = .ok (.aload_n 0, 1) := by decide +kernel
theorem dX6_sendOut_41 : decode cX6_sendOut 41 = .ok (.dup, 1) := by decide +kernel
theorem dX6_sendOut_42 : decode cX6_sendOut 42 = .ok (.getfield 27, 3) := by decide +kernel
theorem dX6_sendOut_45 : decode cX6_sendOut 45 = .ok (.iconst 1, 1) := by decide +kernel
theorem dX6_sendOut_46 : decode cX6_sendOut 46 = .ok (.iadd, 1) := by decide +kernel
theorem dX6_sendOut_47 : decode cX6_sendOut 47 = .ok (.putfield 27, 3) := by decide +kernel
theorem dX6_sendOut_50 : decode cX6_sendOut 50 = .ok (.return_, 1) := by decide +kernel
theorem dX6_comeBack_0 : decode cX6_comeBack 0 = .ok (.iconst 0, 1) := by decide +kernel
theorem dX6_comeBack_1 : decode cX6_comeBack 1 = .ok (.istore_n 2, 1) := by decide +kernel
theorem dX6_comeBack_2 : decode cX6_comeBack 2 = .ok (.iload_n 2, 1) := by decide +kernel
theorem dX6_comeBack_3 : decode cX6_comeBack 3 = .ok (.iload_n 1, 1) := by decide +kernel
theorem dX6_comeBack_4 : decode cX6_comeBack 4 = .ok (.if_icmp .ge 90, 3) := by decide +kernel
theorem dX6_comeBack_7 : decode cX6_comeBack 7 = .ok (.aload_n 0, 1) := by decide +kernel
theorem dX6_comeBack_8 : decode cX6_comeBack 8 = .ok (.getfield 27, 3) := by decide +kernel
theorem dX6_comeBack_11 : decode cX6_comeBack 11 = .ok (.ifCond .le 83, 3) := by decide +kernel
theorem dX6_comeBack_14 : decode cX6_comeBack 14 = .ok (.aload_n 0, 1) := by decide +kernel
theorem dX6_comeBack_15 : decode cX6_comeBack 15 = .ok (.getfield 24, 3) := by decide +kernel
theorem dX6_comeBack_18 : decode cX6_comeBack 18 = .ok (.iconst 0, 1) := by decide +kernel
theorem dX6_comeBack_19 : decode cX6_comeBack 19 = .ok (.iaload, 1) := by decide +kernel
theorem dX6_comeBack_20 : decode cX6_comeBack 20 = .ok (.istore_n 3, 1) := by decide +kernel
theorem dX6_comeBack_21 : decode cX6_comeBack 21 = .ok (.iload_n 3, 1) := by decide +kernel
theorem dX6_comeBack_22 : decode cX6_comeBack 22 = .ok (.invokestatic 40, 3) := by decide +kernel
theorem dX6_comeBack_25 : decode cX6_comeBack 25 = .ok (.ifCond .eq 10, 3) := by decide +kernel
theorem dX6_comeBack_28 : decode cX6_comeBack 28 = .ok (.aload_n 0, 1) := by decide +kernel
theorem dX6_comeBack_29 : decode cX6_comeBack 29 = .ok (.getfield 9, 3) := by decide +kernel
theorem dX6_comeBack_32 : decode cX6_comeBack 32 = .ok (.iload_n 3, 1) := by decide +kernel
theorem dX6_comeBack_33 : decode cX6_comeBack 33 = .ok (.iconst 0, 1) := by decide +kernel
theorem dX6_comeBack_34 : decode cX6_comeBack 34 = .ok (.iastore, 1) := by decide +kernel
theorem dX6_comeBack_35 : decode cX6_comeBack 35 = .ok (.aload_n 0, 1) := by decide +kernel
theorem dX6_comeBack_36 : decode cX6_comeBack 36 = .ok (.dup, 1) := by decide +kernel
theorem dX6_comeBack_37 : decode cX6_comeBack 37 = .ok (.getfield 27, 3) := by decide +kernel
theorem dX6_comeBack_40 : decode cX6_comeBack 40 = .ok (.iconst 1, 1) := by decide +kernel
theorem dX6_comeBack_41 : decode cX6_comeBack 41 = .ok (.isub, 1) := by decide +kernel
theorem dX6_comeBack_42 : decode cX6_comeBack 42 = .ok (.putfield 27, 3) := by decide +kernel
theorem dX6_comeBack_45 : decode cX6_comeBack 45 = .ok (.iconst 0, 1) := by decide +kernel
theorem dX6_comeBack_46 : decode cX6_comeBack 46 = .ok (.istore 4, 2) := by decide +kernel
theorem dX6_comeBack_48 : decode cX6_comeBack 48 = .ok (.iload 4, 2) := by decide +kernel
theorem dX6_comeBack_50 : decode cX6_comeBack 50 = .ok (.aload_n 0, 1) := by decide +kernel
theorem dX6_comeBack_51 : decode cX6_comeBack 51 = .ok (.getfield 27, 3) := by decide +kernel
theorem dX6_comeBack_54 : decode cX6_comeBack 54 = .ok (.if_icmp .ge 34, 3) := by decide +kernel
theorem dX6_comeBack_57 : decode cX6_comeBack 57 = .ok (.iload 4, 2) := by decide +kernel
theorem dX6_comeBack_59 : decode cX6_comeBack 59 = .ok (.iconst 1, 1) := by decide +kernel
theorem dX6_comeBack_60 : decode cX6_comeBack 60 = .ok (.iadd, 1) := by decide +kernel
theorem dX6_comeBack_61 : decode cX6_comeBack 61 = .ok (.bipush 10, 2) := by decide +kernel
theorem dX6_comeBack_63 : decode cX6_comeBack 63 = .ok (.if_icmp .ge 25, 3) := by decide +kernel
theorem dX6_comeBack_66 : decode cX6_comeBack 66 = .ok (.aload_n 0, 1) := by decide +kernel
theorem dX6_comeBack_67 : decode cX6_comeBack 67 = .ok (.getfield 24, 3) := by decide +kernel
theorem dX6_comeBack_70 : decode cX6_comeBack 70 = .ok (.iload 4, 2) := by decide +kernel
theorem dX6_comeBack_72 : decode cX6_comeBack 72 = .ok (.aload_n 0, 1) := by decide +kernel
theorem dX6_comeBack_73 : decode cX6_comeBack 73 = .ok (.getfield 24, 3) := by decide +kernel
theorem dX6_comeBack_76 : decode cX6_comeBack 76 = .ok (.iload 4, 2) := by decide +kernel
theorem dX6_comeBack_78 : decode cX6_comeBack 78 = .ok (.iconst 1, 1) := by decide +kernel
theorem dX6_comeBack_79 : decode cX6_comeBack 79 = .ok (.iadd, 1) := by decide +kernel
theorem dX6_comeBack_80 : decode cX6_comeBack 80 = .ok (.iaload, 1) := by decide +kernel
theorem dX6_comeBack_81 : decode cX6_comeBack 81 = .ok (.iastore, 1) := by decide +kernel
theorem dX6_comeBack_82 : decode cX6_comeBack 82 = .ok (.iinc 4 1, 3) := by decide +kernel
theorem dX6_comeBack_85 : decode cX6_comeBack 85 = .ok (.goto (-37), 3) := by decide +kernel
theorem dX6_comeBack_88 : decode cX6_comeBack 88 = .ok (.iinc 2 1, 3) := by decide +kernel
theorem dX6_comeBack_91 : decode cX6_comeBack 91 = .ok (.goto (-89), 3) := by decide +kernel
theorem dX6_comeBack_94 : decode cX6_comeBack 94 = .ok (.return_, 1) := by decide +kernel
theorem dX6_endSuspensions_0 : decode cX6_endSuspensions 0 = .ok (.iconst 0, 1) := by decide +kernel
theorem dX6_endSuspensions_1 : decode cX6_endSuspensions 1 = .ok (.istore_n 2, 1) := by decide +kernel
theorem dX6_endSuspensions_2 : decode cX6_endSuspensions 2 = .ok (.iload_n 2, 1) := by decide +kernel
theorem dX6_endSuspensions_3 : decode cX6_endSuspensions 3 = .ok (.bipush 10, 2) := by decide +kernel
theorem dX6_endSuspensions_5 : decode cX6_endSuspensions 5 = .ok (.if_icmp .ge 36, 3) := by decide +kernel
theorem dX6_endSuspensions_8 : decode cX6_endSuspensions 8 = .ok (.aload_n 0, 1) := by decide +kernel
theorem dX6_endSuspensions_9 : decode cX6_endSuspensions 9 = .ok (.getfield 9, 3) := by decide +kernel
theorem dX6_endSuspensions_12 : decode cX6_endSuspensions 12 = .ok (.iload_n 2, 1) := by decide +kernel
theorem dX6_endSuspensions_13 : decode cX6_endSuspensions 13 = .ok (.iaload, 1) := by decide +kernel
theorem dX6_endSuspensions_14 : decode cX6_endSuspensions 14 = .ok (.iconst 3, 1) := by decide +kernel
theorem dX6_endSuspensions_15 : decode cX6_endSuspensions 15 = .ok (.if_icmp .ne 20, 3) := by decide +kernel
theorem dX6_endSuspensions_18 : decode cX6_endSuspensions 18 = .ok (.aload_n 0, 1) := by decide +kernel
theorem dX6_endSuspensions_19 : decode cX6_endSuspensions 19 = .ok (.getfield 15, 3) := by decide +kernel
theorem dX6_endSuspensions_22 : decode cX6_endSuspensions 22 = .ok (.iload_n 2, 1) := by decide +kernel
theorem dX6_endSuspensions_23 : decode cX6_endSuspensions 23 = .ok (.iaload, 1) := by decide +kernel
theorem dX6_endSuspensions_24 : decode cX6_endSuspensions 24 = .ok (.iload_n 1, 1) := by decide +kernel
theorem dX6_endSuspensions_25 : decode cX6_endSuspensions 25 = .ok (.if_icmp .gt 10, 3) := by decide +kernel
theorem dX6_endSuspensions_28 : decode cX6_endSuspensions 28 = .ok (.aload_n 0, 1) := by decide +kernel
theorem dX6_endSuspensions_29 : decode cX6_endSuspensions 29 = .ok (.getfield 9, 3) := by decide +kernel
theorem dX6_endSuspensions_32 : decode cX6_endSuspensions 32 = .ok (.iload_n 2, 1) := by decide +kernel
theorem dX6_endSuspensions_33 : decode cX6_endSuspensions 33 = .ok (.iconst 0, 1) := by decide +kernel
theorem dX6_endSuspensions_34 : decode cX6_endSuspensions 34 = .ok (.iastore, 1) := by decide +kernel
theorem dX6_endSuspensions_35 : decode cX6_endSuspensions 35 = .ok (.iinc 2 1, 3) := by decide +kernel
theorem dX6_endSuspensions_38 : decode cX6_endSuspensions 38 = .ok (.goto (-36), 3) := by decide +kernel
theorem dX6_endSuspensions_41 : decode cX6_endSuspensions 41 = .ok (.return_, 1) := by decide +kernel
theorem dX6_colourFor_0 : decode cX6_colourFor 0 = .ok (.iload_n 1, 1) := by decide +kernel
theorem dX6_colourFor_1 : decode cX6_colourFor 1 = .ok (.invokestatic 40, 3) := by decide +kernel
theorem dX6_colourFor_4 : decode cX6_colourFor 4 = .ok (.ifCond .eq 12, 3) := by decide +kernel
theorem dX6_colourFor_7 : decode cX6_colourFor 7 = .ok (.aload_n 0, 1) := by decide +kernel
theorem dX6_colourFor_8 : decode cX6_colourFor 8 = .ok (.getfield 18, 3) := by decide +kernel
theorem dX6_colourFor_11 : decode cX6_colourFor 11 = .ok (.iload_n 1, 1) := by decide +kernel
theorem dX6_colourFor_12 : decode cX6_colourFor 12 = .ok (.iaload, 1) := by decide +kernel
theorem dX6_colourFor_13 : decode cX6_colourFor 13 = .ok (.goto 4, 3) := by decide +kernel
theorem dX6_colourFor_16 : decode cX6_colourFor 16 = .ok (.iconst 0, 1) := by decide +kernel
theorem dX6_colourFor_17 : decode cX6_colourFor 17 = .ok (.istore_n 3, 1) := by decide +kernel
theorem dX6_colourFor_18 : decode cX6_colourFor 18 = .ok (.iload_n 2, 1) := by decide +kernel
theorem dX6_colourFor_19 : decode cX6_colourFor 19 = .ok (.istore 4, 2) := by decide +kernel
theorem dX6_colourFor_21 : decode cX6_colourFor 21 = .ok (.iload 4, 2) := by decide +kernel
theorem dX6_colourFor_23 : decode cX6_colourFor 23 = .ok (.iconst 2, 1) := by decide +kernel
theorem dX6_colourFor_24 : decode cX6_colourFor 24 = .ok (.if_icmp .ge 19, 3) := by decide +kernel
theorem dX6_colourFor_27 : decode cX6_colourFor 27 = .ok (.iload_n 3, 1) := by decide +kernel
theorem dX6_colourFor_28 : decode cX6_colourFor 28 = .ok (.iload 4, 2) := by decide +kernel
theorem dX6_colourFor_30 : decode cX6_colourFor 30 = .ok (.ishr, 1) := by decide +kernel
theorem dX6_colourFor_31 : decode cX6_colourFor 31 = .ok (.iconst 1, 1) := by decide +kernel
theorem dX6_colourFor_32 : decode cX6_colourFor 32 = .ok (.iand, 1) := by decide +kernel
theorem dX6_colourFor_33 : decode cX6_colourFor 33 = .ok (.iconst 1, 1) := by decide +kernel
theorem dX6_colourFor_34 : decode cX6_colourFor 34 = .ok (.if_icmp .ne 9, 3) := by decide +kernel
theorem dX6_colourFor_37 : decode cX6_colourFor 37 = .ok (.iinc 4 1, 3) := by decide +kernel
theorem dX6_colourFor_40 : decode cX6_colourFor 40 = .ok (.goto (-19), 3) := by decide +kernel
theorem dX6_colourFor_43 : decode cX6_colourFor 43 = .ok (.iload 4, 2) := by decide +kernel
theorem dX6_colourFor_45 : decode cX6_colourFor 45 = .ok (.ireturn, 1) := by decide +kernel
theorem dX6_mayGet_0 : decode cX6_mayGet 0 = .ok (.aload_n 0, 1) := by decide +kernel
theorem dX6_mayGet_1 : decode cX6_mayGet 1 = .ok (.iload_n 1, 1) := by decide +kernel
theorem dX6_mayGet_2 : decode cX6_mayGet 2 = .ok (.invokevirtual 48, 3) := by decide +kernel
theorem dX6_mayGet_5 : decode cX6_mayGet 5 = .ok (.ifCond .eq 31, 3) := by decide +kernel
theorem dX6_mayGet_8 : decode cX6_mayGet 8 = .ok (.aload_n 0, 1) := by decide +kernel
theorem dX6_mayGet_9 : decode cX6_mayGet 9 = .ok (.iload_n 1, 1) := by decide +kernel
theorem dX6_mayGet_10 : decode cX6_mayGet 10 = .ok (.iload_n 2, 1) := by decide +kernel
theorem dX6_mayGet_11 : decode cX6_mayGet 11 = .ok (.invokevirtual 51, 3) := by decide +kernel
theorem dX6_mayGet_14 : decode cX6_mayGet 14 = .ok (.ifCond .eq 18, 3) := by decide +kernel
theorem dX6_mayGet_17 : decode cX6_mayGet 17 = .ok (.aload_n 0, 1) := by decide +kernel
theorem dX6_mayGet_18 : decode cX6_mayGet 18 = .ok (.iconst 3, 1) := by decide +kernel
theorem dX6_mayGet_19 : decode cX6_mayGet 19 = .ok (.invokevirtual 44, 3) := by decide +kernel
theorem dX6_mayGet_22 : decode cX6_mayGet 22 = .ok (.aload_n 0, 1) := by decide +kernel
theorem dX6_mayGet_23 : decode cX6_mayGet 23 = .ok (.iconst 4, 1) := by decide +kernel
theorem dX6_mayGet_24 : decode cX6_mayGet 24 = .ok (.invokevirtual 44, 3) := by decide +kernel
theorem dX6_mayGet_27 : decode cX6_mayGet 27 = .ok (.iadd, 1) := by decide +kernel
theorem dX6_mayGet_28 : decode cX6_mayGet 28 = .ok (.iconst 3, 1) := by decide +kernel
theorem dX6_mayGet_29 : decode cX6_mayGet 29 = .ok (.if_icmp .ge 7, 3) := by decide +kernel
theorem dX6_mayGet_32 : decode cX6_mayGet 32 = .ok (.iconst 1, 1) := by decide +kernel
theorem dX6_mayGet_33 : decode cX6_mayGet 33 = .ok (.goto 4, 3) := by decide +kernel
theorem dX6_mayGet_36 : decode cX6_mayGet 36 = .ok (.iconst 0, 1) := by decide +kernel
theorem dX6_mayGet_37 : decode cX6_mayGet 37 = .ok (.ireturn, 1) := by decide +kernel
theorem dX6_takeCard_0 : decode cX6_takeCard 0 = .ok (.iload_n 1, 1) := by decide +kernel
theorem dX6_takeCard_1 : decode cX6_takeCard 1 = .ok (.invokestatic 40, 3) := by decide +kernel
theorem dX6_takeCard_4 : decode cX6_takeCard 4 = .ok (.ifCond .ne 4, 3) := by decide +kernel
theorem dX6_takeCard_7 : decode cX6_takeCard 7 = .ok (.return_, 1) := by decide +kernel
theorem dX6_takeCard_8 : decode cX6_takeCard 8 = .ok (.aload_n 0, 1) := by decide +kernel
theorem dX6_takeCard_9 : decode cX6_takeCard 9 = .ok (.getfield 18, 3) := by decide +kernel
theorem dX6_takeCard_12 : decode cX6_takeCard 12 = .ok (.iload_n 1, 1) := by decide +kernel
theorem dX6_takeCard_13 : decode cX6_takeCard 13 = .ok (.dup2, 1) := by decide +kernel
theorem dX6_takeCard_14 : decode cX6_takeCard 14 = .ok (.iaload, 1) := by decide +kernel
theorem dX6_takeCard_15 : decode cX6_takeCard 15 = .ok (.iconst 1, 1) := by decide +kernel
theorem dX6_takeCard_16 : decode cX6_takeCard 16 = .ok (.iload_n 2, 1) := by decide +kernel
theorem dX6_takeCard_17 : decode cX6_takeCard 17 = .ok (.ishl, 1) := by decide +kernel
theorem dX6_takeCard_18 : decode cX6_takeCard 18 = .ok (.ior, 1) := by decide +kernel
theorem dX6_takeCard_19 : decode cX6_takeCard 19 = .ok (.iastore, 1) := by decide +kernel
theorem dX6_takeCard_20 : decode cX6_takeCard 20 = .ok (.iload_n 2, 1) := by decide +kernel
theorem dX6_takeCard_21 : decode cX6_takeCard 21 = .ok (.iconst 1, 1) := by decide +kernel
theorem dX6_takeCard_22 : decode cX6_takeCard 22 = .ok (.if_icmp .ne 24, 3) := by decide +kernel
theorem dX6_takeCard_25 : decode cX6_takeCard 25 = .ok (.aload_n 0, 1) := by decide +kernel
theorem dX6_takeCard_26 : decode cX6_takeCard 26 = .ok (.getfield 9, 3) := by decide +kernel
theorem dX6_takeCard_29 : decode cX6_takeCard 29 = .ok (.iload_n 1, 1) := by decide +kernel
theorem dX6_takeCard_30 : decode cX6_takeCard 30 = .ok (.iconst 3, 1) := by decide +kernel
theorem dX6_takeCard_31 : decode cX6_takeCard 31 = .ok (.iastore, 1) := by decide +kernel
theorem dX6_takeCard_32 : decode cX6_takeCard 32 = .ok (.aload_n 0, 1) := by decide +kernel
theorem dX6_takeCard_33 : decode cX6_takeCard 33 = .ok (.getfield 15, 3) := by decide +kernel
theorem dX6_takeCard_36 : decode cX6_takeCard 36 = .ok (.iload_n 1, 1) := by decide +kernel
theorem dX6_takeCard_37 : decode cX6_takeCard 37 = .ok (.iload_n 3, 1) := by decide +kernel
theorem dX6_takeCard_38 : decode cX6_takeCard 38 = .ok (.sipush 1200, 3) := by decide +kernel
theorem dX6_takeCard_41 : decode cX6_takeCard 41 = .ok (.iadd, 1) := by decide +kernel
theorem dX6_takeCard_42 : decode cX6_takeCard 42 = .ok (.iastore, 1) := by decide +kernel
theorem dX6_takeCard_43 : decode cX6_takeCard 43 = .ok (.goto 15, 3) := by decide +kernel
theorem dX6_takeCard_46 : decode cX6_takeCard 46 = .ok (.iload_n 2, 1) := by decide +kernel
theorem dX6_takeCard_47 : decode cX6_takeCard 47 = .ok (.iconst 2, 1) := by decide +kernel
theorem dX6_takeCard_48 : decode cX6_takeCard 48 = .ok (.if_icmp .ne 10, 3) := by decide +kernel
theorem dX6_takeCard_51 : decode cX6_takeCard 51 = .ok (.aload_n 0, 1) := by decide +kernel
theorem dX6_takeCard_52 : decode cX6_takeCard 52 = .ok (.getfield 9, 3) := by decide +kernel
theorem dX6_takeCard_55 : decode cX6_takeCard 55 = .ok (.iload_n 1, 1) := by decide +kernel
theorem dX6_takeCard_56 : decode cX6_takeCard 56 = .ok (.iconst 4, 1) := by decide +kernel
theorem dX6_takeCard_57 : decode cX6_takeCard 57 = .ok (.iastore, 1) := by decide +kernel
theorem dX6_takeCard_58 : decode cX6_takeCard 58 = .ok (.return_, 1) := by decide +kernel
theorem dX6_mayChange_0 : decode cX6_mayChange 0 = .ok (.aload_n 0, 1) := by decide +kernel
theorem dX6_mayChange_1 : decode cX6_mayChange 1 = .ok (.iload_n 1, 1) := by decide +kernel
theorem dX6_mayChange_2 : decode cX6_mayChange 2 = .ok (.invokevirtual 48, 3) := by decide +kernel
theorem dX6_mayChange_5 : decode cX6_mayChange 5 = .ok (.ifCond .eq 24, 3) := by decide +kernel
theorem dX6_mayChange_8 : decode cX6_mayChange 8 = .ok (.aload_n 0, 1) := by decide +kernel
theorem dX6_mayChange_9 : decode cX6_mayChange 9 = .ok (.iload_n 2, 1) := by decide +kernel
theorem dX6_mayChange_10 : decode cX6_mayChange 10 = .ok (.invokevirtual 55, 3) := by decide +kernel
theorem dX6_mayChange_13 : decode cX6_mayChange 13 = .ok (.iconst 1, 1) := by decide +kernel
theorem dX6_mayChange_14 : decode cX6_mayChange 14 = .ok (.if_icmp .ne 15, 3) := by decide +kernel
theorem dX6_mayChange_17 : decode cX6_mayChange 17 = .ok (.aload_n 0, 1) := by decide +kernel
theorem dX6_mayChange_18 : decode cX6_mayChange 18 = .ok (.getfield 31, 3) := by decide +kernel
theorem dX6_mayChange_21 : decode cX6_mayChange 21 = .ok (.iconst 5, 1) := by decide +kernel
theorem dX6_mayChange_22 : decode cX6_mayChange 22 = .ok (.if_icmp .ge 7, 3) := by decide +kernel
theorem dX6_mayChange_25 : decode cX6_mayChange 25 = .ok (.iconst 1, 1) := by decide +kernel
theorem dX6_mayChange_26 : decode cX6_mayChange 26 = .ok (.goto 4, 3) := by decide +kernel
theorem dX6_mayChange_29 : decode cX6_mayChange 29 = .ok (.iconst 0, 1) := by decide +kernel
theorem dX6_mayChange_30 : decode cX6_mayChange 30 = .ok (.ireturn, 1) := by decide +kernel
theorem dX6_swapPlayers_0 : decode cX6_swapPlayers 0 = .ok (.iload_n 1, 1) := by decide +kernel
theorem dX6_swapPlayers_1 : decode cX6_swapPlayers 1 = .ok (.invokestatic 40, 3) := by decide +kernel
theorem dX6_swapPlayers_4 : decode cX6_swapPlayers 4 = .ok (.ifCond .eq 34, 3) := by decide +kernel
theorem dX6_swapPlayers_7 : decode cX6_swapPlayers 7 = .ok (.iload_n 2, 1) := by decide +kernel
theorem dX6_swapPlayers_8 : decode cX6_swapPlayers 8 = .ok (.invokestatic 40, 3) := by decide +kernel
theorem dX6_swapPlayers_11 : decode cX6_swapPlayers 11 = .ok (.ifCond .eq 27, 3) := by decide +kernel
theorem dX6_swapPlayers_14 : decode cX6_swapPlayers 14 = .ok (.aload_n 0, 1) := by decide +kernel
theorem dX6_swapPlayers_15 : decode cX6_swapPlayers 15 = .ok (.getfield 9, 3) := by decide +kernel
theorem dX6_swapPlayers_18 : decode cX6_swapPlayers 18 = .ok (.iload_n 1, 1) := by decide +kernel
theorem dX6_swapPlayers_19 : decode cX6_swapPlayers 19 = .ok (.iconst 1, 1) := by decide +kernel
theorem dX6_swapPlayers_20 : decode cX6_swapPlayers 20 = .ok (.iastore, 1) := by decide +kernel
theorem dX6_swapPlayers_21 : decode cX6_swapPlayers 21 = .ok (.aload_n 0, 1) := by decide +kernel
theorem dX6_swapPlayers_22 : decode cX6_swapPlayers 22 = .ok (.getfield 9, 3) := by decide +kernel
theorem dX6_swapPlayers_25 : decode cX6_swapPlayers 25 = .ok (.iload_n 2, 1) := by decide +kernel
theorem dX6_swapPlayers_26 : decode cX6_swapPlayers 26 = .ok (.iconst 0, 1) := by decide +kernel
theorem dX6_swapPlayers_27 : decode cX6_swapPlayers 27 = .ok (.iastore, 1) := by decide +kernel
theorem dX6_swapPlayers_28 : decode cX6_swapPlayers 28 = .ok (.aload_n 0, 1) := by decide +kernel
theorem dX6_swapPlayers_29 : decode cX6_swapPlayers 29 = .ok (.dup, 1) := by decide +kernel
theorem dX6_swapPlayers_30 : decode cX6_swapPlayers 30 = .ok (.getfield 31, 3) := by decide +kernel
theorem dX6_swapPlayers_33 : decode cX6_swapPlayers 33 = .ok (.iconst 1, 1) := by decide +kernel
theorem dX6_swapPlayers_34 : decode cX6_swapPlayers 34 = .ok (.iadd, 1) := by decide +kernel
theorem dX6_swapPlayers_35 : decode cX6_swapPlayers 35 = .ok (.putfield 31, 3) := by decide +kernel
theorem dX6_swapPlayers_38 : decode cX6_swapPlayers 38 = .ok (.return_, 1) := by decide +kernel
theorem dX7_init_0 : decode cX7_init 0 = .ok (.aload_n 0, 1) := by decide +kernel
theorem dX7_init_1 : decode cX7_init 1 = .ok (.invokespecial 3, 3) := by decide +kernel
theorem dX7_init_4 : decode cX7_init 4 = .ok (.aload_n 0, 1) := by decide +kernel
theorem dX7_init_5 : decode cX7_init 5 = .ok (.new 9, 3) := by decide +kernel
theorem dX7_init_8 : decode cX7_init 8 = .ok (.dup, 1) := by decide +kernel
theorem dX7_init_9 : decode cX7_init 9 = .ok (.invokespecial 11, 3) := by decide +kernel
theorem dX7_init_12 : decode cX7_init 12 = .ok (.putfield 12, 3) := by decide +kernel
theorem dX7_init_15 : decode cX7_init 15 = .ok (.aload_n 0, 1) := by decide +kernel
theorem dX7_init_16 : decode cX7_init 16 = .ok (.new 16, 3) := by decide +kernel
theorem dX7_init_19 : decode cX7_init 19 = .ok (.dup, 1) := by decide +kernel
theorem dX7_init_20 : decode cX7_init 20 = .ok (.invokespecial 18, 3) := by decide +kernel
theorem dX7_init_23 : decode cX7_init 23 = .ok (.putfield 19, 3) := by decide +kernel
theorem dX7_init_26 : decode cX7_init 26 = .ok (.aload_n 0, 1) := by decide +kernel
theorem dX7_init_27 : decode cX7_init 27 = .ok (.new 23, 3) := by decide +kernel
theorem dX7_init_30 : decode cX7_init 30 = .ok (.dup, 1) := by decide +kernel
theorem dX7_init_31 : decode cX7_init 31 = .ok (.invokespecial 25, 3) := by decide +kernel
theorem dX7_init_34 : decode cX7_init 34 = .ok (.putfield 26, 3) := by decide +kernel
theorem dX7_init_37 : decode cX7_init 37 = .ok (.aload_n 0, 1) := by decide +kernel
theorem dX7_init_38 : decode cX7_init 38 = .ok (.new 30, 3) := by decide +kernel
theorem dX7_init_41 : decode cX7_init 41 = .ok (.dup, 1) := by decide +kernel
theorem dX7_init_42 : decode cX7_init 42 = .ok (.invokespecial 32, 3) := by decide +kernel
theorem dX7_init_45 : decode cX7_init 45 = .ok (.putfield 33, 3) := by decide +kernel
theorem dX7_init_48 : decode cX7_init 48 = .ok (.return_, 1) := by decide +kernel
theorem dX7_begin_0 : decode cX7_begin 0 = .ok (.iload_n 1, 1) := by decide +kernel
theorem dX7_begin_1 : decode cX7_begin 1 = .ok (.bipush 8, 2) := by decide +kernel
theorem dX7_begin_3 : decode cX7_begin 3 = .ok (.invokestatic 37, 3) := by decide +kernel
theorem dX7_begin_6 : decode cX7_begin 6 = .ok (.iload_n 2, 1) := by decide +kernel
theorem dX7_begin_7 : decode cX7_begin 7 = .ok (.bipush 8, 2) := by decide +kernel
theorem dX7_begin_9 : decode cX7_begin 9 = .ok (.invokestatic 37, 3) := by decide +kernel
theorem dX7_begin_12 : decode cX7_begin 12 = .ok (.iload_n 1, 1) := by decide +kernel
theorem dX7_begin_13 : decode cX7_begin 13 = .ok (.iload_n 2, 1) := by decide +kernel
theorem dX7_begin_14 : decode cX7_begin 14 = .ok (.if_icmp .eq 20, 3) := by decide +kernel
theorem dX7_begin_17 : decode cX7_begin 17 = .ok (.iload_n 3, 1) := by decide +kernel
theorem dX7_begin_18 : decode cX7_begin 18 = .ok (.sipush 300, 3) := by decide +kernel
theorem dX7_begin_21 : decode cX7_begin 21 = .ok (.sipush 24000, 3) := by decide +kernel
theorem dX7_begin_24 : decode cX7_begin 24 = .ok (.invokestatic 41, 3) := by decide +kernel
theorem dX7_begin_27 : decode cX7_begin 27 = .ok (.ifCond .eq 7, 3) := by decide +kernel
theorem dX7_begin_30 : decode cX7_begin 30 = .ok (.iconst 1, 1) := by decide +kernel
theorem dX7_begin_31 : decode cX7_begin 31 = .ok (.goto 4, 3) := by decide +kernel
theorem dX7_begin_34 : decode cX7_begin 34 = .ok (.iconst 0, 1) := by decide +kernel
theorem dX7_begin_35 : decode cX7_begin 35 = .ok (.invokestatic 45, 3) := by decide +kernel
theorem dX7_begin_38 : decode cX7_begin 38 = .ok (.aload_n 0, 1) := by decide +kernel
theorem dX7_begin_39 : decode cX7_begin 39 = .ok (.getfield 12, 3) := by decide +kernel
theorem dX7_begin_42 : decode cX7_begin 42 = .ok (.invokevirtual 49, 3) := by decide +kernel
theorem dX7_begin_45 : decode cX7_begin 45 = .ok (.ifCond .ne 7, 3) := by decide +kernel
theorem dX7_begin_48 : decode cX7_begin 48 = .ok (.iconst 1, 1) := by decide +kernel
theorem dX7_begin_49 : decode cX7_begin 49 = .ok (.goto 4, 3) := by decide +kernel
theorem dX7_begin_52 : decode cX7_begin 52 = .ok (.iconst 0, 1) := by decide +kernel
theorem dX7_begin_53 : decode cX7_begin 53 = .ok (.invokestatic 53, 3) := by decide +kernel
theorem dX7_begin_56 : decode cX7_begin 56 = .ok (.aload_n 0, 1) := by decide +kernel
theorem dX7_begin_57 : decode cX7_begin 57 = .ok (.getfield 12, 3) := by decide +kernel
theorem dX7_begin_60 : decode cX7_begin 60 = .ok (.iload_n 1, 1) := by decide +kernel
theorem dX7_begin_61 : decode cX7_begin 61 = .ok (.iload_n 2, 1) := by decide +kernel
theorem dX7_begin_62 : decode cX7_begin 62 = .ok (.iload_n 3, 1) := by decide +kernel
theorem dX7_begin_63 : decode cX7_begin 63 = .ok (.invokevirtual 56, 3) := by decide +kernel
theorem dX7_begin_66 : decode cX7_begin 66 = .ok (.ireturn, 1) := by decide +kernel
theorem dX7_raid_0 : decode cX7_raid 0 = .ok (.iload_n 1, 1) := by decide +kernel
theorem dX7_raid_1 : decode cX7_raid 1 = .ok (.bipush 10, 2) := by decide +kernel
theorem dX7_raid_3 : decode cX7_raid 3 = .ok (.invokestatic 37, 3) := by decide +kernel
theorem dX7_raid_6 : decode cX7_raid 6 = .ok (.aload_n 0, 1) := by decide +kernel
theorem dX7_raid_7 : decode cX7_raid 7 = .ok (.getfield 12, 3) := by decide +kernel
theorem dX7_raid_10 : decode cX7_raid 10 = .ok (.iload_n 1, 1) := by decide +kernel
theorem dX7_raid_11 : decode cX7_raid 11 = .ok (.invokevirtual 60, 3) := by decide +kernel
theorem dX7_raid_14 : decode cX7_raid 14 = .ok (.invokestatic 53, 3) := by decide +kernel
theorem dX7_raid_17 : decode cX7_raid 17 = .ok (.aload_n 0, 1) := by decide +kernel
theorem dX7_raid_18 : decode cX7_raid 18 = .ok (.getfield 12, 3) := by decide +kernel
theorem dX7_raid_21 : decode cX7_raid 21 = .ok (.iload_n 1, 1) := by decide +kernel
theorem dX7_raid_22 : decode cX7_raid 22 = .ok (.invokevirtual 64, 3) := by decide +kernel
theorem dX7_raid_25 : decode cX7_raid 25 = .ok (.ireturn, 1) := by decide +kernel
theorem dX7_step_0 : decode cX7_step 0 = .ok (.iload_n 1, 1) := by decide +kernel
theorem dX7_step_1 : decode cX7_step 1 = .ok (.iload_n 2, 1) := by decide +kernel
theorem dX7_step_2 : decode cX7_step 2 = .ok (.bipush 6, 2) := by decide +kernel
theorem dX7_step_4 : decode cX7_step 4 = .ok (.invokestatic 68, 3) := by decide +kernel
theorem dX7_step_7 : decode cX7_step 7 = .ok (.ifCond .eq 18, 3) := by decide +kernel
theorem dX7_step_10 : decode cX7_step 10 = .ok (.iload_n 3, 1) := by decide +kernel
theorem dX7_step_11 : decode cX7_step 11 = .ok (.iconst 1, 1) := by decide +kernel
theorem dX7_step_12 : decode cX7_step 12 = .ok (.sipush 300, 3) := by decide +kernel
theorem dX7_step_15 : decode cX7_step 15 = .ok (.invokestatic 41, 3) := by decide +kernel
theorem dX7_step_18 : decode cX7_step 18 = .ok (.ifCond .eq 7, 3) := by decide +kernel
theorem dX7_step_21 : decode cX7_step 21 = .ok (.iconst 1, 1) := by decide +kernel
theorem dX7_step_22 : decode cX7_step 22 = .ok (.goto 4, 3) := by decide +kernel
theorem dX7_step_25 : decode cX7_step 25 = .ok (.iconst 0, 1) := by decide +kernel
theorem dX7_step_26 : decode cX7_step 26 = .ok (.invokestatic 45, 3) := by decide +kernel
theorem dX7_step_29 : decode cX7_step 29 = .ok (.aload_n 0, 1) := by decide +kernel
theorem dX7_step_30 : decode cX7_step 30 = .ok (.getfield 12, 3) := by decide +kernel
theorem dX7_step_33 : decode cX7_step 33 = .ok (.iload_n 1, 1) := by decide +kernel
theorem dX7_step_34 : decode cX7_step 34 = .ok (.iload_n 2, 1) := by decide +kernel
theorem dX7_step_35 : decode cX7_step 35 = .ok (.iload_n 3, 1) := by decide +kernel
theorem dX7_step_36 : decode cX7_step 36 = .ok (.invokevirtual 71, 3) := by decide +kernel
theorem dX7_step_39 : decode cX7_step 39 = .ok (.invokestatic 53, 3) := by decide +kernel
theorem dX7_step_42 : decode cX7_step 42 = .ok (.aload_n 0, 1) := by decide +kernel
theorem dX7_step_43 : decode cX7_step 43 = .ok (.getfield 12, 3) := by decide +kernel
theorem dX7_step_46 : decode cX7_step 46 = .ok (.iload_n 1, 1) := by decide +kernel
theorem dX7_step_47 : decode cX7_step 47 = .ok (.iload_n 2, 1) := by decide +kernel
theorem dX7_step_48 : decode cX7_step 48 = .ok (.iload_n 3, 1) := by decide +kernel
theorem dX7_step_49 : decode cX7_step 49 = .ok (.invokevirtual 74, 3) := by decide +kernel
theorem dX7_step_52 : decode cX7_step 52 = .ok (.ireturn, 1) := by decide +kernel
theorem dX7_card_0 : decode cX7_card 0 = .ok (.iload_n 1, 1) := by decide +kernel
theorem dX7_card_1 : decode cX7_card 1 = .ok (.iconst 2, 1) := by decide +kernel
theorem dX7_card_2 : decode cX7_card 2 = .ok (.invokestatic 37, 3) := by decide +kernel
theorem dX7_card_5 : decode cX7_card 5 = .ok (.iload_n 2, 1) := by decide +kernel
theorem dX7_card_6 : decode cX7_card 6 = .ok (.bipush 10, 2) := by decide +kernel
theorem dX7_card_8 : decode cX7_card 8 = .ok (.invokestatic 37, 3) := by decide +kernel
theorem dX7_card_11 : decode cX7_card 11 = .ok (.iload_n 3, 1) := by decide +kernel
theorem dX7_card_12 : decode cX7_card 12 = .ok (.iconst 0, 1) := by decide +kernel
theorem dX7_card_13 : decode cX7_card 13 = .ok (.iconst 2, 1) := by decide +kernel
theorem dX7_card_14 : decode cX7_card 14 = .ok (.invokestatic 41, 3) := by decide +kernel
theorem dX7_card_17 : decode cX7_card 17 = .ok (.invokestatic 45, 3) := by decide +kernel
theorem dX7_card_20 : decode cX7_card 20 = .ok (.aload_n 0, 1) := by decide +kernel
theorem dX7_card_21 : decode cX7_card 21 = .ok (.getfield 12, 3) := by decide +kernel
theorem dX7_card_24 : decode cX7_card 24 = .ok (.iload_n 1, 1) := by decide +kernel
theorem dX7_card_25 : decode cX7_card 25 = .ok (.iload_n 2, 1) := by decide +kernel
theorem dX7_card_26 : decode cX7_card 26 = .ok (.iload_n 3, 1) := by decide +kernel
theorem dX7_card_27 : decode cX7_card 27 = .ok (.invokevirtual 77, 3) := by decide +kernel
theorem dX7_card_30 : decode cX7_card 30 = .ok (.invokestatic 53, 3) := by decide +kernel
theorem dX7_card_33 : decode cX7_card 33 = .ok (.aload_n 0, 1) := by decide +kernel
theorem dX7_card_34 : decode cX7_card 34 = .ok (.getfield 12, 3) := by decide +kernel
theorem dX7_card_37 : decode cX7_card 37 = .ok (.iload_n 1, 1) := by decide +kernel
theorem dX7_card_38 : decode cX7_card 38 = .ok (.iload_n 2, 1) := by decide +kernel
theorem dX7_card_39 : decode cX7_card 39 = .ok (.iload_n 3, 1) := by decide +kernel
theorem dX7_card_40 : decode cX7_card 40 = .ok (.invokevirtual 80, 3) := by decide +kernel
theorem dX7_card_43 : decode cX7_card 43 = .ok (.ireturn, 1) := by decide +kernel
theorem dX7_change_0 : decode cX7_change 0 = .ok (.iload_n 1, 1) := by decide +kernel
theorem dX7_change_1 : decode cX7_change 1 = .ok (.iconst 2, 1) := by decide +kernel
theorem dX7_change_2 : decode cX7_change 2 = .ok (.invokestatic 37, 3) := by decide +kernel
theorem dX7_change_5 : decode cX7_change 5 = .ok (.iload_n 2, 1) := by decide +kernel
theorem dX7_change_6 : decode cX7_change 6 = .ok (.bipush 10, 2) := by decide +kernel
theorem dX7_change_8 : decode cX7_change 8 = .ok (.invokestatic 37, 3) := by decide +kernel
theorem dX7_change_11 : decode cX7_change 11 = .ok (.iload_n 3, 1) := by decide +kernel
theorem dX7_change_12 : decode cX7_change 12 = .ok (.bipush 10, 2) := by decide +kernel
theorem dX7_change_14 : decode cX7_change 14 = .ok (.invokestatic 37, 3) := by decide +kernel
theorem dX7_change_17 : decode cX7_change 17 = .ok (.aload_n 0, 1) := by decide +kernel
theorem dX7_change_18 : decode cX7_change 18 = .ok (.getfield 12, 3) := by decide +kernel
theorem dX7_change_21 : decode cX7_change 21 = .ok (.iload_n 1, 1) := by decide +kernel
theorem dX7_change_22 : decode cX7_change 22 = .ok (.iload_n 2, 1) := by decide +kernel
theorem dX7_change_23 : decode cX7_change 23 = .ok (.iload_n 3, 1) := by decide +kernel
theorem dX7_change_24 : decode cX7_change 24 = .ok (.invokevirtual 83, 3) := by decide +kernel
theorem dX7_change_27 : decode cX7_change 27 = .ok (.invokestatic 53, 3) := by decide +kernel
theorem dX7_change_30 : decode cX7_change 30 = .ok (.aload_n 0, 1) := by decide +kernel
theorem dX7_change_31 : decode cX7_change 31 = .ok (.getfield 12, 3) := by decide +kernel
theorem dX7_change_34 : decode cX7_change 34 = .ok (.iload_n 1, 1) := by decide +kernel
theorem dX7_change_35 : decode cX7_change 35 = .ok (.iload_n 2, 1) := by decide +kernel
theorem dX7_change_36 : decode cX7_change 36 = .ok (.iload_n 3, 1) := by decide +kernel
theorem dX7_change_37 : decode cX7_change 37 = .ok (.invokevirtual 86, 3) := by decide +kernel
theorem dX7_change_40 : decode cX7_change 40 = .ok (.ireturn, 1) := by decide +kernel
theorem dX7_review_0 : decode cX7_review 0 = .ok (.iload_n 1, 1) := by decide +kernel
theorem dX7_review_1 : decode cX7_review 1 = .ok (.iconst 2, 1) := by decide +kernel
theorem dX7_review_2 : decode cX7_review 2 = .ok (.invokestatic 37, 3) := by decide +kernel
theorem dX7_review_5 : decode cX7_review 5 = .ok (.iload_n 3, 1) := by decide +kernel
theorem dX7_review_6 : decode cX7_review 6 = .ok (.aload_n 0, 1) := by decide +kernel
theorem dX7_review_7 : decode cX7_review 7 = .ok (.getfield 12, 3) := by decide +kernel
theorem dX7_review_10 : decode cX7_review 10 = .ok (.iload_n 2, 1) := by decide +kernel
theorem dX7_review_11 : decode cX7_review 11 = .ok (.invokevirtual 89, 3) := by decide +kernel
theorem dX7_review_14 : decode cX7_review 14 = .ok (.invokestatic 37, 3) := by decide +kernel
theorem dX7_review_17 : decode cX7_review 17 = .ok (.iload 4, 2) := by decide +kernel
theorem dX7_review_19 : decode cX7_review 19 = .ok (.iload 5, 2) := by decide +kernel
theorem dX7_review_21 : decode cX7_review 21 = .ok (.iconst 5, 1) := by decide +kernel
theorem dX7_review_22 : decode cX7_review 22 = .ok (.invokestatic 68, 3) := by decide +kernel
theorem dX7_review_25 : decode cX7_review 25 = .ok (.invokestatic 45, 3) := by decide +kernel
theorem dX7_review_28 : decode cX7_review 28 = .ok (.aload_n 0, 1) := by decide +kernel
theorem dX7_review_29 : decode cX7_review 29 = .ok (.getfield 12, 3) := by decide +kernel
theorem dX7_review_32 : decode cX7_review 32 = .ok (.invokevirtual 92, 3) := by decide +kernel
theorem dX7_review_35 : decode cX7_review 35 = .ok (.ifCond .eq 18, 3) := by decide +kernel
theorem dX7_review_38 : decode cX7_review 38 = .ok (.aload_n 0, 1) := by decide +kernel
theorem dX7_review_39 : decode cX7_review 39 = .ok (.getfield 12, 3) := by decide +kernel
theorem dX7_review_42 : decode cX7_review 42 = .ok (.iload_n 1, 1) := by decide +kernel
theorem dX7_review_43 : decode cX7_review 43 = .ok (.invokevirtual 95, 3) := by decide +kernel
theorem dX7_review_46 : decode cX7_review 46 = .ok (.ifCond .eq 7, 3) := by decide +kernel
theorem dX7_review_49 : decode cX7_review 49 = .ok (.iconst 1, 1) := by decide +kernel
theorem dX7_review_50 : decode cX7_review 50 = .ok (.goto 4, 3) := by decide +kernel
theorem dX7_review_53 : decode cX7_review 53 = .ok (.iconst 0, 1) := by decide +kernel
theorem dX7_review_54 : decode cX7_review 54 = .ok (.invokestatic 53, 3) := by decide +kernel
theorem dX7_review_57 : decode cX7_review 57 = .ok (.aload_n 0, 1) := by decide +kernel
theorem dX7_review_58 : decode cX7_review 58 = .ok (.getfield 12, 3) := by decide +kernel
theorem dX7_review_61 : decode cX7_review 61 = .ok (.iload_n 2, 1) := by decide +kernel
theorem dX7_review_62 : decode cX7_review 62 = .ok (.iload_n 3, 1) := by decide +kernel
theorem dX7_review_63 : decode cX7_review 63 = .ok (.iload 4, 2) := by decide +kernel
theorem dX7_review_65 : decode cX7_review 65 = .ok (.iload 5, 2) := by decide +kernel
theorem dX7_review_67 : decode cX7_review 67 = .ok (.invokevirtual 98, 3) := by decide +kernel
theorem dX7_review_70 : decode cX7_review 70 = .ok (.iconst (-1), 1) := by decide +kernel
theorem dX7_review_71 : decode cX7_review 71 = .ok (.if_icmp .ne 7, 3) := by decide +kernel
theorem dX7_review_74 : decode cX7_review 74 = .ok (.iconst 1, 1) := by decide +kernel
theorem dX7_review_75 : decode cX7_review 75 = .ok (.goto 4, 3) := by decide +kernel
theorem dX7_review_78 : decode cX7_review 78 = .ok (.iconst 0, 1) := by decide +kernel
theorem dX7_review_79 : decode cX7_review 79 = .ok (.invokestatic 53, 3) := by decide +kernel
theorem dX7_review_82 : decode cX7_review 82 = .ok (.aload_n 0, 1) := by decide +kernel
theorem dX7_review_83 : decode cX7_review 83 = .ok (.getfield 12, 3) := by decide +kernel
theorem dX7_review_86 : decode cX7_review 86 = .ok (.iload_n 1, 1) := by decide +kernel
theorem dX7_review_87 : decode cX7_review 87 = .ok (.iload_n 2, 1) := by decide +kernel
theorem dX7_review_88 : decode cX7_review 88 = .ok (.iload_n 3, 1) := by decide +kernel
theorem dX7_review_89 : decode cX7_review 89 = .ok (.iload 4, 2) := by decide +kernel
theorem dX7_review_91 : decode cX7_review 91 = .ok (.iload 5, 2) := by decide +kernel
theorem dX7_review_93 : decode cX7_review 93 = .ok (.invokevirtual 102, 3) := by decide +kernel
theorem dX7_review_96 : decode cX7_review 96 = .ok (.ireturn, 1) := by decide +kernel
theorem dX7_wouldFall_0 : decode cX7_wouldFall 0 = .ok (.iload_n 2, 1) := by decide +kernel
theorem dX7_wouldFall_1 : decode cX7_wouldFall 1 = .ok (.aload_n 0, 1) := by decide +kernel
theorem dX7_wouldFall_2 : decode cX7_wouldFall 2 = .ok (.getfield 12, 3) := by decide +kernel
theorem dX7_wouldFall_5 : decode cX7_wouldFall 5 = .ok (.iload_n 1, 1) := by decide +kernel
theorem dX7_wouldFall_6 : decode cX7_wouldFall 6 = .ok (.invokevirtual 89, 3) := by decide +kernel
theorem dX7_wouldFall_9 : decode cX7_wouldFall 9 = .ok (.invokestatic 37, 3) := by decide +kernel
theorem dX7_wouldFall_12 : decode cX7_wouldFall 12 = .ok (.iload_n 3, 1) := by decide +kernel
theorem dX7_wouldFall_13 : decode cX7_wouldFall 13 = .ok (.iload 4, 2) := by decide +kernel
theorem dX7_wouldFall_15 : decode cX7_wouldFall 15 = .ok (.iconst 5, 1) := by decide +kernel
theorem dX7_wouldFall_16 : decode cX7_wouldFall 16 = .ok (.invokestatic 68, 3) := by decide +kernel
theorem dX7_wouldFall_19 : decode cX7_wouldFall 19 = .ok (.invokestatic 45, 3) := by decide +kernel
theorem dX7_wouldFall_22 : decode cX7_wouldFall 22 = .ok (.aload_n 0, 1) := by decide +kernel
theorem dX7_wouldFall_23 : decode cX7_wouldFall 23 = .ok (.getfield 12, 3) := by decide +kernel
theorem dX7_wouldFall_26 : decode cX7_wouldFall 26 = .ok (.iload_n 1, 1) := by decide +kernel
theorem dX7_wouldFall_27 : decode cX7_wouldFall 27 = .ok (.iload_n 2, 1) := by decide +kernel
theorem dX7_wouldFall_28 : decode cX7_wouldFall 28 = .ok (.iload_n 3, 1) := by decide +kernel
theorem dX7_wouldFall_29 : decode cX7_wouldFall 29 = .ok (.iload 4, 2) := by decide +kernel
theorem dX7_wouldFall_31 : decode cX7_wouldFall 31 = .ok (.invokevirtual 98, 3) := by decide +kernel
theorem dX7_wouldFall_34 : decode cX7_wouldFall 34 = .ok (.ireturn, 1) := by decide +kernel
theorem dX7_takeBack_0 : decode cX7_takeBack 0 = .ok (.iload_n 1, 1) := by decide +kernel
theorem dX7_takeBack_1 : decode cX7_takeBack 1 = .ok (.aload_n 0, 1) := by decide +kernel
theorem dX7_takeBack_2 : decode cX7_takeBack 2 = .ok (.getfield 12, 3) := by decide +kernel
theorem dX7_takeBack_5 : decode cX7_takeBack 5 = .ok (.invokevirtual 106, 3) := by decide +kernel
theorem dX7_takeBack_8 : decode cX7_takeBack 8 = .ok (.invokestatic 37, 3) := by decide +kernel
theorem dX7_takeBack_11 : decode cX7_takeBack 11 = .ok (.aload_n 0, 1) := by decide +kernel
theorem dX7_takeBack_12 : decode cX7_takeBack 12 = .ok (.getfield 12, 3) := by decide +kernel
theorem dX7_takeBack_15 : decode cX7_takeBack 15 = .ok (.iload_n 1, 1) := by decide +kernel
theorem dX7_takeBack_16 : decode cX7_takeBack 16 = .ok (.invokevirtual 110, 3) := by decide +kernel
theorem dX7_takeBack_19 : decode cX7_takeBack 19 = .ok (.ireturn, 1) := by decide +kernel
theorem dX7_enter_0 : decode cX7_enter 0 = .ok (.aload_n 0, 1) := by decide +kernel
theorem dX7_enter_1 : decode cX7_enter 1 = .ok (.getfield 12, 3) := by decide +kernel
theorem dX7_enter_4 : decode cX7_enter 4 = .ok (.invokevirtual 113, 3) := by decide +kernel
theorem dX7_enter_7 : decode cX7_enter 7 = .ok (.invokestatic 53, 3) := by decide +kernel
theorem dX7_enter_10 : decode cX7_enter 10 = .ok (.aload_n 0, 1) := by decide +kernel
theorem dX7_enter_11 : decode cX7_enter 11 = .ok (.getfield 26, 3) := by decide +kernel
theorem dX7_enter_14 : decode cX7_enter 14 = .ok (.aload_n 0, 1) := by decide +kernel
theorem dX7_enter_15 : decode cX7_enter 15 = .ok (.getfield 12, 3) := by decide +kernel
theorem dX7_enter_18 : decode cX7_enter 18 = .ok (.iconst 0, 1) := by decide +kernel
theorem dX7_enter_19 : decode cX7_enter 19 = .ok (.invokevirtual 116, 3) := by decide +kernel
theorem dX7_enter_22 : decode cX7_enter 22 = .ok (.aload_n 0, 1) := by decide +kernel
theorem dX7_enter_23 : decode cX7_enter 23 = .ok (.getfield 12, 3) := by decide +kernel
theorem dX7_enter_26 : decode cX7_enter 26 = .ok (.iconst 0, 1) := by decide +kernel
theorem dX7_enter_27 : decode cX7_enter 27 = .ok (.invokevirtual 119, 3) := by decide +kernel
theorem dX7_enter_30 : decode cX7_enter 30 = .ok (.aload_n 0, 1) := by decide +kernel
theorem dX7_enter_31 : decode cX7_enter 31 = .ok (.getfield 12, 3) := by decide +kernel
theorem dX7_enter_34 : decode cX7_enter 34 = .ok (.iconst 1, 1) := by decide +kernel
theorem dX7_enter_35 : decode cX7_enter 35 = .ok (.invokevirtual 116, 3) := by decide +kernel
theorem dX7_enter_38 : decode cX7_enter 38 = .ok (.aload_n 0, 1) := by decide +kernel
theorem dX7_enter_39 : decode cX7_enter 39 = .ok (.getfield 12, 3) := by decide +kernel
theorem dX7_enter_42 : decode cX7_enter 42 = .ok (.iconst 1, 1) := by decide +kernel
theorem dX7_enter_43 : decode cX7_enter 43 = .ok (.invokevirtual 119, 3) := by decide +kernel
theorem dX7_enter_46 : decode cX7_enter 46 = .ok (.invokevirtual 122, 3) := by decide +kernel
theorem dX7_enter_49 : decode cX7_enter 49 = .ok (.istore_n 1, 1) := by decide +kernel
theorem dX7_enter_50 : decode cX7_enter 50 = .ok (.aload_n 0, 1) := by decide +kernel
theorem dX7_enter_51 : decode cX7_enter 51 = .ok (.getfield 12, 3) := by decide +kernel
theorem dX7_enter_54 : decode cX7_enter 54 = .ok (.invokevirtual 125, 3) := by decide +kernel
theorem dX7_enter_57 : decode cX7_enter 57 = .ok (.iload_n 1, 1) := by decide +kernel
theorem dX7_enter_58 : decode cX7_enter 58 = .ok (.ireturn, 1) := by decide +kernel
theorem dX7_type_0 : decode cX7_type 0 = .ok (.iload_n 1, 1) := by decide +kernel
theorem dX7_type_1 : decode cX7_type 1 = .ok (.bipush 32, 2) := by decide +kernel
theorem dX7_type_3 : decode cX7_type 3 = .ok (.bipush 126, 2) := by decide +kernel
theorem dX7_type_5 : decode cX7_type 5 = .ok (.invokestatic 41, 3) := by decide +kernel
theorem dX7_type_8 : decode cX7_type 8 = .ok (.invokestatic 45, 3) := by decide +kernel
theorem dX7_type_11 : decode cX7_type 11 = .ok (.aload_n 0, 1) := by decide +kernel
theorem dX7_type_12 : decode cX7_type 12 = .ok (.getfield 19, 3) := by decide +kernel
theorem dX7_type_15 : decode cX7_type 15 = .ok (.invokevirtual 128, 3) := by decide +kernel
theorem dX7_type_18 : decode cX7_type 18 = .ok (.invokestatic 53, 3) := by decide +kernel
theorem dX7_type_21 : decode cX7_type 21 = .ok (.aload_n 0, 1) := by decide +kernel
theorem dX7_type_22 : decode cX7_type 22 = .ok (.getfield 19, 3) := by decide +kernel
theorem dX7_type_25 : decode cX7_type 25 = .ok (.iload_n 1, 1) := by decide +kernel
theorem dX7_type_26 : decode cX7_type 26 = .ok (.invokevirtual 131, 3) := by decide +kernel
theorem dX7_type_29 : decode cX7_type 29 = .ok (.ireturn, 1) := by decide +kernel
theorem dX7_clear_0 : decode cX7_clear 0 = .ok (.aload_n 0, 1) := by decide +kernel
theorem dX7_clear_1 : decode cX7_clear 1 = .ok (.getfield 19, 3) := by decide +kernel
theorem dX7_clear_4 : decode cX7_clear 4 = .ok (.invokevirtual 134, 3) := by decide +kernel
theorem dX7_clear_7 : decode cX7_clear 7 = .ok (.ireturn, 1) := by decide +kernel
theorem dX7_fault_0 : decode cX7_fault 0 = .ok (.aload_n 0, 1) := by decide +kernel
theorem dX7_fault_1 : decode cX7_fault 1 = .ok (.getfield 19, 3) := by decide +kernel
theorem dX7_fault_4 : decode cX7_fault 4 = .ok (.invokevirtual 137, 3) := by decide +kernel
theorem dX7_fault_7 : decode cX7_fault 7 = .ok (.ireturn, 1) := by decide +kernel
theorem dX7_run_0 : decode cX7_run 0 = .ok (.aload_n 0, 1) := by decide +kernel
theorem dX7_run_1 : decode cX7_run 1 = .ok (.getfield 19, 3) := by decide +kernel
theorem dX7_run_4 : decode cX7_run 4 = .ok (.invokevirtual 137, 3) := by decide +kernel
theorem dX7_run_7 : decode cX7_run 7 = .ok (.iconst (-1), 1) := by decide +kernel
theorem dX7_run_8 : decode cX7_run 8 = .ok (.if_icmp .ne 7, 3) := by decide +kernel
theorem dX7_run_11 : decode cX7_run 11 = .ok (.iconst 1, 1) := by decide +kernel
theorem dX7_run_12 : decode cX7_run 12 = .ok (.goto 4, 3) := by decide +kernel
theorem dX7_run_15 : decode cX7_run 15 = .ok (.iconst 0, 1) := by decide +kernel
theorem dX7_run_16 : decode cX7_run 16 = .ok (.invokestatic 53, 3) := by decide +kernel
theorem dX7_run_19 : decode cX7_run 19 = .ok (.aload_n 0, 1) := by decide +kernel
theorem dX7_run_20 : decode cX7_run 20 = .ok (.getfield 19, 3) := by decide +kernel
theorem dX7_run_23 : decode cX7_run 23 = .ok (.invokevirtual 140, 3) := by decide +kernel
theorem dX7_run_26 : decode cX7_run 26 = .ok (.iconst 0, 1) := by decide +kernel
theorem dX7_run_27 : decode cX7_run 27 = .ok (.istore_n 1, 1) := by decide +kernel
theorem dX7_run_28 : decode cX7_run 28 = .ok (.iload_n 1, 1) := by decide +kernel
theorem dX7_run_29 : decode cX7_run 29 = .ok (.bipush 60, 2) := by decide +kernel
theorem dX7_run_31 : decode cX7_run 31 = .ok (.if_icmp .ge 26, 3) := by decide +kernel
theorem dX7_run_34 : decode cX7_run 34 = .ok (.aload_n 0, 1) := by decide +kernel
theorem dX7_run_35 : decode cX7_run 35 = .ok (.getfield 19, 3) := by decide +kernel
theorem dX7_run_38 : decode cX7_run 38 = .ok (.invokevirtual 143, 3) := by decide +kernel
theorem dX7_run_41 : decode cX7_run 41 = .ok (.ifCond .eq 16, 3) := by decide +kernel
theorem dX7_run_44 : decode cX7_run 44 = .ok (.aload_n 0, 1) := by decide +kernel
theorem dX7_run_45 : decode cX7_run 45 = .ok (.invokevirtual 146, 3) := by decide +kernel
theorem dX7_run_48 : decode cX7_run 48 = .ok (.ifCond .eq 9, 3) := by decide +kernel
theorem dX7_run_51 : decode cX7_run 51 = .ok (.iinc 1 1, 3) := by decide +kernel
theorem dX7_run_54 : decode cX7_run 54 = .ok (.goto (-26), 3) := by decide +kernel
theorem dX7_run_57 : decode cX7_run 57 = .ok (.iload_n 1, 1) := by decide +kernel
theorem dX7_run_58 : decode cX7_run 58 = .ok (.ireturn, 1) := by decide +kernel
theorem dX7_player_0 : decode cX7_player 0 = .ok (.iload_n 1, 1) := by decide +kernel
theorem dX7_player_1 : decode cX7_player 1 = .ok (.iconst 2, 1) := by decide +kernel
theorem dX7_player_2 : decode cX7_player 2 = .ok (.invokestatic 37, 3) := by decide +kernel
theorem dX7_player_5 : decode cX7_player 5 = .ok (.iload_n 2, 1) := by decide +kernel
theorem dX7_player_6 : decode cX7_player 6 = .ok (.bipush 10, 2) := by decide +kernel
theorem dX7_player_8 : decode cX7_player 8 = .ok (.invokestatic 37, 3) := by decide +kernel
theorem dX7_player_11 : decode cX7_player 11 = .ok (.aload_n 0, 1) := by decide +kernel
theorem dX7_player_12 : decode cX7_player 12 = .ok (.getfield 12, 3) := by decide +kernel
theorem dX7_player_15 : decode cX7_player 15 = .ok (.invokevirtual 49, 3) := by decide +kernel
theorem dX7_player_18 : decode cX7_player 18 = .ok (.invokestatic 53, 3) := by decide +kernel
theorem dX7_player_21 : decode cX7_player 21 = .ok (.aload_n 0, 1) := by decide +kernel
theorem dX7_player_22 : decode cX7_player 22 = .ok (.getfield 12, 3) := by decide +kernel
theorem dX7_player_25 : decode cX7_player 25 = .ok (.iload_n 1, 1) := by decide +kernel
theorem dX7_player_26 : decode cX7_player 26 = .ok (.invokevirtual 149, 3) := by decide +kernel
theorem dX7_player_29 : decode cX7_player 29 = .ok (.iload_n 2, 1) := by decide +kernel
theorem dX7_player_30 : decode cX7_player 30 = .ok (.invokevirtual 153, 3) := by decide +kernel
theorem dX7_player_33 : decode cX7_player 33 = .ok (.ireturn, 1) := by decide +kernel
theorem dX7_out_0 : decode cX7_out 0 = .ok (.iload_n 1, 1) := by decide +kernel
theorem dX7_out_1 : decode cX7_out 1 = .ok (.iconst 2, 1) := by decide +kernel
theorem dX7_out_2 : decode cX7_out 2 = .ok (.invokestatic 37, 3) := by decide +kernel
theorem dX7_out_5 : decode cX7_out 5 = .ok (.iload_n 2, 1) := by decide +kernel
theorem dX7_out_6 : decode cX7_out 6 = .ok (.iconst 0, 1) := by decide +kernel
theorem dX7_out_7 : decode cX7_out 7 = .ok (.invokestatic 158, 3) := by decide +kernel
theorem dX7_out_10 : decode cX7_out 10 = .ok (.iconst 1, 1) := by decide +kernel
theorem dX7_out_11 : decode cX7_out 11 = .ok (.invokestatic 37, 3) := by decide +kernel
theorem dX7_out_14 : decode cX7_out 14 = .ok (.aload_n 0, 1) := by decide +kernel
theorem dX7_out_15 : decode cX7_out 15 = .ok (.getfield 12, 3) := by decide +kernel
theorem dX7_out_18 : decode cX7_out 18 = .ok (.invokevirtual 49, 3) := by decide +kernel
theorem dX7_out_21 : decode cX7_out 21 = .ok (.invokestatic 53, 3) := by decide +kernel
theorem dX7_out_24 : decode cX7_out 24 = .ok (.aload_n 0, 1) := by decide +kernel
theorem dX7_out_25 : decode cX7_out 25 = .ok (.getfield 12, 3) := by decide +kernel
theorem dX7_out_28 : decode cX7_out 28 = .ok (.iload_n 1, 1) := by decide +kernel
theorem dX7_out_29 : decode cX7_out 29 = .ok (.invokevirtual 149, 3) := by decide +kernel
theorem dX7_out_32 : decode cX7_out 32 = .ok (.iload_n 2, 1) := by decide +kernel
theorem dX7_out_33 : decode cX7_out 33 = .ok (.invokevirtual 164, 3) := by decide +kernel
theorem dX7_out_36 : decode cX7_out 36 = .ok (.ireturn, 1) := by decide +kernel
theorem dX7_next_0 : decode cX7_next 0 = .ok (.iload_n 1, 1) := by decide +kernel
theorem dX7_next_1 : decode cX7_next 1 = .ok (.iconst 2, 1) := by decide +kernel
theorem dX7_next_2 : decode cX7_next 2 = .ok (.invokestatic 37, 3) := by decide +kernel
theorem dX7_next_5 : decode cX7_next 5 = .ok (.aload_n 0, 1) := by decide +kernel
theorem dX7_next_6 : decode cX7_next 6 = .ok (.getfield 12, 3) := by decide +kernel
theorem dX7_next_9 : decode cX7_next 9 = .ok (.invokevirtual 49, 3) := by decide +kernel
theorem dX7_next_12 : decode cX7_next 12 = .ok (.invokestatic 53, 3) := by decide +kernel
theorem dX7_next_15 : decode cX7_next 15 = .ok (.aload_n 0, 1) := by decide +kernel
theorem dX7_next_16 : decode cX7_next 16 = .ok (.getfield 12, 3) := by decide +kernel
theorem dX7_next_19 : decode cX7_next 19 = .ok (.iload_n 1, 1) := by decide +kernel
theorem dX7_next_20 : decode cX7_next 20 = .ok (.invokevirtual 149, 3) := by decide +kernel
theorem dX7_next_23 : decode cX7_next 23 = .ok (.iconst 0, 1) := by decide +kernel
theorem dX7_next_24 : decode cX7_next 24 = .ok (.invokevirtual 164, 3) := by decide +kernel
theorem dX7_next_27 : decode cX7_next 27 = .ok (.ireturn, 1) := by decide +kernel
theorem dX7_points_0 : decode cX7_points 0 = .ok (.iload_n 1, 1) := by decide +kernel
theorem dX7_points_1 : decode cX7_points 1 = .ok (.iconst 2, 1) := by decide +kernel
theorem dX7_points_2 : decode cX7_points 2 = .ok (.invokestatic 37, 3) := by decide +kernel
theorem dX7_points_5 : decode cX7_points 5 = .ok (.aload_n 0, 1) := by decide +kernel
theorem dX7_points_6 : decode cX7_points 6 = .ok (.getfield 12, 3) := by decide +kernel
theorem dX7_points_9 : decode cX7_points 9 = .ok (.invokevirtual 49, 3) := by decide +kernel
theorem dX7_points_12 : decode cX7_points 12 = .ok (.invokestatic 53, 3) := by decide +kernel
theorem dX7_points_15 : decode cX7_points 15 = .ok (.aload_n 0, 1) := by decide +kernel
theorem dX7_points_16 : decode cX7_points 16 = .ok (.getfield 12, 3) := by decide +kernel
theorem dX7_points_19 : decode cX7_points 19 = .ok (.iload_n 1, 1) := by decide +kernel
theorem dX7_points_20 : decode cX7_points 20 = .ok (.invokevirtual 119, 3) := by decide +kernel
theorem dX7_points_23 : decode cX7_points 23 = .ok (.ireturn, 1) := by decide +kernel
theorem dX7_match_0 : decode cX7_match 0 = .ok (.iload_n 1, 1) := by decide +kernel
theorem dX7_match_1 : decode cX7_match 1 = .ok (.iconst 0, 1) := by decide +kernel
theorem dX7_match_2 : decode cX7_match 2 = .ok (.bipush 7, 2) := by decide +kernel
theorem dX7_match_4 : decode cX7_match 4 = .ok (.invokestatic 41, 3) := by decide +kernel
theorem dX7_match_7 : decode cX7_match 7 = .ok (.invokestatic 45, 3) := by decide +kernel
theorem dX7_match_10 : decode cX7_match 10 = .ok (.aload_n 0, 1) := by decide +kernel
theorem dX7_match_11 : decode cX7_match 11 = .ok (.getfield 12, 3) := by decide +kernel
theorem dX7_match_14 : decode cX7_match 14 = .ok (.invokevirtual 49, 3) := by decide +kernel
theorem dX7_match_17 : decode cX7_match 17 = .ok (.invokestatic 53, 3) := by decide +kernel
theorem dX7_match_20 : decode cX7_match 20 = .ok (.aload_n 0, 1) := by decide +kernel
theorem dX7_match_21 : decode cX7_match 21 = .ok (.getfield 12, 3) := by decide +kernel
theorem dX7_match_24 : decode cX7_match 24 = .ok (.iload_n 1, 1) := by decide +kernel
theorem dX7_match_25 : decode cX7_match 25 = .ok (.invokevirtual 167, 3) := by decide +kernel
theorem dX7_match_28 : decode cX7_match 28 = .ok (.ireturn, 1) := by decide +kernel
theorem dX7_hasReview_0 : decode cX7_hasReview 0 = .ok (.iload_n 1, 1) := by decide +kernel
theorem dX7_hasReview_1 : decode cX7_hasReview 1 = .ok (.iconst 2, 1) := by decide +kernel
theorem dX7_hasReview_2 : decode cX7_hasReview 2 = .ok (.invokestatic 37, 3) := by decide +kernel
theorem dX7_hasReview_5 : decode cX7_hasReview 5 = .ok (.aload_n 0, 1) := by decide +kernel
theorem dX7_hasReview_6 : decode cX7_hasReview 6 = .ok (.getfield 12, 3) := by decide +kernel
theorem dX7_hasReview_9 : decode cX7_hasReview 9 = .ok (.invokevirtual 49, 3) := by decide +kernel
theorem dX7_hasReview_12 : decode cX7_hasReview 12 = .ok (.invokestatic 53, 3) := by decide +kernel
theorem dX7_hasReview_15 : decode cX7_hasReview 15 = .ok (.aload_n 0, 1) := by decide +kernel
theorem dX7_hasReview_16 : decode cX7_hasReview 16 = .ok (.getfield 12, 3) := by decide +kernel
theorem dX7_hasReview_19 : decode cX7_hasReview 19 = .ok (.iload_n 1, 1) := by decide +kernel
theorem dX7_hasReview_20 : decode cX7_hasReview 20 = .ok (.invokevirtual 95, 3) := by decide +kernel
theorem dX7_hasReview_23 : decode cX7_hasReview 23 = .ok (.ireturn, 1) := by decide +kernel
theorem dX7_matAfter_0 : decode cX7_matAfter 0 = .ok (.iload_n 1, 1) := by decide +kernel
theorem dX7_matAfter_1 : decode cX7_matAfter 1 = .ok (.aload_n 0, 1) := by decide +kernel
theorem dX7_matAfter_2 : decode cX7_matAfter 2 = .ok (.getfield 12, 3) := by decide +kernel
theorem dX7_matAfter_5 : decode cX7_matAfter 5 = .ok (.invokevirtual 170, 3) := by decide +kernel
theorem dX7_matAfter_8 : decode cX7_matAfter 8 = .ok (.invokestatic 37, 3) := by decide +kernel
theorem dX7_matAfter_11 : decode cX7_matAfter 11 = .ok (.iload_n 2, 1) := by decide +kernel
theorem dX7_matAfter_12 : decode cX7_matAfter 12 = .ok (.iconst 2, 1) := by decide +kernel
theorem dX7_matAfter_13 : decode cX7_matAfter 13 = .ok (.invokestatic 37, 3) := by decide +kernel
theorem dX7_matAfter_16 : decode cX7_matAfter 16 = .ok (.aload_n 0, 1) := by decide +kernel
theorem dX7_matAfter_17 : decode cX7_matAfter 17 = .ok (.getfield 12, 3) := by decide +kernel
theorem dX7_matAfter_20 : decode cX7_matAfter 20 = .ok (.iload_n 1, 1) := by decide +kernel
theorem dX7_matAfter_21 : decode cX7_matAfter 21 = .ok (.iload_n 2, 1) := by decide +kernel
theorem dX7_matAfter_22 : decode cX7_matAfter 22 = .ok (.invokevirtual 173, 3) := by decide +kernel
theorem dX7_matAfter_25 : decode cX7_matAfter 25 = .ok (.ireturn, 1) := by decide +kernel
theorem dX7_matAnew_0 : decode cX7_matAnew 0 = .ok (.iload_n 1, 1) := by decide +kernel
theorem dX7_matAnew_1 : decode cX7_matAnew 1 = .ok (.aload_n 0, 1) := by decide +kernel
theorem dX7_matAnew_2 : decode cX7_matAnew 2 = .ok (.getfield 12, 3) := by decide +kernel
theorem dX7_matAnew_5 : decode cX7_matAnew 5 = .ok (.invokevirtual 170, 3) := by decide +kernel
theorem dX7_matAnew_8 : decode cX7_matAnew 8 = .ok (.invokestatic 37, 3) := by decide +kernel
theorem dX7_matAnew_11 : decode cX7_matAnew 11 = .ok (.iload_n 2, 1) := by decide +kernel
theorem dX7_matAnew_12 : decode cX7_matAnew 12 = .ok (.iconst 2, 1) := by decide +kernel
theorem dX7_matAnew_13 : decode cX7_matAnew 13 = .ok (.invokestatic 37, 3) := by decide +kernel
theorem dX7_matAnew_16 : decode cX7_matAnew 16 = .ok (.aload_n 0, 1) := by decide +kernel
theorem dX7_matAnew_17 : decode cX7_matAnew 17 = .ok (.getfield 12, 3) := by decide +kernel
theorem dX7_matAnew_20 : decode cX7_matAnew 20 = .ok (.iload_n 1, 1) := by decide +kernel
theorem dX7_matAnew_21 : decode cX7_matAnew 21 = .ok (.iload_n 2, 1) := by decide +kernel
theorem dX7_matAnew_22 : decode cX7_matAnew 22 = .ok (.invokevirtual 176, 3) := by decide +kernel
theorem dX7_matAnew_25 : decode cX7_matAnew 25 = .ok (.ireturn, 1) := by decide +kernel
theorem dX7_pointsAfter_0 : decode cX7_pointsAfter 0 = .ok (.iload_n 1, 1) := by decide +kernel
theorem dX7_pointsAfter_1 : decode cX7_pointsAfter 1 = .ok (.aload_n 0, 1) := by decide +kernel
theorem dX7_pointsAfter_2 : decode cX7_pointsAfter 2 = .ok (.getfield 12, 3) := by decide +kernel
theorem dX7_pointsAfter_5 : decode cX7_pointsAfter 5 = .ok (.invokevirtual 170, 3) := by decide +kernel
theorem dX7_pointsAfter_8 : decode cX7_pointsAfter 8 = .ok (.invokestatic 37, 3) := by decide +kernel
theorem dX7_pointsAfter_11 : decode cX7_pointsAfter 11 = .ok (.iload_n 2, 1) := by decide +kernel
theorem dX7_pointsAfter_12 : decode cX7_pointsAfter 12 = .ok (.iconst 2, 1) := by decide +kernel
theorem dX7_pointsAfter_13 : decode cX7_pointsAfter 13 = .ok (.invokestatic 37, 3) := by decide +kernel
theorem dX7_pointsAfter_16 : decode cX7_pointsAfter 16 = .ok (.aload_n 0, 1) := by decide +kernel
theorem dX7_pointsAfter_17 : decode cX7_pointsAfter 17 = .ok (.getfield 12, 3) := by decide +kernel
theorem dX7_pointsAfter_20 : decode cX7_pointsAfter 20 = .ok (.iload_n 1, 1) := by decide +kernel
theorem dX7_pointsAfter_21 : decode cX7_pointsAfter 21 = .ok (.iload_n 2, 1) := by decide +kernel
theorem dX7_pointsAfter_22 : decode cX7_pointsAfter 22 = .ok (.invokevirtual 179, 3) := by decide +kernel
theorem dX7_pointsAfter_25 : decode cX7_pointsAfter 25 = .ok (.ireturn, 1) := by decide +kernel
theorem dX7_raidPoints_0 : decode cX7_raidPoints 0 = .ok (.iload_n 1, 1) := by decide +kernel
theorem dX7_raidPoints_1 : decode cX7_raidPoints 1 = .ok (.iconst 2, 1) := by decide +kernel
theorem dX7_raidPoints_2 : decode cX7_raidPoints 2 = .ok (.invokestatic 37, 3) := by decide +kernel
theorem dX7_raidPoints_5 : decode cX7_raidPoints 5 = .ok (.iload_n 2, 1) := by decide +kernel
theorem dX7_raidPoints_6 : decode cX7_raidPoints 6 = .ok (.bipush 10, 2) := by decide +kernel
theorem dX7_raidPoints_8 : decode cX7_raidPoints 8 = .ok (.invokestatic 37, 3) := by decide +kernel
theorem dX7_raidPoints_11 : decode cX7_raidPoints 11 = .ok (.aload_n 0, 1) := by decide +kernel
theorem dX7_raidPoints_12 : decode cX7_raidPoints 12 = .ok (.getfield 12, 3) := by decide +kernel
theorem dX7_raidPoints_15 : decode cX7_raidPoints 15 = .ok (.invokevirtual 49, 3) := by decide +kernel
theorem dX7_raidPoints_18 : decode cX7_raidPoints 18 = .ok (.invokestatic 53, 3) := by decide +kernel
theorem dX7_raidPoints_21 : decode cX7_raidPoints 21 = .ok (.aload_n 0, 1) := by decide +kernel
theorem dX7_raidPoints_22 : decode cX7_raidPoints 22 = .ok (.getfield 12, 3) := by decide +kernel
theorem dX7_raidPoints_25 : decode cX7_raidPoints 25 = .ok (.iload_n 1, 1) := by decide +kernel
theorem dX7_raidPoints_26 : decode cX7_raidPoints 26 = .ok (.invokevirtual 149, 3) := by decide +kernel
theorem dX7_raidPoints_29 : decode cX7_raidPoints 29 = .ok (.iload_n 2, 1) := by decide +kernel
theorem dX7_raidPoints_30 : decode cX7_raidPoints 30 = .ok (.invokevirtual 182, 3) := by decide +kernel
theorem dX7_raidPoints_33 : decode cX7_raidPoints 33 = .ok (.ireturn, 1) := by decide +kernel
theorem dX7_club_0 : decode cX7_club 0 = .ok (.iload_n 1, 1) := by decide +kernel
theorem dX7_club_1 : decode cX7_club 1 = .ok (.bipush 8, 2) := by decide +kernel
theorem dX7_club_3 : decode cX7_club 3 = .ok (.invokestatic 37, 3) := by decide +kernel
theorem dX7_club_6 : decode cX7_club 6 = .ok (.iload_n 2, 1) := by decide +kernel
theorem dX7_club_7 : decode cX7_club 7 = .ok (.iconst 0, 1) := by decide +kernel
theorem dX7_club_8 : decode cX7_club 8 = .ok (.bipush 6, 2) := by decide +kernel
theorem dX7_club_10 : decode cX7_club 10 = .ok (.invokestatic 41, 3) := by decide +kernel
theorem dX7_club_13 : decode cX7_club 13 = .ok (.invokestatic 45, 3) := by decide +kernel
theorem dX7_club_16 : decode cX7_club 16 = .ok (.aload_n 0, 1) := by decide +kernel
theorem dX7_club_17 : decode cX7_club 17 = .ok (.getfield 26, 3) := by decide +kernel
theorem dX7_club_20 : decode cX7_club 20 = .ok (.iload_n 1, 1) := by decide +kernel
theorem dX7_club_21 : decode cX7_club 21 = .ok (.iload_n 2, 1) := by decide +kernel
theorem dX7_club_22 : decode cX7_club 22 = .ok (.invokevirtual 185, 3) := by decide +kernel
theorem dX7_club_25 : decode cX7_club 25 = .ok (.ireturn, 1) := by decide +kernel
theorem dX7_right_0 : decode cX7_right 0 = .ok (.iload_n 1, 1) := by decide +kernel
theorem dX7_right_1 : decode cX7_right 1 = .ok (.bipush 8, 2) := by decide +kernel
theorem dX7_right_3 : decode cX7_right 3 = .ok (.invokestatic 37, 3) := by decide +kernel
theorem dX7_right_6 : decode cX7_right 6 = .ok (.iload_n 2, 1) := by decide +kernel
theorem dX7_right_7 : decode cX7_right 7 = .ok (.bipush 24, 2) := by decide +kernel
theorem dX7_right_9 : decode cX7_right 9 = .ok (.invokestatic 37, 3) := by decide +kernel
theorem dX7_right_12 : decode cX7_right 12 = .ok (.aload_n 0, 1) := by decide +kernel
theorem dX7_right_13 : decode cX7_right 13 = .ok (.getfield 33, 3) := by decide +kernel
theorem dX7_right_16 : decode cX7_right 16 = .ok (.iload_n 2, 1) := by decide +kernel
theorem dX7_right_17 : decode cX7_right 17 = .ok (.invokevirtual 187, 3) := by decide +kernel
theorem dX7_right_20 : decode cX7_right 20 = .ok (.ifCond .ne 18, 3) := by decide +kernel
theorem dX7_right_23 : decode cX7_right 23 = .ok (.aload_n 0, 1) := by decide +kernel
theorem dX7_right_24 : decode cX7_right 24 = .ok (.getfield 33, 3) := by decide +kernel
theorem dX7_right_27 : decode cX7_right 27 = .ok (.iload_n 2, 1) := by decide +kernel
theorem dX7_right_28 : decode cX7_right 28 = .ok (.invokevirtual 190, 3) := by decide +kernel
theorem dX7_right_31 : decode cX7_right 31 = .ok (.ifCond .ne 7, 3) := by decide +kernel
theorem dX7_right_34 : decode cX7_right 34 = .ok (.iconst 1, 1) := by decide +kernel
theorem dX7_right_35 : decode cX7_right 35 = .ok (.goto 4, 3) := by decide +kernel
theorem dX7_right_38 : decode cX7_right 38 = .ok (.iconst 0, 1) := by decide +kernel
theorem dX7_right_39 : decode cX7_right 39 = .ok (.invokestatic 53, 3) := by decide +kernel
theorem dX7_right_42 : decode cX7_right 42 = .ok (.aload_n 0, 1) := by decide +kernel
theorem dX7_right_43 : decode cX7_right 43 = .ok (.getfield 33, 3) := by decide +kernel
theorem dX7_right_46 : decode cX7_right 46 = .ok (.iload_n 1, 1) := by decide +kernel
theorem dX7_right_47 : decode cX7_right 47 = .ok (.iload_n 2, 1) := by decide +kernel
theorem dX7_right_48 : decode cX7_right 48 = .ok (.invokevirtual 193, 3) := by decide +kernel
theorem dX7_right_51 : decode cX7_right 51 = .ok (.ireturn, 1) := by decide +kernel
theorem dX7_call_0 : decode cX7_call 0 = .ok (.iload_n 1, 1) := by decide +kernel
theorem dX7_call_1 : decode cX7_call 1 = .ok (.bipush 24, 2) := by decide +kernel
theorem dX7_call_3 : decode cX7_call 3 = .ok (.invokestatic 37, 3) := by decide +kernel
theorem dX7_call_6 : decode cX7_call 6 = .ok (.aload_n 0, 1) := by decide +kernel
theorem dX7_call_7 : decode cX7_call 7 = .ok (.getfield 33, 3) := by decide +kernel
theorem dX7_call_10 : decode cX7_call 10 = .ok (.invokevirtual 196, 3) := by decide +kernel
theorem dX7_call_13 : decode cX7_call 13 = .ok (.ifCond .ne 18, 3) := by decide +kernel
theorem dX7_call_16 : decode cX7_call 16 = .ok (.aload_n 0, 1) := by decide +kernel
theorem dX7_call_17 : decode cX7_call 17 = .ok (.getfield 33, 3) := by decide +kernel
theorem dX7_call_20 : decode cX7_call 20 = .ok (.iload_n 1, 1) := by decide +kernel
theorem dX7_call_21 : decode cX7_call 21 = .ok (.invokevirtual 190, 3) := by decide +kernel
theorem dX7_call_24 : decode cX7_call 24 = .ok (.ifCond .ne 7, 3) := by decide +kernel
theorem dX7_call_27 : decode cX7_call 27 = .ok (.iconst 1, 1) := by decide +kernel
theorem dX7_call_28 : decode cX7_call 28 = .ok (.goto 4, 3) := by decide +kernel
theorem dX7_call_31 : decode cX7_call 31 = .ok (.iconst 0, 1) := by decide +kernel
theorem dX7_call_32 : decode cX7_call 32 = .ok (.invokestatic 53, 3) := by decide +kernel
theorem dX7_call_35 : decode cX7_call 35 = .ok (.aload_n 0, 1) := by decide +kernel
theorem dX7_call_36 : decode cX7_call 36 = .ok (.getfield 33, 3) := by decide +kernel
theorem dX7_call_39 : decode cX7_call 39 = .ok (.iload_n 1, 1) := by decide +kernel
theorem dX7_call_40 : decode cX7_call 40 = .ok (.invokevirtual 199, 3) := by decide +kernel
theorem dX7_call_43 : decode cX7_call 43 = .ok (.ireturn, 1) := by decide +kernel
theorem dX7_bid_0 : decode cX7_bid 0 = .ok (.iload_n 1, 1) := by decide +kernel
theorem dX7_bid_1 : decode cX7_bid 1 = .ok (.bipush 8, 2) := by decide +kernel
theorem dX7_bid_3 : decode cX7_bid 3 = .ok (.invokestatic 37, 3) := by decide +kernel
theorem dX7_bid_6 : decode cX7_bid 6 = .ok (.iload_n 2, 1) := by decide +kernel
theorem dX7_bid_7 : decode cX7_bid 7 = .ok (.iconst 1, 1) := by decide +kernel
theorem dX7_bid_8 : decode cX7_bid 8 = .ok (.sipush 1000, 3) := by decide +kernel
theorem dX7_bid_11 : decode cX7_bid 11 = .ok (.invokestatic 41, 3) := by decide +kernel
theorem dX7_bid_14 : decode cX7_bid 14 = .ok (.invokestatic 45, 3) := by decide +kernel
theorem dX7_bid_17 : decode cX7_bid 17 = .ok (.aload_n 0, 1) := by decide +kernel
theorem dX7_bid_18 : decode cX7_bid 18 = .ok (.getfield 33, 3) := by decide +kernel
theorem dX7_bid_21 : decode cX7_bid 21 = .ok (.invokevirtual 202, 3) := by decide +kernel
theorem dX7_bid_24 : decode cX7_bid 24 = .ok (.ifCond .eq 30, 3) := by decide +kernel
theorem dX7_bid_27 : decode cX7_bid 27 = .ok (.iload_n 2, 1) := by decide +kernel
theorem dX7_bid_28 : decode cX7_bid 28 = .ok (.aload_n 0, 1) := by decide +kernel
theorem dX7_bid_29 : decode cX7_bid 29 = .ok (.getfield 33, 3) := by decide +kernel
theorem dX7_bid_32 : decode cX7_bid 32 = .ok (.invokevirtual 205, 3) := by decide +kernel
theorem dX7_bid_35 : decode cX7_bid 35 = .ok (.if_icmp .lt 19, 3) := by decide +kernel
theorem dX7_bid_38 : decode cX7_bid 38 = .ok (.aload_n 0, 1) := by decide +kernel
theorem dX7_bid_39 : decode cX7_bid 39 = .ok (.getfield 33, 3) := by decide +kernel
theorem dX7_bid_42 : decode cX7_bid 42 = .ok (.iload_n 1, 1) := by decide +kernel
theorem dX7_bid_43 : decode cX7_bid 43 = .ok (.iload_n 2, 1) := by decide +kernel
theorem dX7_bid_44 : decode cX7_bid 44 = .ok (.invokevirtual 208, 3) := by decide +kernel
theorem dX7_bid_47 : decode cX7_bid 47 = .ok (.ifCond .eq 7, 3) := by decide +kernel
theorem dX7_bid_50 : decode cX7_bid 50 = .ok (.iconst 1, 1) := by decide +kernel
theorem dX7_bid_51 : decode cX7_bid 51 = .ok (.goto 4, 3) := by decide +kernel
theorem dX7_bid_54 : decode cX7_bid 54 = .ok (.iconst 0, 1) := by decide +kernel
theorem dX7_bid_55 : decode cX7_bid 55 = .ok (.invokestatic 53, 3) := by decide +kernel
theorem dX7_bid_58 : decode cX7_bid 58 = .ok (.aload_n 0, 1) := by decide +kernel
theorem dX7_bid_59 : decode cX7_bid 59 = .ok (.getfield 33, 3) := by decide +kernel
theorem dX7_bid_62 : decode cX7_bid 62 = .ok (.iload_n 1, 1) := by decide +kernel
theorem dX7_bid_63 : decode cX7_bid 63 = .ok (.iload_n 2, 1) := by decide +kernel
theorem dX7_bid_64 : decode cX7_bid 64 = .ok (.invokevirtual 212, 3) := by decide +kernel
theorem dX7_bid_67 : decode cX7_bid 67 = .ok (.ireturn, 1) := by decide +kernel
theorem dX7_hammer_0 : decode cX7_hammer 0 = .ok (.aload_n 0, 1) := by decide +kernel
theorem dX7_hammer_1 : decode cX7_hammer 1 = .ok (.getfield 33, 3) := by decide +kernel
theorem dX7_hammer_4 : decode cX7_hammer 4 = .ok (.invokevirtual 202, 3) := by decide +kernel
theorem dX7_hammer_7 : decode cX7_hammer 7 = .ok (.invokestatic 53, 3) := by decide +kernel
theorem dX7_hammer_10 : decode cX7_hammer 10 = .ok (.aload_n 0, 1) := by decide +kernel
theorem dX7_hammer_11 : decode cX7_hammer 11 = .ok (.getfield 33, 3) := by decide +kernel
theorem dX7_hammer_14 : decode cX7_hammer 14 = .ok (.invokevirtual 215, 3) := by decide +kernel
theorem dX7_hammer_17 : decode cX7_hammer 17 = .ok (.ireturn, 1) := by decide +kernel
theorem dX7_answer_0 : decode cX7_answer 0 = .ok (.aload_n 0, 1) := by decide +kernel
theorem dX7_answer_1 : decode cX7_answer 1 = .ok (.getfield 33, 3) := by decide +kernel
theorem dX7_answer_4 : decode cX7_answer 4 = .ok (.invokevirtual 218, 3) := by decide +kernel
theorem dX7_answer_7 : decode cX7_answer 7 = .ok (.invokestatic 53, 3) := by decide +kernel
theorem dX7_answer_10 : decode cX7_answer 10 = .ok (.aload_n 0, 1) := by decide +kernel
theorem dX7_answer_11 : decode cX7_answer 11 = .ok (.getfield 33, 3) := by decide +kernel
theorem dX7_answer_14 : decode cX7_answer 14 = .ok (.iload_n 1, 1) := by decide +kernel
theorem dX7_answer_15 : decode cX7_answer 15 = .ok (.invokevirtual 221, 3) := by decide +kernel
theorem dX7_answer_18 : decode cX7_answer 18 = .ok (.ireturn, 1) := by decide +kernel
theorem dX7_lot_0 : decode cX7_lot 0 = .ok (.iload_n 1, 1) := by decide +kernel
theorem dX7_lot_1 : decode cX7_lot 1 = .ok (.bipush 24, 2) := by decide +kernel
theorem dX7_lot_3 : decode cX7_lot 3 = .ok (.invokestatic 37, 3) := by decide +kernel
theorem dX7_lot_6 : decode cX7_lot 6 = .ok (.iload_n 2, 1) := by decide +kernel
theorem dX7_lot_7 : decode cX7_lot 7 = .ok (.iconst 0, 1) := by decide +kernel
theorem dX7_lot_8 : decode cX7_lot 8 = .ok (.iconst 3, 1) := by decide +kernel
theorem dX7_lot_9 : decode cX7_lot 9 = .ok (.invokestatic 41, 3) := by decide +kernel
theorem dX7_lot_12 : decode cX7_lot 12 = .ok (.invokestatic 45, 3) := by decide +kernel
theorem dX7_lot_15 : decode cX7_lot 15 = .ok (.aload_n 0, 1) := by decide +kernel
theorem dX7_lot_16 : decode cX7_lot 16 = .ok (.getfield 33, 3) := by decide +kernel
theorem dX7_lot_19 : decode cX7_lot 19 = .ok (.iload_n 1, 1) := by decide +kernel
theorem dX7_lot_20 : decode cX7_lot 20 = .ok (.iload_n 2, 1) := by decide +kernel
theorem dX7_lot_21 : decode cX7_lot 21 = .ok (.invokevirtual 225, 3) := by decide +kernel
theorem dX7_lot_24 : decode cX7_lot 24 = .ok (.ireturn, 1) := by decide +kernel
theorem dX7_squad_0 : decode cX7_squad 0 = .ok (.iload_n 1, 1) := by decide +kernel
theorem dX7_squad_1 : decode cX7_squad 1 = .ok (.bipush 8, 2) := by decide +kernel
theorem dX7_squad_3 : decode cX7_squad 3 = .ok (.invokestatic 37, 3) := by decide +kernel
theorem dX7_squad_6 : decode cX7_squad 6 = .ok (.iload_n 2, 1) := by decide +kernel
theorem dX7_squad_7 : decode cX7_squad 7 = .ok (.iconst 0, 1) := by decide +kernel
theorem dX7_squad_8 : decode cX7_squad 8 = .ok (.iconst 2, 1) := by decide +kernel
theorem dX7_squad_9 : decode cX7_squad 9 = .ok (.invokestatic 41, 3) := by decide +kernel
theorem dX7_squad_12 : decode cX7_squad 12 = .ok (.invokestatic 45, 3) := by decide +kernel
theorem dX7_squad_15 : decode cX7_squad 15 = .ok (.aload_n 0, 1) := by decide +kernel
theorem dX7_squad_16 : decode cX7_squad 16 = .ok (.getfield 33, 3) := by decide +kernel
theorem dX7_squad_19 : decode cX7_squad 19 = .ok (.iload_n 1, 1) := by decide +kernel
theorem dX7_squad_20 : decode cX7_squad 20 = .ok (.iload_n 2, 1) := by decide +kernel
theorem dX7_squad_21 : decode cX7_squad 21 = .ok (.invokevirtual 228, 3) := by decide +kernel
theorem dX7_squad_24 : decode cX7_squad 24 = .ok (.ireturn, 1) := by decide +kernel
theorem dX7_needIndex_0 : decode cX7_needIndex 0 = .ok (.iload_n 0, 1) := by decide +kernel
theorem dX7_needIndex_1 : decode cX7_needIndex 1 = .ok (.ifCond .lt 8, 3) := by decide +kernel
theorem dX7_needIndex_4 : decode cX7_needIndex 4 = .ok (.iload_n 0, 1) := by decide +kernel
theorem dX7_needIndex_5 : decode cX7_needIndex 5 = .ok (.iload_n 1, 1) := by decide +kernel
theorem dX7_needIndex_6 : decode cX7_needIndex 6 = .ok (.if_icmp .lt 13, 3) := by decide +kernel
theorem dX7_needIndex_9 : decode cX7_needIndex 9 = .ok (.new 231, 3) := by decide +kernel
theorem dX7_needIndex_12 : decode cX7_needIndex 12 = .ok (.dup, 1) := by decide +kernel
theorem dX7_needIndex_13 : decode cX7_needIndex 13 = .ok (.ldc 233, 2) := by decide +kernel
theorem dX7_needIndex_15 : decode cX7_needIndex 15 = .ok (.invokespecial 235, 3) := by decide +kernel
theorem dX7_needIndex_18 : decode cX7_needIndex 18 = .ok (.athrow, 1) := by decide +kernel
theorem dX7_needIndex_19 : decode cX7_needIndex 19 = .ok (.return_, 1) := by decide +kernel
theorem dX7_needArgument_0 : decode cX7_needArgument 0 = .ok (.iload_n 0, 1) := by decide +kernel
theorem dX7_needArgument_1 : decode cX7_needArgument 1 = .ok (.ifCond .ne 13, 3) := by decide +kernel
theorem dX7_needArgument_4 : decode cX7_needArgument 4 = .ok (.new 238, 3) := by decide +kernel
theorem dX7_needArgument_7 : decode cX7_needArgument 7 = .ok (.dup, 1) := by decide +kernel
theorem dX7_needArgument_8 : decode cX7_needArgument 8 = .ok (.ldc 240, 2) := by decide +kernel
theorem dX7_needArgument_10 : decode cX7_needArgument 10 = .ok (.invokespecial 242, 3) := by decide +kernel
theorem dX7_needArgument_13 : decode cX7_needArgument 13 = .ok (.athrow, 1) := by decide +kernel
theorem dX7_needArgument_14 : decode cX7_needArgument 14 = .ok (.return_, 1) := by decide +kernel
theorem dX7_needState_0 : decode cX7_needState 0 = .ok (.iload_n 0, 1) := by decide +kernel
theorem dX7_needState_1 : decode cX7_needState 1 = .ok (.ifCond .ne 13, 3) := by decide +kernel
theorem dX7_needState_4 : decode cX7_needState 4 = .ok (.new 243, 3) := by decide +kernel
theorem dX7_needState_7 : decode cX7_needState 7 = .ok (.dup, 1) := by decide +kernel
theorem dX7_needState_8 : decode cX7_needState 8 = .ok (.ldc 245, 2) := by decide +kernel
theorem dX7_needState_10 : decode cX7_needState 10 = .ok (.invokespecial 247, 3) := by decide +kernel
theorem dX7_needState_13 : decode cX7_needState 13 = .ok (.athrow, 1) := by decide +kernel
theorem dX7_needState_14 : decode cX7_needState 14 = .ok (.return_, 1) := by decide +kernel
theorem dX7_isWithin_0 : decode cX7_isWithin 0 = .ok (.iload_n 0, 1) := by decide +kernel
theorem dX7_isWithin_1 : decode cX7_isWithin 1 = .ok (.iload_n 1, 1) := by decide +kernel
theorem dX7_isWithin_2 : decode cX7_isWithin 2 = .ok (.if_icmp .lt 12, 3) := by decide +kernel
theorem dX7_isWithin_5 : decode cX7_isWithin 5 = .ok (.iload_n 0, 1) := by decide +kernel
theorem dX7_isWithin_6 : decode cX7_isWithin 6 = .ok (.iload_n 2, 1) := by decide +kernel
theorem dX7_isWithin_7 : decode cX7_isWithin 7 = .ok (.if_icmp .gt 7, 3) := by decide +kernel
theorem dX7_isWithin_10 : decode cX7_isWithin 10 = .ok (.iconst 1, 1) := by decide +kernel
theorem dX7_isWithin_11 : decode cX7_isWithin 11 = .ok (.goto 4, 3) := by decide +kernel
theorem dX7_isWithin_14 : decode cX7_isWithin 14 = .ok (.iconst 0, 1) := by decide +kernel
theorem dX7_isWithin_15 : decode cX7_isWithin 15 = .ok (.ireturn, 1) := by decide +kernel
theorem dX7_isPlayer_0 : decode cX7_isPlayer 0 = .ok (.iload_n 0, 1) := by decide +kernel
theorem dX7_isPlayer_1 : decode cX7_isPlayer 1 = .ok (.ifCond .lt 13, 3) := by decide +kernel
theorem dX7_isPlayer_4 : decode cX7_isPlayer 4 = .ok (.iload_n 0, 1) := by decide +kernel
theorem dX7_isPlayer_5 : decode cX7_isPlayer 5 = .ok (.bipush 10, 2) := by decide +kernel
theorem dX7_isPlayer_7 : decode cX7_isPlayer 7 = .ok (.if_icmp .ge 7, 3) := by decide +kernel
theorem dX7_isPlayer_10 : decode cX7_isPlayer 10 = .ok (.iconst 1, 1) := by decide +kernel
theorem dX7_isPlayer_11 : decode cX7_isPlayer 11 = .ok (.goto 4, 3) := by decide +kernel
theorem dX7_isPlayer_14 : decode cX7_isPlayer 14 = .ok (.iconst 0, 1) := by decide +kernel
theorem dX7_isPlayer_15 : decode cX7_isPlayer 15 = .ok (.ireturn, 1) := by decide +kernel
theorem dX7_isSide_0 : decode cX7_isSide 0 = .ok (.iload_n 0, 1) := by decide +kernel
theorem dX7_isSide_1 : decode cX7_isSide 1 = .ok (.ifCond .eq 8, 3) := by decide +kernel
theorem dX7_isSide_4 : decode cX7_isSide 4 = .ok (.iload_n 0, 1) := by decide +kernel
theorem dX7_isSide_5 : decode cX7_isSide 5 = .ok (.iconst 1, 1) := by decide +kernel
theorem dX7_isSide_6 : decode cX7_isSide 6 = .ok (.if_icmp .ne 7, 3) := by decide +kernel
theorem dX7_isSide_9 : decode cX7_isSide 9 = .ok (.iconst 1, 1) := by decide +kernel
theorem dX7_isSide_10 : decode cX7_isSide 10 = .ok (.goto 4, 3) := by decide +kernel
theorem dX7_isSide_13 : decode cX7_isSide 13 = .ok (.iconst 0, 1) := by decide +kernel
theorem dX7_isSide_14 : decode cX7_isSide 14 = .ok (.ireturn, 1) := by decide +kernel
theorem dX7_isClub_0 : decode cX7_isClub 0 = .ok (.iload_n 0, 1) := by decide +kernel
theorem dX7_isClub_1 : decode cX7_isClub 1 = .ok (.iconst 0, 1) := by decide +kernel
theorem dX7_isClub_2 : decode cX7_isClub 2 = .ok (.bipush 7, 2) := by decide +kernel
theorem dX7_isClub_4 : decode cX7_isClub 4 = .ok (.invokestatic 41, 3) := by decide +kernel
theorem dX7_isClub_7 : decode cX7_isClub 7 = .ok (.ireturn, 1) := by decide +kernel
theorem dX7_isLot_0 : decode cX7_isLot 0 = .ok (.iload_n 0, 1) := by decide +kernel
theorem dX7_isLot_1 : decode cX7_isLot 1 = .ok (.iconst 0, 1) := by decide +kernel
theorem dX7_isLot_2 : decode cX7_isLot 2 = .ok (.bipush 23, 2) := by decide +kernel
theorem dX7_isLot_4 : decode cX7_isLot 4 = .ok (.invokestatic 41, 3) := by decide +kernel
theorem dX7_isLot_7 : decode cX7_isLot 7 = .ok (.ireturn, 1) := by decide +kernel
theorem dX7_isStep_0 : decode cX7_isStep 0 = .ok (.iload_n 0, 1) := by decide +kernel
theorem dX7_isStep_1 : decode cX7_isStep 1 = .ok (.iconst 0, 1) := by decide +kernel
theorem dX7_isStep_2 : decode cX7_isStep 2 = .ok (.iload_n 2, 1) := by decide +kernel
theorem dX7_isStep_3 : decode cX7_isStep 3 = .ok (.invokestatic 41, 3) := by decide +kernel
theorem dX7_isStep_6 : decode cX7_isStep 6 = .ok (.ifCond .eq 26, 3) := by decide +kernel
theorem dX7_isStep_9 : decode cX7_isStep 9 = .ok (.iload_n 0, 1) := by decide +kernel
theorem dX7_isStep_10 : decode cX7_isStep 10 = .ok (.ifCond .ne 13, 3) := by decide +kernel
theorem dX7_isStep_13 : decode cX7_isStep 13 = .ok (.iload_n 1, 1) := by decide +kernel
theorem dX7_isStep_14 : decode cX7_isStep 14 = .ok (.invokestatic 248, 3) := by decide +kernel
theorem dX7_isStep_17 : decode cX7_isStep 17 = .ok (.ifCond .eq 15, 3) := by decide +kernel
theorem dX7_isStep_20 : decode cX7_isStep 20 = .ok (.goto 8, 3) := by decide +kernel
theorem dX7_isStep_23 : decode cX7_isStep 23 = .ok (.iload_n 1, 1) := by decide +kernel
theorem dX7_isStep_24 : decode cX7_isStep 24 = .ok (.iconst (-1), 1) := by decide +kernel
theorem dX7_isStep_25 : decode cX7_isStep 25 = .ok (.if_icmp .ne 7, 3) := by decide +kernel
theorem dX7_isStep_28 : decode cX7_isStep 28 = .ok (.iconst 1, 1) := by decide +kernel
theorem dX7_isStep_29 : decode cX7_isStep 29 = .ok (.goto 4, 3) := by decide +kernel
theorem dX7_isStep_32 : decode cX7_isStep 32 = .ok (.iconst 0, 1) := by decide +kernel
theorem dX7_isStep_33 : decode cX7_isStep 33 = .ok (.ireturn, 1) := by decide +kernel
theorem dX7_isEnd_0 : decode cX7_isEnd 0 = .ok (.iload_n 0, 1) := by decide +kernel
theorem dX7_isEnd_1 : decode cX7_isEnd 1 = .ok (.iconst 3, 1) := by decide +kernel
theorem dX7_isEnd_2 : decode cX7_isEnd 2 = .ok (.if_icmp .lt 7, 3) := by decide +kernel
theorem dX7_isEnd_5 : decode cX7_isEnd 5 = .ok (.iconst 1, 1) := by decide +kernel
theorem dX7_isEnd_6 : decode cX7_isEnd 6 = .ok (.goto 4, 3) := by decide +kernel
theorem dX7_isEnd_9 : decode cX7_isEnd 9 = .ok (.iconst 0, 1) := by decide +kernel
theorem dX7_isEnd_10 : decode cX7_isEnd 10 = .ok (.ireturn, 1) := by decide +kernel
theorem dX7_isDone_0 : decode cX7_isDone 0 = .ok (.aload_n 0, 1) := by decide +kernel
theorem dX7_isDone_1 : decode cX7_isDone 1 = .ok (.getfield 19, 3) := by decide +kernel
theorem dX7_isDone_4 : decode cX7_isDone 4 = .ok (.getfield 251, 3) := by decide +kernel
theorem dX7_isDone_7 : decode cX7_isDone 7 = .ok (.bipush 7, 2) := by decide +kernel
theorem dX7_isDone_9 : decode cX7_isDone 9 = .ok (.if_icmp .ne 39, 3) := by decide +kernel
theorem dX7_isDone_12 : decode cX7_isDone 12 = .ok (.aload_n 0, 1) := by decide +kernel
theorem dX7_isDone_13 : decode cX7_isDone 13 = .ok (.getfield 12, 3) := by decide +kernel
theorem dX7_isDone_16 : decode cX7_isDone 16 = .ok (.aload_n 0, 1) := by decide +kernel
theorem dX7_isDone_17 : decode cX7_isDone 17 = .ok (.getfield 19, 3) := by decide +kernel
theorem dX7_isDone_20 : decode cX7_isDone 20 = .ok (.getfield 255, 3) := by decide +kernel
theorem dX7_isDone_23 : decode cX7_isDone 23 = .ok (.invokevirtual 60, 3) := by decide +kernel
theorem dX7_isDone_26 : decode cX7_isDone 26 = .ok (.ifCond .ne 5, 3) := by decide +kernel
theorem dX7_isDone_29 : decode cX7_isDone 29 = .ok (.iconst 0, 1) := by decide +kernel
theorem dX7_isDone_30 : decode cX7_isDone 30 = .ok (.ireturn, 1) := by decide +kernel
theorem dX7_isDone_31 : decode cX7_isDone 31 = .ok (.aload_n 0, 1) := by decide +kernel
theorem dX7_isDone_32 : decode cX7_isDone 32 = .ok (.getfield 12, 3) := by decide +kernel
theorem dX7_isDone_35 : decode cX7_isDone 35 = .ok (.aload_n 0, 1) := by decide +kernel
theorem dX7_isDone_36 : decode cX7_isDone 36 = .ok (.getfield 19, 3) := by decide +kernel
theorem dX7_isDone_39 : decode cX7_isDone 39 = .ok (.getfield 255, 3) := by decide +kernel
theorem dX7_isDone_42 : decode cX7_isDone 42 = .ok (.invokevirtual 64, 3) := by decide +kernel
theorem dX7_isDone_45 : decode cX7_isDone 45 = .ok (.pop, 1) := by decide +kernel
theorem dX7_isDone_46 : decode cX7_isDone 46 = .ok (.iconst 1, 1) := by decide +kernel
theorem dX7_isDone_47 : decode cX7_isDone 47 = .ok (.ireturn, 1) := by decide +kernel
theorem dX7_isDone_48 : decode cX7_isDone 48 = .ok (.aload_n 0, 1) := by decide +kernel
theorem dX7_isDone_49 : decode cX7_isDone 49 = .ok (.getfield 19, 3) := by decide +kernel
theorem dX7_isDone_52 : decode cX7_isDone 52 = .ok (.getfield 258, 3) := by decide +kernel
theorem dX7_isDone_55 : decode cX7_isDone 55 = .ok (.iconst 1, 1) := by decide +kernel
theorem dX7_isDone_56 : decode cX7_isDone 56 = .ok (.sipush 300, 3) := by decide +kernel
theorem dX7_isDone_59 : decode cX7_isDone 59 = .ok (.invokestatic 41, 3) := by decide +kernel
theorem dX7_isDone_62 : decode cX7_isDone 62 = .ok (.ifCond .eq 34, 3) := by decide +kernel
theorem dX7_isDone_65 : decode cX7_isDone 65 = .ok (.aload_n 0, 1) := by decide +kernel
theorem dX7_isDone_66 : decode cX7_isDone 66 = .ok (.getfield 12, 3) := by decide +kernel
theorem dX7_isDone_69 : decode cX7_isDone 69 = .ok (.aload_n 0, 1) := by decide +kernel
theorem dX7_isDone_70 : decode cX7_isDone 70 = .ok (.getfield 19, 3) := by decide +kernel
theorem dX7_isDone_73 : decode cX7_isDone 73 = .ok (.getfield 251, 3) := by decide +kernel
theorem dX7_isDone_76 : decode cX7_isDone 76 = .ok (.aload_n 0, 1) := by decide +kernel
theorem dX7_isDone_77 : decode cX7_isDone 77 = .ok (.getfield 19, 3) := by decide +kernel
theorem dX7_isDone_80 : decode cX7_isDone 80 = .ok (.getfield 255, 3) := by decide +kernel
theorem dX7_isDone_83 : decode cX7_isDone 83 = .ok (.aload_n 0, 1) := by decide +kernel
theorem dX7_isDone_84 : decode cX7_isDone 84 = .ok (.getfield 19, 3) := by decide +kernel
theorem dX7_isDone_87 : decode cX7_isDone 87 = .ok (.getfield 258, 3) := by decide +kernel
theorem dX7_isDone_90 : decode cX7_isDone 90 = .ok (.invokevirtual 71, 3) := by decide +kernel
theorem dX7_isDone_93 : decode cX7_isDone 93 = .ok (.ifCond .ne 5, 3) := by decide +kernel
theorem dX7_isDone_96 : decode cX7_isDone 96 = .ok (.iconst 0, 1) := by decide +kernel
theorem dX7_isDone_97 : decode cX7_isDone 97 = .ok (.ireturn, 1) := by decide +kernel
theorem dX7_isDone_98 : decode cX7_isDone 98 = .ok (.aload_n 0, 1) := by decide +kernel
theorem dX7_isDone_99 : decode cX7_isDone 99 = .ok (.getfield 12, 3) := by decide +kernel
theorem dX7_isDone_102 : decode cX7_isDone 102 = .ok (.aload_n 0, 1) := by decide +kernel
theorem dX7_isDone_103 : decode cX7_isDone 103 = .ok (.getfield 19, 3) := by decide +kernel
theorem dX7_isDone_106 : decode cX7_isDone 106 = .ok (.getfield 251, 3) := by decide +kernel
theorem dX7_isDone_109 : decode cX7_isDone 109 = .ok (.aload_n 0, 1) := by decide +kernel
theorem dX7_isDone_110 : decode cX7_isDone 110 = .ok (.getfield 19, 3) := by decide +kernel
theorem dX7_isDone_113 : decode cX7_isDone 113 = .ok (.getfield 255, 3) := by decide +kernel
theorem dX7_isDone_116 : decode cX7_isDone 116 = .ok (.aload_n 0, 1) := by decide +kernel
theorem dX7_isDone_117 : decode cX7_isDone 117 = .ok (.getfield 19, 3) := by decide +kernel
theorem dX7_isDone_120 : decode cX7_isDone 120 = .ok (.getfield 258, 3) := by decide +kernel
theorem dX7_isDone_123 : decode cX7_isDone 123 = .ok (.invokevirtual 74, 3) := by decide +kernel
theorem dX7_isDone_126 : decode cX7_isDone 126 = .ok (.pop, 1) := by decide +kernel
theorem dX7_isDone_127 : decode cX7_isDone 127 = .ok (.iconst 1, 1) := by decide +kernel
theorem dX7_isDone_128 : decode cX7_isDone 128 = .ok (.ireturn, 1) := by decide +kernel
theorem dJ9_min_7cf53_0 : decode cJ9_min_7cf53 0 = .ok (.iload_n 0, 1) := by decide +kernel
theorem dJ9_min_7cf53_1 : decode cJ9_min_7cf53 1 = .ok (.iload_n 1, 1) := by decide +kernel
theorem dJ9_min_7cf53_2 : decode cJ9_min_7cf53 2 = .ok (.if_icmp .gt 7, 3) := by decide +kernel
theorem dJ9_min_7cf53_5 : decode cJ9_min_7cf53 5 = .ok (.iload_n 0, 1) := by decide +kernel
theorem dJ9_min_7cf53_6 : decode cJ9_min_7cf53 6 = .ok (.goto 4, 3) := by decide +kernel
theorem dJ9_min_7cf53_9 : decode cJ9_min_7cf53 9 = .ok (.iload_n 1, 1) := by decide +kernel
theorem dJ9_min_7cf53_10 : decode cJ9_min_7cf53 10 = .ok (.ireturn, 1) := by decide +kernel
theorem dJ0_length_8abf5_0 : decode cJ0_length_8abf5 0 = .ok (.aload_n 0, 1) := by decide +kernel
theorem dJ0_length_8abf5_1 : decode cJ0_length_8abf5 1 = .ok (.getfield 9, 3) := by decide +kernel
theorem dJ0_length_8abf5_4 : decode cJ0_length_8abf5 4 = .ok (.arraylength, 1) := by decide +kernel
theorem dJ0_length_8abf5_5 : decode cJ0_length_8abf5 5 = .ok (.aload_n 0, 1) := by decide +kernel
theorem dJ0_length_8abf5_6 : decode cJ0_length_8abf5 6 = .ok (.invokevirtual 335, 3) := by decide +kernel
theorem dJ0_length_8abf5_9 : decode cJ0_length_8abf5 9 = .ok (.ishr, 1) := by decide +kernel
theorem dJ0_length_8abf5_10 : decode cJ0_length_8abf5 10 = .ok (.ireturn, 1) := by decide +kernel
theorem dJ0_charAt_5068e_0 : decode cJ0_charAt_5068e 0 = .ok (.aload_n 0, 1) := by decide +kernel
theorem dJ0_charAt_5068e_1 : decode cJ0_charAt_5068e 1 = .ok (.invokevirtual 492, 3) := by decide +kernel
theorem dJ0_charAt_5068e_4 : decode cJ0_charAt_5068e 4 = .ok (.ifCond .eq 12, 3) := by decide +kernel
theorem dJ0_charAt_5068e_7 : decode cJ0_charAt_5068e 7 = .ok (.aload_n 0, 1) := by decide +kernel
theorem dJ0_charAt_5068e_8 : decode cJ0_charAt_5068e 8 = .ok (.getfield 9, 3) := by decide +kernel
theorem dJ0_charAt_5068e_11 : decode cJ0_charAt_5068e 11 = .ok (.iload_n 1, 1) := by decide +kernel
theorem dJ0_charAt_5068e_12 : decode cJ0_charAt_5068e 12 = .ok (.invokestatic 495, 3) := by decide +kernel
theorem dJ0_charAt_5068e_15 : decode cJ0_charAt_5068e 15 = .ok (.ireturn, 1) := by decide +kernel
theorem dJ0_charAt_5068e_16 : decode cJ0_charAt_5068e 16 = .ok (.aload_n 0, 1) := by decide +kernel
theorem dJ0_charAt_5068e_17 : decode cJ0_charAt_5068e 17 = .ok (.getfield 9, 3) := by decide +kernel
theorem dJ0_charAt_5068e_20 : decode cJ0_charAt_5068e 20 = .ok (.iload_n 1, 1) := by decide +kernel
theorem dJ0_charAt_5068e_21 : decode cJ0_charAt_5068e 21 = .ok (.invokestatic 498, 3) := by decide +kernel
theorem dJ0_charAt_5068e_24 : decode cJ0_charAt_5068e 24 = .ok (.ireturn, 1) := by decide +kernel
theorem dJ0_coder_7d493_0 : decode cJ0_coder_7d493 0 = .ok (.getstatic 38, 3) := by decide +kernel
theorem dJ0_coder_7d493_3 : decode cJ0_coder_7d493 3 = .ok (.ifCond .eq 10, 3) := by decide +kernel
theorem dJ0_coder_7d493_6 : decode cJ0_coder_7d493 6 = .ok (.aload_n 0, 1) := by decide +kernel
theorem dJ0_coder_7d493_7 : decode cJ0_coder_7d493 7 = .ok (.getfield 15, 3) := by decide +kernel
theorem dJ0_coder_7d493_10 : decode cJ0_coder_7d493 10 = .ok (.goto 4, 3) := by decide +kernel
theorem dJ0_coder_7d493_13 : decode cJ0_coder_7d493 13 = .ok (.iconst 1, 1) := by decide +kernel
theorem dJ0_coder_7d493_14 : decode cJ0_coder_7d493 14 = .ok (.ireturn, 1) := by decide +kernel
theorem dJ0_isLatin1_aae02_0 : decode cJ0_isLatin1_aae02 0 = .ok (.getstatic 38, 3) := by decide +kernel
theorem dJ0_isLatin1_aae02_3 : decode cJ0_isLatin1_aae02 3 = .ok (.ifCond .eq 14, 3) := by decide +kernel
theorem dJ0_isLatin1_aae02_6 : decode cJ0_isLatin1_aae02 6 = .ok (.aload_n 0, 1) := by decide +kernel
theorem dJ0_isLatin1_aae02_7 : decode cJ0_isLatin1_aae02 7 = .ok (.getfield 15, 3) := by decide +kernel
theorem dJ0_isLatin1_aae02_10 : decode cJ0_isLatin1_aae02 10 = .ok (.ifCond .ne 7, 3) := by decide +kernel
theorem dJ0_isLatin1_aae02_13 : decode cJ0_isLatin1_aae02 13 = .ok (.iconst 1, 1) := by decide +kernel
theorem dJ0_isLatin1_aae02_14 : decode cJ0_isLatin1_aae02 14 = .ok (.goto 4, 3) := by decide +kernel
theorem dJ0_isLatin1_aae02_17 : decode cJ0_isLatin1_aae02 17 = .ok (.iconst 0, 1) := by decide +kernel
theorem dJ0_isLatin1_aae02_18 : decode cJ0_isLatin1_aae02 18 = .ok (.ireturn, 1) := by decide +kernel
theorem dJ0_checkIndex_df160_0 : decode cJ0_checkIndex_df160 0 = .ok (.iload_n 0, 1) := by decide +kernel
theorem dJ0_checkIndex_df160_1 : decode cJ0_checkIndex_df160 1 = .ok (.iload_n 1, 1) := by decide +kernel
theorem dJ0_checkIndex_df160_2 : decode cJ0_checkIndex_df160 2 = .ok (.getstatic 1053, 3) := by decide +kernel
theorem dJ0_checkIndex_df160_5 : decode cJ0_checkIndex_df160 5 = .ok (.invokestatic 1059, 3) := by decide +kernel
theorem dJ0_checkIndex_df160_8 : decode cJ0_checkIndex_df160 8 = .ok (.pop, 1) := by decide +kernel
theorem dJ0_checkIndex_df160_9 : decode cJ0_checkIndex_df160 9 = .ok (.return_, 1) := by decide +kernel
theorem dJ1_charAt_3b067_0 : decode cJ1_charAt_3b067 0 = .ok (.iload_n 1, 1) := by decide +kernel
theorem dJ1_charAt_3b067_1 : decode cJ1_charAt_3b067 1 = .ok (.aload_n 0, 1) := by decide +kernel
theorem dJ1_charAt_3b067_2 : decode cJ1_charAt_3b067 2 = .ok (.arraylength, 1) := by decide +kernel
theorem dJ1_charAt_3b067_3 : decode cJ1_charAt_3b067 3 = .ok (.invokestatic 9, 3) := by decide +kernel
theorem dJ1_charAt_3b067_6 : decode cJ1_charAt_3b067 6 = .ok (.aload_n 0, 1) := by decide +kernel
theorem dJ1_charAt_3b067_7 : decode cJ1_charAt_3b067 7 = .ok (.iload_n 1, 1) := by decide +kernel
theorem dJ1_charAt_3b067_8 : decode cJ1_charAt_3b067 8 = .ok (.baload, 1) := by decide +kernel
theorem dJ1_charAt_3b067_9 : decode cJ1_charAt_3b067 9 = .ok (.sipush 255, 3) := by decide +kernel
theorem dJ1_charAt_3b067_12 : decode cJ1_charAt_3b067 12 = .ok (.iand, 1) := by decide +kernel
theorem dJ1_charAt_3b067_13 : decode cJ1_charAt_3b067 13 = .ok (.i2c, 1) := by decide +kernel
theorem dJ1_charAt_3b067_14 : decode cJ1_charAt_3b067 14 = .ok (.ireturn, 1) := by decide +kernel
theorem dJ2_getChar_3b067_0 : decode cJ2_getChar_3b067 0 = .ok (.getstatic 44, 3) := by decide +kernel
theorem dJ2_getChar_3b067_3 : decode cJ2_getChar_3b067 3 = .ok (.ifCond .ne 25, 3) := by decide +kernel
theorem dJ2_getChar_3b067_6 : decode cJ2_getChar_3b067 6 = .ok (.iload_n 1, 1) := by decide +kernel
theorem dJ2_getChar_3b067_7 : decode cJ2_getChar_3b067 7 = .ok (.ifCond .lt 11, 3) := by decide +kernel
theorem dJ2_getChar_3b067_10 : decode cJ2_getChar_3b067 10 = .ok (.iload_n 1, 1) := by decide +kernel
theorem dJ2_getChar_3b067_11 : decode cJ2_getChar_3b067 11 = .ok (.aload_n 0, 1) := by decide +kernel
theorem dJ2_getChar_3b067_12 : decode cJ2_getChar_3b067 12 = .ok (.invokestatic 48, 3) := by decide +kernel
theorem dJ2_getChar_3b067_15 : decode cJ2_getChar_3b067 15 = .ok (.if_icmp .lt 13, 3) := by decide +kernel
theorem dJ2_getChar_3b067_18 : decode cJ2_getChar_3b067 18 = .ok (.new 52, 3) := by decide +kernel
theorem dJ2_getChar_3b067_21 : decode cJ2_getChar_3b067 21 = .ok (.dup, 1) := by decide +kernel
theorem dJ2_getChar_3b067_22 : decode cJ2_getChar_3b067 22 = .ok (.ldc 54, 2) := by decide +kernel
theorem dJ2_getChar_3b067_24 : decode cJ2_getChar_3b067 24 = .ok (.invokespecial 56, 3) := by decide +kernel
theorem dJ2_getChar_3b067_27 : decode cJ2_getChar_3b067 27 = .ok (.athrow, 1) := by decide +kernel
theorem dJ2_getChar_3b067_28 : decode cJ2_getChar_3b067 28 = .ok (.iload_n 1, 1) := by decide +kernel
theorem dJ2_getChar_3b067_29 : decode cJ2_getChar_3b067 29 = .ok (.iconst 1, 1) := by decide +kernel
theorem dJ2_getChar_3b067_30 : decode cJ2_getChar_3b067 30 = .ok (.ishl, 1) := by decide +kernel
theorem dJ2_getChar_3b067_31 : decode cJ2_getChar_3b067 31 = .ok (.istore_n 1, 1) := by decide +kernel
theorem dJ2_getChar_3b067_32 : decode cJ2_getChar_3b067 32 = .ok (.aload_n 0, 1) := by decide +kernel
theorem dJ2_getChar_3b067_33 : decode cJ2_getChar_3b067 33 = .ok (.iload_n 1, 1) := by decide +kernel
theorem dJ2_getChar_3b067_34 : decode cJ2_getChar_3b067 34 = .ok (.iinc 1 1, 3) := by decide +kernel
theorem dJ2_getChar_3b067_37 : decode cJ2_getChar_3b067 37 = .ok (.baload, 1) := by decide +kernel
theorem dJ2_getChar_3b067_38 : decode cJ2_getChar_3b067 38 = .ok (.sipush 255, 3) := by decide +kernel
theorem dJ2_getChar_3b067_41 : decode cJ2_getChar_3b067 41 = .ok (.iand, 1) := by decide +kernel
theorem dJ2_getChar_3b067_42 : decode cJ2_getChar_3b067 42 = .ok (.getstatic 59, 3) := by decide +kernel
theorem dJ2_getChar_3b067_45 : decode cJ2_getChar_3b067 45 = .ok (.ishl, 1) := by decide +kernel
theorem dJ2_getChar_3b067_46 : decode cJ2_getChar_3b067 46 = .ok (.aload_n 0, 1) := by decide +kernel
theorem dJ2_getChar_3b067_47 : decode cJ2_getChar_3b067 47 = .ok (.iload_n 1, 1) := by decide +kernel
theorem dJ2_getChar_3b067_48 : decode cJ2_getChar_3b067 48 = .ok (.baload, 1) := by decide +kernel
theorem dJ2_getChar_3b067_49 : decode cJ2_getChar_3b067 49 = .ok (.sipush 255, 3) := by decide +kernel
theorem dJ2_getChar_3b067_52 : decode cJ2_getChar_3b067 52 = .ok (.iand, 1) := by decide +kernel
theorem dJ2_getChar_3b067_53 : decode cJ2_getChar_3b067 53 = .ok (.getstatic 63, 3) := by decide +kernel
theorem dJ2_getChar_3b067_56 : decode cJ2_getChar_3b067 56 = .ok (.ishl, 1) := by decide +kernel
theorem dJ2_getChar_3b067_57 : decode cJ2_getChar_3b067 57 = .ok (.ior, 1) := by decide +kernel
theorem dJ2_getChar_3b067_58 : decode cJ2_getChar_3b067 58 = .ok (.i2c, 1) := by decide +kernel
theorem dJ2_getChar_3b067_59 : decode cJ2_getChar_3b067 59 = .ok (.ireturn, 1) := by decide +kernel
theorem dJ2_length_9d52b_0 : decode cJ2_length_9d52b 0 = .ok (.aload_n 0, 1) := by decide +kernel
theorem dJ2_length_9d52b_1 : decode cJ2_length_9d52b 1 = .ok (.arraylength, 1) := by decide +kernel
theorem dJ2_length_9d52b_2 : decode cJ2_length_9d52b 2 = .ok (.iconst 1, 1) := by decide +kernel
theorem dJ2_length_9d52b_3 : decode cJ2_length_9d52b 3 = .ok (.ishr, 1) := by decide +kernel
theorem dJ2_length_9d52b_4 : decode cJ2_length_9d52b 4 = .ok (.ireturn, 1) := by decide +kernel
theorem dJ2_charAt_3b067_0 : decode cJ2_charAt_3b067 0 = .ok (.iload_n 1, 1) := by decide +kernel
theorem dJ2_charAt_3b067_1 : decode cJ2_charAt_3b067 1 = .ok (.aload_n 0, 1) := by decide +kernel
theorem dJ2_charAt_3b067_2 : decode cJ2_charAt_3b067 2 = .ok (.invokestatic 67, 3) := by decide +kernel
theorem dJ2_charAt_3b067_5 : decode cJ2_charAt_3b067 5 = .ok (.aload_n 0, 1) := by decide +kernel
theorem dJ2_charAt_3b067_6 : decode cJ2_charAt_3b067 6 = .ok (.iload_n 1, 1) := by decide +kernel
theorem dJ2_charAt_3b067_7 : decode cJ2_charAt_3b067 7 = .ok (.invokestatic 71, 3) := by decide +kernel
theorem dJ2_charAt_3b067_10 : decode cJ2_charAt_3b067 10 = .ok (.ireturn, 1) := by decide +kernel
theorem dJ2_checkIndex_2214a_0 : decode cJ2_checkIndex_2214a 0 = .ok (.iload_n 0, 1) := by decide +kernel
theorem dJ2_checkIndex_2214a_1 : decode cJ2_checkIndex_2214a 1 = .ok (.aload_n 1, 1) := by decide +kernel
theorem dJ2_checkIndex_2214a_2 : decode cJ2_checkIndex_2214a 2 = .ok (.invokestatic 48, 3) := by decide +kernel
theorem dJ2_checkIndex_2214a_5 : decode cJ2_checkIndex_2214a 5 = .ok (.invokestatic 414, 3) := by decide +kernel
theorem dJ2_checkIndex_2214a_8 : decode cJ2_checkIndex_2214a 8 = .ok (.return_, 1) := by decide +kernel
theorem dJ3_checkIndex_8e157_0 : decode cJ3_checkIndex_8e157 0 = .ok (.iload_n 0, 1) := by decide +kernel
theorem dJ3_checkIndex_8e157_1 : decode cJ3_checkIndex_8e157 1 = .ok (.ifCond .lt 8, 3) := by decide +kernel
theorem dJ3_checkIndex_8e157_4 : decode cJ3_checkIndex_8e157 4 = .ok (.iload_n 0, 1) := by decide +kernel
theorem dJ3_checkIndex_8e157_5 : decode cJ3_checkIndex_8e157 5 = .ok (.iload_n 1, 1) := by decide +kernel
theorem dJ3_checkIndex_8e157_6 : decode cJ3_checkIndex_8e157 6 = .ok (.if_icmp .lt 10, 3) := by decide +kernel
theorem dJ3_checkIndex_8e157_9 : decode cJ3_checkIndex_8e157 9 = .ok (.aload_n 2, 1) := by decide +kernel
theorem dJ3_checkIndex_8e157_10 : decode cJ3_checkIndex_8e157 10 = .ok (.iload_n 0, 1) := by decide +kernel
theorem dJ3_checkIndex_8e157_11 : decode cJ3_checkIndex_8e157 11 = .ok (.iload_n 1, 1) := by decide +kernel
theorem dJ3_checkIndex_8e157_12 : decode cJ3_checkIndex_8e157 12 = .ok (.invokestatic 95, 3) := by decide +kernel
theorem dJ3_checkIndex_8e157_15 : decode cJ3_checkIndex_8e157 15 = .ok (.athrow, 1) := by decide +kernel
theorem dJ3_checkIndex_8e157_16 : decode cJ3_checkIndex_8e157 16 = .ok (.iload_n 0, 1) := by decide +kernel
theorem dJ3_checkIndex_8e157_17 : decode cJ3_checkIndex_8e157 17 = .ok (.ireturn, 1) := by decide +kernel
end
section
theorem dL_begin_0 : decode cL_begin 0 = .ok (.aload 4, 2) := by decide +kernel
theorem dL_begin_2 : decode cL_begin 2 = .ok (.iconst 0, 1) := by decide +kernel
theorem dL_begin_3 : decode cL_begin 3 = .ok (.aload_n 0, 1) := by decide +kernel
theorem dL_begin_4 : decode cL_begin 4 = .ok (.iload_n 1, 1) := by decide +kernel
theorem dL_begin_5 : decode cL_begin 5 = .ok (.iload_n 2, 1) := by decide +kernel
theorem dL_begin_6 : decode cL_begin 6 = .ok (.iload_n 3, 1) := by decide +kernel
theorem dL_begin_7 : decode cL_begin 7 = .ok (.invokevirtual 7, 3) := by decide +kernel
theorem dL_begin_10 : decode cL_begin 10 = .ok (.i2l, 1) := by decide +kernel
theorem dL_begin_11 : decode cL_begin 11 = .ok (.lastore, 1) := by decide +kernel
theorem dL_begin_12 : decode cL_begin 12 = .ok (.goto 15, 3) := by decide +kernel
theorem dL_begin_15 : decode cL_begin 15 = .ok (.astore 5, 2) := by decide +kernel
theorem dL_begin_17 : decode cL_begin 17 = .ok (.iconst 1, 1) := by decide +kernel
theorem dL_begin_18 : decode cL_begin 18 = .ok (.ireturn, 1) := by decide +kernel
theorem dL_begin_19 : decode cL_begin 19 = .ok (.astore 5, 2) := by decide +kernel
theorem dL_begin_21 : decode cL_begin 21 = .ok (.iconst 2, 1) := by decide +kernel
theorem dL_begin_22 : decode cL_begin 22 = .ok (.ireturn, 1) := by decide +kernel
theorem dL_begin_23 : decode cL_begin 23 = .ok (.astore 5, 2) := by decide +kernel
theorem dL_begin_25 : decode cL_begin 25 = .ok (.iconst 3, 1) := by decide +kernel
theorem dL_begin_26 : decode cL_begin 26 = .ok (.ireturn, 1) := by decide +kernel
theorem dL_begin_27 : decode cL_begin 27 = .ok (.iconst 0, 1) := by decide +kernel
theorem dL_begin_28 : decode cL_begin 28 = .ok (.ireturn, 1) := by decide +kernel
theorem dL_raid_0 : decode cL_raid 0 = .ok (.aload_n 2, 1) := by decide +kernel
theorem dL_raid_1 : decode cL_raid 1 = .ok (.iconst 0, 1) := by decide +kernel
theorem dL_raid_2 : decode cL_raid 2 = .ok (.aload_n 0, 1) := by decide +kernel
theorem dL_raid_3 : decode cL_raid 3 = .ok (.iload_n 1, 1) := by decide +kernel
theorem dL_raid_4 : decode cL_raid 4 = .ok (.invokevirtual 19, 3) := by decide +kernel
theorem dL_raid_7 : decode cL_raid 7 = .ok (.i2l, 1) := by decide +kernel
theorem dL_raid_8 : decode cL_raid 8 = .ok (.lastore, 1) := by decide +kernel
theorem dL_raid_9 : decode cL_raid 9 = .ok (.goto 9, 3) := by decide +kernel
theorem dL_raid_12 : decode cL_raid 12 = .ok (.astore_n 3, 1) := by decide +kernel
theorem dL_raid_13 : decode cL_raid 13 = .ok (.iconst 1, 1) := by decide +kernel
theorem dL_raid_14 : decode cL_raid 14 = .ok (.ireturn, 1) := by decide +kernel
theorem dL_raid_15 : decode cL_raid 15 = .ok (.astore_n 3, 1) := by decide +kernel
theorem dL_raid_16 : decode cL_raid 16 = .ok (.iconst 2, 1) := by decide +kernel
theorem dL_raid_17 : decode cL_raid 17 = .ok (.ireturn, 1) := by decide +kernel
theorem dL_raid_18 : decode cL_raid 18 = .ok (.iconst 0, 1) := by decide +kernel
theorem dL_raid_19 : decode cL_raid 19 = .ok (.ireturn, 1) := by decide +kernel
theorem dL_step_0 : decode cL_step 0 = .ok (.aload 4, 2) := by decide +kernel
theorem dL_step_2 : decode cL_step 2 = .ok (.iconst 0, 1) := by decide +kernel
theorem dL_step_3 : decode cL_step 3 = .ok (.aload_n 0, 1) := by decide +kernel
theorem dL_step_4 : decode cL_step 4 = .ok (.iload_n 1, 1) := by decide +kernel
theorem dL_step_5 : decode cL_step 5 = .ok (.iload_n 2, 1) := by decide +kernel
theorem dL_step_6 : decode cL_step 6 = .ok (.iload_n 3, 1) := by decide +kernel
theorem dL_step_7 : decode cL_step 7 = .ok (.invokevirtual 23, 3) := by decide +kernel
theorem dL_step_10 : decode cL_step 10 = .ok (.i2l, 1) := by decide +kernel
theorem dL_step_11 : decode cL_step 11 = .ok (.lastore, 1) := by decide +kernel
theorem dL_step_12 : decode cL_step 12 = .ok (.goto 11, 3) := by decide +kernel
theorem dL_step_15 : decode cL_step 15 = .ok (.astore 5, 2) := by decide +kernel
theorem dL_step_17 : decode cL_step 17 = .ok (.iconst 1, 1) := by decide +kernel
theorem dL_step_18 : decode cL_step 18 = .ok (.ireturn, 1) := by decide +kernel
theorem dL_step_19 : decode cL_step 19 = .ok (.astore 5, 2) := by decide +kernel
theorem dL_step_21 : decode cL_step 21 = .ok (.iconst 2, 1) := by decide +kernel
theorem dL_step_22 : decode cL_step 22 = .ok (.ireturn, 1) := by decide +kernel
theorem dL_step_23 : decode cL_step 23 = .ok (.iconst 0, 1) := by decide +kernel
theorem dL_step_24 : decode cL_step 24 = .ok (.ireturn, 1) := by decide +kernel
theorem dL_card_0 : decode cL_card 0 = .ok (.aload 4, 2) := by decide +kernel
theorem dL_card_2 : decode cL_card 2 = .ok (.iconst 0, 1) := by decide +kernel
theorem dL_card_3 : decode cL_card 3 = .ok (.aload_n 0, 1) := by decide +kernel
theorem dL_card_4 : decode cL_card 4 = .ok (.iload_n 1, 1) := by decide +kernel
theorem dL_card_5 : decode cL_card 5 = .ok (.iload_n 2, 1) := by decide +kernel
theorem dL_card_6 : decode cL_card 6 = .ok (.iload_n 3, 1) := by decide +kernel
theorem dL_card_7 : decode cL_card 7 = .ok (.invokevirtual 26, 3) := by decide +kernel
theorem dL_card_10 : decode cL_card 10 = .ok (.i2l, 1) := by decide +kernel
theorem dL_card_11 : decode cL_card 11 = .ok (.lastore, 1) := by decide +kernel
theorem dL_card_12 : decode cL_card 12 = .ok (.goto 15, 3) := by decide +kernel
theorem dL_card_15 : decode cL_card 15 = .ok (.astore 5, 2) := by decide +kernel
theorem dL_card_17 : decode cL_card 17 = .ok (.iconst 1, 1) := by decide +kernel
theorem dL_card_18 : decode cL_card 18 = .ok (.ireturn, 1) := by decide +kernel
theorem dL_card_19 : decode cL_card 19 = .ok (.astore 5, 2) := by decide +kernel
theorem dL_card_21 : decode cL_card 21 = .ok (.iconst 2, 1) := by decide +kernel
theorem dL_card_22 : decode cL_card 22 = .ok (.ireturn, 1) := by decide +kernel
theorem dL_card_23 : decode cL_card 23 = .ok (.astore 5, 2) := by decide +kernel
theorem dL_card_25 : decode cL_card 25 = .ok (.iconst 3, 1) := by decide +kernel
theorem dL_card_26 : decode cL_card 26 = .ok (.ireturn, 1) := by decide +kernel
theorem dL_card_27 : decode cL_card 27 = .ok (.iconst 0, 1) := by decide +kernel
theorem dL_card_28 : decode cL_card 28 = .ok (.ireturn, 1) := by decide +kernel
theorem dL_change_0 : decode cL_change 0 = .ok (.aload 4, 2) := by decide +kernel
theorem dL_change_2 : decode cL_change 2 = .ok (.iconst 0, 1) := by decide +kernel
theorem dL_change_3 : decode cL_change 3 = .ok (.aload_n 0, 1) := by decide +kernel
theorem dL_change_4 : decode cL_change 4 = .ok (.iload_n 1, 1) := by decide +kernel
theorem dL_change_5 : decode cL_change 5 = .ok (.iload_n 2, 1) := by decide +kernel
theorem dL_change_6 : decode cL_change 6 = .ok (.iload_n 3, 1) := by decide +kernel
theorem dL_change_7 : decode cL_change 7 = .ok (.invokevirtual 29, 3) := by decide +kernel
theorem dL_change_10 : decode cL_change 10 = .ok (.i2l, 1) := by decide +kernel
theorem dL_change_11 : decode cL_change 11 = .ok (.lastore, 1) := by decide +kernel
theorem dL_change_12 : decode cL_change 12 = .ok (.goto 11, 3) := by decide +kernel
theorem dL_change_15 : decode cL_change 15 = .ok (.astore 5, 2) := by decide +kernel
theorem dL_change_17 : decode cL_change 17 = .ok (.iconst 1, 1) := by decide +kernel
theorem dL_change_18 : decode cL_change 18 = .ok (.ireturn, 1) := by decide +kernel
theorem dL_change_19 : decode cL_change 19 = .ok (.astore 5, 2) := by decide +kernel
theorem dL_change_21 : decode cL_change 21 = .ok (.iconst 2, 1) := by decide +kernel
theorem dL_change_22 : decode cL_change 22 = .ok (.ireturn, 1) := by decide +kernel
theorem dL_change_23 : decode cL_change 23 = .ok (.iconst 0, 1) := by decide +kernel
theorem dL_change_24 : decode cL_change 24 = .ok (.ireturn, 1) := by decide +kernel
theorem dL_review_0 : decode cL_review 0 = .ok (.aload 6, 2) := by decide +kernel
theorem dL_review_2 : decode cL_review 2 = .ok (.iconst 0, 1) := by decide +kernel
theorem dL_review_3 : decode cL_review 3 = .ok (.aload_n 0, 1) := by decide +kernel
theorem dL_review_4 : decode cL_review 4 = .ok (.iload_n 1, 1) := by decide +kernel
theorem dL_review_5 : decode cL_review 5 = .ok (.iload_n 2, 1) := by decide +kernel
theorem dL_review_6 : decode cL_review 6 = .ok (.iload_n 3, 1) := by decide +kernel
theorem dL_review_7 : decode cL_review 7 = .ok (.iload 4, 2) := by decide +kernel
theorem dL_review_9 : decode cL_review 9 = .ok (.iload 5, 2) := by decide +kernel
theorem dL_review_11 : decode cL_review 11 = .ok (.invokevirtual 32, 3) := by decide +kernel
theorem dL_review_14 : decode cL_review 14 = .ok (.i2l, 1) := by decide +kernel
theorem dL_review_15 : decode cL_review 15 = .ok (.lastore, 1) := by decide +kernel
theorem dL_review_16 : decode cL_review 16 = .ok (.goto 15, 3) := by decide +kernel
theorem dL_review_19 : decode cL_review 19 = .ok (.astore 7, 2) := by decide +kernel
theorem dL_review_21 : decode cL_review 21 = .ok (.iconst 1, 1) := by decide +kernel
theorem dL_review_22 : decode cL_review 22 = .ok (.ireturn, 1) := by decide +kernel
theorem dL_review_23 : decode cL_review 23 = .ok (.astore 7, 2) := by decide +kernel
theorem dL_review_25 : decode cL_review 25 = .ok (.iconst 2, 1) := by decide +kernel
theorem dL_review_26 : decode cL_review 26 = .ok (.ireturn, 1) := by decide +kernel
theorem dL_review_27 : decode cL_review 27 = .ok (.astore 7, 2) := by decide +kernel
theorem dL_review_29 : decode cL_review 29 = .ok (.iconst 3, 1) := by decide +kernel
theorem dL_review_30 : decode cL_review 30 = .ok (.ireturn, 1) := by decide +kernel
theorem dL_review_31 : decode cL_review 31 = .ok (.iconst 0, 1) := by decide +kernel
theorem dL_review_32 : decode cL_review 32 = .ok (.ireturn, 1) := by decide +kernel
theorem dL_wouldFall_0 : decode cL_wouldFall 0 = .ok (.aload 5, 2) := by decide +kernel
theorem dL_wouldFall_2 : decode cL_wouldFall 2 = .ok (.iconst 0, 1) := by decide +kernel
theorem dL_wouldFall_3 : decode cL_wouldFall 3 = .ok (.aload_n 0, 1) := by decide +kernel
theorem dL_wouldFall_4 : decode cL_wouldFall 4 = .ok (.iload_n 1, 1) := by decide +kernel
theorem dL_wouldFall_5 : decode cL_wouldFall 5 = .ok (.iload_n 2, 1) := by decide +kernel
theorem dL_wouldFall_6 : decode cL_wouldFall 6 = .ok (.iload_n 3, 1) := by decide +kernel
theorem dL_wouldFall_7 : decode cL_wouldFall 7 = .ok (.iload 4, 2) := by decide +kernel
theorem dL_wouldFall_9 : decode cL_wouldFall 9 = .ok (.invokevirtual 36, 3) := by decide +kernel
theorem dL_wouldFall_12 : decode cL_wouldFall 12 = .ok (.i2l, 1) := by decide +kernel
theorem dL_wouldFall_13 : decode cL_wouldFall 13 = .ok (.lastore, 1) := by decide +kernel
theorem dL_wouldFall_14 : decode cL_wouldFall 14 = .ok (.goto 11, 3) := by decide +kernel
theorem dL_wouldFall_17 : decode cL_wouldFall 17 = .ok (.astore 6, 2) := by decide +kernel
theorem dL_wouldFall_19 : decode cL_wouldFall 19 = .ok (.iconst 1, 1) := by decide +kernel
theorem dL_wouldFall_20 : decode cL_wouldFall 20 = .ok (.ireturn, 1) := by decide +kernel
theorem dL_wouldFall_21 : decode cL_wouldFall 21 = .ok (.astore 6, 2) := by decide +kernel
theorem dL_wouldFall_23 : decode cL_wouldFall 23 = .ok (.iconst 2, 1) := by decide +kernel
theorem dL_wouldFall_24 : decode cL_wouldFall 24 = .ok (.ireturn, 1) := by decide +kernel
theorem dL_wouldFall_25 : decode cL_wouldFall 25 = .ok (.iconst 0, 1) := by decide +kernel
theorem dL_wouldFall_26 : decode cL_wouldFall 26 = .ok (.ireturn, 1) := by decide +kernel
theorem dL_takeBack_0 : decode cL_takeBack 0 = .ok (.aload_n 2, 1) := by decide +kernel
theorem dL_takeBack_1 : decode cL_takeBack 1 = .ok (.iconst 0, 1) := by decide +kernel
theorem dL_takeBack_2 : decode cL_takeBack 2 = .ok (.aload_n 0, 1) := by decide +kernel
theorem dL_takeBack_3 : decode cL_takeBack 3 = .ok (.iload_n 1, 1) := by decide +kernel
theorem dL_takeBack_4 : decode cL_takeBack 4 = .ok (.invokevirtual 40, 3) := by decide +kernel
theorem dL_takeBack_7 : decode cL_takeBack 7 = .ok (.i2l, 1) := by decide +kernel
theorem dL_takeBack_8 : decode cL_takeBack 8 = .ok (.lastore, 1) := by decide +kernel
theorem dL_takeBack_9 : decode cL_takeBack 9 = .ok (.goto 6, 3) := by decide +kernel
theorem dL_takeBack_12 : decode cL_takeBack 12 = .ok (.astore_n 3, 1) := by decide +kernel
theorem dL_takeBack_13 : decode cL_takeBack 13 = .ok (.iconst 1, 1) := by decide +kernel
theorem dL_takeBack_14 : decode cL_takeBack 14 = .ok (.ireturn, 1) := by decide +kernel
theorem dL_takeBack_15 : decode cL_takeBack 15 = .ok (.iconst 0, 1) := by decide +kernel
theorem dL_takeBack_16 : decode cL_takeBack 16 = .ok (.ireturn, 1) := by decide +kernel
theorem dL_enter_0 : decode cL_enter 0 = .ok (.aload_n 1, 1) := by decide +kernel
theorem dL_enter_1 : decode cL_enter 1 = .ok (.iconst 0, 1) := by decide +kernel
theorem dL_enter_2 : decode cL_enter 2 = .ok (.aload_n 0, 1) := by decide +kernel
theorem dL_enter_3 : decode cL_enter 3 = .ok (.invokevirtual 43, 3) := by decide +kernel
theorem dL_enter_6 : decode cL_enter 6 = .ok (.i2l, 1) := by decide +kernel
theorem dL_enter_7 : decode cL_enter 7 = .ok (.lastore, 1) := by decide +kernel
theorem dL_enter_8 : decode cL_enter 8 = .ok (.goto 6, 3) := by decide +kernel
theorem dL_enter_11 : decode cL_enter 11 = .ok (.astore_n 2, 1) := by decide +kernel
theorem dL_enter_12 : decode cL_enter 12 = .ok (.iconst 1, 1) := by decide +kernel
theorem dL_enter_13 : decode cL_enter 13 = .ok (.ireturn, 1) := by decide +kernel
theorem dL_enter_14 : decode cL_enter 14 = .ok (.iconst 0, 1) := by decide +kernel
theorem dL_enter_15 : decode cL_enter 15 = .ok (.ireturn, 1) := by decide +kernel
theorem dL_type_0 : decode cL_type 0 = .ok (.aload_n 2, 1) := by decide +kernel
theorem dL_type_1 : decode cL_type 1 = .ok (.iconst 0, 1) := by decide +kernel
theorem dL_type_2 : decode cL_type 2 = .ok (.aload_n 0, 1) := by decide +kernel
theorem dL_type_3 : decode cL_type 3 = .ok (.iload_n 1, 1) := by decide +kernel
theorem dL_type_4 : decode cL_type 4 = .ok (.invokevirtual 47, 3) := by decide +kernel
theorem dL_type_7 : decode cL_type 7 = .ok (.i2l, 1) := by decide +kernel
theorem dL_type_8 : decode cL_type 8 = .ok (.lastore, 1) := by decide +kernel
theorem dL_type_9 : decode cL_type 9 = .ok (.goto 9, 3) := by decide +kernel
theorem dL_type_12 : decode cL_type 12 = .ok (.astore_n 3, 1) := by decide +kernel
theorem dL_type_13 : decode cL_type 13 = .ok (.iconst 1, 1) := by decide +kernel
theorem dL_type_14 : decode cL_type 14 = .ok (.ireturn, 1) := by decide +kernel
theorem dL_type_15 : decode cL_type 15 = .ok (.astore_n 3, 1) := by decide +kernel
theorem dL_type_16 : decode cL_type 16 = .ok (.iconst 2, 1) := by decide +kernel
theorem dL_type_17 : decode cL_type 17 = .ok (.ireturn, 1) := by decide +kernel
theorem dL_type_18 : decode cL_type 18 = .ok (.iconst 0, 1) := by decide +kernel
theorem dL_type_19 : decode cL_type 19 = .ok (.ireturn, 1) := by decide +kernel
theorem dL_run_0 : decode cL_run 0 = .ok (.aload_n 1, 1) := by decide +kernel
theorem dL_run_1 : decode cL_run 1 = .ok (.iconst 0, 1) := by decide +kernel
theorem dL_run_2 : decode cL_run 2 = .ok (.aload_n 0, 1) := by decide +kernel
theorem dL_run_3 : decode cL_run 3 = .ok (.invokevirtual 50, 3) := by decide +kernel
theorem dL_run_6 : decode cL_run 6 = .ok (.i2l, 1) := by decide +kernel
theorem dL_run_7 : decode cL_run 7 = .ok (.lastore, 1) := by decide +kernel
theorem dL_run_8 : decode cL_run 8 = .ok (.goto 6, 3) := by decide +kernel
theorem dL_run_11 : decode cL_run 11 = .ok (.astore_n 2, 1) := by decide +kernel
theorem dL_run_12 : decode cL_run 12 = .ok (.iconst 1, 1) := by decide +kernel
theorem dL_run_13 : decode cL_run 13 = .ok (.ireturn, 1) := by decide +kernel
theorem dL_run_14 : decode cL_run 14 = .ok (.iconst 0, 1) := by decide +kernel
theorem dL_run_15 : decode cL_run 15 = .ok (.ireturn, 1) := by decide +kernel
theorem dL_player_0 : decode cL_player 0 = .ok (.aload_n 3, 1) := by decide +kernel
theorem dL_player_1 : decode cL_player 1 = .ok (.iconst 0, 1) := by decide +kernel
theorem dL_player_2 : decode cL_player 2 = .ok (.aload_n 0, 1) := by decide +kernel
theorem dL_player_3 : decode cL_player 3 = .ok (.iload_n 1, 1) := by decide +kernel
theorem dL_player_4 : decode cL_player 4 = .ok (.iload_n 2, 1) := by decide +kernel
theorem dL_player_5 : decode cL_player 5 = .ok (.invokevirtual 53, 3) := by decide +kernel
theorem dL_player_8 : decode cL_player 8 = .ok (.i2l, 1) := by decide +kernel
theorem dL_player_9 : decode cL_player 9 = .ok (.lastore, 1) := by decide +kernel
theorem dL_player_10 : decode cL_player 10 = .ok (.goto 11, 3) := by decide +kernel
theorem dL_player_13 : decode cL_player 13 = .ok (.astore 4, 2) := by decide +kernel
theorem dL_player_15 : decode cL_player 15 = .ok (.iconst 1, 1) := by decide +kernel
theorem dL_player_16 : decode cL_player 16 = .ok (.ireturn, 1) := by decide +kernel
theorem dL_player_17 : decode cL_player 17 = .ok (.astore 4, 2) := by decide +kernel
theorem dL_player_19 : decode cL_player 19 = .ok (.iconst 2, 1) := by decide +kernel
theorem dL_player_20 : decode cL_player 20 = .ok (.ireturn, 1) := by decide +kernel
theorem dL_player_21 : decode cL_player 21 = .ok (.iconst 0, 1) := by decide +kernel
theorem dL_player_22 : decode cL_player 22 = .ok (.ireturn, 1) := by decide +kernel
theorem dL_out_0 : decode cL_out 0 = .ok (.aload_n 3, 1) := by decide +kernel
theorem dL_out_1 : decode cL_out 1 = .ok (.iconst 0, 1) := by decide +kernel
theorem dL_out_2 : decode cL_out 2 = .ok (.aload_n 0, 1) := by decide +kernel
theorem dL_out_3 : decode cL_out 3 = .ok (.iload_n 1, 1) := by decide +kernel
theorem dL_out_4 : decode cL_out 4 = .ok (.iload_n 2, 1) := by decide +kernel
theorem dL_out_5 : decode cL_out 5 = .ok (.invokevirtual 57, 3) := by decide +kernel
theorem dL_out_8 : decode cL_out 8 = .ok (.i2l, 1) := by decide +kernel
theorem dL_out_9 : decode cL_out 9 = .ok (.lastore, 1) := by decide +kernel
theorem dL_out_10 : decode cL_out 10 = .ok (.goto 11, 3) := by decide +kernel
theorem dL_out_13 : decode cL_out 13 = .ok (.astore 4, 2) := by decide +kernel
theorem dL_out_15 : decode cL_out 15 = .ok (.iconst 1, 1) := by decide +kernel
theorem dL_out_16 : decode cL_out 16 = .ok (.ireturn, 1) := by decide +kernel
theorem dL_out_17 : decode cL_out 17 = .ok (.astore 4, 2) := by decide +kernel
theorem dL_out_19 : decode cL_out 19 = .ok (.iconst 2, 1) := by decide +kernel
theorem dL_out_20 : decode cL_out 20 = .ok (.ireturn, 1) := by decide +kernel
theorem dL_out_21 : decode cL_out 21 = .ok (.iconst 0, 1) := by decide +kernel
theorem dL_out_22 : decode cL_out 22 = .ok (.ireturn, 1) := by decide +kernel
theorem dL_next_0 : decode cL_next 0 = .ok (.aload_n 2, 1) := by decide +kernel
theorem dL_next_1 : decode cL_next 1 = .ok (.iconst 0, 1) := by decide +kernel
theorem dL_next_2 : decode cL_next 2 = .ok (.aload_n 0, 1) := by decide +kernel
theorem dL_next_3 : decode cL_next 3 = .ok (.iload_n 1, 1) := by decide +kernel
theorem dL_next_4 : decode cL_next 4 = .ok (.invokevirtual 60, 3) := by decide +kernel
theorem dL_next_7 : decode cL_next 7 = .ok (.i2l, 1) := by decide +kernel
theorem dL_next_8 : decode cL_next 8 = .ok (.lastore, 1) := by decide +kernel
theorem dL_next_9 : decode cL_next 9 = .ok (.goto 9, 3) := by decide +kernel
theorem dL_next_12 : decode cL_next 12 = .ok (.astore_n 3, 1) := by decide +kernel
theorem dL_next_13 : decode cL_next 13 = .ok (.iconst 1, 1) := by decide +kernel
theorem dL_next_14 : decode cL_next 14 = .ok (.ireturn, 1) := by decide +kernel
theorem dL_next_15 : decode cL_next 15 = .ok (.astore_n 3, 1) := by decide +kernel
theorem dL_next_16 : decode cL_next 16 = .ok (.iconst 2, 1) := by decide +kernel
theorem dL_next_17 : decode cL_next 17 = .ok (.ireturn, 1) := by decide +kernel
theorem dL_next_18 : decode cL_next 18 = .ok (.iconst 0, 1) := by decide +kernel
theorem dL_next_19 : decode cL_next 19 = .ok (.ireturn, 1) := by decide +kernel
theorem dL_points_0 : decode cL_points 0 = .ok (.aload_n 2, 1) := by decide +kernel
theorem dL_points_1 : decode cL_points 1 = .ok (.iconst 0, 1) := by decide +kernel
theorem dL_points_2 : decode cL_points 2 = .ok (.aload_n 0, 1) := by decide +kernel
theorem dL_points_3 : decode cL_points 3 = .ok (.iload_n 1, 1) := by decide +kernel
theorem dL_points_4 : decode cL_points 4 = .ok (.invokevirtual 63, 3) := by decide +kernel
theorem dL_points_7 : decode cL_points 7 = .ok (.i2l, 1) := by decide +kernel
theorem dL_points_8 : decode cL_points 8 = .ok (.lastore, 1) := by decide +kernel
theorem dL_points_9 : decode cL_points 9 = .ok (.goto 9, 3) := by decide +kernel
theorem dL_points_12 : decode cL_points 12 = .ok (.astore_n 3, 1) := by decide +kernel
theorem dL_points_13 : decode cL_points 13 = .ok (.iconst 1, 1) := by decide +kernel
theorem dL_points_14 : decode cL_points 14 = .ok (.ireturn, 1) := by decide +kernel
theorem dL_points_15 : decode cL_points 15 = .ok (.astore_n 3, 1) := by decide +kernel
theorem dL_points_16 : decode cL_points 16 = .ok (.iconst 2, 1) := by decide +kernel
theorem dL_points_17 : decode cL_points 17 = .ok (.ireturn, 1) := by decide +kernel
theorem dL_points_18 : decode cL_points 18 = .ok (.iconst 0, 1) := by decide +kernel
theorem dL_points_19 : decode cL_points 19 = .ok (.ireturn, 1) := by decide +kernel
theorem dL_match_0 : decode cL_match 0 = .ok (.aload_n 2, 1) := by decide +kernel
theorem dL_match_1 : decode cL_match 1 = .ok (.iconst 0, 1) := by decide +kernel
theorem dL_match_2 : decode cL_match 2 = .ok (.aload_n 0, 1) := by decide +kernel
theorem dL_match_3 : decode cL_match 3 = .ok (.iload_n 1, 1) := by decide +kernel
theorem dL_match_4 : decode cL_match 4 = .ok (.invokevirtual 66, 3) := by decide +kernel
theorem dL_match_7 : decode cL_match 7 = .ok (.i2l, 1) := by decide +kernel
theorem dL_match_8 : decode cL_match 8 = .ok (.lastore, 1) := by decide +kernel
theorem dL_match_9 : decode cL_match 9 = .ok (.goto 9, 3) := by decide +kernel
theorem dL_match_12 : decode cL_match 12 = .ok (.astore_n 3, 1) := by decide +kernel
theorem dL_match_13 : decode cL_match 13 = .ok (.iconst 1, 1) := by decide +kernel
theorem dL_match_14 : decode cL_match 14 = .ok (.ireturn, 1) := by decide +kernel
theorem dL_match_15 : decode cL_match 15 = .ok (.astore_n 3, 1) := by decide +kernel
theorem dL_match_16 : decode cL_match 16 = .ok (.iconst 2, 1) := by decide +kernel
theorem dL_match_17 : decode cL_match 17 = .ok (.ireturn, 1) := by decide +kernel
theorem dL_match_18 : decode cL_match 18 = .ok (.iconst 0, 1) := by decide +kernel
theorem dL_match_19 : decode cL_match 19 = .ok (.ireturn, 1) := by decide +kernel
theorem dL_hasReview_0 : decode cL_hasReview 0 = .ok (.aload_n 2, 1) := by decide +kernel
theorem dL_hasReview_1 : decode cL_hasReview 1 = .ok (.iconst 0, 1) := by decide +kernel
theorem dL_hasReview_2 : decode cL_hasReview 2 = .ok (.aload_n 0, 1) := by decide +kernel
theorem dL_hasReview_3 : decode cL_hasReview 3 = .ok (.iload_n 1, 1) := by decide +kernel
theorem dL_hasReview_4 : decode cL_hasReview 4 = .ok (.invokevirtual 69, 3) := by decide +kernel
theorem dL_hasReview_7 : decode cL_hasReview 7 = .ok (.ifCond .eq 7, 3) := by decide +kernel
theorem dL_hasReview_10 : decode cL_hasReview 10 = .ok (.lconst 1, 1) := by decide +kernel
theorem dL_hasReview_11 : decode cL_hasReview 11 = .ok (.goto 4, 3) := by decide +kernel
theorem dL_hasReview_14 : decode cL_hasReview 14 = .ok (.lconst 0, 1) := by decide +kernel
theorem dL_hasReview_15 : decode cL_hasReview 15 = .ok (.lastore, 1) := by decide +kernel
theorem dL_hasReview_16 : decode cL_hasReview 16 = .ok (.goto 9, 3) := by decide +kernel
theorem dL_hasReview_19 : decode cL_hasReview 19 = .ok (.astore_n 3, 1) := by decide +kernel
theorem dL_hasReview_20 : decode cL_hasReview 20 = .ok (.iconst 1, 1) := by decide +kernel
theorem dL_hasReview_21 : decode cL_hasReview 21 = .ok (.ireturn, 1) := by decide +kernel
theorem dL_hasReview_22 : decode cL_hasReview 22 = .ok (.astore_n 3, 1) := by decide +kernel
theorem dL_hasReview_23 : decode cL_hasReview 23 = .ok (.iconst 2, 1) := by decide +kernel
theorem dL_hasReview_24 : decode cL_hasReview 24 = .ok (.ireturn, 1) := by decide +kernel
theorem dL_hasReview_25 : decode cL_hasReview 25 = .ok (.iconst 0, 1) := by decide +kernel
theorem dL_hasReview_26 : decode cL_hasReview 26 = .ok (.ireturn, 1) := by decide +kernel
theorem dL_matAfter_0 : decode cL_matAfter 0 = .ok (.aload_n 3, 1) := by decide +kernel
theorem dL_matAfter_1 : decode cL_matAfter 1 = .ok (.iconst 0, 1) := by decide +kernel
theorem dL_matAfter_2 : decode cL_matAfter 2 = .ok (.aload_n 0, 1) := by decide +kernel
theorem dL_matAfter_3 : decode cL_matAfter 3 = .ok (.iload_n 1, 1) := by decide +kernel
theorem dL_matAfter_4 : decode cL_matAfter 4 = .ok (.iload_n 2, 1) := by decide +kernel
theorem dL_matAfter_5 : decode cL_matAfter 5 = .ok (.invokevirtual 73, 3) := by decide +kernel
theorem dL_matAfter_8 : decode cL_matAfter 8 = .ok (.i2l, 1) := by decide +kernel
theorem dL_matAfter_9 : decode cL_matAfter 9 = .ok (.lastore, 1) := by decide +kernel
theorem dL_matAfter_10 : decode cL_matAfter 10 = .ok (.goto 7, 3) := by decide +kernel
theorem dL_matAfter_13 : decode cL_matAfter 13 = .ok (.astore 4, 2) := by decide +kernel
theorem dL_matAfter_15 : decode cL_matAfter 15 = .ok (.iconst 1, 1) := by decide +kernel
theorem dL_matAfter_16 : decode cL_matAfter 16 = .ok (.ireturn, 1) := by decide +kernel
theorem dL_matAfter_17 : decode cL_matAfter 17 = .ok (.iconst 0, 1) := by decide +kernel
theorem dL_matAfter_18 : decode cL_matAfter 18 = .ok (.ireturn, 1) := by decide +kernel
theorem dL_matAnew_0 : decode cL_matAnew 0 = .ok (.aload_n 3, 1) := by decide +kernel
theorem dL_matAnew_1 : decode cL_matAnew 1 = .ok (.iconst 0, 1) := by decide +kernel
theorem dL_matAnew_2 : decode cL_matAnew 2 = .ok (.aload_n 0, 1) := by decide +kernel
theorem dL_matAnew_3 : decode cL_matAnew 3 = .ok (.iload_n 1, 1) := by decide +kernel
theorem dL_matAnew_4 : decode cL_matAnew 4 = .ok (.iload_n 2, 1) := by decide +kernel
theorem dL_matAnew_5 : decode cL_matAnew 5 = .ok (.invokevirtual 76, 3) := by decide +kernel
theorem dL_matAnew_8 : decode cL_matAnew 8 = .ok (.i2l, 1) := by decide +kernel
theorem dL_matAnew_9 : decode cL_matAnew 9 = .ok (.lastore, 1) := by decide +kernel
theorem dL_matAnew_10 : decode cL_matAnew 10 = .ok (.goto 7, 3) := by decide +kernel
theorem dL_matAnew_13 : decode cL_matAnew 13 = .ok (.astore 4, 2) := by decide +kernel
theorem dL_matAnew_15 : decode cL_matAnew 15 = .ok (.iconst 1, 1) := by decide +kernel
theorem dL_matAnew_16 : decode cL_matAnew 16 = .ok (.ireturn, 1) := by decide +kernel
theorem dL_matAnew_17 : decode cL_matAnew 17 = .ok (.iconst 0, 1) := by decide +kernel
theorem dL_matAnew_18 : decode cL_matAnew 18 = .ok (.ireturn, 1) := by decide +kernel
theorem dL_pointsAfter_0 : decode cL_pointsAfter 0 = .ok (.aload_n 3, 1) := by decide +kernel
theorem dL_pointsAfter_1 : decode cL_pointsAfter 1 = .ok (.iconst 0, 1) := by decide +kernel
theorem dL_pointsAfter_2 : decode cL_pointsAfter 2 = .ok (.aload_n 0, 1) := by decide +kernel
theorem dL_pointsAfter_3 : decode cL_pointsAfter 3 = .ok (.iload_n 1, 1) := by decide +kernel
theorem dL_pointsAfter_4 : decode cL_pointsAfter 4 = .ok (.iload_n 2, 1) := by decide +kernel
theorem dL_pointsAfter_5 : decode cL_pointsAfter 5 = .ok (.invokevirtual 79, 3) := by decide +kernel
theorem dL_pointsAfter_8 : decode cL_pointsAfter 8 = .ok (.i2l, 1) := by decide +kernel
theorem dL_pointsAfter_9 : decode cL_pointsAfter 9 = .ok (.lastore, 1) := by decide +kernel
theorem dL_pointsAfter_10 : decode cL_pointsAfter 10 = .ok (.goto 7, 3) := by decide +kernel
theorem dL_pointsAfter_13 : decode cL_pointsAfter 13 = .ok (.astore 4, 2) := by decide +kernel
theorem dL_pointsAfter_15 : decode cL_pointsAfter 15 = .ok (.iconst 1, 1) := by decide +kernel
theorem dL_pointsAfter_16 : decode cL_pointsAfter 16 = .ok (.ireturn, 1) := by decide +kernel
theorem dL_pointsAfter_17 : decode cL_pointsAfter 17 = .ok (.iconst 0, 1) := by decide +kernel
theorem dL_pointsAfter_18 : decode cL_pointsAfter 18 = .ok (.ireturn, 1) := by decide +kernel
theorem dL_raidPoints_0 : decode cL_raidPoints 0 = .ok (.aload_n 3, 1) := by decide +kernel
theorem dL_raidPoints_1 : decode cL_raidPoints 1 = .ok (.iconst 0, 1) := by decide +kernel
theorem dL_raidPoints_2 : decode cL_raidPoints 2 = .ok (.aload_n 0, 1) := by decide +kernel
theorem dL_raidPoints_3 : decode cL_raidPoints 3 = .ok (.iload_n 1, 1) := by decide +kernel
theorem dL_raidPoints_4 : decode cL_raidPoints 4 = .ok (.iload_n 2, 1) := by decide +kernel
theorem dL_raidPoints_5 : decode cL_raidPoints 5 = .ok (.invokevirtual 82, 3) := by decide +kernel
theorem dL_raidPoints_8 : decode cL_raidPoints 8 = .ok (.i2l, 1) := by decide +kernel
theorem dL_raidPoints_9 : decode cL_raidPoints 9 = .ok (.lastore, 1) := by decide +kernel
theorem dL_raidPoints_10 : decode cL_raidPoints 10 = .ok (.goto 11, 3) := by decide +kernel
theorem dL_raidPoints_13 : decode cL_raidPoints 13 = .ok (.astore 4, 2) := by decide +kernel
theorem dL_raidPoints_15 : decode cL_raidPoints 15 = .ok (.iconst 1, 1) := by decide +kernel
theorem dL_raidPoints_16 : decode cL_raidPoints 16 = .ok (.ireturn, 1) := by decide +kernel
theorem dL_raidPoints_17 : decode cL_raidPoints 17 = .ok (.astore 4, 2) := by decide +kernel
theorem dL_raidPoints_19 : decode cL_raidPoints 19 = .ok (.iconst 2, 1) := by decide +kernel
theorem dL_raidPoints_20 : decode cL_raidPoints 20 = .ok (.ireturn, 1) := by decide +kernel
theorem dL_raidPoints_21 : decode cL_raidPoints 21 = .ok (.iconst 0, 1) := by decide +kernel
theorem dL_raidPoints_22 : decode cL_raidPoints 22 = .ok (.ireturn, 1) := by decide +kernel
theorem dL_club_0 : decode cL_club 0 = .ok (.aload_n 3, 1) := by decide +kernel
theorem dL_club_1 : decode cL_club 1 = .ok (.iconst 0, 1) := by decide +kernel
theorem dL_club_2 : decode cL_club 2 = .ok (.aload_n 0, 1) := by decide +kernel
theorem dL_club_3 : decode cL_club 3 = .ok (.iload_n 1, 1) := by decide +kernel
theorem dL_club_4 : decode cL_club 4 = .ok (.iload_n 2, 1) := by decide +kernel
theorem dL_club_5 : decode cL_club 5 = .ok (.invokevirtual 85, 3) := by decide +kernel
theorem dL_club_8 : decode cL_club 8 = .ok (.i2l, 1) := by decide +kernel
theorem dL_club_9 : decode cL_club 9 = .ok (.lastore, 1) := by decide +kernel
theorem dL_club_10 : decode cL_club 10 = .ok (.goto 11, 3) := by decide +kernel
theorem dL_club_13 : decode cL_club 13 = .ok (.astore 4, 2) := by decide +kernel
theorem dL_club_15 : decode cL_club 15 = .ok (.iconst 1, 1) := by decide +kernel
theorem dL_club_16 : decode cL_club 16 = .ok (.ireturn, 1) := by decide +kernel
theorem dL_club_17 : decode cL_club 17 = .ok (.astore 4, 2) := by decide +kernel
theorem dL_club_19 : decode cL_club 19 = .ok (.iconst 2, 1) := by decide +kernel
theorem dL_club_20 : decode cL_club 20 = .ok (.ireturn, 1) := by decide +kernel
theorem dL_club_21 : decode cL_club 21 = .ok (.iconst 0, 1) := by decide +kernel
theorem dL_club_22 : decode cL_club 22 = .ok (.ireturn, 1) := by decide +kernel
theorem dL_right_0 : decode cL_right 0 = .ok (.aload_n 3, 1) := by decide +kernel
theorem dL_right_1 : decode cL_right 1 = .ok (.iconst 0, 1) := by decide +kernel
theorem dL_right_2 : decode cL_right 2 = .ok (.aload_n 0, 1) := by decide +kernel
theorem dL_right_3 : decode cL_right 3 = .ok (.iload_n 1, 1) := by decide +kernel
theorem dL_right_4 : decode cL_right 4 = .ok (.iload_n 2, 1) := by decide +kernel
theorem dL_right_5 : decode cL_right 5 = .ok (.invokevirtual 88, 3) := by decide +kernel
theorem dL_right_8 : decode cL_right 8 = .ok (.i2l, 1) := by decide +kernel
theorem dL_right_9 : decode cL_right 9 = .ok (.lastore, 1) := by decide +kernel
theorem dL_right_10 : decode cL_right 10 = .ok (.goto 11, 3) := by decide +kernel
theorem dL_right_13 : decode cL_right 13 = .ok (.astore 4, 2) := by decide +kernel
theorem dL_right_15 : decode cL_right 15 = .ok (.iconst 1, 1) := by decide +kernel
theorem dL_right_16 : decode cL_right 16 = .ok (.ireturn, 1) := by decide +kernel
theorem dL_right_17 : decode cL_right 17 = .ok (.astore 4, 2) := by decide +kernel
theorem dL_right_19 : decode cL_right 19 = .ok (.iconst 2, 1) := by decide +kernel
theorem dL_right_20 : decode cL_right 20 = .ok (.ireturn, 1) := by decide +kernel
theorem dL_right_21 : decode cL_right 21 = .ok (.iconst 0, 1) := by decide +kernel
theorem dL_right_22 : decode cL_right 22 = .ok (.ireturn, 1) := by decide +kernel
theorem dL_call_0 : decode cL_call 0 = .ok (.aload_n 2, 1) := by decide +kernel
theorem dL_call_1 : decode cL_call 1 = .ok (.iconst 0, 1) := by decide +kernel
theorem dL_call_2 : decode cL_call 2 = .ok (.aload_n 0, 1) := by decide +kernel
theorem dL_call_3 : decode cL_call 3 = .ok (.iload_n 1, 1) := by decide +kernel
theorem dL_call_4 : decode cL_call 4 = .ok (.invokevirtual 91, 3) := by decide +kernel
theorem dL_call_7 : decode cL_call 7 = .ok (.i2l, 1) := by decide +kernel
theorem dL_call_8 : decode cL_call 8 = .ok (.lastore, 1) := by decide +kernel
theorem dL_call_9 : decode cL_call 9 = .ok (.goto 9, 3) := by decide +kernel
theorem dL_call_12 : decode cL_call 12 = .ok (.astore_n 3, 1) := by decide +kernel
theorem dL_call_13 : decode cL_call 13 = .ok (.iconst 1, 1) := by decide +kernel
theorem dL_call_14 : decode cL_call 14 = .ok (.ireturn, 1) := by decide +kernel
theorem dL_call_15 : decode cL_call 15 = .ok (.astore_n 3, 1) := by decide +kernel
theorem dL_call_16 : decode cL_call 16 = .ok (.iconst 2, 1) := by decide +kernel
theorem dL_call_17 : decode cL_call 17 = .ok (.ireturn, 1) := by decide +kernel
theorem dL_call_18 : decode cL_call 18 = .ok (.iconst 0, 1) := by decide +kernel
theorem dL_call_19 : decode cL_call 19 = .ok (.ireturn, 1) := by decide +kernel
theorem dL_bid_0 : decode cL_bid 0 = .ok (.aload_n 3, 1) := by decide +kernel
theorem dL_bid_1 : decode cL_bid 1 = .ok (.iconst 0, 1) := by decide +kernel
theorem dL_bid_2 : decode cL_bid 2 = .ok (.aload_n 0, 1) := by decide +kernel
theorem dL_bid_3 : decode cL_bid 3 = .ok (.iload_n 1, 1) := by decide +kernel
theorem dL_bid_4 : decode cL_bid 4 = .ok (.iload_n 2, 1) := by decide +kernel
theorem dL_bid_5 : decode cL_bid 5 = .ok (.invokevirtual 94, 3) := by decide +kernel
theorem dL_bid_8 : decode cL_bid 8 = .ok (.i2l, 1) := by decide +kernel
theorem dL_bid_9 : decode cL_bid 9 = .ok (.lastore, 1) := by decide +kernel
theorem dL_bid_10 : decode cL_bid 10 = .ok (.goto 15, 3) := by decide +kernel
theorem dL_bid_13 : decode cL_bid 13 = .ok (.astore 4, 2) := by decide +kernel
theorem dL_bid_15 : decode cL_bid 15 = .ok (.iconst 1, 1) := by decide +kernel
theorem dL_bid_16 : decode cL_bid 16 = .ok (.ireturn, 1) := by decide +kernel
theorem dL_bid_17 : decode cL_bid 17 = .ok (.astore 4, 2) := by decide +kernel
theorem dL_bid_19 : decode cL_bid 19 = .ok (.iconst 2, 1) := by decide +kernel
theorem dL_bid_20 : decode cL_bid 20 = .ok (.ireturn, 1) := by decide +kernel
theorem dL_bid_21 : decode cL_bid 21 = .ok (.astore 4, 2) := by decide +kernel
theorem dL_bid_23 : decode cL_bid 23 = .ok (.iconst 3, 1) := by decide +kernel
theorem dL_bid_24 : decode cL_bid 24 = .ok (.ireturn, 1) := by decide +kernel
theorem dL_bid_25 : decode cL_bid 25 = .ok (.iconst 0, 1) := by decide +kernel
theorem dL_bid_26 : decode cL_bid 26 = .ok (.ireturn, 1) := by decide +kernel
theorem dL_hammer_0 : decode cL_hammer 0 = .ok (.aload_n 1, 1) := by decide +kernel
theorem dL_hammer_1 : decode cL_hammer 1 = .ok (.iconst 0, 1) := by decide +kernel
theorem dL_hammer_2 : decode cL_hammer 2 = .ok (.aload_n 0, 1) := by decide +kernel
theorem dL_hammer_3 : decode cL_hammer 3 = .ok (.invokevirtual 97, 3) := by decide +kernel
theorem dL_hammer_6 : decode cL_hammer 6 = .ok (.i2l, 1) := by decide +kernel
theorem dL_hammer_7 : decode cL_hammer 7 = .ok (.lastore, 1) := by decide +kernel
theorem dL_hammer_8 : decode cL_hammer 8 = .ok (.goto 6, 3) := by decide +kernel
theorem dL_hammer_11 : decode cL_hammer 11 = .ok (.astore_n 2, 1) := by decide +kernel
theorem dL_hammer_12 : decode cL_hammer 12 = .ok (.iconst 1, 1) := by decide +kernel
theorem dL_hammer_13 : decode cL_hammer 13 = .ok (.ireturn, 1) := by decide +kernel
theorem dL_hammer_14 : decode cL_hammer 14 = .ok (.iconst 0, 1) := by decide +kernel
theorem dL_hammer_15 : decode cL_hammer 15 = .ok (.ireturn, 1) := by decide +kernel
theorem dL_answer_0 : decode cL_answer 0 = .ok (.aload_n 2, 1) := by decide +kernel
theorem dL_answer_1 : decode cL_answer 1 = .ok (.iconst 0, 1) := by decide +kernel
theorem dL_answer_2 : decode cL_answer 2 = .ok (.aload_n 0, 1) := by decide +kernel
theorem dL_answer_3 : decode cL_answer 3 = .ok (.iload_n 1, 1) := by decide +kernel
theorem dL_answer_4 : decode cL_answer 4 = .ok (.invokevirtual 100, 3) := by decide +kernel
theorem dL_answer_7 : decode cL_answer 7 = .ok (.i2l, 1) := by decide +kernel
theorem dL_answer_8 : decode cL_answer 8 = .ok (.lastore, 1) := by decide +kernel
theorem dL_answer_9 : decode cL_answer 9 = .ok (.goto 6, 3) := by decide +kernel
theorem dL_answer_12 : decode cL_answer 12 = .ok (.astore_n 3, 1) := by decide +kernel
theorem dL_answer_13 : decode cL_answer 13 = .ok (.iconst 1, 1) := by decide +kernel
theorem dL_answer_14 : decode cL_answer 14 = .ok (.ireturn, 1) := by decide +kernel
theorem dL_answer_15 : decode cL_answer 15 = .ok (.iconst 0, 1) := by decide +kernel
theorem dL_answer_16 : decode cL_answer 16 = .ok (.ireturn, 1) := by decide +kernel
theorem dL_lot_0 : decode cL_lot 0 = .ok (.aload_n 3, 1) := by decide +kernel
theorem dL_lot_1 : decode cL_lot 1 = .ok (.iconst 0, 1) := by decide +kernel
theorem dL_lot_2 : decode cL_lot 2 = .ok (.aload_n 0, 1) := by decide +kernel
theorem dL_lot_3 : decode cL_lot 3 = .ok (.iload_n 1, 1) := by decide +kernel
theorem dL_lot_4 : decode cL_lot 4 = .ok (.iload_n 2, 1) := by decide +kernel
theorem dL_lot_5 : decode cL_lot 5 = .ok (.invokevirtual 104, 3) := by decide +kernel
theorem dL_lot_8 : decode cL_lot 8 = .ok (.i2l, 1) := by decide +kernel
theorem dL_lot_9 : decode cL_lot 9 = .ok (.lastore, 1) := by decide +kernel
theorem dL_lot_10 : decode cL_lot 10 = .ok (.goto 11, 3) := by decide +kernel
theorem dL_lot_13 : decode cL_lot 13 = .ok (.astore 4, 2) := by decide +kernel
theorem dL_lot_15 : decode cL_lot 15 = .ok (.iconst 1, 1) := by decide +kernel
theorem dL_lot_16 : decode cL_lot 16 = .ok (.ireturn, 1) := by decide +kernel
theorem dL_lot_17 : decode cL_lot 17 = .ok (.astore 4, 2) := by decide +kernel
theorem dL_lot_19 : decode cL_lot 19 = .ok (.iconst 2, 1) := by decide +kernel
theorem dL_lot_20 : decode cL_lot 20 = .ok (.ireturn, 1) := by decide +kernel
theorem dL_lot_21 : decode cL_lot 21 = .ok (.iconst 0, 1) := by decide +kernel
theorem dL_lot_22 : decode cL_lot 22 = .ok (.ireturn, 1) := by decide +kernel
theorem dL_squad_0 : decode cL_squad 0 = .ok (.aload_n 3, 1) := by decide +kernel
theorem dL_squad_1 : decode cL_squad 1 = .ok (.iconst 0, 1) := by decide +kernel
theorem dL_squad_2 : decode cL_squad 2 = .ok (.aload_n 0, 1) := by decide +kernel
theorem dL_squad_3 : decode cL_squad 3 = .ok (.iload_n 1, 1) := by decide +kernel
theorem dL_squad_4 : decode cL_squad 4 = .ok (.iload_n 2, 1) := by decide +kernel
theorem dL_squad_5 : decode cL_squad 5 = .ok (.invokevirtual 107, 3) := by decide +kernel
theorem dL_squad_8 : decode cL_squad 8 = .ok (.i2l, 1) := by decide +kernel
theorem dL_squad_9 : decode cL_squad 9 = .ok (.lastore, 1) := by decide +kernel
theorem dL_squad_10 : decode cL_squad 10 = .ok (.goto 11, 3) := by decide +kernel
theorem dL_squad_13 : decode cL_squad 13 = .ok (.astore 4, 2) := by decide +kernel
theorem dL_squad_15 : decode cL_squad 15 = .ok (.iconst 1, 1) := by decide +kernel
theorem dL_squad_16 : decode cL_squad 16 = .ok (.ireturn, 1) := by decide +kernel
theorem dL_squad_17 : decode cL_squad 17 = .ok (.astore 4, 2) := by decide +kernel
theorem dL_squad_19 : decode cL_squad 19 = .ok (.iconst 2, 1) := by decide +kernel
theorem dL_squad_20 : decode cL_squad 20 = .ok (.ireturn, 1) := by decide +kernel
theorem dL_squad_21 : decode cL_squad 21 = .ok (.iconst 0, 1) := by decide +kernel
theorem dL_squad_22 : decode cL_squad 22 = .ok (.ireturn, 1) := by decide +kernel
theorem dL_law_0 : decode cL_law 0 = .ok (.new 8, 3) := by decide +kernel
theorem dL_law_3 : decode cL_law 3 = .ok (.dup, 1) := by decide +kernel
theorem dL_law_4 : decode cL_law 4 = .ok (.invokespecial 110, 3) := by decide +kernel
theorem dL_law_7 : decode cL_law 7 = .ok (.astore_n 1, 1) := by decide +kernel
theorem dL_law_8 : decode cL_law 8 = .ok (.new 111, 3) := by decide +kernel
theorem dL_law_11 : decode cL_law 11 = .ok (.dup, 1) := by decide +kernel
theorem dL_law_12 : decode cL_law 12 = .ok (.invokespecial 113, 3) := by decide +kernel
theorem dL_law_15 : decode cL_law 15 = .ok (.astore_n 2, 1) := by decide +kernel
theorem dL_law_16 : decode cL_law 16 = .ok (.iconst 1, 1) := by decide +kernel
theorem dL_law_17 : decode cL_law 17 = .ok (.newarray .long, 2) := by decide +kernel
theorem dL_law_19 : decode cL_law 19 = .ok (.astore_n 3, 1) := by decide +kernel
theorem dL_law_20 : decode cL_law 20 = .ok (.iconst 0, 1) := by decide +kernel
theorem dL_law_21 : decode cL_law 21 = .ok (.istore 4, 2) := by decide +kernel
theorem dL_law_23 : decode cL_law 23 = .ok (.iload 4, 2) := by decide +kernel
theorem dL_law_25 : decode cL_law 25 = .ok (.aload_n 0, 1) := by decide +kernel
theorem dL_law_26 : decode cL_law 26 = .ok (.arraylength, 1) := by decide +kernel
theorem dL_law_27 : decode cL_law 27 = .ok (.bipush 6, 2) := by decide +kernel
theorem dL_law_29 : decode cL_law 29 = .ok (.isub, 1) := by decide +kernel
theorem dL_law_30 : decode cL_law 30 = .ok (.if_icmp .gt 2105, 3) := by decide +kernel
theorem dL_law_33 : decode cL_law 33 = .ok (.aload_n 0, 1) := by decide +kernel
theorem dL_law_34 : decode cL_law 34 = .ok (.iload 4, 2) := by decide +kernel
theorem dL_law_36 : decode cL_law 36 = .ok (.iaload, 1) := by decide +kernel
theorem dL_law_37 : decode cL_law 37 = .ok (.bipush 31, 2) := by decide +kernel
theorem dL_law_39 : decode cL_law 39 = .ok (.iand, 1) := by decide +kernel
theorem dL_law_40 : decode cL_law 40 = .ok (.tableswitch 2089 0 30 #[140, 220, 276, 356, 436, 516, 620, 712, 768, 812, 868, 881, 894, 938, 1006, 1074, 1130, 1186, 1242, 1305, 1373, 1441, 1509, 1577, 1645, 1713, 1769, 1837, 1881, 1953, 2021], 140) := by decide +kernel
theorem dL_law_180 : decode cL_law 180 = .ok (.aload_n 1, 1) := by decide +kernel
theorem dL_law_181 : decode cL_law 181 = .ok (.aload_n 0, 1) := by decide +kernel
theorem dL_law_182 : decode cL_law 182 = .ok (.iload 4, 2) := by decide +kernel
theorem dL_law_184 : decode cL_law 184 = .ok (.iconst 1, 1) := by decide +kernel
theorem dL_law_185 : decode cL_law 185 = .ok (.iadd, 1) := by decide +kernel
theorem dL_law_186 : decode cL_law 186 = .ok (.iaload, 1) := by decide +kernel
theorem dL_law_187 : decode cL_law 187 = .ok (.aload_n 0, 1) := by decide +kernel
theorem dL_law_188 : decode cL_law 188 = .ok (.iload 4, 2) := by decide +kernel
theorem dL_law_190 : decode cL_law 190 = .ok (.iconst 2, 1) := by decide +kernel
theorem dL_law_191 : decode cL_law 191 = .ok (.iadd, 1) := by decide +kernel
theorem dL_law_192 : decode cL_law 192 = .ok (.iaload, 1) := by decide +kernel
theorem dL_law_193 : decode cL_law 193 = .ok (.aload_n 0, 1) := by decide +kernel
theorem dL_law_194 : decode cL_law 194 = .ok (.iload 4, 2) := by decide +kernel
theorem dL_law_196 : decode cL_law 196 = .ok (.iconst 3, 1) := by decide +kernel
theorem dL_law_197 : decode cL_law 197 = .ok (.iadd, 1) := by decide +kernel
theorem dL_law_198 : decode cL_law 198 = .ok (.iaload, 1) := by decide +kernel
theorem dL_law_199 : decode cL_law 199 = .ok (.aload_n 3, 1) := by decide +kernel
theorem dL_law_200 : decode cL_law 200 = .ok (.invokestatic 114, 3) := by decide +kernel
theorem dL_law_203 : decode cL_law 203 = .ok (.istore 5, 2) := by decide +kernel
theorem dL_law_205 : decode cL_law 205 = .ok (.aload_n 2, 1) := by decide +kernel
theorem dL_law_206 : decode cL_law 206 = .ok (.aload_n 0, 1) := by decide +kernel
theorem dL_law_207 : decode cL_law 207 = .ok (.iload 4, 2) := by decide +kernel
theorem dL_law_209 : decode cL_law 209 = .ok (.iconst 1, 1) := by decide +kernel
theorem dL_law_210 : decode cL_law 210 = .ok (.iadd, 1) := by decide +kernel
theorem dL_law_211 : decode cL_law 211 = .ok (.iaload, 1) := by decide +kernel
theorem dL_law_212 : decode cL_law 212 = .ok (.aload_n 0, 1) := by decide +kernel
theorem dL_law_213 : decode cL_law 213 = .ok (.iload 4, 2) := by decide +kernel
theorem dL_law_215 : decode cL_law 215 = .ok (.iconst 2, 1) := by decide +kernel
theorem dL_law_216 : decode cL_law 216 = .ok (.iadd, 1) := by decide +kernel
theorem dL_law_217 : decode cL_law 217 = .ok (.iaload, 1) := by decide +kernel
theorem dL_law_218 : decode cL_law 218 = .ok (.aload_n 0, 1) := by decide +kernel
theorem dL_law_219 : decode cL_law 219 = .ok (.iload 4, 2) := by decide +kernel
theorem dL_law_221 : decode cL_law 221 = .ok (.iconst 3, 1) := by decide +kernel
theorem dL_law_222 : decode cL_law 222 = .ok (.iadd, 1) := by decide +kernel
theorem dL_law_223 : decode cL_law 223 = .ok (.iaload, 1) := by decide +kernel
theorem dL_law_224 : decode cL_law 224 = .ok (.invokevirtual 119, 3) := by decide +kernel
theorem dL_law_227 : decode cL_law 227 = .ok (.istore 6, 2) := by decide +kernel
theorem dL_law_229 : decode cL_law 229 = .ok (.aload_n 2, 1) := by decide +kernel
theorem dL_law_230 : decode cL_law 230 = .ok (.invokevirtual 120, 3) := by decide +kernel
theorem dL_law_233 : decode cL_law 233 = .ok (.iload 5, 2) := by decide +kernel
theorem dL_law_235 : decode cL_law 235 = .ok (.if_icmp .eq 5, 3) := by decide +kernel
theorem dL_law_238 : decode cL_law 238 = .ok (.iconst 0, 1) := by decide +kernel
theorem dL_law_239 : decode cL_law 239 = .ok (.ireturn, 1) := by decide +kernel
theorem dL_law_240 : decode cL_law 240 = .ok (.iload 5, 2) := by decide +kernel
theorem dL_law_242 : decode cL_law 242 = .ok (.ifCond .ne 15, 3) := by decide +kernel
theorem dL_law_245 : decode cL_law 245 = .ok (.aload_n 3, 1) := by decide +kernel
theorem dL_law_246 : decode cL_law 246 = .ok (.iconst 0, 1) := by decide +kernel
theorem dL_law_247 : decode cL_law 247 = .ok (.laload, 1) := by decide +kernel
theorem dL_law_248 : decode cL_law 248 = .ok (.iload 6, 2) := by decide +kernel
theorem dL_law_250 : decode cL_law 250 = .ok (.i2l, 1) := by decide +kernel
theorem dL_law_251 : decode cL_law 251 = .ok (.lcmp, 1) := by decide +kernel
theorem dL_law_252 : decode cL_law 252 = .ok (.ifCond .eq 5, 3) := by decide +kernel
theorem dL_law_255 : decode cL_law 255 = .ok (.iconst 0, 1) := by decide +kernel
theorem dL_law_256 : decode cL_law 256 = .ok (.ireturn, 1) := by decide +kernel
theorem dL_law_257 : decode cL_law 257 = .ok (.goto 1872, 3) := by decide +kernel
theorem dL_law_260 : decode cL_law 260 = .ok (.aload_n 1, 1) := by decide +kernel
theorem dL_law_261 : decode cL_law 261 = .ok (.aload_n 0, 1) := by decide +kernel
theorem dL_law_262 : decode cL_law 262 = .ok (.iload 4, 2) := by decide +kernel
theorem dL_law_264 : decode cL_law 264 = .ok (.iconst 1, 1) := by decide +kernel
theorem dL_law_265 : decode cL_law 265 = .ok (.iadd, 1) := by decide +kernel
theorem dL_law_266 : decode cL_law 266 = .ok (.iaload, 1) := by decide +kernel
theorem dL_law_267 : decode cL_law 267 = .ok (.aload_n 3, 1) := by decide +kernel
theorem dL_law_268 : decode cL_law 268 = .ok (.invokestatic 123, 3) := by decide +kernel
theorem dL_law_271 : decode cL_law 271 = .ok (.istore 5, 2) := by decide +kernel
theorem dL_law_273 : decode cL_law 273 = .ok (.aload_n 2, 1) := by decide +kernel
theorem dL_law_274 : decode cL_law 274 = .ok (.aload_n 0, 1) := by decide +kernel
theorem dL_law_275 : decode cL_law 275 = .ok (.iload 4, 2) := by decide +kernel
theorem dL_law_277 : decode cL_law 277 = .ok (.iconst 1, 1) := by decide +kernel
theorem dL_law_278 : decode cL_law 278 = .ok (.iadd, 1) := by decide +kernel
theorem dL_law_279 : decode cL_law 279 = .ok (.iaload, 1) := by decide +kernel
theorem dL_law_280 : decode cL_law 280 = .ok (.invokevirtual 126, 3) := by decide +kernel
theorem dL_law_283 : decode cL_law 283 = .ok (.istore 6, 2) := by decide +kernel
theorem dL_law_285 : decode cL_law 285 = .ok (.aload_n 2, 1) := by decide +kernel
theorem dL_law_286 : decode cL_law 286 = .ok (.invokevirtual 120, 3) := by decide +kernel
theorem dL_law_289 : decode cL_law 289 = .ok (.iload 5, 2) := by decide +kernel
theorem dL_law_291 : decode cL_law 291 = .ok (.if_icmp .eq 5, 3) := by decide +kernel
theorem dL_law_294 : decode cL_law 294 = .ok (.iconst 0, 1) := by decide +kernel
theorem dL_law_295 : decode cL_law 295 = .ok (.ireturn, 1) := by decide +kernel
theorem dL_law_296 : decode cL_law 296 = .ok (.iload 5, 2) := by decide +kernel
theorem dL_law_298 : decode cL_law 298 = .ok (.ifCond .ne 15, 3) := by decide +kernel
theorem dL_law_301 : decode cL_law 301 = .ok (.aload_n 3, 1) := by decide +kernel
theorem dL_law_302 : decode cL_law 302 = .ok (.iconst 0, 1) := by decide +kernel
theorem dL_law_303 : decode cL_law 303 = .ok (.laload, 1) := by decide +kernel
theorem dL_law_304 : decode cL_law 304 = .ok (.iload 6, 2) := by decide +kernel
theorem dL_law_306 : decode cL_law 306 = .ok (.i2l, 1) := by decide +kernel
theorem dL_law_307 : decode cL_law 307 = .ok (.lcmp, 1) := by decide +kernel
theorem dL_law_308 : decode cL_law 308 = .ok (.ifCond .eq 5, 3) := by decide +kernel
theorem dL_law_311 : decode cL_law 311 = .ok (.iconst 0, 1) := by decide +kernel
theorem dL_law_312 : decode cL_law 312 = .ok (.ireturn, 1) := by decide +kernel
theorem dL_law_313 : decode cL_law 313 = .ok (.goto 1816, 3) := by decide +kernel
theorem dL_law_316 : decode cL_law 316 = .ok (.aload_n 1, 1) := by decide +kernel
theorem dL_law_317 : decode cL_law 317 = .ok (.aload_n 0, 1) := by decide +kernel
theorem dL_law_318 : decode cL_law 318 = .ok (.iload 4, 2) := by decide +kernel
theorem dL_law_320 : decode cL_law 320 = .ok (.iconst 1, 1) := by decide +kernel
theorem dL_law_321 : decode cL_law 321 = .ok (.iadd, 1) := by decide +kernel
theorem dL_law_322 : decode cL_law 322 = .ok (.iaload, 1) := by decide +kernel
theorem dL_law_323 : decode cL_law 323 = .ok (.aload_n 0, 1) := by decide +kernel
theorem dL_law_324 : decode cL_law 324 = .ok (.iload 4, 2) := by decide +kernel
theorem dL_law_326 : decode cL_law 326 = .ok (.iconst 2, 1) := by decide +kernel
theorem dL_law_327 : decode cL_law 327 = .ok (.iadd, 1) := by decide +kernel
theorem dL_law_328 : decode cL_law 328 = .ok (.iaload, 1) := by decide +kernel
theorem dL_law_329 : decode cL_law 329 = .ok (.aload_n 0, 1) := by decide +kernel
theorem dL_law_330 : decode cL_law 330 = .ok (.iload 4, 2) := by decide +kernel
theorem dL_law_332 : decode cL_law 332 = .ok (.iconst 3, 1) := by decide +kernel
theorem dL_law_333 : decode cL_law 333 = .ok (.iadd, 1) := by decide +kernel
theorem dL_law_334 : decode cL_law 334 = .ok (.iaload, 1) := by decide +kernel
theorem dL_law_335 : decode cL_law 335 = .ok (.aload_n 3, 1) := by decide +kernel
theorem dL_law_336 : decode cL_law 336 = .ok (.invokestatic 127, 3) := by decide +kernel
theorem dL_law_339 : decode cL_law 339 = .ok (.istore 5, 2) := by decide +kernel
theorem dL_law_341 : decode cL_law 341 = .ok (.aload_n 2, 1) := by decide +kernel
theorem dL_law_342 : decode cL_law 342 = .ok (.aload_n 0, 1) := by decide +kernel
theorem dL_law_343 : decode cL_law 343 = .ok (.iload 4, 2) := by decide +kernel
theorem dL_law_345 : decode cL_law 345 = .ok (.iconst 1, 1) := by decide +kernel
theorem dL_law_346 : decode cL_law 346 = .ok (.iadd, 1) := by decide +kernel
theorem dL_law_347 : decode cL_law 347 = .ok (.iaload, 1) := by decide +kernel
theorem dL_law_348 : decode cL_law 348 = .ok (.aload_n 0, 1) := by decide +kernel
theorem dL_law_349 : decode cL_law 349 = .ok (.iload 4, 2) := by decide +kernel
theorem dL_law_351 : decode cL_law 351 = .ok (.iconst 2, 1) := by decide +kernel
theorem dL_law_352 : decode cL_law 352 = .ok (.iadd, 1) := by decide +kernel
theorem dL_law_353 : decode cL_law 353 = .ok (.iaload, 1) := by decide +kernel
theorem dL_law_354 : decode cL_law 354 = .ok (.aload_n 0, 1) := by decide +kernel
theorem dL_law_355 : decode cL_law 355 = .ok (.iload 4, 2) := by decide +kernel
theorem dL_law_357 : decode cL_law 357 = .ok (.iconst 3, 1) := by decide +kernel
theorem dL_law_358 : decode cL_law 358 = .ok (.iadd, 1) := by decide +kernel
theorem dL_law_359 : decode cL_law 359 = .ok (.iaload, 1) := by decide +kernel
theorem dL_law_360 : decode cL_law 360 = .ok (.invokevirtual 129, 3) := by decide +kernel
theorem dL_law_363 : decode cL_law 363 = .ok (.istore 6, 2) := by decide +kernel
theorem dL_law_365 : decode cL_law 365 = .ok (.aload_n 2, 1) := by decide +kernel
theorem dL_law_366 : decode cL_law 366 = .ok (.invokevirtual 120, 3) := by decide +kernel
theorem dL_law_369 : decode cL_law 369 = .ok (.iload 5, 2) := by decide +kernel
theorem dL_law_371 : decode cL_law 371 = .ok (.if_icmp .eq 5, 3) := by decide +kernel
theorem dL_law_374 : decode cL_law 374 = .ok (.iconst 0, 1) := by decide +kernel
theorem dL_law_375 : decode cL_law 375 = .ok (.ireturn, 1) := by decide +kernel
theorem dL_law_376 : decode cL_law 376 = .ok (.iload 5, 2) := by decide +kernel
theorem dL_law_378 : decode cL_law 378 = .ok (.ifCond .ne 15, 3) := by decide +kernel
theorem dL_law_381 : decode cL_law 381 = .ok (.aload_n 3, 1) := by decide +kernel
theorem dL_law_382 : decode cL_law 382 = .ok (.iconst 0, 1) := by decide +kernel
theorem dL_law_383 : decode cL_law 383 = .ok (.laload, 1) := by decide +kernel
theorem dL_law_384 : decode cL_law 384 = .ok (.iload 6, 2) := by decide +kernel
theorem dL_law_386 : decode cL_law 386 = .ok (.i2l, 1) := by decide +kernel
theorem dL_law_387 : decode cL_law 387 = .ok (.lcmp, 1) := by decide +kernel
theorem dL_law_388 : decode cL_law 388 = .ok (.ifCond .eq 5, 3) := by decide +kernel
theorem dL_law_391 : decode cL_law 391 = .ok (.iconst 0, 1) := by decide +kernel
theorem dL_law_392 : decode cL_law 392 = .ok (.ireturn, 1) := by decide +kernel
theorem dL_law_393 : decode cL_law 393 = .ok (.goto 1736, 3) := by decide +kernel
theorem dL_law_396 : decode cL_law 396 = .ok (.aload_n 1, 1) := by decide +kernel
theorem dL_law_397 : decode cL_law 397 = .ok (.aload_n 0, 1) := by decide +kernel
theorem dL_law_398 : decode cL_law 398 = .ok (.iload 4, 2) := by decide +kernel
theorem dL_law_400 : decode cL_law 400 = .ok (.iconst 1, 1) := by decide +kernel
theorem dL_law_401 : decode cL_law 401 = .ok (.iadd, 1) := by decide +kernel
theorem dL_law_402 : decode cL_law 402 = .ok (.iaload, 1) := by decide +kernel
theorem dL_law_403 : decode cL_law 403 = .ok (.aload_n 0, 1) := by decide +kernel
theorem dL_law_404 : decode cL_law 404 = .ok (.iload 4, 2) := by decide +kernel
theorem dL_law_406 : decode cL_law 406 = .ok (.iconst 2, 1) := by decide +kernel
theorem dL_law_407 : decode cL_law 407 = .ok (.iadd, 1) := by decide +kernel
theorem dL_law_408 : decode cL_law 408 = .ok (.iaload, 1) := by decide +kernel
theorem dL_law_409 : decode cL_law 409 = .ok (.aload_n 0, 1) := by decide +kernel
theorem dL_law_410 : decode cL_law 410 = .ok (.iload 4, 2) := by decide +kernel
theorem dL_law_412 : decode cL_law 412 = .ok (.iconst 3, 1) := by decide +kernel
theorem dL_law_413 : decode cL_law 413 = .ok (.iadd, 1) := by decide +kernel
theorem dL_law_414 : decode cL_law 414 = .ok (.iaload, 1) := by decide +kernel
theorem dL_law_415 : decode cL_law 415 = .ok (.aload_n 3, 1) := by decide +kernel
theorem dL_law_416 : decode cL_law 416 = .ok (.invokestatic 130, 3) := by decide +kernel
theorem dL_law_419 : decode cL_law 419 = .ok (.istore 5, 2) := by decide +kernel
theorem dL_law_421 : decode cL_law 421 = .ok (.aload_n 2, 1) := by decide +kernel
theorem dL_law_422 : decode cL_law 422 = .ok (.aload_n 0, 1) := by decide +kernel
theorem dL_law_423 : decode cL_law 423 = .ok (.iload 4, 2) := by decide +kernel
theorem dL_law_425 : decode cL_law 425 = .ok (.iconst 1, 1) := by decide +kernel
theorem dL_law_426 : decode cL_law 426 = .ok (.iadd, 1) := by decide +kernel
theorem dL_law_427 : decode cL_law 427 = .ok (.iaload, 1) := by decide +kernel
theorem dL_law_428 : decode cL_law 428 = .ok (.aload_n 0, 1) := by decide +kernel
theorem dL_law_429 : decode cL_law 429 = .ok (.iload 4, 2) := by decide +kernel
theorem dL_law_431 : decode cL_law 431 = .ok (.iconst 2, 1) := by decide +kernel
theorem dL_law_432 : decode cL_law 432 = .ok (.iadd, 1) := by decide +kernel
theorem dL_law_433 : decode cL_law 433 = .ok (.iaload, 1) := by decide +kernel
theorem dL_law_434 : decode cL_law 434 = .ok (.aload_n 0, 1) := by decide +kernel
theorem dL_law_435 : decode cL_law 435 = .ok (.iload 4, 2) := by decide +kernel
theorem dL_law_437 : decode cL_law 437 = .ok (.iconst 3, 1) := by decide +kernel
theorem dL_law_438 : decode cL_law 438 = .ok (.iadd, 1) := by decide +kernel
theorem dL_law_439 : decode cL_law 439 = .ok (.iaload, 1) := by decide +kernel
theorem dL_law_440 : decode cL_law 440 = .ok (.invokevirtual 132, 3) := by decide +kernel
theorem dL_law_443 : decode cL_law 443 = .ok (.istore 6, 2) := by decide +kernel
theorem dL_law_445 : decode cL_law 445 = .ok (.aload_n 2, 1) := by decide +kernel
theorem dL_law_446 : decode cL_law 446 = .ok (.invokevirtual 120, 3) := by decide +kernel
theorem dL_law_449 : decode cL_law 449 = .ok (.iload 5, 2) := by decide +kernel
theorem dL_law_451 : decode cL_law 451 = .ok (.if_icmp .eq 5, 3) := by decide +kernel
theorem dL_law_454 : decode cL_law 454 = .ok (.iconst 0, 1) := by decide +kernel
theorem dL_law_455 : decode cL_law 455 = .ok (.ireturn, 1) := by decide +kernel
theorem dL_law_456 : decode cL_law 456 = .ok (.iload 5, 2) := by decide +kernel
theorem dL_law_458 : decode cL_law 458 = .ok (.ifCond .ne 15, 3) := by decide +kernel
theorem dL_law_461 : decode cL_law 461 = .ok (.aload_n 3, 1) := by decide +kernel
theorem dL_law_462 : decode cL_law 462 = .ok (.iconst 0, 1) := by decide +kernel
theorem dL_law_463 : decode cL_law 463 = .ok (.laload, 1) := by decide +kernel
theorem dL_law_464 : decode cL_law 464 = .ok (.iload 6, 2) := by decide +kernel
theorem dL_law_466 : decode cL_law 466 = .ok (.i2l, 1) := by decide +kernel
theorem dL_law_467 : decode cL_law 467 = .ok (.lcmp, 1) := by decide +kernel
theorem dL_law_468 : decode cL_law 468 = .ok (.ifCond .eq 5, 3) := by decide +kernel
theorem dL_law_471 : decode cL_law 471 = .ok (.iconst 0, 1) := by decide +kernel
theorem dL_law_472 : decode cL_law 472 = .ok (.ireturn, 1) := by decide +kernel
theorem dL_law_473 : decode cL_law 473 = .ok (.goto 1656, 3) := by decide +kernel
theorem dL_law_476 : decode cL_law 476 = .ok (.aload_n 1, 1) := by decide +kernel
theorem dL_law_477 : decode cL_law 477 = .ok (.aload_n 0, 1) := by decide +kernel
theorem dL_law_478 : decode cL_law 478 = .ok (.iload 4, 2) := by decide +kernel
theorem dL_law_480 : decode cL_law 480 = .ok (.iconst 1, 1) := by decide +kernel
theorem dL_law_481 : decode cL_law 481 = .ok (.iadd, 1) := by decide +kernel
theorem dL_law_482 : decode cL_law 482 = .ok (.iaload, 1) := by decide +kernel
theorem dL_law_483 : decode cL_law 483 = .ok (.aload_n 0, 1) := by decide +kernel
theorem dL_law_484 : decode cL_law 484 = .ok (.iload 4, 2) := by decide +kernel
theorem dL_law_486 : decode cL_law 486 = .ok (.iconst 2, 1) := by decide +kernel
theorem dL_law_487 : decode cL_law 487 = .ok (.iadd, 1) := by decide +kernel
theorem dL_law_488 : decode cL_law 488 = .ok (.iaload, 1) := by decide +kernel
theorem dL_law_489 : decode cL_law 489 = .ok (.aload_n 0, 1) := by decide +kernel
theorem dL_law_490 : decode cL_law 490 = .ok (.iload 4, 2) := by decide +kernel
theorem dL_law_492 : decode cL_law 492 = .ok (.iconst 3, 1) := by decide +kernel
theorem dL_law_493 : decode cL_law 493 = .ok (.iadd, 1) := by decide +kernel
theorem dL_law_494 : decode cL_law 494 = .ok (.iaload, 1) := by decide +kernel
theorem dL_law_495 : decode cL_law 495 = .ok (.aload_n 3, 1) := by decide +kernel
theorem dL_law_496 : decode cL_law 496 = .ok (.invokestatic 133, 3) := by decide +kernel
theorem dL_law_499 : decode cL_law 499 = .ok (.istore 5, 2) := by decide +kernel
theorem dL_law_501 : decode cL_law 501 = .ok (.aload_n 2, 1) := by decide +kernel
theorem dL_law_502 : decode cL_law 502 = .ok (.aload_n 0, 1) := by decide +kernel
theorem dL_law_503 : decode cL_law 503 = .ok (.iload 4, 2) := by decide +kernel
theorem dL_law_505 : decode cL_law 505 = .ok (.iconst 1, 1) := by decide +kernel
theorem dL_law_506 : decode cL_law 506 = .ok (.iadd, 1) := by decide +kernel
theorem dL_law_507 : decode cL_law 507 = .ok (.iaload, 1) := by decide +kernel
theorem dL_law_508 : decode cL_law 508 = .ok (.aload_n 0, 1) := by decide +kernel
theorem dL_law_509 : decode cL_law 509 = .ok (.iload 4, 2) := by decide +kernel
theorem dL_law_511 : decode cL_law 511 = .ok (.iconst 2, 1) := by decide +kernel
theorem dL_law_512 : decode cL_law 512 = .ok (.iadd, 1) := by decide +kernel
theorem dL_law_513 : decode cL_law 513 = .ok (.iaload, 1) := by decide +kernel
theorem dL_law_514 : decode cL_law 514 = .ok (.aload_n 0, 1) := by decide +kernel
theorem dL_law_515 : decode cL_law 515 = .ok (.iload 4, 2) := by decide +kernel
theorem dL_law_517 : decode cL_law 517 = .ok (.iconst 3, 1) := by decide +kernel
theorem dL_law_518 : decode cL_law 518 = .ok (.iadd, 1) := by decide +kernel
theorem dL_law_519 : decode cL_law 519 = .ok (.iaload, 1) := by decide +kernel
theorem dL_law_520 : decode cL_law 520 = .ok (.invokevirtual 135, 3) := by decide +kernel
theorem dL_law_523 : decode cL_law 523 = .ok (.istore 6, 2) := by decide +kernel
theorem dL_law_525 : decode cL_law 525 = .ok (.aload_n 2, 1) := by decide +kernel
theorem dL_law_526 : decode cL_law 526 = .ok (.invokevirtual 120, 3) := by decide +kernel
theorem dL_law_529 : decode cL_law 529 = .ok (.iload 5, 2) := by decide +kernel
theorem dL_law_531 : decode cL_law 531 = .ok (.if_icmp .eq 5, 3) := by decide +kernel
theorem dL_law_534 : decode cL_law 534 = .ok (.iconst 0, 1) := by decide +kernel
theorem dL_law_535 : decode cL_law 535 = .ok (.ireturn, 1) := by decide +kernel
theorem dL_law_536 : decode cL_law 536 = .ok (.iload 5, 2) := by decide +kernel
theorem dL_law_538 : decode cL_law 538 = .ok (.ifCond .ne 15, 3) := by decide +kernel
theorem dL_law_541 : decode cL_law 541 = .ok (.aload_n 3, 1) := by decide +kernel
theorem dL_law_542 : decode cL_law 542 = .ok (.iconst 0, 1) := by decide +kernel
theorem dL_law_543 : decode cL_law 543 = .ok (.laload, 1) := by decide +kernel
theorem dL_law_544 : decode cL_law 544 = .ok (.iload 6, 2) := by decide +kernel
theorem dL_law_546 : decode cL_law 546 = .ok (.i2l, 1) := by decide +kernel
theorem dL_law_547 : decode cL_law 547 = .ok (.lcmp, 1) := by decide +kernel
theorem dL_law_548 : decode cL_law 548 = .ok (.ifCond .eq 5, 3) := by decide +kernel
theorem dL_law_551 : decode cL_law 551 = .ok (.iconst 0, 1) := by decide +kernel
theorem dL_law_552 : decode cL_law 552 = .ok (.ireturn, 1) := by decide +kernel
theorem dL_law_553 : decode cL_law 553 = .ok (.goto 1576, 3) := by decide +kernel
theorem dL_law_556 : decode cL_law 556 = .ok (.aload_n 1, 1) := by decide +kernel
theorem dL_law_557 : decode cL_law 557 = .ok (.aload_n 0, 1) := by decide +kernel
theorem dL_law_558 : decode cL_law 558 = .ok (.iload 4, 2) := by decide +kernel
theorem dL_law_560 : decode cL_law 560 = .ok (.iconst 1, 1) := by decide +kernel
theorem dL_law_561 : decode cL_law 561 = .ok (.iadd, 1) := by decide +kernel
theorem dL_law_562 : decode cL_law 562 = .ok (.iaload, 1) := by decide +kernel
theorem dL_law_563 : decode cL_law 563 = .ok (.aload_n 0, 1) := by decide +kernel
theorem dL_law_564 : decode cL_law 564 = .ok (.iload 4, 2) := by decide +kernel
theorem dL_law_566 : decode cL_law 566 = .ok (.iconst 2, 1) := by decide +kernel
theorem dL_law_567 : decode cL_law 567 = .ok (.iadd, 1) := by decide +kernel
theorem dL_law_568 : decode cL_law 568 = .ok (.iaload, 1) := by decide +kernel
theorem dL_law_569 : decode cL_law 569 = .ok (.aload_n 0, 1) := by decide +kernel
theorem dL_law_570 : decode cL_law 570 = .ok (.iload 4, 2) := by decide +kernel
theorem dL_law_572 : decode cL_law 572 = .ok (.iconst 3, 1) := by decide +kernel
theorem dL_law_573 : decode cL_law 573 = .ok (.iadd, 1) := by decide +kernel
theorem dL_law_574 : decode cL_law 574 = .ok (.iaload, 1) := by decide +kernel
theorem dL_law_575 : decode cL_law 575 = .ok (.aload_n 0, 1) := by decide +kernel
theorem dL_law_576 : decode cL_law 576 = .ok (.iload 4, 2) := by decide +kernel
theorem dL_law_578 : decode cL_law 578 = .ok (.iconst 4, 1) := by decide +kernel
theorem dL_law_579 : decode cL_law 579 = .ok (.iadd, 1) := by decide +kernel
theorem dL_law_580 : decode cL_law 580 = .ok (.iaload, 1) := by decide +kernel
theorem dL_law_581 : decode cL_law 581 = .ok (.aload_n 0, 1) := by decide +kernel
theorem dL_law_582 : decode cL_law 582 = .ok (.iload 4, 2) := by decide +kernel
theorem dL_law_584 : decode cL_law 584 = .ok (.iconst 5, 1) := by decide +kernel
theorem dL_law_585 : decode cL_law 585 = .ok (.iadd, 1) := by decide +kernel
theorem dL_law_586 : decode cL_law 586 = .ok (.iaload, 1) := by decide +kernel
theorem dL_law_587 : decode cL_law 587 = .ok (.aload_n 3, 1) := by decide +kernel
theorem dL_law_588 : decode cL_law 588 = .ok (.invokestatic 136, 3) := by decide +kernel
theorem dL_law_591 : decode cL_law 591 = .ok (.istore 5, 2) := by decide +kernel
theorem dL_law_593 : decode cL_law 593 = .ok (.aload_n 2, 1) := by decide +kernel
theorem dL_law_594 : decode cL_law 594 = .ok (.aload_n 0, 1) := by decide +kernel
theorem dL_law_595 : decode cL_law 595 = .ok (.iload 4, 2) := by decide +kernel
theorem dL_law_597 : decode cL_law 597 = .ok (.iconst 1, 1) := by decide +kernel
theorem dL_law_598 : decode cL_law 598 = .ok (.iadd, 1) := by decide +kernel
theorem dL_law_599 : decode cL_law 599 = .ok (.iaload, 1) := by decide +kernel
theorem dL_law_600 : decode cL_law 600 = .ok (.aload_n 0, 1) := by decide +kernel
theorem dL_law_601 : decode cL_law 601 = .ok (.iload 4, 2) := by decide +kernel
theorem dL_law_603 : decode cL_law 603 = .ok (.iconst 2, 1) := by decide +kernel
theorem dL_law_604 : decode cL_law 604 = .ok (.iadd, 1) := by decide +kernel
theorem dL_law_605 : decode cL_law 605 = .ok (.iaload, 1) := by decide +kernel
theorem dL_law_606 : decode cL_law 606 = .ok (.aload_n 0, 1) := by decide +kernel
theorem dL_law_607 : decode cL_law 607 = .ok (.iload 4, 2) := by decide +kernel
theorem dL_law_609 : decode cL_law 609 = .ok (.iconst 3, 1) := by decide +kernel
theorem dL_law_610 : decode cL_law 610 = .ok (.iadd, 1) := by decide +kernel
theorem dL_law_611 : decode cL_law 611 = .ok (.iaload, 1) := by decide +kernel
theorem dL_law_612 : decode cL_law 612 = .ok (.aload_n 0, 1) := by decide +kernel
theorem dL_law_613 : decode cL_law 613 = .ok (.iload 4, 2) := by decide +kernel
theorem dL_law_615 : decode cL_law 615 = .ok (.iconst 4, 1) := by decide +kernel
theorem dL_law_616 : decode cL_law 616 = .ok (.iadd, 1) := by decide +kernel
theorem dL_law_617 : decode cL_law 617 = .ok (.iaload, 1) := by decide +kernel
theorem dL_law_618 : decode cL_law 618 = .ok (.aload_n 0, 1) := by decide +kernel
theorem dL_law_619 : decode cL_law 619 = .ok (.iload 4, 2) := by decide +kernel
theorem dL_law_621 : decode cL_law 621 = .ok (.iconst 5, 1) := by decide +kernel
theorem dL_law_622 : decode cL_law 622 = .ok (.iadd, 1) := by decide +kernel
theorem dL_law_623 : decode cL_law 623 = .ok (.iaload, 1) := by decide +kernel
theorem dL_law_624 : decode cL_law 624 = .ok (.invokevirtual 139, 3) := by decide +kernel
theorem dL_law_627 : decode cL_law 627 = .ok (.istore 6, 2) := by decide +kernel
theorem dL_law_629 : decode cL_law 629 = .ok (.aload_n 2, 1) := by decide +kernel
theorem dL_law_630 : decode cL_law 630 = .ok (.invokevirtual 120, 3) := by decide +kernel
theorem dL_law_633 : decode cL_law 633 = .ok (.iload 5, 2) := by decide +kernel
theorem dL_law_635 : decode cL_law 635 = .ok (.if_icmp .eq 5, 3) := by decide +kernel
theorem dL_law_638 : decode cL_law 638 = .ok (.iconst 0, 1) := by decide +kernel
theorem dL_law_639 : decode cL_law 639 = .ok (.ireturn, 1) := by decide +kernel
theorem dL_law_640 : decode cL_law 640 = .ok (.iload 5, 2) := by decide +kernel
theorem dL_law_642 : decode cL_law 642 = .ok (.ifCond .ne 15, 3) := by decide +kernel
theorem dL_law_645 : decode cL_law 645 = .ok (.aload_n 3, 1) := by decide +kernel
theorem dL_law_646 : decode cL_law 646 = .ok (.iconst 0, 1) := by decide +kernel
theorem dL_law_647 : decode cL_law 647 = .ok (.laload, 1) := by decide +kernel
theorem dL_law_648 : decode cL_law 648 = .ok (.iload 6, 2) := by decide +kernel
theorem dL_law_650 : decode cL_law 650 = .ok (.i2l, 1) := by decide +kernel
theorem dL_law_651 : decode cL_law 651 = .ok (.lcmp, 1) := by decide +kernel
theorem dL_law_652 : decode cL_law 652 = .ok (.ifCond .eq 5, 3) := by decide +kernel
theorem dL_law_655 : decode cL_law 655 = .ok (.iconst 0, 1) := by decide +kernel
theorem dL_law_656 : decode cL_law 656 = .ok (.ireturn, 1) := by decide +kernel
theorem dL_law_657 : decode cL_law 657 = .ok (.goto 1472, 3) := by decide +kernel
theorem dL_law_660 : decode cL_law 660 = .ok (.aload_n 1, 1) := by decide +kernel
theorem dL_law_661 : decode cL_law 661 = .ok (.aload_n 0, 1) := by decide +kernel
theorem dL_law_662 : decode cL_law 662 = .ok (.iload 4, 2) := by decide +kernel
theorem dL_law_664 : decode cL_law 664 = .ok (.iconst 1, 1) := by decide +kernel
theorem dL_law_665 : decode cL_law 665 = .ok (.iadd, 1) := by decide +kernel
theorem dL_law_666 : decode cL_law 666 = .ok (.iaload, 1) := by decide +kernel
theorem dL_law_667 : decode cL_law 667 = .ok (.aload_n 0, 1) := by decide +kernel
theorem dL_law_668 : decode cL_law 668 = .ok (.iload 4, 2) := by decide +kernel
theorem dL_law_670 : decode cL_law 670 = .ok (.iconst 2, 1) := by decide +kernel
theorem dL_law_671 : decode cL_law 671 = .ok (.iadd, 1) := by decide +kernel
theorem dL_law_672 : decode cL_law 672 = .ok (.iaload, 1) := by decide +kernel
theorem dL_law_673 : decode cL_law 673 = .ok (.aload_n 0, 1) := by decide +kernel
theorem dL_law_674 : decode cL_law 674 = .ok (.iload 4, 2) := by decide +kernel
theorem dL_law_676 : decode cL_law 676 = .ok (.iconst 3, 1) := by decide +kernel
theorem dL_law_677 : decode cL_law 677 = .ok (.iadd, 1) := by decide +kernel
theorem dL_law_678 : decode cL_law 678 = .ok (.iaload, 1) := by decide +kernel
theorem dL_law_679 : decode cL_law 679 = .ok (.aload_n 0, 1) := by decide +kernel
theorem dL_law_680 : decode cL_law 680 = .ok (.iload 4, 2) := by decide +kernel
theorem dL_law_682 : decode cL_law 682 = .ok (.iconst 4, 1) := by decide +kernel
theorem dL_law_683 : decode cL_law 683 = .ok (.iadd, 1) := by decide +kernel
theorem dL_law_684 : decode cL_law 684 = .ok (.iaload, 1) := by decide +kernel
theorem dL_law_685 : decode cL_law 685 = .ok (.aload_n 3, 1) := by decide +kernel
theorem dL_law_686 : decode cL_law 686 = .ok (.invokestatic 140, 3) := by decide +kernel
theorem dL_law_689 : decode cL_law 689 = .ok (.istore 5, 2) := by decide +kernel
theorem dL_law_691 : decode cL_law 691 = .ok (.aload_n 2, 1) := by decide +kernel
theorem dL_law_692 : decode cL_law 692 = .ok (.aload_n 0, 1) := by decide +kernel
theorem dL_law_693 : decode cL_law 693 = .ok (.iload 4, 2) := by decide +kernel
theorem dL_law_695 : decode cL_law 695 = .ok (.iconst 1, 1) := by decide +kernel
theorem dL_law_696 : decode cL_law 696 = .ok (.iadd, 1) := by decide +kernel
theorem dL_law_697 : decode cL_law 697 = .ok (.iaload, 1) := by decide +kernel
theorem dL_law_698 : decode cL_law 698 = .ok (.aload_n 0, 1) := by decide +kernel
theorem dL_law_699 : decode cL_law 699 = .ok (.iload 4, 2) := by decide +kernel
theorem dL_law_701 : decode cL_law 701 = .ok (.iconst 2, 1) := by decide +kernel
theorem dL_law_702 : decode cL_law 702 = .ok (.iadd, 1) := by decide +kernel
theorem dL_law_703 : decode cL_law 703 = .ok (.iaload, 1) := by decide +kernel
theorem dL_law_704 : decode cL_law 704 = .ok (.aload_n 0, 1) := by decide +kernel
theorem dL_law_705 : decode cL_law 705 = .ok (.iload 4, 2) := by decide +kernel
theorem dL_law_707 : decode cL_law 707 = .ok (.iconst 3, 1) := by decide +kernel
theorem dL_law_708 : decode cL_law 708 = .ok (.iadd, 1) := by decide +kernel
theorem dL_law_709 : decode cL_law 709 = .ok (.iaload, 1) := by decide +kernel
theorem dL_law_710 : decode cL_law 710 = .ok (.aload_n 0, 1) := by decide +kernel
theorem dL_law_711 : decode cL_law 711 = .ok (.iload 4, 2) := by decide +kernel
theorem dL_law_713 : decode cL_law 713 = .ok (.iconst 4, 1) := by decide +kernel
theorem dL_law_714 : decode cL_law 714 = .ok (.iadd, 1) := by decide +kernel
theorem dL_law_715 : decode cL_law 715 = .ok (.iaload, 1) := by decide +kernel
theorem dL_law_716 : decode cL_law 716 = .ok (.invokevirtual 143, 3) := by decide +kernel
theorem dL_law_719 : decode cL_law 719 = .ok (.istore 6, 2) := by decide +kernel
theorem dL_law_721 : decode cL_law 721 = .ok (.aload_n 2, 1) := by decide +kernel
theorem dL_law_722 : decode cL_law 722 = .ok (.invokevirtual 120, 3) := by decide +kernel
theorem dL_law_725 : decode cL_law 725 = .ok (.iload 5, 2) := by decide +kernel
theorem dL_law_727 : decode cL_law 727 = .ok (.if_icmp .eq 5, 3) := by decide +kernel
theorem dL_law_730 : decode cL_law 730 = .ok (.iconst 0, 1) := by decide +kernel
theorem dL_law_731 : decode cL_law 731 = .ok (.ireturn, 1) := by decide +kernel
theorem dL_law_732 : decode cL_law 732 = .ok (.iload 5, 2) := by decide +kernel
theorem dL_law_734 : decode cL_law 734 = .ok (.ifCond .ne 15, 3) := by decide +kernel
theorem dL_law_737 : decode cL_law 737 = .ok (.aload_n 3, 1) := by decide +kernel
theorem dL_law_738 : decode cL_law 738 = .ok (.iconst 0, 1) := by decide +kernel
theorem dL_law_739 : decode cL_law 739 = .ok (.laload, 1) := by decide +kernel
theorem dL_law_740 : decode cL_law 740 = .ok (.iload 6, 2) := by decide +kernel
theorem dL_law_742 : decode cL_law 742 = .ok (.i2l, 1) := by decide +kernel
theorem dL_law_743 : decode cL_law 743 = .ok (.lcmp, 1) := by decide +kernel
theorem dL_law_744 : decode cL_law 744 = .ok (.ifCond .eq 5, 3) := by decide +kernel
theorem dL_law_747 : decode cL_law 747 = .ok (.iconst 0, 1) := by decide +kernel
theorem dL_law_748 : decode cL_law 748 = .ok (.ireturn, 1) := by decide +kernel
theorem dL_law_749 : decode cL_law 749 = .ok (.goto 1380, 3) := by decide +kernel
theorem dL_law_752 : decode cL_law 752 = .ok (.aload_n 1, 1) := by decide +kernel
theorem dL_law_753 : decode cL_law 753 = .ok (.aload_n 0, 1) := by decide +kernel
theorem dL_law_754 : decode cL_law 754 = .ok (.iload 4, 2) := by decide +kernel
theorem dL_law_756 : decode cL_law 756 = .ok (.iconst 1, 1) := by decide +kernel
theorem dL_law_757 : decode cL_law 757 = .ok (.iadd, 1) := by decide +kernel
theorem dL_law_758 : decode cL_law 758 = .ok (.iaload, 1) := by decide +kernel
theorem dL_law_759 : decode cL_law 759 = .ok (.aload_n 3, 1) := by decide +kernel
theorem dL_law_760 : decode cL_law 760 = .ok (.invokestatic 144, 3) := by decide +kernel
theorem dL_law_763 : decode cL_law 763 = .ok (.istore 5, 2) := by decide +kernel
theorem dL_law_765 : decode cL_law 765 = .ok (.aload_n 2, 1) := by decide +kernel
theorem dL_law_766 : decode cL_law 766 = .ok (.aload_n 0, 1) := by decide +kernel
theorem dL_law_767 : decode cL_law 767 = .ok (.iload 4, 2) := by decide +kernel
theorem dL_law_769 : decode cL_law 769 = .ok (.iconst 1, 1) := by decide +kernel
theorem dL_law_770 : decode cL_law 770 = .ok (.iadd, 1) := by decide +kernel
theorem dL_law_771 : decode cL_law 771 = .ok (.iaload, 1) := by decide +kernel
theorem dL_law_772 : decode cL_law 772 = .ok (.invokevirtual 146, 3) := by decide +kernel
theorem dL_law_775 : decode cL_law 775 = .ok (.istore 6, 2) := by decide +kernel
theorem dL_law_777 : decode cL_law 777 = .ok (.aload_n 2, 1) := by decide +kernel
theorem dL_law_778 : decode cL_law 778 = .ok (.invokevirtual 120, 3) := by decide +kernel
theorem dL_law_781 : decode cL_law 781 = .ok (.iload 5, 2) := by decide +kernel
theorem dL_law_783 : decode cL_law 783 = .ok (.if_icmp .eq 5, 3) := by decide +kernel
theorem dL_law_786 : decode cL_law 786 = .ok (.iconst 0, 1) := by decide +kernel
theorem dL_law_787 : decode cL_law 787 = .ok (.ireturn, 1) := by decide +kernel
theorem dL_law_788 : decode cL_law 788 = .ok (.iload 5, 2) := by decide +kernel
theorem dL_law_790 : decode cL_law 790 = .ok (.ifCond .ne 15, 3) := by decide +kernel
theorem dL_law_793 : decode cL_law 793 = .ok (.aload_n 3, 1) := by decide +kernel
theorem dL_law_794 : decode cL_law 794 = .ok (.iconst 0, 1) := by decide +kernel
theorem dL_law_795 : decode cL_law 795 = .ok (.laload, 1) := by decide +kernel
theorem dL_law_796 : decode cL_law 796 = .ok (.iload 6, 2) := by decide +kernel
theorem dL_law_798 : decode cL_law 798 = .ok (.i2l, 1) := by decide +kernel
theorem dL_law_799 : decode cL_law 799 = .ok (.lcmp, 1) := by decide +kernel
theorem dL_law_800 : decode cL_law 800 = .ok (.ifCond .eq 5, 3) := by decide +kernel
theorem dL_law_803 : decode cL_law 803 = .ok (.iconst 0, 1) := by decide +kernel
theorem dL_law_804 : decode cL_law 804 = .ok (.ireturn, 1) := by decide +kernel
theorem dL_law_805 : decode cL_law 805 = .ok (.goto 1324, 3) := by decide +kernel
theorem dL_law_808 : decode cL_law 808 = .ok (.aload_n 1, 1) := by decide +kernel
theorem dL_law_809 : decode cL_law 809 = .ok (.aload_n 3, 1) := by decide +kernel
theorem dL_law_810 : decode cL_law 810 = .ok (.invokestatic 147, 3) := by decide +kernel
theorem dL_law_813 : decode cL_law 813 = .ok (.istore 5, 2) := by decide +kernel
theorem dL_law_815 : decode cL_law 815 = .ok (.aload_n 2, 1) := by decide +kernel
theorem dL_law_816 : decode cL_law 816 = .ok (.invokevirtual 150, 3) := by decide +kernel
theorem dL_law_819 : decode cL_law 819 = .ok (.istore 6, 2) := by decide +kernel
theorem dL_law_821 : decode cL_law 821 = .ok (.aload_n 2, 1) := by decide +kernel
theorem dL_law_822 : decode cL_law 822 = .ok (.invokevirtual 120, 3) := by decide +kernel
theorem dL_law_825 : decode cL_law 825 = .ok (.iload 5, 2) := by decide +kernel
theorem dL_law_827 : decode cL_law 827 = .ok (.if_icmp .eq 5, 3) := by decide +kernel
theorem dL_law_830 : decode cL_law 830 = .ok (.iconst 0, 1) := by decide +kernel
theorem dL_law_831 : decode cL_law 831 = .ok (.ireturn, 1) := by decide +kernel
theorem dL_law_832 : decode cL_law 832 = .ok (.iload 5, 2) := by decide +kernel
theorem dL_law_834 : decode cL_law 834 = .ok (.ifCond .ne 15, 3) := by decide +kernel
theorem dL_law_837 : decode cL_law 837 = .ok (.aload_n 3, 1) := by decide +kernel
theorem dL_law_838 : decode cL_law 838 = .ok (.iconst 0, 1) := by decide +kernel
theorem dL_law_839 : decode cL_law 839 = .ok (.laload, 1) := by decide +kernel
theorem dL_law_840 : decode cL_law 840 = .ok (.iload 6, 2) := by decide +kernel
theorem dL_law_842 : decode cL_law 842 = .ok (.i2l, 1) := by decide +kernel
theorem dL_law_843 : decode cL_law 843 = .ok (.lcmp, 1) := by decide +kernel
theorem dL_law_844 : decode cL_law 844 = .ok (.ifCond .eq 5, 3) := by decide +kernel
theorem dL_law_847 : decode cL_law 847 = .ok (.iconst 0, 1) := by decide +kernel
theorem dL_law_848 : decode cL_law 848 = .ok (.ireturn, 1) := by decide +kernel
theorem dL_law_849 : decode cL_law 849 = .ok (.goto 1280, 3) := by decide +kernel
theorem dL_law_852 : decode cL_law 852 = .ok (.aload_n 1, 1) := by decide +kernel
theorem dL_law_853 : decode cL_law 853 = .ok (.aload_n 0, 1) := by decide +kernel
theorem dL_law_854 : decode cL_law 854 = .ok (.iload 4, 2) := by decide +kernel
theorem dL_law_856 : decode cL_law 856 = .ok (.iconst 1, 1) := by decide +kernel
theorem dL_law_857 : decode cL_law 857 = .ok (.iadd, 1) := by decide +kernel
theorem dL_law_858 : decode cL_law 858 = .ok (.iaload, 1) := by decide +kernel
theorem dL_law_859 : decode cL_law 859 = .ok (.aload_n 3, 1) := by decide +kernel
theorem dL_law_860 : decode cL_law 860 = .ok (.invokestatic 151, 3) := by decide +kernel
theorem dL_law_863 : decode cL_law 863 = .ok (.istore 5, 2) := by decide +kernel
theorem dL_law_865 : decode cL_law 865 = .ok (.aload_n 2, 1) := by decide +kernel
theorem dL_law_866 : decode cL_law 866 = .ok (.aload_n 0, 1) := by decide +kernel
theorem dL_law_867 : decode cL_law 867 = .ok (.iload 4, 2) := by decide +kernel
theorem dL_law_869 : decode cL_law 869 = .ok (.iconst 1, 1) := by decide +kernel
theorem dL_law_870 : decode cL_law 870 = .ok (.iadd, 1) := by decide +kernel
theorem dL_law_871 : decode cL_law 871 = .ok (.iaload, 1) := by decide +kernel
theorem dL_law_872 : decode cL_law 872 = .ok (.invokevirtual 153, 3) := by decide +kernel
theorem dL_law_875 : decode cL_law 875 = .ok (.istore 6, 2) := by decide +kernel
theorem dL_law_877 : decode cL_law 877 = .ok (.aload_n 2, 1) := by decide +kernel
theorem dL_law_878 : decode cL_law 878 = .ok (.invokevirtual 120, 3) := by decide +kernel
theorem dL_law_881 : decode cL_law 881 = .ok (.iload 5, 2) := by decide +kernel
theorem dL_law_883 : decode cL_law 883 = .ok (.if_icmp .eq 5, 3) := by decide +kernel
theorem dL_law_886 : decode cL_law 886 = .ok (.iconst 0, 1) := by decide +kernel
theorem dL_law_887 : decode cL_law 887 = .ok (.ireturn, 1) := by decide +kernel
theorem dL_law_888 : decode cL_law 888 = .ok (.iload 5, 2) := by decide +kernel
theorem dL_law_890 : decode cL_law 890 = .ok (.ifCond .ne 15, 3) := by decide +kernel
theorem dL_law_893 : decode cL_law 893 = .ok (.aload_n 3, 1) := by decide +kernel
theorem dL_law_894 : decode cL_law 894 = .ok (.iconst 0, 1) := by decide +kernel
theorem dL_law_895 : decode cL_law 895 = .ok (.laload, 1) := by decide +kernel
theorem dL_law_896 : decode cL_law 896 = .ok (.iload 6, 2) := by decide +kernel
theorem dL_law_898 : decode cL_law 898 = .ok (.i2l, 1) := by decide +kernel
theorem dL_law_899 : decode cL_law 899 = .ok (.lcmp, 1) := by decide +kernel
theorem dL_law_900 : decode cL_law 900 = .ok (.ifCond .eq 5, 3) := by decide +kernel
theorem dL_law_903 : decode cL_law 903 = .ok (.iconst 0, 1) := by decide +kernel
theorem dL_law_904 : decode cL_law 904 = .ok (.ireturn, 1) := by decide +kernel
theorem dL_law_905 : decode cL_law 905 = .ok (.goto 1224, 3) := by decide +kernel
theorem dL_law_908 : decode cL_law 908 = .ok (.aload_n 1, 1) := by decide +kernel
theorem dL_law_909 : decode cL_law 909 = .ok (.invokevirtual 154, 3) := by decide +kernel
theorem dL_law_912 : decode cL_law 912 = .ok (.aload_n 2, 1) := by decide +kernel
theorem dL_law_913 : decode cL_law 913 = .ok (.invokevirtual 157, 3) := by decide +kernel
theorem dL_law_916 : decode cL_law 916 = .ok (.if_icmp .eq 1213, 3) := by decide +kernel
theorem dL_law_919 : decode cL_law 919 = .ok (.iconst 0, 1) := by decide +kernel
theorem dL_law_920 : decode cL_law 920 = .ok (.ireturn, 1) := by decide +kernel
theorem dL_law_921 : decode cL_law 921 = .ok (.aload_n 1, 1) := by decide +kernel
theorem dL_law_922 : decode cL_law 922 = .ok (.invokevirtual 158, 3) := by decide +kernel
theorem dL_law_925 : decode cL_law 925 = .ok (.aload_n 2, 1) := by decide +kernel
theorem dL_law_926 : decode cL_law 926 = .ok (.invokevirtual 161, 3) := by decide +kernel
theorem dL_law_929 : decode cL_law 929 = .ok (.if_icmp .eq 1200, 3) := by decide +kernel
theorem dL_law_932 : decode cL_law 932 = .ok (.iconst 0, 1) := by decide +kernel
theorem dL_law_933 : decode cL_law 933 = .ok (.ireturn, 1) := by decide +kernel
theorem dL_law_934 : decode cL_law 934 = .ok (.aload_n 1, 1) := by decide +kernel
theorem dL_law_935 : decode cL_law 935 = .ok (.aload_n 3, 1) := by decide +kernel
theorem dL_law_936 : decode cL_law 936 = .ok (.invokestatic 162, 3) := by decide +kernel
theorem dL_law_939 : decode cL_law 939 = .ok (.istore 5, 2) := by decide +kernel
theorem dL_law_941 : decode cL_law 941 = .ok (.aload_n 2, 1) := by decide +kernel
theorem dL_law_942 : decode cL_law 942 = .ok (.invokevirtual 164, 3) := by decide +kernel
theorem dL_law_945 : decode cL_law 945 = .ok (.istore 6, 2) := by decide +kernel
theorem dL_law_947 : decode cL_law 947 = .ok (.aload_n 2, 1) := by decide +kernel
theorem dL_law_948 : decode cL_law 948 = .ok (.invokevirtual 120, 3) := by decide +kernel
theorem dL_law_951 : decode cL_law 951 = .ok (.iload 5, 2) := by decide +kernel
theorem dL_law_953 : decode cL_law 953 = .ok (.if_icmp .eq 5, 3) := by decide +kernel
theorem dL_law_956 : decode cL_law 956 = .ok (.iconst 0, 1) := by decide +kernel
theorem dL_law_957 : decode cL_law 957 = .ok (.ireturn, 1) := by decide +kernel
theorem dL_law_958 : decode cL_law 958 = .ok (.iload 5, 2) := by decide +kernel
theorem dL_law_960 : decode cL_law 960 = .ok (.ifCond .ne 15, 3) := by decide +kernel
theorem dL_law_963 : decode cL_law 963 = .ok (.aload_n 3, 1) := by decide +kernel
theorem dL_law_964 : decode cL_law 964 = .ok (.iconst 0, 1) := by decide +kernel
theorem dL_law_965 : decode cL_law 965 = .ok (.laload, 1) := by decide +kernel
theorem dL_law_966 : decode cL_law 966 = .ok (.iload 6, 2) := by decide +kernel
theorem dL_law_968 : decode cL_law 968 = .ok (.i2l, 1) := by decide +kernel
theorem dL_law_969 : decode cL_law 969 = .ok (.lcmp, 1) := by decide +kernel
theorem dL_law_970 : decode cL_law 970 = .ok (.ifCond .eq 5, 3) := by decide +kernel
theorem dL_law_973 : decode cL_law 973 = .ok (.iconst 0, 1) := by decide +kernel
theorem dL_law_974 : decode cL_law 974 = .ok (.ireturn, 1) := by decide +kernel
theorem dL_law_975 : decode cL_law 975 = .ok (.goto 1154, 3) := by decide +kernel
theorem dL_law_978 : decode cL_law 978 = .ok (.aload_n 1, 1) := by decide +kernel
theorem dL_law_979 : decode cL_law 979 = .ok (.aload_n 0, 1) := by decide +kernel
theorem dL_law_980 : decode cL_law 980 = .ok (.iload 4, 2) := by decide +kernel
theorem dL_law_982 : decode cL_law 982 = .ok (.iconst 1, 1) := by decide +kernel
theorem dL_law_983 : decode cL_law 983 = .ok (.iadd, 1) := by decide +kernel
theorem dL_law_984 : decode cL_law 984 = .ok (.iaload, 1) := by decide +kernel
theorem dL_law_985 : decode cL_law 985 = .ok (.aload_n 0, 1) := by decide +kernel
theorem dL_law_986 : decode cL_law 986 = .ok (.iload 4, 2) := by decide +kernel
theorem dL_law_988 : decode cL_law 988 = .ok (.iconst 2, 1) := by decide +kernel
theorem dL_law_989 : decode cL_law 989 = .ok (.iadd, 1) := by decide +kernel
theorem dL_law_990 : decode cL_law 990 = .ok (.iaload, 1) := by decide +kernel
theorem dL_law_991 : decode cL_law 991 = .ok (.aload_n 3, 1) := by decide +kernel
theorem dL_law_992 : decode cL_law 992 = .ok (.invokestatic 165, 3) := by decide +kernel
theorem dL_law_995 : decode cL_law 995 = .ok (.istore 5, 2) := by decide +kernel
theorem dL_law_997 : decode cL_law 997 = .ok (.aload_n 2, 1) := by decide +kernel
theorem dL_law_998 : decode cL_law 998 = .ok (.aload_n 0, 1) := by decide +kernel
theorem dL_law_999 : decode cL_law 999 = .ok (.iload 4, 2) := by decide +kernel
theorem dL_law_1001 : decode cL_law 1001 = .ok (.iconst 1, 1) := by decide +kernel
theorem dL_law_1002 : decode cL_law 1002 = .ok (.iadd, 1) := by decide +kernel
theorem dL_law_1003 : decode cL_law 1003 = .ok (.iaload, 1) := by decide +kernel
theorem dL_law_1004 : decode cL_law 1004 = .ok (.aload_n 0, 1) := by decide +kernel
theorem dL_law_1005 : decode cL_law 1005 = .ok (.iload 4, 2) := by decide +kernel
theorem dL_law_1007 : decode cL_law 1007 = .ok (.iconst 2, 1) := by decide +kernel
theorem dL_law_1008 : decode cL_law 1008 = .ok (.iadd, 1) := by decide +kernel
theorem dL_law_1009 : decode cL_law 1009 = .ok (.iaload, 1) := by decide +kernel
theorem dL_law_1010 : decode cL_law 1010 = .ok (.invokevirtual 168, 3) := by decide +kernel
theorem dL_law_1013 : decode cL_law 1013 = .ok (.istore 6, 2) := by decide +kernel
theorem dL_law_1015 : decode cL_law 1015 = .ok (.aload_n 2, 1) := by decide +kernel
theorem dL_law_1016 : decode cL_law 1016 = .ok (.invokevirtual 120, 3) := by decide +kernel
theorem dL_law_1019 : decode cL_law 1019 = .ok (.iload 5, 2) := by decide +kernel
theorem dL_law_1021 : decode cL_law 1021 = .ok (.if_icmp .eq 5, 3) := by decide +kernel
theorem dL_law_1024 : decode cL_law 1024 = .ok (.iconst 0, 1) := by decide +kernel
theorem dL_law_1025 : decode cL_law 1025 = .ok (.ireturn, 1) := by decide +kernel
theorem dL_law_1026 : decode cL_law 1026 = .ok (.iload 5, 2) := by decide +kernel
theorem dL_law_1028 : decode cL_law 1028 = .ok (.ifCond .ne 15, 3) := by decide +kernel
theorem dL_law_1031 : decode cL_law 1031 = .ok (.aload_n 3, 1) := by decide +kernel
theorem dL_law_1032 : decode cL_law 1032 = .ok (.iconst 0, 1) := by decide +kernel
theorem dL_law_1033 : decode cL_law 1033 = .ok (.laload, 1) := by decide +kernel
theorem dL_law_1034 : decode cL_law 1034 = .ok (.iload 6, 2) := by decide +kernel
theorem dL_law_1036 : decode cL_law 1036 = .ok (.i2l, 1) := by decide +kernel
theorem dL_law_1037 : decode cL_law 1037 = .ok (.lcmp, 1) := by decide +kernel
theorem dL_law_1038 : decode cL_law 1038 = .ok (.ifCond .eq 5, 3) := by decide +kernel
theorem dL_law_1041 : decode cL_law 1041 = .ok (.iconst 0, 1) := by decide +kernel
theorem dL_law_1042 : decode cL_law 1042 = .ok (.ireturn, 1) := by decide +kernel
theorem dL_law_1043 : decode cL_law 1043 = .ok (.goto 1086, 3) := by decide +kernel
theorem dL_law_1046 : decode cL_law 1046 = .ok (.aload_n 1, 1) := by decide +kernel
theorem dL_law_1047 : decode cL_law 1047 = .ok (.aload_n 0, 1) := by decide +kernel
theorem dL_law_1048 : decode cL_law 1048 = .ok (.iload 4, 2) := by decide +kernel
theorem dL_law_1050 : decode cL_law 1050 = .ok (.iconst 1, 1) := by decide +kernel
theorem dL_law_1051 : decode cL_law 1051 = .ok (.iadd, 1) := by decide +kernel
theorem dL_law_1052 : decode cL_law 1052 = .ok (.iaload, 1) := by decide +kernel
theorem dL_law_1053 : decode cL_law 1053 = .ok (.aload_n 0, 1) := by decide +kernel
theorem dL_law_1054 : decode cL_law 1054 = .ok (.iload 4, 2) := by decide +kernel
theorem dL_law_1056 : decode cL_law 1056 = .ok (.iconst 2, 1) := by decide +kernel
theorem dL_law_1057 : decode cL_law 1057 = .ok (.iadd, 1) := by decide +kernel
theorem dL_law_1058 : decode cL_law 1058 = .ok (.iaload, 1) := by decide +kernel
theorem dL_law_1059 : decode cL_law 1059 = .ok (.aload_n 3, 1) := by decide +kernel
theorem dL_law_1060 : decode cL_law 1060 = .ok (.invokestatic 169, 3) := by decide +kernel
theorem dL_law_1063 : decode cL_law 1063 = .ok (.istore 5, 2) := by decide +kernel
theorem dL_law_1065 : decode cL_law 1065 = .ok (.aload_n 2, 1) := by decide +kernel
theorem dL_law_1066 : decode cL_law 1066 = .ok (.aload_n 0, 1) := by decide +kernel
theorem dL_law_1067 : decode cL_law 1067 = .ok (.iload 4, 2) := by decide +kernel
theorem dL_law_1069 : decode cL_law 1069 = .ok (.iconst 1, 1) := by decide +kernel
theorem dL_law_1070 : decode cL_law 1070 = .ok (.iadd, 1) := by decide +kernel
theorem dL_law_1071 : decode cL_law 1071 = .ok (.iaload, 1) := by decide +kernel
theorem dL_law_1072 : decode cL_law 1072 = .ok (.aload_n 0, 1) := by decide +kernel
theorem dL_law_1073 : decode cL_law 1073 = .ok (.iload 4, 2) := by decide +kernel
theorem dL_law_1075 : decode cL_law 1075 = .ok (.iconst 2, 1) := by decide +kernel
theorem dL_law_1076 : decode cL_law 1076 = .ok (.iadd, 1) := by decide +kernel
theorem dL_law_1077 : decode cL_law 1077 = .ok (.iaload, 1) := by decide +kernel
theorem dL_law_1078 : decode cL_law 1078 = .ok (.invokevirtual 171, 3) := by decide +kernel
theorem dL_law_1081 : decode cL_law 1081 = .ok (.istore 6, 2) := by decide +kernel
theorem dL_law_1083 : decode cL_law 1083 = .ok (.aload_n 2, 1) := by decide +kernel
theorem dL_law_1084 : decode cL_law 1084 = .ok (.invokevirtual 120, 3) := by decide +kernel
theorem dL_law_1087 : decode cL_law 1087 = .ok (.iload 5, 2) := by decide +kernel
theorem dL_law_1089 : decode cL_law 1089 = .ok (.if_icmp .eq 5, 3) := by decide +kernel
theorem dL_law_1092 : decode cL_law 1092 = .ok (.iconst 0, 1) := by decide +kernel
theorem dL_law_1093 : decode cL_law 1093 = .ok (.ireturn, 1) := by decide +kernel
theorem dL_law_1094 : decode cL_law 1094 = .ok (.iload 5, 2) := by decide +kernel
theorem dL_law_1096 : decode cL_law 1096 = .ok (.ifCond .ne 15, 3) := by decide +kernel
theorem dL_law_1099 : decode cL_law 1099 = .ok (.aload_n 3, 1) := by decide +kernel
theorem dL_law_1100 : decode cL_law 1100 = .ok (.iconst 0, 1) := by decide +kernel
theorem dL_law_1101 : decode cL_law 1101 = .ok (.laload, 1) := by decide +kernel
theorem dL_law_1102 : decode cL_law 1102 = .ok (.iload 6, 2) := by decide +kernel
theorem dL_law_1104 : decode cL_law 1104 = .ok (.i2l, 1) := by decide +kernel
theorem dL_law_1105 : decode cL_law 1105 = .ok (.lcmp, 1) := by decide +kernel
theorem dL_law_1106 : decode cL_law 1106 = .ok (.ifCond .eq 5, 3) := by decide +kernel
theorem dL_law_1109 : decode cL_law 1109 = .ok (.iconst 0, 1) := by decide +kernel
theorem dL_law_1110 : decode cL_law 1110 = .ok (.ireturn, 1) := by decide +kernel
theorem dL_law_1111 : decode cL_law 1111 = .ok (.goto 1018, 3) := by decide +kernel
theorem dL_law_1114 : decode cL_law 1114 = .ok (.aload_n 1, 1) := by decide +kernel
theorem dL_law_1115 : decode cL_law 1115 = .ok (.aload_n 0, 1) := by decide +kernel
theorem dL_law_1116 : decode cL_law 1116 = .ok (.iload 4, 2) := by decide +kernel
theorem dL_law_1118 : decode cL_law 1118 = .ok (.iconst 1, 1) := by decide +kernel
theorem dL_law_1119 : decode cL_law 1119 = .ok (.iadd, 1) := by decide +kernel
theorem dL_law_1120 : decode cL_law 1120 = .ok (.iaload, 1) := by decide +kernel
theorem dL_law_1121 : decode cL_law 1121 = .ok (.aload_n 3, 1) := by decide +kernel
theorem dL_law_1122 : decode cL_law 1122 = .ok (.invokestatic 172, 3) := by decide +kernel
theorem dL_law_1125 : decode cL_law 1125 = .ok (.istore 5, 2) := by decide +kernel
theorem dL_law_1127 : decode cL_law 1127 = .ok (.aload_n 2, 1) := by decide +kernel
theorem dL_law_1128 : decode cL_law 1128 = .ok (.aload_n 0, 1) := by decide +kernel
theorem dL_law_1129 : decode cL_law 1129 = .ok (.iload 4, 2) := by decide +kernel
theorem dL_law_1131 : decode cL_law 1131 = .ok (.iconst 1, 1) := by decide +kernel
theorem dL_law_1132 : decode cL_law 1132 = .ok (.iadd, 1) := by decide +kernel
theorem dL_law_1133 : decode cL_law 1133 = .ok (.iaload, 1) := by decide +kernel
theorem dL_law_1134 : decode cL_law 1134 = .ok (.invokevirtual 174, 3) := by decide +kernel
theorem dL_law_1137 : decode cL_law 1137 = .ok (.istore 6, 2) := by decide +kernel
theorem dL_law_1139 : decode cL_law 1139 = .ok (.aload_n 2, 1) := by decide +kernel
theorem dL_law_1140 : decode cL_law 1140 = .ok (.invokevirtual 120, 3) := by decide +kernel
theorem dL_law_1143 : decode cL_law 1143 = .ok (.iload 5, 2) := by decide +kernel
theorem dL_law_1145 : decode cL_law 1145 = .ok (.if_icmp .eq 5, 3) := by decide +kernel
theorem dL_law_1148 : decode cL_law 1148 = .ok (.iconst 0, 1) := by decide +kernel
theorem dL_law_1149 : decode cL_law 1149 = .ok (.ireturn, 1) := by decide +kernel
theorem dL_law_1150 : decode cL_law 1150 = .ok (.iload 5, 2) := by decide +kernel
theorem dL_law_1152 : decode cL_law 1152 = .ok (.ifCond .ne 15, 3) := by decide +kernel
theorem dL_law_1155 : decode cL_law 1155 = .ok (.aload_n 3, 1) := by decide +kernel
theorem dL_law_1156 : decode cL_law 1156 = .ok (.iconst 0, 1) := by decide +kernel
theorem dL_law_1157 : decode cL_law 1157 = .ok (.laload, 1) := by decide +kernel
theorem dL_law_1158 : decode cL_law 1158 = .ok (.iload 6, 2) := by decide +kernel
theorem dL_law_1160 : decode cL_law 1160 = .ok (.i2l, 1) := by decide +kernel
theorem dL_law_1161 : decode cL_law 1161 = .ok (.lcmp, 1) := by decide +kernel
theorem dL_law_1162 : decode cL_law 1162 = .ok (.ifCond .eq 5, 3) := by decide +kernel
theorem dL_law_1165 : decode cL_law 1165 = .ok (.iconst 0, 1) := by decide +kernel
theorem dL_law_1166 : decode cL_law 1166 = .ok (.ireturn, 1) := by decide +kernel
theorem dL_law_1167 : decode cL_law 1167 = .ok (.goto 962, 3) := by decide +kernel
theorem dL_law_1170 : decode cL_law 1170 = .ok (.aload_n 1, 1) := by decide +kernel
theorem dL_law_1171 : decode cL_law 1171 = .ok (.aload_n 0, 1) := by decide +kernel
theorem dL_law_1172 : decode cL_law 1172 = .ok (.iload 4, 2) := by decide +kernel
theorem dL_law_1174 : decode cL_law 1174 = .ok (.iconst 1, 1) := by decide +kernel
theorem dL_law_1175 : decode cL_law 1175 = .ok (.iadd, 1) := by decide +kernel
theorem dL_law_1176 : decode cL_law 1176 = .ok (.iaload, 1) := by decide +kernel
theorem dL_law_1177 : decode cL_law 1177 = .ok (.aload_n 3, 1) := by decide +kernel
theorem dL_law_1178 : decode cL_law 1178 = .ok (.invokestatic 175, 3) := by decide +kernel
theorem dL_law_1181 : decode cL_law 1181 = .ok (.istore 5, 2) := by decide +kernel
theorem dL_law_1183 : decode cL_law 1183 = .ok (.aload_n 2, 1) := by decide +kernel
theorem dL_law_1184 : decode cL_law 1184 = .ok (.aload_n 0, 1) := by decide +kernel
theorem dL_law_1185 : decode cL_law 1185 = .ok (.iload 4, 2) := by decide +kernel
theorem dL_law_1187 : decode cL_law 1187 = .ok (.iconst 1, 1) := by decide +kernel
theorem dL_law_1188 : decode cL_law 1188 = .ok (.iadd, 1) := by decide +kernel
theorem dL_law_1189 : decode cL_law 1189 = .ok (.iaload, 1) := by decide +kernel
theorem dL_law_1190 : decode cL_law 1190 = .ok (.invokevirtual 177, 3) := by decide +kernel
theorem dL_law_1193 : decode cL_law 1193 = .ok (.istore 6, 2) := by decide +kernel
theorem dL_law_1195 : decode cL_law 1195 = .ok (.aload_n 2, 1) := by decide +kernel
theorem dL_law_1196 : decode cL_law 1196 = .ok (.invokevirtual 120, 3) := by decide +kernel
theorem dL_law_1199 : decode cL_law 1199 = .ok (.iload 5, 2) := by decide +kernel
theorem dL_law_1201 : decode cL_law 1201 = .ok (.if_icmp .eq 5, 3) := by decide +kernel
theorem dL_law_1204 : decode cL_law 1204 = .ok (.iconst 0, 1) := by decide +kernel
theorem dL_law_1205 : decode cL_law 1205 = .ok (.ireturn, 1) := by decide +kernel
theorem dL_law_1206 : decode cL_law 1206 = .ok (.iload 5, 2) := by decide +kernel
theorem dL_law_1208 : decode cL_law 1208 = .ok (.ifCond .ne 15, 3) := by decide +kernel
theorem dL_law_1211 : decode cL_law 1211 = .ok (.aload_n 3, 1) := by decide +kernel
theorem dL_law_1212 : decode cL_law 1212 = .ok (.iconst 0, 1) := by decide +kernel
theorem dL_law_1213 : decode cL_law 1213 = .ok (.laload, 1) := by decide +kernel
theorem dL_law_1214 : decode cL_law 1214 = .ok (.iload 6, 2) := by decide +kernel
theorem dL_law_1216 : decode cL_law 1216 = .ok (.i2l, 1) := by decide +kernel
theorem dL_law_1217 : decode cL_law 1217 = .ok (.lcmp, 1) := by decide +kernel
theorem dL_law_1218 : decode cL_law 1218 = .ok (.ifCond .eq 5, 3) := by decide +kernel
theorem dL_law_1221 : decode cL_law 1221 = .ok (.iconst 0, 1) := by decide +kernel
theorem dL_law_1222 : decode cL_law 1222 = .ok (.ireturn, 1) := by decide +kernel
theorem dL_law_1223 : decode cL_law 1223 = .ok (.goto 906, 3) := by decide +kernel
theorem dL_law_1226 : decode cL_law 1226 = .ok (.aload_n 1, 1) := by decide +kernel
theorem dL_law_1227 : decode cL_law 1227 = .ok (.aload_n 0, 1) := by decide +kernel
theorem dL_law_1228 : decode cL_law 1228 = .ok (.iload 4, 2) := by decide +kernel
theorem dL_law_1230 : decode cL_law 1230 = .ok (.iconst 1, 1) := by decide +kernel
theorem dL_law_1231 : decode cL_law 1231 = .ok (.iadd, 1) := by decide +kernel
theorem dL_law_1232 : decode cL_law 1232 = .ok (.iaload, 1) := by decide +kernel
theorem dL_law_1233 : decode cL_law 1233 = .ok (.aload_n 3, 1) := by decide +kernel
theorem dL_law_1234 : decode cL_law 1234 = .ok (.invokestatic 178, 3) := by decide +kernel
theorem dL_law_1237 : decode cL_law 1237 = .ok (.istore 5, 2) := by decide +kernel
theorem dL_law_1239 : decode cL_law 1239 = .ok (.aload_n 2, 1) := by decide +kernel
theorem dL_law_1240 : decode cL_law 1240 = .ok (.aload_n 0, 1) := by decide +kernel
theorem dL_law_1241 : decode cL_law 1241 = .ok (.iload 4, 2) := by decide +kernel
theorem dL_law_1243 : decode cL_law 1243 = .ok (.iconst 1, 1) := by decide +kernel
theorem dL_law_1244 : decode cL_law 1244 = .ok (.iadd, 1) := by decide +kernel
theorem dL_law_1245 : decode cL_law 1245 = .ok (.iaload, 1) := by decide +kernel
theorem dL_law_1246 : decode cL_law 1246 = .ok (.invokevirtual 180, 3) := by decide +kernel
theorem dL_law_1249 : decode cL_law 1249 = .ok (.istore 6, 2) := by decide +kernel
theorem dL_law_1251 : decode cL_law 1251 = .ok (.aload_n 2, 1) := by decide +kernel
theorem dL_law_1252 : decode cL_law 1252 = .ok (.invokevirtual 120, 3) := by decide +kernel
theorem dL_law_1255 : decode cL_law 1255 = .ok (.iload 5, 2) := by decide +kernel
theorem dL_law_1257 : decode cL_law 1257 = .ok (.if_icmp .eq 5, 3) := by decide +kernel
theorem dL_law_1260 : decode cL_law 1260 = .ok (.iconst 0, 1) := by decide +kernel
theorem dL_law_1261 : decode cL_law 1261 = .ok (.ireturn, 1) := by decide +kernel
theorem dL_law_1262 : decode cL_law 1262 = .ok (.iload 5, 2) := by decide +kernel
theorem dL_law_1264 : decode cL_law 1264 = .ok (.ifCond .ne 15, 3) := by decide +kernel
theorem dL_law_1267 : decode cL_law 1267 = .ok (.aload_n 3, 1) := by decide +kernel
theorem dL_law_1268 : decode cL_law 1268 = .ok (.iconst 0, 1) := by decide +kernel
theorem dL_law_1269 : decode cL_law 1269 = .ok (.laload, 1) := by decide +kernel
theorem dL_law_1270 : decode cL_law 1270 = .ok (.iload 6, 2) := by decide +kernel
theorem dL_law_1272 : decode cL_law 1272 = .ok (.i2l, 1) := by decide +kernel
theorem dL_law_1273 : decode cL_law 1273 = .ok (.lcmp, 1) := by decide +kernel
theorem dL_law_1274 : decode cL_law 1274 = .ok (.ifCond .eq 5, 3) := by decide +kernel
theorem dL_law_1277 : decode cL_law 1277 = .ok (.iconst 0, 1) := by decide +kernel
theorem dL_law_1278 : decode cL_law 1278 = .ok (.ireturn, 1) := by decide +kernel
theorem dL_law_1279 : decode cL_law 1279 = .ok (.goto 850, 3) := by decide +kernel
theorem dL_law_1282 : decode cL_law 1282 = .ok (.aload_n 1, 1) := by decide +kernel
theorem dL_law_1283 : decode cL_law 1283 = .ok (.aload_n 0, 1) := by decide +kernel
theorem dL_law_1284 : decode cL_law 1284 = .ok (.iload 4, 2) := by decide +kernel
theorem dL_law_1286 : decode cL_law 1286 = .ok (.iconst 1, 1) := by decide +kernel
theorem dL_law_1287 : decode cL_law 1287 = .ok (.iadd, 1) := by decide +kernel
theorem dL_law_1288 : decode cL_law 1288 = .ok (.iaload, 1) := by decide +kernel
theorem dL_law_1289 : decode cL_law 1289 = .ok (.aload_n 3, 1) := by decide +kernel
theorem dL_law_1290 : decode cL_law 1290 = .ok (.invokestatic 181, 3) := by decide +kernel
theorem dL_law_1293 : decode cL_law 1293 = .ok (.istore 5, 2) := by decide +kernel
theorem dL_law_1295 : decode cL_law 1295 = .ok (.aload_n 2, 1) := by decide +kernel
theorem dL_law_1296 : decode cL_law 1296 = .ok (.aload_n 0, 1) := by decide +kernel
theorem dL_law_1297 : decode cL_law 1297 = .ok (.iload 4, 2) := by decide +kernel
theorem dL_law_1299 : decode cL_law 1299 = .ok (.iconst 1, 1) := by decide +kernel
theorem dL_law_1300 : decode cL_law 1300 = .ok (.iadd, 1) := by decide +kernel
theorem dL_law_1301 : decode cL_law 1301 = .ok (.iaload, 1) := by decide +kernel
theorem dL_law_1302 : decode cL_law 1302 = .ok (.invokevirtual 183, 3) := by decide +kernel
theorem dL_law_1305 : decode cL_law 1305 = .ok (.istore 6, 2) := by decide +kernel
theorem dL_law_1307 : decode cL_law 1307 = .ok (.aload_n 2, 1) := by decide +kernel
theorem dL_law_1308 : decode cL_law 1308 = .ok (.invokevirtual 120, 3) := by decide +kernel
theorem dL_law_1311 : decode cL_law 1311 = .ok (.iload 5, 2) := by decide +kernel
theorem dL_law_1313 : decode cL_law 1313 = .ok (.if_icmp .eq 5, 3) := by decide +kernel
theorem dL_law_1316 : decode cL_law 1316 = .ok (.iconst 0, 1) := by decide +kernel
theorem dL_law_1317 : decode cL_law 1317 = .ok (.ireturn, 1) := by decide +kernel
theorem dL_law_1318 : decode cL_law 1318 = .ok (.iload 5, 2) := by decide +kernel
theorem dL_law_1320 : decode cL_law 1320 = .ok (.ifCond .ne 22, 3) := by decide +kernel
theorem dL_law_1323 : decode cL_law 1323 = .ok (.aload_n 3, 1) := by decide +kernel
theorem dL_law_1324 : decode cL_law 1324 = .ok (.iconst 0, 1) := by decide +kernel
theorem dL_law_1325 : decode cL_law 1325 = .ok (.laload, 1) := by decide +kernel
theorem dL_law_1326 : decode cL_law 1326 = .ok (.iload 6, 2) := by decide +kernel
theorem dL_law_1328 : decode cL_law 1328 = .ok (.ifCond .eq 7, 3) := by decide +kernel
theorem dL_law_1331 : decode cL_law 1331 = .ok (.lconst 1, 1) := by decide +kernel
theorem dL_law_1332 : decode cL_law 1332 = .ok (.goto 4, 3) := by decide +kernel
theorem dL_law_1335 : decode cL_law 1335 = .ok (.lconst 0, 1) := by decide +kernel
theorem dL_law_1336 : decode cL_law 1336 = .ok (.lcmp, 1) := by decide +kernel
theorem dL_law_1337 : decode cL_law 1337 = .ok (.ifCond .eq 5, 3) := by decide +kernel
theorem dL_law_1340 : decode cL_law 1340 = .ok (.iconst 0, 1) := by decide +kernel
theorem dL_law_1341 : decode cL_law 1341 = .ok (.ireturn, 1) := by decide +kernel
theorem dL_law_1342 : decode cL_law 1342 = .ok (.goto 787, 3) := by decide +kernel
theorem dL_law_1345 : decode cL_law 1345 = .ok (.aload_n 1, 1) := by decide +kernel
theorem dL_law_1346 : decode cL_law 1346 = .ok (.aload_n 0, 1) := by decide +kernel
theorem dL_law_1347 : decode cL_law 1347 = .ok (.iload 4, 2) := by decide +kernel
theorem dL_law_1349 : decode cL_law 1349 = .ok (.iconst 1, 1) := by decide +kernel
theorem dL_law_1350 : decode cL_law 1350 = .ok (.iadd, 1) := by decide +kernel
theorem dL_law_1351 : decode cL_law 1351 = .ok (.iaload, 1) := by decide +kernel
theorem dL_law_1352 : decode cL_law 1352 = .ok (.aload_n 0, 1) := by decide +kernel
theorem dL_law_1353 : decode cL_law 1353 = .ok (.iload 4, 2) := by decide +kernel
theorem dL_law_1355 : decode cL_law 1355 = .ok (.iconst 2, 1) := by decide +kernel
theorem dL_law_1356 : decode cL_law 1356 = .ok (.iadd, 1) := by decide +kernel
theorem dL_law_1357 : decode cL_law 1357 = .ok (.iaload, 1) := by decide +kernel
theorem dL_law_1358 : decode cL_law 1358 = .ok (.aload_n 3, 1) := by decide +kernel
theorem dL_law_1359 : decode cL_law 1359 = .ok (.invokestatic 184, 3) := by decide +kernel
theorem dL_law_1362 : decode cL_law 1362 = .ok (.istore 5, 2) := by decide +kernel
theorem dL_law_1364 : decode cL_law 1364 = .ok (.aload_n 2, 1) := by decide +kernel
theorem dL_law_1365 : decode cL_law 1365 = .ok (.aload_n 0, 1) := by decide +kernel
theorem dL_law_1366 : decode cL_law 1366 = .ok (.iload 4, 2) := by decide +kernel
theorem dL_law_1368 : decode cL_law 1368 = .ok (.iconst 1, 1) := by decide +kernel
theorem dL_law_1369 : decode cL_law 1369 = .ok (.iadd, 1) := by decide +kernel
theorem dL_law_1370 : decode cL_law 1370 = .ok (.iaload, 1) := by decide +kernel
theorem dL_law_1371 : decode cL_law 1371 = .ok (.aload_n 0, 1) := by decide +kernel
theorem dL_law_1372 : decode cL_law 1372 = .ok (.iload 4, 2) := by decide +kernel
theorem dL_law_1374 : decode cL_law 1374 = .ok (.iconst 2, 1) := by decide +kernel
theorem dL_law_1375 : decode cL_law 1375 = .ok (.iadd, 1) := by decide +kernel
theorem dL_law_1376 : decode cL_law 1376 = .ok (.iaload, 1) := by decide +kernel
theorem dL_law_1377 : decode cL_law 1377 = .ok (.invokevirtual 186, 3) := by decide +kernel
theorem dL_law_1380 : decode cL_law 1380 = .ok (.istore 6, 2) := by decide +kernel
theorem dL_law_1382 : decode cL_law 1382 = .ok (.aload_n 2, 1) := by decide +kernel
theorem dL_law_1383 : decode cL_law 1383 = .ok (.invokevirtual 120, 3) := by decide +kernel
theorem dL_law_1386 : decode cL_law 1386 = .ok (.iload 5, 2) := by decide +kernel
theorem dL_law_1388 : decode cL_law 1388 = .ok (.if_icmp .eq 5, 3) := by decide +kernel
theorem dL_law_1391 : decode cL_law 1391 = .ok (.iconst 0, 1) := by decide +kernel
theorem dL_law_1392 : decode cL_law 1392 = .ok (.ireturn, 1) := by decide +kernel
theorem dL_law_1393 : decode cL_law 1393 = .ok (.iload 5, 2) := by decide +kernel
theorem dL_law_1395 : decode cL_law 1395 = .ok (.ifCond .ne 15, 3) := by decide +kernel
theorem dL_law_1398 : decode cL_law 1398 = .ok (.aload_n 3, 1) := by decide +kernel
theorem dL_law_1399 : decode cL_law 1399 = .ok (.iconst 0, 1) := by decide +kernel
theorem dL_law_1400 : decode cL_law 1400 = .ok (.laload, 1) := by decide +kernel
theorem dL_law_1401 : decode cL_law 1401 = .ok (.iload 6, 2) := by decide +kernel
theorem dL_law_1403 : decode cL_law 1403 = .ok (.i2l, 1) := by decide +kernel
theorem dL_law_1404 : decode cL_law 1404 = .ok (.lcmp, 1) := by decide +kernel
theorem dL_law_1405 : decode cL_law 1405 = .ok (.ifCond .eq 5, 3) := by decide +kernel
theorem dL_law_1408 : decode cL_law 1408 = .ok (.iconst 0, 1) := by decide +kernel
theorem dL_law_1409 : decode cL_law 1409 = .ok (.ireturn, 1) := by decide +kernel
theorem dL_law_1410 : decode cL_law 1410 = .ok (.goto 719, 3) := by decide +kernel
theorem dL_law_1413 : decode cL_law 1413 = .ok (.aload_n 1, 1) := by decide +kernel
theorem dL_law_1414 : decode cL_law 1414 = .ok (.aload_n 0, 1) := by decide +kernel
theorem dL_law_1415 : decode cL_law 1415 = .ok (.iload 4, 2) := by decide +kernel
theorem dL_law_1417 : decode cL_law 1417 = .ok (.iconst 1, 1) := by decide +kernel
theorem dL_law_1418 : decode cL_law 1418 = .ok (.iadd, 1) := by decide +kernel
theorem dL_law_1419 : decode cL_law 1419 = .ok (.iaload, 1) := by decide +kernel
theorem dL_law_1420 : decode cL_law 1420 = .ok (.aload_n 0, 1) := by decide +kernel
theorem dL_law_1421 : decode cL_law 1421 = .ok (.iload 4, 2) := by decide +kernel
theorem dL_law_1423 : decode cL_law 1423 = .ok (.iconst 2, 1) := by decide +kernel
theorem dL_law_1424 : decode cL_law 1424 = .ok (.iadd, 1) := by decide +kernel
theorem dL_law_1425 : decode cL_law 1425 = .ok (.iaload, 1) := by decide +kernel
theorem dL_law_1426 : decode cL_law 1426 = .ok (.aload_n 3, 1) := by decide +kernel
theorem dL_law_1427 : decode cL_law 1427 = .ok (.invokestatic 187, 3) := by decide +kernel
theorem dL_law_1430 : decode cL_law 1430 = .ok (.istore 5, 2) := by decide +kernel
theorem dL_law_1432 : decode cL_law 1432 = .ok (.aload_n 2, 1) := by decide +kernel
theorem dL_law_1433 : decode cL_law 1433 = .ok (.aload_n 0, 1) := by decide +kernel
theorem dL_law_1434 : decode cL_law 1434 = .ok (.iload 4, 2) := by decide +kernel
theorem dL_law_1436 : decode cL_law 1436 = .ok (.iconst 1, 1) := by decide +kernel
theorem dL_law_1437 : decode cL_law 1437 = .ok (.iadd, 1) := by decide +kernel
theorem dL_law_1438 : decode cL_law 1438 = .ok (.iaload, 1) := by decide +kernel
theorem dL_law_1439 : decode cL_law 1439 = .ok (.aload_n 0, 1) := by decide +kernel
theorem dL_law_1440 : decode cL_law 1440 = .ok (.iload 4, 2) := by decide +kernel
theorem dL_law_1442 : decode cL_law 1442 = .ok (.iconst 2, 1) := by decide +kernel
theorem dL_law_1443 : decode cL_law 1443 = .ok (.iadd, 1) := by decide +kernel
theorem dL_law_1444 : decode cL_law 1444 = .ok (.iaload, 1) := by decide +kernel
theorem dL_law_1445 : decode cL_law 1445 = .ok (.invokevirtual 189, 3) := by decide +kernel
theorem dL_law_1448 : decode cL_law 1448 = .ok (.istore 6, 2) := by decide +kernel
theorem dL_law_1450 : decode cL_law 1450 = .ok (.aload_n 2, 1) := by decide +kernel
theorem dL_law_1451 : decode cL_law 1451 = .ok (.invokevirtual 120, 3) := by decide +kernel
theorem dL_law_1454 : decode cL_law 1454 = .ok (.iload 5, 2) := by decide +kernel
theorem dL_law_1456 : decode cL_law 1456 = .ok (.if_icmp .eq 5, 3) := by decide +kernel
theorem dL_law_1459 : decode cL_law 1459 = .ok (.iconst 0, 1) := by decide +kernel
theorem dL_law_1460 : decode cL_law 1460 = .ok (.ireturn, 1) := by decide +kernel
theorem dL_law_1461 : decode cL_law 1461 = .ok (.iload 5, 2) := by decide +kernel
theorem dL_law_1463 : decode cL_law 1463 = .ok (.ifCond .ne 15, 3) := by decide +kernel
theorem dL_law_1466 : decode cL_law 1466 = .ok (.aload_n 3, 1) := by decide +kernel
theorem dL_law_1467 : decode cL_law 1467 = .ok (.iconst 0, 1) := by decide +kernel
theorem dL_law_1468 : decode cL_law 1468 = .ok (.laload, 1) := by decide +kernel
theorem dL_law_1469 : decode cL_law 1469 = .ok (.iload 6, 2) := by decide +kernel
theorem dL_law_1471 : decode cL_law 1471 = .ok (.i2l, 1) := by decide +kernel
theorem dL_law_1472 : decode cL_law 1472 = .ok (.lcmp, 1) := by decide +kernel
theorem dL_law_1473 : decode cL_law 1473 = .ok (.ifCond .eq 5, 3) := by decide +kernel
theorem dL_law_1476 : decode cL_law 1476 = .ok (.iconst 0, 1) := by decide +kernel
theorem dL_law_1477 : decode cL_law 1477 = .ok (.ireturn, 1) := by decide +kernel
theorem dL_law_1478 : decode cL_law 1478 = .ok (.goto 651, 3) := by decide +kernel
theorem dL_law_1481 : decode cL_law 1481 = .ok (.aload_n 1, 1) := by decide +kernel
theorem dL_law_1482 : decode cL_law 1482 = .ok (.aload_n 0, 1) := by decide +kernel
theorem dL_law_1483 : decode cL_law 1483 = .ok (.iload 4, 2) := by decide +kernel
theorem dL_law_1485 : decode cL_law 1485 = .ok (.iconst 1, 1) := by decide +kernel
theorem dL_law_1486 : decode cL_law 1486 = .ok (.iadd, 1) := by decide +kernel
theorem dL_law_1487 : decode cL_law 1487 = .ok (.iaload, 1) := by decide +kernel
theorem dL_law_1488 : decode cL_law 1488 = .ok (.aload_n 0, 1) := by decide +kernel
theorem dL_law_1489 : decode cL_law 1489 = .ok (.iload 4, 2) := by decide +kernel
theorem dL_law_1491 : decode cL_law 1491 = .ok (.iconst 2, 1) := by decide +kernel
theorem dL_law_1492 : decode cL_law 1492 = .ok (.iadd, 1) := by decide +kernel
theorem dL_law_1493 : decode cL_law 1493 = .ok (.iaload, 1) := by decide +kernel
theorem dL_law_1494 : decode cL_law 1494 = .ok (.aload_n 3, 1) := by decide +kernel
theorem dL_law_1495 : decode cL_law 1495 = .ok (.invokestatic 190, 3) := by decide +kernel
theorem dL_law_1498 : decode cL_law 1498 = .ok (.istore 5, 2) := by decide +kernel
theorem dL_law_1500 : decode cL_law 1500 = .ok (.aload_n 2, 1) := by decide +kernel
theorem dL_law_1501 : decode cL_law 1501 = .ok (.aload_n 0, 1) := by decide +kernel
theorem dL_law_1502 : decode cL_law 1502 = .ok (.iload 4, 2) := by decide +kernel
theorem dL_law_1504 : decode cL_law 1504 = .ok (.iconst 1, 1) := by decide +kernel
theorem dL_law_1505 : decode cL_law 1505 = .ok (.iadd, 1) := by decide +kernel
theorem dL_law_1506 : decode cL_law 1506 = .ok (.iaload, 1) := by decide +kernel
theorem dL_law_1507 : decode cL_law 1507 = .ok (.aload_n 0, 1) := by decide +kernel
theorem dL_law_1508 : decode cL_law 1508 = .ok (.iload 4, 2) := by decide +kernel
theorem dL_law_1510 : decode cL_law 1510 = .ok (.iconst 2, 1) := by decide +kernel
theorem dL_law_1511 : decode cL_law 1511 = .ok (.iadd, 1) := by decide +kernel
theorem dL_law_1512 : decode cL_law 1512 = .ok (.iaload, 1) := by decide +kernel
theorem dL_law_1513 : decode cL_law 1513 = .ok (.invokevirtual 192, 3) := by decide +kernel
theorem dL_law_1516 : decode cL_law 1516 = .ok (.istore 6, 2) := by decide +kernel
theorem dL_law_1518 : decode cL_law 1518 = .ok (.aload_n 2, 1) := by decide +kernel
theorem dL_law_1519 : decode cL_law 1519 = .ok (.invokevirtual 120, 3) := by decide +kernel
theorem dL_law_1522 : decode cL_law 1522 = .ok (.iload 5, 2) := by decide +kernel
theorem dL_law_1524 : decode cL_law 1524 = .ok (.if_icmp .eq 5, 3) := by decide +kernel
theorem dL_law_1527 : decode cL_law 1527 = .ok (.iconst 0, 1) := by decide +kernel
theorem dL_law_1528 : decode cL_law 1528 = .ok (.ireturn, 1) := by decide +kernel
theorem dL_law_1529 : decode cL_law 1529 = .ok (.iload 5, 2) := by decide +kernel
theorem dL_law_1531 : decode cL_law 1531 = .ok (.ifCond .ne 15, 3) := by decide +kernel
theorem dL_law_1534 : decode cL_law 1534 = .ok (.aload_n 3, 1) := by decide +kernel
theorem dL_law_1535 : decode cL_law 1535 = .ok (.iconst 0, 1) := by decide +kernel
theorem dL_law_1536 : decode cL_law 1536 = .ok (.laload, 1) := by decide +kernel
theorem dL_law_1537 : decode cL_law 1537 = .ok (.iload 6, 2) := by decide +kernel
theorem dL_law_1539 : decode cL_law 1539 = .ok (.i2l, 1) := by decide +kernel
theorem dL_law_1540 : decode cL_law 1540 = .ok (.lcmp, 1) := by decide +kernel
theorem dL_law_1541 : decode cL_law 1541 = .ok (.ifCond .eq 5, 3) := by decide +kernel
theorem dL_law_1544 : decode cL_law 1544 = .ok (.iconst 0, 1) := by decide +kernel
theorem dL_law_1545 : decode cL_law 1545 = .ok (.ireturn, 1) := by decide +kernel
theorem dL_law_1546 : decode cL_law 1546 = .ok (.goto 583, 3) := by decide +kernel
theorem dL_law_1549 : decode cL_law 1549 = .ok (.aload_n 1, 1) := by decide +kernel
theorem dL_law_1550 : decode cL_law 1550 = .ok (.aload_n 0, 1) := by decide +kernel
theorem dL_law_1551 : decode cL_law 1551 = .ok (.iload 4, 2) := by decide +kernel
theorem dL_law_1553 : decode cL_law 1553 = .ok (.iconst 1, 1) := by decide +kernel
theorem dL_law_1554 : decode cL_law 1554 = .ok (.iadd, 1) := by decide +kernel
theorem dL_law_1555 : decode cL_law 1555 = .ok (.iaload, 1) := by decide +kernel
theorem dL_law_1556 : decode cL_law 1556 = .ok (.aload_n 0, 1) := by decide +kernel
theorem dL_law_1557 : decode cL_law 1557 = .ok (.iload 4, 2) := by decide +kernel
theorem dL_law_1559 : decode cL_law 1559 = .ok (.iconst 2, 1) := by decide +kernel
theorem dL_law_1560 : decode cL_law 1560 = .ok (.iadd, 1) := by decide +kernel
theorem dL_law_1561 : decode cL_law 1561 = .ok (.iaload, 1) := by decide +kernel
theorem dL_law_1562 : decode cL_law 1562 = .ok (.aload_n 3, 1) := by decide +kernel
theorem dL_law_1563 : decode cL_law 1563 = .ok (.invokestatic 193, 3) := by decide +kernel
theorem dL_law_1566 : decode cL_law 1566 = .ok (.istore 5, 2) := by decide +kernel
theorem dL_law_1568 : decode cL_law 1568 = .ok (.aload_n 2, 1) := by decide +kernel
theorem dL_law_1569 : decode cL_law 1569 = .ok (.aload_n 0, 1) := by decide +kernel
theorem dL_law_1570 : decode cL_law 1570 = .ok (.iload 4, 2) := by decide +kernel
theorem dL_law_1572 : decode cL_law 1572 = .ok (.iconst 1, 1) := by decide +kernel
theorem dL_law_1573 : decode cL_law 1573 = .ok (.iadd, 1) := by decide +kernel
theorem dL_law_1574 : decode cL_law 1574 = .ok (.iaload, 1) := by decide +kernel
theorem dL_law_1575 : decode cL_law 1575 = .ok (.aload_n 0, 1) := by decide +kernel
theorem dL_law_1576 : decode cL_law 1576 = .ok (.iload 4, 2) := by decide +kernel
theorem dL_law_1578 : decode cL_law 1578 = .ok (.iconst 2, 1) := by decide +kernel
theorem dL_law_1579 : decode cL_law 1579 = .ok (.iadd, 1) := by decide +kernel
theorem dL_law_1580 : decode cL_law 1580 = .ok (.iaload, 1) := by decide +kernel
theorem dL_law_1581 : decode cL_law 1581 = .ok (.invokevirtual 195, 3) := by decide +kernel
theorem dL_law_1584 : decode cL_law 1584 = .ok (.istore 6, 2) := by decide +kernel
theorem dL_law_1586 : decode cL_law 1586 = .ok (.aload_n 2, 1) := by decide +kernel
theorem dL_law_1587 : decode cL_law 1587 = .ok (.invokevirtual 120, 3) := by decide +kernel
theorem dL_law_1590 : decode cL_law 1590 = .ok (.iload 5, 2) := by decide +kernel
theorem dL_law_1592 : decode cL_law 1592 = .ok (.if_icmp .eq 5, 3) := by decide +kernel
theorem dL_law_1595 : decode cL_law 1595 = .ok (.iconst 0, 1) := by decide +kernel
theorem dL_law_1596 : decode cL_law 1596 = .ok (.ireturn, 1) := by decide +kernel
theorem dL_law_1597 : decode cL_law 1597 = .ok (.iload 5, 2) := by decide +kernel
theorem dL_law_1599 : decode cL_law 1599 = .ok (.ifCond .ne 15, 3) := by decide +kernel
theorem dL_law_1602 : decode cL_law 1602 = .ok (.aload_n 3, 1) := by decide +kernel
theorem dL_law_1603 : decode cL_law 1603 = .ok (.iconst 0, 1) := by decide +kernel
theorem dL_law_1604 : decode cL_law 1604 = .ok (.laload, 1) := by decide +kernel
theorem dL_law_1605 : decode cL_law 1605 = .ok (.iload 6, 2) := by decide +kernel
theorem dL_law_1607 : decode cL_law 1607 = .ok (.i2l, 1) := by decide +kernel
theorem dL_law_1608 : decode cL_law 1608 = .ok (.lcmp, 1) := by decide +kernel
theorem dL_law_1609 : decode cL_law 1609 = .ok (.ifCond .eq 5, 3) := by decide +kernel
theorem dL_law_1612 : decode cL_law 1612 = .ok (.iconst 0, 1) := by decide +kernel
theorem dL_law_1613 : decode cL_law 1613 = .ok (.ireturn, 1) := by decide +kernel
theorem dL_law_1614 : decode cL_law 1614 = .ok (.goto 515, 3) := by decide +kernel
theorem dL_law_1617 : decode cL_law 1617 = .ok (.aload_n 1, 1) := by decide +kernel
theorem dL_law_1618 : decode cL_law 1618 = .ok (.aload_n 0, 1) := by decide +kernel
theorem dL_law_1619 : decode cL_law 1619 = .ok (.iload 4, 2) := by decide +kernel
theorem dL_law_1621 : decode cL_law 1621 = .ok (.iconst 1, 1) := by decide +kernel
theorem dL_law_1622 : decode cL_law 1622 = .ok (.iadd, 1) := by decide +kernel
theorem dL_law_1623 : decode cL_law 1623 = .ok (.iaload, 1) := by decide +kernel
theorem dL_law_1624 : decode cL_law 1624 = .ok (.aload_n 0, 1) := by decide +kernel
theorem dL_law_1625 : decode cL_law 1625 = .ok (.iload 4, 2) := by decide +kernel
theorem dL_law_1627 : decode cL_law 1627 = .ok (.iconst 2, 1) := by decide +kernel
theorem dL_law_1628 : decode cL_law 1628 = .ok (.iadd, 1) := by decide +kernel
theorem dL_law_1629 : decode cL_law 1629 = .ok (.iaload, 1) := by decide +kernel
theorem dL_law_1630 : decode cL_law 1630 = .ok (.aload_n 3, 1) := by decide +kernel
theorem dL_law_1631 : decode cL_law 1631 = .ok (.invokestatic 196, 3) := by decide +kernel
theorem dL_law_1634 : decode cL_law 1634 = .ok (.istore 5, 2) := by decide +kernel
theorem dL_law_1636 : decode cL_law 1636 = .ok (.aload_n 2, 1) := by decide +kernel
theorem dL_law_1637 : decode cL_law 1637 = .ok (.aload_n 0, 1) := by decide +kernel
theorem dL_law_1638 : decode cL_law 1638 = .ok (.iload 4, 2) := by decide +kernel
theorem dL_law_1640 : decode cL_law 1640 = .ok (.iconst 1, 1) := by decide +kernel
theorem dL_law_1641 : decode cL_law 1641 = .ok (.iadd, 1) := by decide +kernel
theorem dL_law_1642 : decode cL_law 1642 = .ok (.iaload, 1) := by decide +kernel
theorem dL_law_1643 : decode cL_law 1643 = .ok (.aload_n 0, 1) := by decide +kernel
theorem dL_law_1644 : decode cL_law 1644 = .ok (.iload 4, 2) := by decide +kernel
theorem dL_law_1646 : decode cL_law 1646 = .ok (.iconst 2, 1) := by decide +kernel
theorem dL_law_1647 : decode cL_law 1647 = .ok (.iadd, 1) := by decide +kernel
theorem dL_law_1648 : decode cL_law 1648 = .ok (.iaload, 1) := by decide +kernel
theorem dL_law_1649 : decode cL_law 1649 = .ok (.invokevirtual 198, 3) := by decide +kernel
theorem dL_law_1652 : decode cL_law 1652 = .ok (.istore 6, 2) := by decide +kernel
theorem dL_law_1654 : decode cL_law 1654 = .ok (.aload_n 2, 1) := by decide +kernel
theorem dL_law_1655 : decode cL_law 1655 = .ok (.invokevirtual 120, 3) := by decide +kernel
theorem dL_law_1658 : decode cL_law 1658 = .ok (.iload 5, 2) := by decide +kernel
theorem dL_law_1660 : decode cL_law 1660 = .ok (.if_icmp .eq 5, 3) := by decide +kernel
theorem dL_law_1663 : decode cL_law 1663 = .ok (.iconst 0, 1) := by decide +kernel
theorem dL_law_1664 : decode cL_law 1664 = .ok (.ireturn, 1) := by decide +kernel
theorem dL_law_1665 : decode cL_law 1665 = .ok (.iload 5, 2) := by decide +kernel
theorem dL_law_1667 : decode cL_law 1667 = .ok (.ifCond .ne 15, 3) := by decide +kernel
theorem dL_law_1670 : decode cL_law 1670 = .ok (.aload_n 3, 1) := by decide +kernel
theorem dL_law_1671 : decode cL_law 1671 = .ok (.iconst 0, 1) := by decide +kernel
theorem dL_law_1672 : decode cL_law 1672 = .ok (.laload, 1) := by decide +kernel
theorem dL_law_1673 : decode cL_law 1673 = .ok (.iload 6, 2) := by decide +kernel
theorem dL_law_1675 : decode cL_law 1675 = .ok (.i2l, 1) := by decide +kernel
theorem dL_law_1676 : decode cL_law 1676 = .ok (.lcmp, 1) := by decide +kernel
theorem dL_law_1677 : decode cL_law 1677 = .ok (.ifCond .eq 5, 3) := by decide +kernel
theorem dL_law_1680 : decode cL_law 1680 = .ok (.iconst 0, 1) := by decide +kernel
theorem dL_law_1681 : decode cL_law 1681 = .ok (.ireturn, 1) := by decide +kernel
theorem dL_law_1682 : decode cL_law 1682 = .ok (.goto 447, 3) := by decide +kernel
theorem dL_law_1685 : decode cL_law 1685 = .ok (.aload_n 1, 1) := by decide +kernel
theorem dL_law_1686 : decode cL_law 1686 = .ok (.aload_n 0, 1) := by decide +kernel
theorem dL_law_1687 : decode cL_law 1687 = .ok (.iload 4, 2) := by decide +kernel
theorem dL_law_1689 : decode cL_law 1689 = .ok (.iconst 1, 1) := by decide +kernel
theorem dL_law_1690 : decode cL_law 1690 = .ok (.iadd, 1) := by decide +kernel
theorem dL_law_1691 : decode cL_law 1691 = .ok (.iaload, 1) := by decide +kernel
theorem dL_law_1692 : decode cL_law 1692 = .ok (.aload_n 0, 1) := by decide +kernel
theorem dL_law_1693 : decode cL_law 1693 = .ok (.iload 4, 2) := by decide +kernel
theorem dL_law_1695 : decode cL_law 1695 = .ok (.iconst 2, 1) := by decide +kernel
theorem dL_law_1696 : decode cL_law 1696 = .ok (.iadd, 1) := by decide +kernel
theorem dL_law_1697 : decode cL_law 1697 = .ok (.iaload, 1) := by decide +kernel
theorem dL_law_1698 : decode cL_law 1698 = .ok (.aload_n 3, 1) := by decide +kernel
theorem dL_law_1699 : decode cL_law 1699 = .ok (.invokestatic 199, 3) := by decide +kernel
theorem dL_law_1702 : decode cL_law 1702 = .ok (.istore 5, 2) := by decide +kernel
theorem dL_law_1704 : decode cL_law 1704 = .ok (.aload_n 2, 1) := by decide +kernel
theorem dL_law_1705 : decode cL_law 1705 = .ok (.aload_n 0, 1) := by decide +kernel
theorem dL_law_1706 : decode cL_law 1706 = .ok (.iload 4, 2) := by decide +kernel
theorem dL_law_1708 : decode cL_law 1708 = .ok (.iconst 1, 1) := by decide +kernel
theorem dL_law_1709 : decode cL_law 1709 = .ok (.iadd, 1) := by decide +kernel
theorem dL_law_1710 : decode cL_law 1710 = .ok (.iaload, 1) := by decide +kernel
theorem dL_law_1711 : decode cL_law 1711 = .ok (.aload_n 0, 1) := by decide +kernel
theorem dL_law_1712 : decode cL_law 1712 = .ok (.iload 4, 2) := by decide +kernel
theorem dL_law_1714 : decode cL_law 1714 = .ok (.iconst 2, 1) := by decide +kernel
theorem dL_law_1715 : decode cL_law 1715 = .ok (.iadd, 1) := by decide +kernel
theorem dL_law_1716 : decode cL_law 1716 = .ok (.iaload, 1) := by decide +kernel
theorem dL_law_1717 : decode cL_law 1717 = .ok (.invokevirtual 201, 3) := by decide +kernel
theorem dL_law_1720 : decode cL_law 1720 = .ok (.istore 6, 2) := by decide +kernel
theorem dL_law_1722 : decode cL_law 1722 = .ok (.aload_n 2, 1) := by decide +kernel
theorem dL_law_1723 : decode cL_law 1723 = .ok (.invokevirtual 120, 3) := by decide +kernel
theorem dL_law_1726 : decode cL_law 1726 = .ok (.iload 5, 2) := by decide +kernel
theorem dL_law_1728 : decode cL_law 1728 = .ok (.if_icmp .eq 5, 3) := by decide +kernel
theorem dL_law_1731 : decode cL_law 1731 = .ok (.iconst 0, 1) := by decide +kernel
theorem dL_law_1732 : decode cL_law 1732 = .ok (.ireturn, 1) := by decide +kernel
theorem dL_law_1733 : decode cL_law 1733 = .ok (.iload 5, 2) := by decide +kernel
theorem dL_law_1735 : decode cL_law 1735 = .ok (.ifCond .ne 15, 3) := by decide +kernel
theorem dL_law_1738 : decode cL_law 1738 = .ok (.aload_n 3, 1) := by decide +kernel
theorem dL_law_1739 : decode cL_law 1739 = .ok (.iconst 0, 1) := by decide +kernel
theorem dL_law_1740 : decode cL_law 1740 = .ok (.laload, 1) := by decide +kernel
theorem dL_law_1741 : decode cL_law 1741 = .ok (.iload 6, 2) := by decide +kernel
theorem dL_law_1743 : decode cL_law 1743 = .ok (.i2l, 1) := by decide +kernel
theorem dL_law_1744 : decode cL_law 1744 = .ok (.lcmp, 1) := by decide +kernel
theorem dL_law_1745 : decode cL_law 1745 = .ok (.ifCond .eq 5, 3) := by decide +kernel
theorem dL_law_1748 : decode cL_law 1748 = .ok (.iconst 0, 1) := by decide +kernel
theorem dL_law_1749 : decode cL_law 1749 = .ok (.ireturn, 1) := by decide +kernel
theorem dL_law_1750 : decode cL_law 1750 = .ok (.goto 379, 3) := by decide +kernel
theorem dL_law_1753 : decode cL_law 1753 = .ok (.aload_n 1, 1) := by decide +kernel
theorem dL_law_1754 : decode cL_law 1754 = .ok (.aload_n 0, 1) := by decide +kernel
theorem dL_law_1755 : decode cL_law 1755 = .ok (.iload 4, 2) := by decide +kernel
theorem dL_law_1757 : decode cL_law 1757 = .ok (.iconst 1, 1) := by decide +kernel
theorem dL_law_1758 : decode cL_law 1758 = .ok (.iadd, 1) := by decide +kernel
theorem dL_law_1759 : decode cL_law 1759 = .ok (.iaload, 1) := by decide +kernel
theorem dL_law_1760 : decode cL_law 1760 = .ok (.aload_n 3, 1) := by decide +kernel
theorem dL_law_1761 : decode cL_law 1761 = .ok (.invokestatic 202, 3) := by decide +kernel
theorem dL_law_1764 : decode cL_law 1764 = .ok (.istore 5, 2) := by decide +kernel
theorem dL_law_1766 : decode cL_law 1766 = .ok (.aload_n 2, 1) := by decide +kernel
theorem dL_law_1767 : decode cL_law 1767 = .ok (.aload_n 0, 1) := by decide +kernel
theorem dL_law_1768 : decode cL_law 1768 = .ok (.iload 4, 2) := by decide +kernel
theorem dL_law_1770 : decode cL_law 1770 = .ok (.iconst 1, 1) := by decide +kernel
theorem dL_law_1771 : decode cL_law 1771 = .ok (.iadd, 1) := by decide +kernel
theorem dL_law_1772 : decode cL_law 1772 = .ok (.iaload, 1) := by decide +kernel
theorem dL_law_1773 : decode cL_law 1773 = .ok (.invokevirtual 204, 3) := by decide +kernel
theorem dL_law_1776 : decode cL_law 1776 = .ok (.istore 6, 2) := by decide +kernel
theorem dL_law_1778 : decode cL_law 1778 = .ok (.aload_n 2, 1) := by decide +kernel
theorem dL_law_1779 : decode cL_law 1779 = .ok (.invokevirtual 120, 3) := by decide +kernel
theorem dL_law_1782 : decode cL_law 1782 = .ok (.iload 5, 2) := by decide +kernel
theorem dL_law_1784 : decode cL_law 1784 = .ok (.if_icmp .eq 5, 3) := by decide +kernel
theorem dL_law_1787 : decode cL_law 1787 = .ok (.iconst 0, 1) := by decide +kernel
theorem dL_law_1788 : decode cL_law 1788 = .ok (.ireturn, 1) := by decide +kernel
theorem dL_law_1789 : decode cL_law 1789 = .ok (.iload 5, 2) := by decide +kernel
theorem dL_law_1791 : decode cL_law 1791 = .ok (.ifCond .ne 15, 3) := by decide +kernel
theorem dL_law_1794 : decode cL_law 1794 = .ok (.aload_n 3, 1) := by decide +kernel
theorem dL_law_1795 : decode cL_law 1795 = .ok (.iconst 0, 1) := by decide +kernel
theorem dL_law_1796 : decode cL_law 1796 = .ok (.laload, 1) := by decide +kernel
theorem dL_law_1797 : decode cL_law 1797 = .ok (.iload 6, 2) := by decide +kernel
theorem dL_law_1799 : decode cL_law 1799 = .ok (.i2l, 1) := by decide +kernel
theorem dL_law_1800 : decode cL_law 1800 = .ok (.lcmp, 1) := by decide +kernel
theorem dL_law_1801 : decode cL_law 1801 = .ok (.ifCond .eq 5, 3) := by decide +kernel
theorem dL_law_1804 : decode cL_law 1804 = .ok (.iconst 0, 1) := by decide +kernel
theorem dL_law_1805 : decode cL_law 1805 = .ok (.ireturn, 1) := by decide +kernel
theorem dL_law_1806 : decode cL_law 1806 = .ok (.goto 323, 3) := by decide +kernel
theorem dL_law_1809 : decode cL_law 1809 = .ok (.aload_n 1, 1) := by decide +kernel
theorem dL_law_1810 : decode cL_law 1810 = .ok (.aload_n 0, 1) := by decide +kernel
theorem dL_law_1811 : decode cL_law 1811 = .ok (.iload 4, 2) := by decide +kernel
theorem dL_law_1813 : decode cL_law 1813 = .ok (.iconst 1, 1) := by decide +kernel
theorem dL_law_1814 : decode cL_law 1814 = .ok (.iadd, 1) := by decide +kernel
theorem dL_law_1815 : decode cL_law 1815 = .ok (.iaload, 1) := by decide +kernel
theorem dL_law_1816 : decode cL_law 1816 = .ok (.aload_n 0, 1) := by decide +kernel
theorem dL_law_1817 : decode cL_law 1817 = .ok (.iload 4, 2) := by decide +kernel
theorem dL_law_1819 : decode cL_law 1819 = .ok (.iconst 2, 1) := by decide +kernel
theorem dL_law_1820 : decode cL_law 1820 = .ok (.iadd, 1) := by decide +kernel
theorem dL_law_1821 : decode cL_law 1821 = .ok (.iaload, 1) := by decide +kernel
theorem dL_law_1822 : decode cL_law 1822 = .ok (.aload_n 3, 1) := by decide +kernel
theorem dL_law_1823 : decode cL_law 1823 = .ok (.invokestatic 205, 3) := by decide +kernel
theorem dL_law_1826 : decode cL_law 1826 = .ok (.istore 5, 2) := by decide +kernel
theorem dL_law_1828 : decode cL_law 1828 = .ok (.aload_n 2, 1) := by decide +kernel
theorem dL_law_1829 : decode cL_law 1829 = .ok (.aload_n 0, 1) := by decide +kernel
theorem dL_law_1830 : decode cL_law 1830 = .ok (.iload 4, 2) := by decide +kernel
theorem dL_law_1832 : decode cL_law 1832 = .ok (.iconst 1, 1) := by decide +kernel
theorem dL_law_1833 : decode cL_law 1833 = .ok (.iadd, 1) := by decide +kernel
theorem dL_law_1834 : decode cL_law 1834 = .ok (.iaload, 1) := by decide +kernel
theorem dL_law_1835 : decode cL_law 1835 = .ok (.aload_n 0, 1) := by decide +kernel
theorem dL_law_1836 : decode cL_law 1836 = .ok (.iload 4, 2) := by decide +kernel
theorem dL_law_1838 : decode cL_law 1838 = .ok (.iconst 2, 1) := by decide +kernel
theorem dL_law_1839 : decode cL_law 1839 = .ok (.iadd, 1) := by decide +kernel
theorem dL_law_1840 : decode cL_law 1840 = .ok (.iaload, 1) := by decide +kernel
theorem dL_law_1841 : decode cL_law 1841 = .ok (.invokevirtual 207, 3) := by decide +kernel
theorem dL_law_1844 : decode cL_law 1844 = .ok (.istore 6, 2) := by decide +kernel
theorem dL_law_1846 : decode cL_law 1846 = .ok (.aload_n 2, 1) := by decide +kernel
theorem dL_law_1847 : decode cL_law 1847 = .ok (.invokevirtual 120, 3) := by decide +kernel
theorem dL_law_1850 : decode cL_law 1850 = .ok (.iload 5, 2) := by decide +kernel
theorem dL_law_1852 : decode cL_law 1852 = .ok (.if_icmp .eq 5, 3) := by decide +kernel
theorem dL_law_1855 : decode cL_law 1855 = .ok (.iconst 0, 1) := by decide +kernel
theorem dL_law_1856 : decode cL_law 1856 = .ok (.ireturn, 1) := by decide +kernel
theorem dL_law_1857 : decode cL_law 1857 = .ok (.iload 5, 2) := by decide +kernel
theorem dL_law_1859 : decode cL_law 1859 = .ok (.ifCond .ne 15, 3) := by decide +kernel
theorem dL_law_1862 : decode cL_law 1862 = .ok (.aload_n 3, 1) := by decide +kernel
theorem dL_law_1863 : decode cL_law 1863 = .ok (.iconst 0, 1) := by decide +kernel
theorem dL_law_1864 : decode cL_law 1864 = .ok (.laload, 1) := by decide +kernel
theorem dL_law_1865 : decode cL_law 1865 = .ok (.iload 6, 2) := by decide +kernel
theorem dL_law_1867 : decode cL_law 1867 = .ok (.i2l, 1) := by decide +kernel
theorem dL_law_1868 : decode cL_law 1868 = .ok (.lcmp, 1) := by decide +kernel
theorem dL_law_1869 : decode cL_law 1869 = .ok (.ifCond .eq 5, 3) := by decide +kernel
theorem dL_law_1872 : decode cL_law 1872 = .ok (.iconst 0, 1) := by decide +kernel
theorem dL_law_1873 : decode cL_law 1873 = .ok (.ireturn, 1) := by decide +kernel
theorem dL_law_1874 : decode cL_law 1874 = .ok (.goto 255, 3) := by decide +kernel
theorem dL_law_1877 : decode cL_law 1877 = .ok (.aload_n 1, 1) := by decide +kernel
theorem dL_law_1878 : decode cL_law 1878 = .ok (.aload_n 3, 1) := by decide +kernel
theorem dL_law_1879 : decode cL_law 1879 = .ok (.invokestatic 208, 3) := by decide +kernel
theorem dL_law_1882 : decode cL_law 1882 = .ok (.istore 5, 2) := by decide +kernel
theorem dL_law_1884 : decode cL_law 1884 = .ok (.aload_n 2, 1) := by decide +kernel
theorem dL_law_1885 : decode cL_law 1885 = .ok (.invokevirtual 210, 3) := by decide +kernel
theorem dL_law_1888 : decode cL_law 1888 = .ok (.istore 6, 2) := by decide +kernel
theorem dL_law_1890 : decode cL_law 1890 = .ok (.aload_n 2, 1) := by decide +kernel
theorem dL_law_1891 : decode cL_law 1891 = .ok (.invokevirtual 120, 3) := by decide +kernel
theorem dL_law_1894 : decode cL_law 1894 = .ok (.iload 5, 2) := by decide +kernel
theorem dL_law_1896 : decode cL_law 1896 = .ok (.if_icmp .eq 5, 3) := by decide +kernel
theorem dL_law_1899 : decode cL_law 1899 = .ok (.iconst 0, 1) := by decide +kernel
theorem dL_law_1900 : decode cL_law 1900 = .ok (.ireturn, 1) := by decide +kernel
theorem dL_law_1901 : decode cL_law 1901 = .ok (.iload 5, 2) := by decide +kernel
theorem dL_law_1903 : decode cL_law 1903 = .ok (.ifCond .ne 15, 3) := by decide +kernel
theorem dL_law_1906 : decode cL_law 1906 = .ok (.aload_n 3, 1) := by decide +kernel
theorem dL_law_1907 : decode cL_law 1907 = .ok (.iconst 0, 1) := by decide +kernel
theorem dL_law_1908 : decode cL_law 1908 = .ok (.laload, 1) := by decide +kernel
theorem dL_law_1909 : decode cL_law 1909 = .ok (.iload 6, 2) := by decide +kernel
theorem dL_law_1911 : decode cL_law 1911 = .ok (.i2l, 1) := by decide +kernel
theorem dL_law_1912 : decode cL_law 1912 = .ok (.lcmp, 1) := by decide +kernel
theorem dL_law_1913 : decode cL_law 1913 = .ok (.ifCond .eq 5, 3) := by decide +kernel
theorem dL_law_1916 : decode cL_law 1916 = .ok (.iconst 0, 1) := by decide +kernel
theorem dL_law_1917 : decode cL_law 1917 = .ok (.ireturn, 1) := by decide +kernel
theorem dL_law_1918 : decode cL_law 1918 = .ok (.goto 211, 3) := by decide +kernel
theorem dL_law_1921 : decode cL_law 1921 = .ok (.aload_n 1, 1) := by decide +kernel
theorem dL_law_1922 : decode cL_law 1922 = .ok (.aload_n 0, 1) := by decide +kernel
theorem dL_law_1923 : decode cL_law 1923 = .ok (.iload 4, 2) := by decide +kernel
theorem dL_law_1925 : decode cL_law 1925 = .ok (.iconst 1, 1) := by decide +kernel
theorem dL_law_1926 : decode cL_law 1926 = .ok (.iadd, 1) := by decide +kernel
theorem dL_law_1927 : decode cL_law 1927 = .ok (.iaload, 1) := by decide +kernel
theorem dL_law_1928 : decode cL_law 1928 = .ok (.ifCond .eq 7, 3) := by decide +kernel
theorem dL_law_1931 : decode cL_law 1931 = .ok (.iconst 1, 1) := by decide +kernel
theorem dL_law_1932 : decode cL_law 1932 = .ok (.goto 4, 3) := by decide +kernel
theorem dL_law_1935 : decode cL_law 1935 = .ok (.iconst 0, 1) := by decide +kernel
theorem dL_law_1936 : decode cL_law 1936 = .ok (.aload_n 3, 1) := by decide +kernel
theorem dL_law_1937 : decode cL_law 1937 = .ok (.invokestatic 211, 3) := by decide +kernel
theorem dL_law_1940 : decode cL_law 1940 = .ok (.istore 5, 2) := by decide +kernel
theorem dL_law_1942 : decode cL_law 1942 = .ok (.aload_n 2, 1) := by decide +kernel
theorem dL_law_1943 : decode cL_law 1943 = .ok (.aload_n 0, 1) := by decide +kernel
theorem dL_law_1944 : decode cL_law 1944 = .ok (.iload 4, 2) := by decide +kernel
theorem dL_law_1946 : decode cL_law 1946 = .ok (.iconst 1, 1) := by decide +kernel
theorem dL_law_1947 : decode cL_law 1947 = .ok (.iadd, 1) := by decide +kernel
theorem dL_law_1948 : decode cL_law 1948 = .ok (.iaload, 1) := by decide +kernel
theorem dL_law_1949 : decode cL_law 1949 = .ok (.ifCond .eq 7, 3) := by decide +kernel
theorem dL_law_1952 : decode cL_law 1952 = .ok (.iconst 1, 1) := by decide +kernel
theorem dL_law_1953 : decode cL_law 1953 = .ok (.goto 4, 3) := by decide +kernel
theorem dL_law_1956 : decode cL_law 1956 = .ok (.iconst 0, 1) := by decide +kernel
theorem dL_law_1957 : decode cL_law 1957 = .ok (.invokevirtual 214, 3) := by decide +kernel
theorem dL_law_1960 : decode cL_law 1960 = .ok (.istore 6, 2) := by decide +kernel
theorem dL_law_1962 : decode cL_law 1962 = .ok (.aload_n 2, 1) := by decide +kernel
theorem dL_law_1963 : decode cL_law 1963 = .ok (.invokevirtual 120, 3) := by decide +kernel
theorem dL_law_1966 : decode cL_law 1966 = .ok (.iload 5, 2) := by decide +kernel
theorem dL_law_1968 : decode cL_law 1968 = .ok (.if_icmp .eq 5, 3) := by decide +kernel
theorem dL_law_1971 : decode cL_law 1971 = .ok (.iconst 0, 1) := by decide +kernel
theorem dL_law_1972 : decode cL_law 1972 = .ok (.ireturn, 1) := by decide +kernel
theorem dL_law_1973 : decode cL_law 1973 = .ok (.iload 5, 2) := by decide +kernel
theorem dL_law_1975 : decode cL_law 1975 = .ok (.ifCond .ne 15, 3) := by decide +kernel
theorem dL_law_1978 : decode cL_law 1978 = .ok (.aload_n 3, 1) := by decide +kernel
theorem dL_law_1979 : decode cL_law 1979 = .ok (.iconst 0, 1) := by decide +kernel
theorem dL_law_1980 : decode cL_law 1980 = .ok (.laload, 1) := by decide +kernel
theorem dL_law_1981 : decode cL_law 1981 = .ok (.iload 6, 2) := by decide +kernel
theorem dL_law_1983 : decode cL_law 1983 = .ok (.i2l, 1) := by decide +kernel
theorem dL_law_1984 : decode cL_law 1984 = .ok (.lcmp, 1) := by decide +kernel
theorem dL_law_1985 : decode cL_law 1985 = .ok (.ifCond .eq 5, 3) := by decide +kernel
theorem dL_law_1988 : decode cL_law 1988 = .ok (.iconst 0, 1) := by decide +kernel
theorem dL_law_1989 : decode cL_law 1989 = .ok (.ireturn, 1) := by decide +kernel
theorem dL_law_1990 : decode cL_law 1990 = .ok (.goto 139, 3) := by decide +kernel
theorem dL_law_1993 : decode cL_law 1993 = .ok (.aload_n 1, 1) := by decide +kernel
theorem dL_law_1994 : decode cL_law 1994 = .ok (.aload_n 0, 1) := by decide +kernel
theorem dL_law_1995 : decode cL_law 1995 = .ok (.iload 4, 2) := by decide +kernel
theorem dL_law_1997 : decode cL_law 1997 = .ok (.iconst 1, 1) := by decide +kernel
theorem dL_law_1998 : decode cL_law 1998 = .ok (.iadd, 1) := by decide +kernel
theorem dL_law_1999 : decode cL_law 1999 = .ok (.iaload, 1) := by decide +kernel
theorem dL_law_2000 : decode cL_law 2000 = .ok (.aload_n 0, 1) := by decide +kernel
theorem dL_law_2001 : decode cL_law 2001 = .ok (.iload 4, 2) := by decide +kernel
theorem dL_law_2003 : decode cL_law 2003 = .ok (.iconst 2, 1) := by decide +kernel
theorem dL_law_2004 : decode cL_law 2004 = .ok (.iadd, 1) := by decide +kernel
theorem dL_law_2005 : decode cL_law 2005 = .ok (.iaload, 1) := by decide +kernel
theorem dL_law_2006 : decode cL_law 2006 = .ok (.aload_n 3, 1) := by decide +kernel
theorem dL_law_2007 : decode cL_law 2007 = .ok (.invokestatic 215, 3) := by decide +kernel
theorem dL_law_2010 : decode cL_law 2010 = .ok (.istore 5, 2) := by decide +kernel
theorem dL_law_2012 : decode cL_law 2012 = .ok (.aload_n 2, 1) := by decide +kernel
theorem dL_law_2013 : decode cL_law 2013 = .ok (.aload_n 0, 1) := by decide +kernel
theorem dL_law_2014 : decode cL_law 2014 = .ok (.iload 4, 2) := by decide +kernel
theorem dL_law_2016 : decode cL_law 2016 = .ok (.iconst 1, 1) := by decide +kernel
theorem dL_law_2017 : decode cL_law 2017 = .ok (.iadd, 1) := by decide +kernel
theorem dL_law_2018 : decode cL_law 2018 = .ok (.iaload, 1) := by decide +kernel
theorem dL_law_2019 : decode cL_law 2019 = .ok (.aload_n 0, 1) := by decide +kernel
theorem dL_law_2020 : decode cL_law 2020 = .ok (.iload 4, 2) := by decide +kernel
theorem dL_law_2022 : decode cL_law 2022 = .ok (.iconst 2, 1) := by decide +kernel
theorem dL_law_2023 : decode cL_law 2023 = .ok (.iadd, 1) := by decide +kernel
theorem dL_law_2024 : decode cL_law 2024 = .ok (.iaload, 1) := by decide +kernel
theorem dL_law_2025 : decode cL_law 2025 = .ok (.invokevirtual 217, 3) := by decide +kernel
theorem dL_law_2028 : decode cL_law 2028 = .ok (.istore 6, 2) := by decide +kernel
theorem dL_law_2030 : decode cL_law 2030 = .ok (.aload_n 2, 1) := by decide +kernel
theorem dL_law_2031 : decode cL_law 2031 = .ok (.invokevirtual 120, 3) := by decide +kernel
theorem dL_law_2034 : decode cL_law 2034 = .ok (.iload 5, 2) := by decide +kernel
theorem dL_law_2036 : decode cL_law 2036 = .ok (.if_icmp .eq 5, 3) := by decide +kernel
theorem dL_law_2039 : decode cL_law 2039 = .ok (.iconst 0, 1) := by decide +kernel
theorem dL_law_2040 : decode cL_law 2040 = .ok (.ireturn, 1) := by decide +kernel
theorem dL_law_2041 : decode cL_law 2041 = .ok (.iload 5, 2) := by decide +kernel
theorem dL_law_2043 : decode cL_law 2043 = .ok (.ifCond .ne 15, 3) := by decide +kernel
theorem dL_law_2046 : decode cL_law 2046 = .ok (.aload_n 3, 1) := by decide +kernel
theorem dL_law_2047 : decode cL_law 2047 = .ok (.iconst 0, 1) := by decide +kernel
theorem dL_law_2048 : decode cL_law 2048 = .ok (.laload, 1) := by decide +kernel
theorem dL_law_2049 : decode cL_law 2049 = .ok (.iload 6, 2) := by decide +kernel
theorem dL_law_2051 : decode cL_law 2051 = .ok (.i2l, 1) := by decide +kernel
theorem dL_law_2052 : decode cL_law 2052 = .ok (.lcmp, 1) := by decide +kernel
theorem dL_law_2053 : decode cL_law 2053 = .ok (.ifCond .eq 5, 3) := by decide +kernel
theorem dL_law_2056 : decode cL_law 2056 = .ok (.iconst 0, 1) := by decide +kernel
theorem dL_law_2057 : decode cL_law 2057 = .ok (.ireturn, 1) := by decide +kernel
theorem dL_law_2058 : decode cL_law 2058 = .ok (.goto 71, 3) := by decide +kernel
theorem dL_law_2061 : decode cL_law 2061 = .ok (.aload_n 1, 1) := by decide +kernel
theorem dL_law_2062 : decode cL_law 2062 = .ok (.aload_n 0, 1) := by decide +kernel
theorem dL_law_2063 : decode cL_law 2063 = .ok (.iload 4, 2) := by decide +kernel
theorem dL_law_2065 : decode cL_law 2065 = .ok (.iconst 1, 1) := by decide +kernel
theorem dL_law_2066 : decode cL_law 2066 = .ok (.iadd, 1) := by decide +kernel
theorem dL_law_2067 : decode cL_law 2067 = .ok (.iaload, 1) := by decide +kernel
theorem dL_law_2068 : decode cL_law 2068 = .ok (.aload_n 0, 1) := by decide +kernel
theorem dL_law_2069 : decode cL_law 2069 = .ok (.iload 4, 2) := by decide +kernel
theorem dL_law_2071 : decode cL_law 2071 = .ok (.iconst 2, 1) := by decide +kernel
theorem dL_law_2072 : decode cL_law 2072 = .ok (.iadd, 1) := by decide +kernel
theorem dL_law_2073 : decode cL_law 2073 = .ok (.iaload, 1) := by decide +kernel
theorem dL_law_2074 : decode cL_law 2074 = .ok (.aload_n 3, 1) := by decide +kernel
theorem dL_law_2075 : decode cL_law 2075 = .ok (.invokestatic 218, 3) := by decide +kernel
theorem dL_law_2078 : decode cL_law 2078 = .ok (.istore 5, 2) := by decide +kernel
theorem dL_law_2080 : decode cL_law 2080 = .ok (.aload_n 2, 1) := by decide +kernel
theorem dL_law_2081 : decode cL_law 2081 = .ok (.aload_n 0, 1) := by decide +kernel
theorem dL_law_2082 : decode cL_law 2082 = .ok (.iload 4, 2) := by decide +kernel
theorem dL_law_2084 : decode cL_law 2084 = .ok (.iconst 1, 1) := by decide +kernel
theorem dL_law_2085 : decode cL_law 2085 = .ok (.iadd, 1) := by decide +kernel
theorem dL_law_2086 : decode cL_law 2086 = .ok (.iaload, 1) := by decide +kernel
theorem dL_law_2087 : decode cL_law 2087 = .ok (.aload_n 0, 1) := by decide +kernel
theorem dL_law_2088 : decode cL_law 2088 = .ok (.iload 4, 2) := by decide +kernel
theorem dL_law_2090 : decode cL_law 2090 = .ok (.iconst 2, 1) := by decide +kernel
theorem dL_law_2091 : decode cL_law 2091 = .ok (.iadd, 1) := by decide +kernel
theorem dL_law_2092 : decode cL_law 2092 = .ok (.iaload, 1) := by decide +kernel
theorem dL_law_2093 : decode cL_law 2093 = .ok (.invokevirtual 220, 3) := by decide +kernel
theorem dL_law_2096 : decode cL_law 2096 = .ok (.istore 6, 2) := by decide +kernel
theorem dL_law_2098 : decode cL_law 2098 = .ok (.aload_n 2, 1) := by decide +kernel
theorem dL_law_2099 : decode cL_law 2099 = .ok (.invokevirtual 120, 3) := by decide +kernel
theorem dL_law_2102 : decode cL_law 2102 = .ok (.iload 5, 2) := by decide +kernel
theorem dL_law_2104 : decode cL_law 2104 = .ok (.if_icmp .eq 5, 3) := by decide +kernel
theorem dL_law_2107 : decode cL_law 2107 = .ok (.iconst 0, 1) := by decide +kernel
theorem dL_law_2108 : decode cL_law 2108 = .ok (.ireturn, 1) := by decide +kernel
theorem dL_law_2109 : decode cL_law 2109 = .ok (.iload 5, 2) := by decide +kernel
theorem dL_law_2111 : decode cL_law 2111 = .ok (.ifCond .ne 15, 3) := by decide +kernel
theorem dL_law_2114 : decode cL_law 2114 = .ok (.aload_n 3, 1) := by decide +kernel
theorem dL_law_2115 : decode cL_law 2115 = .ok (.iconst 0, 1) := by decide +kernel
theorem dL_law_2116 : decode cL_law 2116 = .ok (.laload, 1) := by decide +kernel
theorem dL_law_2117 : decode cL_law 2117 = .ok (.iload 6, 2) := by decide +kernel
theorem dL_law_2119 : decode cL_law 2119 = .ok (.i2l, 1) := by decide +kernel
theorem dL_law_2120 : decode cL_law 2120 = .ok (.lcmp, 1) := by decide +kernel
theorem dL_law_2121 : decode cL_law 2121 = .ok (.ifCond .eq 5, 3) := by decide +kernel
theorem dL_law_2124 : decode cL_law 2124 = .ok (.iconst 0, 1) := by decide +kernel
theorem dL_law_2125 : decode cL_law 2125 = .ok (.ireturn, 1) := by decide +kernel
theorem dL_law_2126 : decode cL_law 2126 = .ok (.goto 3, 3) := by decide +kernel
theorem dL_law_2129 : decode cL_law 2129 = .ok (.iinc 4 6, 3) := by decide +kernel
theorem dL_law_2132 : decode cL_law 2132 = .ok (.goto (-2109), 3) := by decide +kernel
theorem dL_law_2135 : decode cL_law 2135 = .ok (.iconst 1, 1) := by decide +kernel
theorem dL_law_2136 : decode cL_law 2136 = .ok (.ireturn, 1) := by decide +kernel
end
section
/-! THE PURE MACHINE: memories by index, what a cell of it is in the heap -/
abbrev pT : Type := (Nat → Nat → Option Nat) × (Nat → Nat) × (Nat → Nat) × Nat × (Nat → Nat → Int64)
abbrev pM : Type := pT × (Nat → Nat → Int32)
def pR (M : pM) : Nat → Nat → Option Nat := M.1.1
def pK (M : pM) : Nat → Nat := M.1.2.1
def pL (M : pM) : Nat → Nat := M.1.2.2.1
def pN (M : pM) : Nat := M.1.2.2.2.1
def pJ (M : pM) : Nat → Nat → Int64 := M.1.2.2.2.2
def pV (M : pM) : Nat → Nat → Int32 := M.2
def up2 {α : Type} (f : Nat → Nat → α) (h j : Nat) (x : α) : Nat → Nat → α := fun a b => if a = h ∧ b = j then x else f a b
def up1 {α : Type} (f : Nat → α) (h : Nat) (x : α) : Nat → α := fun a => if a = h then x else f a
theorem up1_off {α : Type} (f : Nat → α) {h a : Nat} (x : α) (q : a ≠ h) : up1 f h x a = f a := if_neg q
theorem up1_at {α : Type} (f : Nat → α) (h : Nat) (x : α) : up1 f h x h = x := if_pos rfl
theorem up2_same {α : Type} (f : Nat → Nat → α) (h j : Nat) (x : α) : up2 f h j x h j = x := by simp [up2]
theorem up2_ne {α : Type} (f : Nat → Nat → α) {h j a b : Nat} (x : α) (q : a ≠ h ∨ b ≠ j) : up2 f h j x a b = f a b := by
  unfold up2
  rw [if_neg]
  intro z
  rcases q with q | q
  · exact q z.1
  · exact q z.2
theorem up2_row {α : Type} (f : Nat → Nat → α) (h j : Nat) (x : α) (b : Nat) : up2 f h j x h b = if b = j then x else f h b := by simp [up2]
theorem up2_off {α : Type} (f : Nat → Nat → α) {h a : Nat} (j : Nat) (x : α) (q : a ≠ h) : up2 f h j x a = f a := by funext b; exact up2_ne f x (Or.inl q)
theorem up2_at {α : Type} (f : Nat → Nat → α) (h j : Nat) (x : α) : up2 f h j x h = up1 (f h) j x := by funext b; simp [up2, up1]
def mV (M : pM) (h j : Nat) (x : Int32) : pM := (M.1, up2 M.2 h j x)
def mJ (M : pM) (h j : Nat) (x : Int64) : pM := ((M.1.1, M.1.2.1, M.1.2.2.1, M.1.2.2.2.1, up2 M.1.2.2.2.2 h j x), M.2)
def mR (M : pM) (h j : Nat) (r : Option Nat) : pM := ((up2 M.1.1 h j r, M.1.2), M.2)
/-- a new cell of a kind, of a length -/
def mN (M : pM) (k n : Nat) : pM := ((up1 M.1.1 M.1.2.2.2.1 (fun _ => none), up1 M.1.2.1 M.1.2.2.2.1 k, up1 M.1.2.2.1 M.1.2.2.2.1 n, M.1.2.2.2.1 + 1, up1 M.1.2.2.2.2 M.1.2.2.2.1 (fun _ => 0)), up1 M.2 M.1.2.2.2.1 (fun _ => 0))
def fN : Nat → Nat
  | 0 => 11 | 1 => 11 | 2 => 10 | 3 => 6 | 4 => 4 | 5 => 6 | 6 => 9 | 7 => 4 | 8 => 38 | _ => 0
def fT : Nat → Nat → FieldType
  | 0 => tyX0 | 1 => tyX1 | 2 => tyX2 | 3 => tyX3 | 4 => tyX4 | 5 => tyX5 | 6 => tyX6 | 7 => tyX7 | 8 => tyX8 | _ => fun _ => .int
def fX : Nat → u_T
  | 0 => TX0 | 1 => TX1 | 2 => TX2 | 3 => TX3 | 4 => TX4 | 5 => TX5 | 6 => TX6 | 7 => TX7 | _ => TX8
def fC : Nat → String
  | 0 => RX0 | 1 => RX1 | 2 => RX2 | 3 => RX3 | 4 => RX4 | 5 => RX5 | 6 => RX6 | 7 => RX7 | 8 => RX8 | _ => RL
def isRT : FieldType → Bool
  | .object _ => true | .array _ => true | _ => false
theorem ci9 {P : Nat → Prop} (h0 : P 0) (h1 : P 1) (h2 : P 2) (h3 : P 3) (h4 : P 4) (h5 : P 5) (h6 : P 6) (h7 : P 7) (h8 : P 8) : ∀ ci, ci < 9 → P ci
  | 0, _ => h0 | 1, _ => h1 | 2, _ => h2 | 3, _ => h3 | 4, _ => h4 | 5, _ => h5 | 6, _ => h6 | 7, _ => h7 | 8, _ => h8
  | n + 9, h => absurd h (by omega)
theorem vwCl_at : ∀ ci, ci < 9 → vwCl[ci]? = some (fC ci, fX ci, fN ci) := ci9 rfl rfl rfl rfl rfl rfl rfl rfl rfl
theorem fX_ty : ∀ ci, ci < 9 → ∀ k, k < fN ci → parseFieldDescriptor (fX ci k).2.2.1 = some (fT ci k) := ci9 tyX0_ok tyX1_ok tyX2_ok tyX3_ok tyX4_ok tyX5_ok tyX6_ok tyX7_ok tyX8_ok
theorem fX_nm : ∀ ci, ci < 9 → ∀ a, a < fN ci → ∀ b, b < fN ci → a ≠ b → (fX ci a).2.1 ≠ (fX ci b).2.1 := ci9 nmX0 nmX1 nmX2 nmX3 nmX4 nmX5 nmX6 nmX7 nmX8
theorem fX_own : ∀ ci, ci < 9 → ∀ k, k < fN ci → (fX ci k).1 = fC ci := ci9 (by decide +kernel) (by decide +kernel) (by decide +kernel) (by decide +kernel) (by decide +kernel) (by decide +kernel) (by decide +kernel) (by decide +kernel) (by decide +kernel)
/-- a final field is a reference; the others are numbers -/
theorem fX_fin : ∀ ci, ci < 9 → ∀ k, k < fN ci → (fX ci k).2.2.2 = isRT (fT ci k) := ci9 (by decide +kernel) (by decide +kernel) (by decide +kernel) (by decide +kernel) (by decide +kernel) (by decide +kernel) (by decide +kernel) (by decide +kernel) (by decide +kernel)
theorem fX_num : ∀ ci, ci < 9 → ∀ k, k < fN ci → isRT (fT ci k) = false → fT ci k = .int ∨ fT ci k = .boolean := ci9 (by decide +kernel) (by decide +kernel) (by decide +kernel) (by decide +kernel) (by decide +kernel) (by decide +kernel) (by decide +kernel) (by decide +kernel) (by decide +kernel)
/-- a value of the pure machine: references are indices -/
def tr (ad : Nat → Nat) : Value → Value
  | .ref k => .ref (ad k)
  | v => v
theorem tr_cat (ad : Nat → Nat) (v : Value) : (tr ad v).category = v.category := by cases v <;> rfl
theorem tr_rf (ad : Nat → Nat) (r : Option Nat) : tr ad (va_rf r) = va_rf (r.map ad) := by cases r <;> rfl
def pfv (ad : Nat → Nat) (M : pM) (k j : Nat) : Value := if isRT (fT (pK M k) j) = true then va_rf ((pR M k j).map ad) else .int (pV M k j)
def pfs (ad : Nat → Nat) (M : pM) (k : Nat) : List Value := (List.range (fN (pK M k))).map (pfv ad M k)
def pArr (ad : Nat → Nat) (M : pM) (k : Nat) : vp_A := (pL M k, if pK M k = 11 then .inr (.inr (.inr (.inr (fun j => (pR M k j).map ad)))) else if pK M k = 12 then .inr (.inl (pJ M k)) else .inl (pV M k))
def pcell (cA : Nat → ClassId) (ad : Nat → Nat) (M : pM) (k : Nat) : va_E := if pK M k < 9 then .inr (pK M k, pfs ad M k) else .inl (cA (pK M k), pArr ad M k)
def pws (cA : Nat → ClassId) (ad : Nat → Nat) (M : pM) : va_W := (List.range (pN M)).map (fun k => (ad k, pcell cA ad M k))
abbrev gT : Type := va_G × (Nat → ClassId) × (Nat → Nat)
def gtys (cA : Nat → ClassId) : List (ClassId × FieldType) := [(cA 9, .int), (cA 10, .boolean), (cA 11, .object RX2), (cA 12, .long)]
theorem pws_len (cA : Nat → ClassId) (ad : Nat → Nat) (M : pM) : (pws cA ad M).length = pN M := by simp [pws]
theorem pws_get (cA : Nat → ClassId) (ad : Nat → Nat) (M : pM) {k : Nat} (h : k < pN M) : (pws cA ad M)[k]? = some (ad k, pcell cA ad M k) := by
  simp [pws, List.getElem?_range h]
theorem pws_out (cA : Nat → ClassId) (ad : Nat → Nat) (M : pM) {k : Nat} (h : pN M ≤ k) : (pws cA ad M)[k]? = none := by
  rw [List.getElem?_eq_none_iff, pws_len]; exact h
theorem pws_obj (cA : Nat → ClassId) (ad : Nat → Nat) (M : pM) {k ci : Nat} (h : k < pN M) (hk : pK M k = ci) (hc : ci < 9) : (pws cA ad M)[k]? = some (ad k, .inr (ci, pfs ad M k)) := by
  subst hk
  rw [pws_get cA ad M h, pcell, if_pos hc]
theorem pws_arr (cA : Nat → ClassId) (ad : Nat → Nat) (M : pM) {k c : Nat} (h : k < pN M) (hk : pK M k = c) (hc : 9 ≤ c) : (pws cA ad M)[k]? = some (ad k, .inl (cA c, pArr ad M k)) := by
  subst hk
  rw [pws_get cA ad M h, pcell, if_neg (by omega)]
theorem pws_set (cA : Nat → ClassId) (ad : Nat → Nat) (M M' : pM) {k : Nat} {e : va_E} (h : k < pN M) (hn : pN M' = pN M) (he : pcell cA ad M' k = e) (ho : ∀ i, i < pN M → i ≠ k → pcell cA ad M' i = pcell cA ad M i) : (pws cA ad M).set k (ad k, e) = pws cA ad M' := by
  apply List.ext_getElem?
  intro i
  by_cases hi : i < pN M
  · rw [pws_get cA ad M' (by rw [hn]; exact hi)]
    by_cases hik : i = k
    · subst hik
      rw [List.getElem?_set_self (by rw [pws_len]; exact hi), he]
    · rw [List.getElem?_set_ne (Ne.symm hik), pws_get cA ad M hi, ho i hi hik]
  · rw [pws_out cA ad M' (by rw [hn]; omega), List.getElem?_eq_none_iff, List.length_set, pws_len]
    omega
theorem pfs_get (ad : Nat → Nat) (M : pM) (k : Nat) {j : Nat} (h : j < fN (pK M k)) : (pfs ad M k)[j]? = some (pfv ad M k j) := by
  simp [pfs, List.getElem?_range h]
theorem pfv_congr {ad : Nat → Nat} {M M' : pM} {k j : Nat} (hK : pK M' k = pK M k) (hR : pR M' k j = pR M k j) (hV : pV M' k j = pV M k j) : pfv ad M' k j = pfv ad M k j := by
  unfold pfv
  rw [hK, hR, hV]
theorem pfv_num {ad : Nat → Nat} {M : pM} {k j : Nat} (hr : isRT (fT (pK M k) j) = false) : pfv ad M k j = .int (pV M k j) := by
  unfold pfv
  rw [hr, if_neg (by decide)]
theorem pfv_ref {ad : Nat → Nat} {M : pM} {k j : Nat} (hr : isRT (fT (pK M k) j) = true) : pfv ad M k j = va_rf ((pR M k j).map ad) := by
  unfold pfv
  rw [hr, if_pos rfl]
theorem pfs_set (ad : Nat → Nat) (M M' : pM) (k : Nat) {j : Nat} (hk : pK M' k = pK M k) {v : Value} (h : j < fN (pK M k)) (he : pfv ad M' k j = v) (ho : ∀ i, i ≠ j → pfv ad M' k i = pfv ad M k i) : (pfs ad M k).set j v = pfs ad M' k := by
  apply List.ext_getElem?
  intro i
  have hl : (pfs ad M k).length = fN (pK M k) := by simp [pfs]
  by_cases hi : i < fN (pK M k)
  · rw [pfs_get ad M' k (by rw [hk]; exact hi)]
    by_cases hij : i = j
    · subst hij
      rw [List.getElem?_set_self (by rw [hl]; exact hi), he]
    · rw [List.getElem?_set_ne (Ne.symm hij), pfs_get ad M k hi, ho i hij]
  · rw [List.getElem?_eq_none_iff.mpr (by rw [List.length_set, hl]; omega), List.getElem?_eq_none_iff.mpr (by simp [pfs, hk]; omega)]
/-- the world with one number changed -/
theorem pws_V_obj (cA : Nat → ClassId) (ad : Nat → Nat) (M : pM) {k ci j : Nat} {x : Int32} (h : k < pN M) (hk : pK M k = ci) (hc : ci < 9) (hj : j < fN ci) (hr : isRT (fT ci j) = false) : (pws cA ad M).set k (ad k, .inr (ci, (pfs ad M k).set j (.int x))) = pws cA ad (mV M k j x) := by
  subst hk
  refine pws_set cA ad M (mV M k j x) h rfl ?_ ?_
  · show pcell cA ad (mV M k j x) k = _
    have hk' : pK (mV M k j x) k = pK M k := rfl
    rw [pcell, hk', if_pos hc]
    refine congrArg (fun l => (Sum.inr (pK M k, l) : va_E)) (pfs_set ad M (mV M k j x) k rfl hj ?_ ?_).symm
    · rw [pfv_num (by rw [hk']; exact hr)]
      exact congrArg Value.int (up2_same M.2 k j x)
    · intro i hi
      exact pfv_congr rfl rfl (up2_ne M.2 x (Or.inr hi))
  · intro i hi hik
    have h1 : pfs ad (mV M k j x) i = pfs ad M i := by
      unfold pfs
      exact List.map_congr_left (fun b _ => pfv_congr rfl rfl (up2_ne M.2 x (Or.inl hik)))
    have h2 : pArr ad (mV M k j x) i = pArr ad M i := by
      have h3 : pV (mV M k j x) i = pV M i := up2_off M.2 j x hik
      unfold pArr
      rw [h3]
      rfl
    unfold pcell
    rw [h1, h2]
    rfl
theorem pws_V_arr (cA : Nat → ClassId) (ad : Nat → Nat) (M : pM) {k c j : Nat} {x : Int32} (h : k < pN M) (hk : pK M k = c) (hc : c = 9 ∨ c = 10) : (pws cA ad M).set k (ad k, .inl (cA c, pL M k, .inl (upd (pV M k) j x))) = pws cA ad (mV M k j x) := by
  subst hk
  refine pws_set cA ad M (mV M k j x) h rfl ?_ ?_
  · show pcell cA ad (mV M k j x) k = _
    have hk' : pK (mV M k j x) k = pK M k := rfl
    have hv : pV (mV M k j x) k = upd (pV M k) j x := by funext b; simp [mV, pV, up2, upd]
    rw [pcell, hk', if_neg (by omega), pArr, hk', if_neg (by omega), if_neg (by omega), hv]
    rfl
  · intro i hi hik
    have h1 : pfs ad (mV M k j x) i = pfs ad M i := by
      unfold pfs
      exact List.map_congr_left (fun b _ => pfv_congr rfl rfl (up2_ne M.2 x (Or.inl hik)))
    have h2 : pArr ad (mV M k j x) i = pArr ad M i := by
      have h3 : pV (mV M k j x) i = pV M i := up2_off M.2 j x hik
      unfold pArr
      rw [h3]
      rfl
    unfold pcell
    rw [h1, h2]
    rfl
theorem pws_J_arr (cA : Nat → ClassId) (ad : Nat → Nat) (M : pM) {k j : Nat} {x : Int64} (h : k < pN M) (hk : pK M k = 12) : (pws cA ad M).set k (ad k, .inl (cA 12, pL M k, .inr (.inl (vp_updL (pJ M k) j x)))) = pws cA ad (mJ M k j x) := by
  refine pws_set cA ad M (mJ M k j x) h rfl ?_ ?_
  · show pcell cA ad (mJ M k j x) k = _
    have hk' : pK (mJ M k j x) k = 12 := hk
    have hv : pJ (mJ M k j x) k = vp_updL (pJ M k) j x := by funext b; simp [mJ, pJ, up2, vp_updL]
    rw [pcell, hk', if_neg (by omega), pArr, hk', if_neg (by omega), if_pos rfl, hv]
    rfl
  · intro i hi hik
    have h2 : pArr ad (mJ M k j x) i = pArr ad M i := by
      have h3 : pJ (mJ M k j x) i = pJ M i := up2_off M.1.2.2.2.2 j x hik
      unfold pArr
      rw [h3]
      rfl
    unfold pcell
    rw [h2]
    rfl
/-- .. one reference changed -/
theorem pws_R_off (cA : Nat → ClassId) (ad : Nat → Nat) (M : pM) (k j : Nat) (r : Option Nat) {i : Nat} (hik : i ≠ k) : pcell cA ad (mR M k j r) i = pcell cA ad M i := by
  have h3 : pR (mR M k j r) i = pR M i := up2_off M.1.1 j r hik
  have h1 : pfs ad (mR M k j r) i = pfs ad M i := by
    unfold pfs
    refine List.map_congr_left (fun b _ => ?_)
    unfold pfv
    rw [h3]
    rfl
  have h2 : pArr ad (mR M k j r) i = pArr ad M i := by
    unfold pArr
    rw [h3]
    rfl
  unfold pcell
  rw [h1, h2]
  rfl
theorem pws_R_obj (cA : Nat → ClassId) (ad : Nat → Nat) (M : pM) {k ci j : Nat} {r : Option Nat} (h : k < pN M) (hk : pK M k = ci) (hc : ci < 9) (hj : j < fN ci) (hr : isRT (fT ci j) = true) : (pws cA ad M).set k (ad k, .inr (ci, (pfs ad M k).set j (va_rf (r.map ad)))) = pws cA ad (mR M k j r) := by
  subst hk
  refine pws_set cA ad M (mR M k j r) h rfl ?_ (fun i _ hik => pws_R_off cA ad M k j r hik)
  show pcell cA ad (mR M k j r) k = _
  have hk' : pK (mR M k j r) k = pK M k := rfl
  rw [pcell, hk', if_pos hc]
  refine congrArg (fun l => (Sum.inr (pK M k, l) : va_E)) (pfs_set ad M (mR M k j r) k rfl hj ?_ ?_).symm
  · rw [pfv_ref (by rw [hk']; exact hr)]
    exact congrArg (fun z : Option Nat => va_rf (z.map ad)) (up2_same M.1.1 k j r)
  · intro i hi
    exact pfv_congr rfl (up2_ne M.1.1 r (Or.inr hi)) rfl
theorem pws_R_arr (cA : Nat → ClassId) (ad : Nat → Nat) (M : pM) {k j v : Nat} (h : k < pN M) (hk : pK M k = 11) : (pws cA ad M).set k (ad k, .inl (cA 11, pL M k, .inr (.inr (.inr (.inr (va_up (fun j => (pR M k j).map ad) j (some (ad v)))))))) = pws cA ad (mR M k j (some v)) := by
  refine pws_set cA ad M (mR M k j (some v)) h rfl ?_ (fun i _ hik => pws_R_off cA ad M k j (some v) hik)
  show pcell cA ad (mR M k j (some v)) k = _
  have hk' : pK (mR M k j (some v)) k = 11 := hk
  have hv : (fun i => (pR (mR M k j (some v)) k i).map ad) = va_up (fun j => (pR M k j).map ad) j (some (ad v)) := by
    funext b
    by_cases hb : b = j <;> simp [mR, pR, up2, va_up, hb]
  rw [pcell, hk', if_neg (by omega), pArr, hk', if_pos rfl, hv]
  rfl
/-- .. a cell more -/
theorem pws_new (cA : Nat → ClassId) (ad ad' : Nat → Nat) (M : pM) {k n q : Nat} {e : va_E} (hR : ∀ i, i < pN M → ∀ j, pR M i j ≠ some (pN M)) (hq : ad' (pN M) = q) (hk : ∀ i, i ≠ pN M → ad' i = ad i) (he : pcell cA ad' (mN M k n) (pN M) = e) : pws cA ad M ++ [(q, e)] = pws cA ad' (mN M k n) := by
  have hn : pN (mN M k n) = pN M + 1 := rfl
  have ho : ∀ i, i < pN M → pcell cA ad' (mN M k n) i = pcell cA ad M i := by
    intro i hi
    have hne : i ≠ pN M := by omega
    have h3 : ∀ j, (pR (mN M k n) i j).map ad' = (pR M i j).map ad := by
      intro j
      have h4 : pR (mN M k n) i = pR M i := by
        exact up1_off _ _ hne
      rw [h4]
      cases hr : pR M i j with
      | none => rfl
      | some r =>
        show some (ad' r) = some (ad r)
        rw [hk r (fun z => hR i hi j (by rw [hr, z]))]
    have h5 : pK (mN M k n) i = pK M i := by
      exact up1_off _ _ hne
    have h6 : pL (mN M k n) i = pL M i := by
      exact up1_off _ _ hne
    have h7 : pV (mN M k n) i = pV M i := by
      exact up1_off _ _ hne
    have h8 : pJ (mN M k n) i = pJ M i := by
      exact up1_off _ _ hne
    have h1 : pfs ad' (mN M k n) i = pfs ad M i := by
      unfold pfs
      rw [h5]
      refine List.map_congr_left (fun b _ => ?_)
      unfold pfv
      rw [h3, h5, h7]
    have h2 : pArr ad' (mN M k n) i = pArr ad M i := by
      have h9 : (fun j => (pR (mN M k n) i j).map ad') = (fun j => (pR M i j).map ad) := funext h3
      unfold pArr
      rw [h9, h5, h6, h7, h8]
    unfold pcell
    rw [h1, h2, h5]
  apply List.ext_getElem?
  intro i
  by_cases hi : i < pN M
  · rw [List.getElem?_append_left (by rw [pws_len]; exact hi), pws_get cA ad M hi, pws_get cA ad' (mN M k n) (by rw [hn]; omega), ho i hi, hk i (by omega)]
  · by_cases hi2 : i = pN M
    · subst hi2
      rw [List.getElem?_append_right (by rw [pws_len]; exact Nat.le_refl _), pws_len, Nat.sub_self, pws_get cA ad' (mN M k n) (by rw [hn]; omega), he, hq]
      rfl
    · rw [pws_out cA ad' (mN M k n) (by rw [hn]; omega), List.getElem?_eq_none_iff, List.length_append, pws_len]
      show pN M + 1 ≤ i
      omega
/-- locals: a list of those that are known -/
def lset (i : Nat) (v : Value) (L : List (Nat × Value)) : List (Nat × Value) := (i, v) :: L.filter (fun q => !(q.1 == i) && !(q.1 + 1 == i && q.2.category == 2))
def lget (i : Nat) : List (Nat × Value) → Option Value
  | [] => none
  | q :: L => if q.1 = i then some q.2 else lget i L
def trL (ad : Nat → Nat) (L : List (Nat × Value)) : List (Nat × Value) := L.map (fun q => (q.1, tr ad q.2))
theorem lget_mem {i : Nat} {v : Value} : ∀ {L : List (Nat × Value)}, lget i L = some v → (i, v) ∈ L
  | [], h => by cases h
  | q :: L, h => by
    unfold lget at h
    by_cases hq : q.1 = i
    · rw [if_pos hq] at h
      cases h
      subst hq
      exact List.mem_cons_self
    · rw [if_neg hq] at h
      exact List.mem_cons_of_mem _ (lget_mem h)
theorem trL_mem {ad : Nat → Nat} {i : Nat} {v : Value} {L : List (Nat × Value)} (h : (i, v) ∈ L) : (i, tr ad v) ∈ trL ad L := List.mem_map.mpr ⟨(i, v), h, rfl⟩
theorem lget_at {ad : Nat → Nat} {ls : Array Slot} {nL i : Nat} {v : Value} {L : List (Nat × Value)} (hl : lv_has ls nL (trL ad L)) (h : lget i L = some v) : ls[i]? = some (.val (tr ad v)) := hl.2.2 (i, tr ad v) (trL_mem (lget_mem h))
theorem lset_tr (ad : Nat → Nat) (i : Nat) (v : Value) (L : List (Nat × Value)) : (i, tr ad v) :: (trL ad L).filter (fun q => !(q.1 == i) && !(q.1 + 1 == i && q.2.category == 2)) = trL ad (lset i v L) := by
  unfold trL lset
  rw [List.map_cons, List.filter_map]
  refine congrArg (fun l => (i, tr ad v) :: l) (congrArg (List.map _) (List.filter_congr (fun q _ => ?_)))
  show (!(q.1 == i) && !(q.1 + 1 == i && (tr ad q.2).category == 2)) = _
  rw [tr_cat]
def lsetL (i : Nat) (v : Value) (L : List (Nat × Value)) : List (Nat × Value) := (i, v) :: L.filter (fun q => !(q.1 == i) && (!(q.1 == i + 1) && !(q.1 + 1 == i && q.2.category == 2)))
theorem lsetL_tr (ad : Nat → Nat) (i : Nat) (v : Value) (L : List (Nat × Value)) : (i, tr ad v) :: (trL ad L).filter (fun q => !(q.1 == i) && (!(q.1 == i + 1) && !(q.1 + 1 == i && q.2.category == 2))) = trL ad (lsetL i v L) := by
  unfold trL lsetL
  rw [List.map_cons, List.filter_map]
  refine congrArg (fun l => (i, tr ad v) :: l) (congrArg (List.map _) (List.filter_congr (fun q _ => ?_)))
  show (!(q.1 == i) && (!(q.1 == i + 1) && !(q.1 + 1 == i && (tr ad q.2).category == 2))) = _
  rw [tr_cat]
end
