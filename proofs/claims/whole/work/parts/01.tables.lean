-- ===== PART A: goes FIRST, ahead of the names: the tables' words, and 'selects' of the private methods out of them =====
/-- a private method of a class that the tables say can be made, by its rows of tables_1 -/
def lw_okq (q : MethodName × Nat) : Prop := (q.1.cls ≠ "java/lang/invoke/MethodHandle" ∧ q.1.cls ≠ "java/lang/invoke/VarHandle") ∧ Cond.instantiable q.1.cls q.2 ∈ tables_1 ∧ Cond.privateMethod q.1 ∈ tables_1 ∧ Cond.instanceMethod q.1 ∈ tables_1
theorem lw_p0 : lw_okq (⟨"WideTurn", "found", "(I)I"⟩, 10) := ⟨⟨by decide +kernel, by decide +kernel⟩, List.mem_of_getElem? (i := 19) (by decide +kernel), List.mem_of_getElem? (i := 266) (by decide +kernel), List.mem_of_getElem? (i := 267) (by decide +kernel)⟩
theorem lw_p1 : lw_okq (⟨"WideTurn", "sound", "(I)I"⟩, 10) := ⟨⟨by decide +kernel, by decide +kernel⟩, List.mem_of_getElem? (i := 19) (by decide +kernel), List.mem_of_getElem? (i := 278) (by decide +kernel), List.mem_of_getElem? (i := 279) (by decide +kernel)⟩
theorem lw_p2 : lw_okq (⟨"WideTurn$Tape", "readLaw", "(LWideTurn$Basin;)V"⟩, 6) := ⟨⟨by decide +kernel, by decide +kernel⟩, List.mem_of_getElem? (i := 47) (by decide +kernel), List.mem_of_getElem? (i := 353) (by decide +kernel), List.mem_of_getElem? (i := 354) (by decide +kernel)⟩
theorem lw_p3 : lw_okq (⟨"WideTurn$Tape", "readLetter", "(I)V"⟩, 6) := ⟨⟨by decide +kernel, by decide +kernel⟩, List.mem_of_getElem? (i := 47) (by decide +kernel), List.mem_of_getElem? (i := 357) (by decide +kernel), List.mem_of_getElem? (i := 358) (by decide +kernel)⟩
theorem lw_p4 : lw_okq (⟨"WideTurn$Tape", "letterAt", "(I)I"⟩, 6) := ⟨⟨by decide +kernel, by decide +kernel⟩, List.mem_of_getElem? (i := 47) (by decide +kernel), List.mem_of_getElem? (i := 361) (by decide +kernel), List.mem_of_getElem? (i := 362) (by decide +kernel)⟩
theorem lw_p5 : lw_okq (⟨"WideTurn$Tape", "fail", "(II)V"⟩, 6) := ⟨⟨by decide +kernel, by decide +kernel⟩, List.mem_of_getElem? (i := 47) (by decide +kernel), List.mem_of_getElem? (i := 366) (by decide +kernel), List.mem_of_getElem? (i := 367) (by decide +kernel)⟩
theorem lw_p6 : lw_okq (⟨"WideTurn$Tape", "readNumber", "(II)I"⟩, 6) := ⟨⟨by decide +kernel, by decide +kernel⟩, List.mem_of_getElem? (i := 47) (by decide +kernel), List.mem_of_getElem? (i := 370) (by decide +kernel), List.mem_of_getElem? (i := 371) (by decide +kernel)⟩
theorem lw_p7 : lw_okq (⟨"WideTurn$Tape", "readDepths", "(LWideTurn$Basin;)V"⟩, 6) := ⟨⟨by decide +kernel, by decide +kernel⟩, List.mem_of_getElem? (i := 47) (by decide +kernel), List.mem_of_getElem? (i := 377) (by decide +kernel), List.mem_of_getElem? (i := 378) (by decide +kernel)⟩
theorem lw_p8 : lw_okq (⟨"WideTurn$Tape", "readDepth", "()I"⟩, 6) := ⟨⟨by decide +kernel, by decide +kernel⟩, List.mem_of_getElem? (i := 47) (by decide +kernel), List.mem_of_getElem? (i := 381) (by decide +kernel), List.mem_of_getElem? (i := 382) (by decide +kernel)⟩
theorem lw_p9 : lw_okq (⟨"WideTurn$Tape", "readBoat", "(LWideTurn$Basin;)V"⟩, 6) := ⟨⟨by decide +kernel, by decide +kernel⟩, List.mem_of_getElem? (i := 47) (by decide +kernel), List.mem_of_getElem? (i := 385) (by decide +kernel), List.mem_of_getElem? (i := 386) (by decide +kernel)⟩
theorem lw_p10 : lw_okq (⟨"WideTurn$Tape", "readMoored", "(LWideTurn$Basin;)V"⟩, 6) := ⟨⟨by decide +kernel, by decide +kernel⟩, List.mem_of_getElem? (i := 47) (by decide +kernel), List.mem_of_getElem? (i := 389) (by decide +kernel), List.mem_of_getElem? (i := 390) (by decide +kernel)⟩
theorem lw_p11 : lw_okq (⟨"WideTurn$Tape", "readHands", "(LWideTurn$Basin;)V"⟩, 6) := ⟨⟨by decide +kernel, by decide +kernel⟩, List.mem_of_getElem? (i := 47) (by decide +kernel), List.mem_of_getElem? (i := 396) (by decide +kernel), List.mem_of_getElem? (i := 397) (by decide +kernel)⟩
theorem lw_p12 : lw_okq (⟨"WideTurn$Basin", "clearance", "(I)I"⟩, 11) := ⟨⟨by decide +kernel, by decide +kernel⟩, List.mem_of_getElem? (i := 154) (by decide +kernel), List.mem_of_getElem? (i := 575) (by decide +kernel), List.mem_of_getElem? (i := 576) (by decide +kernel)⟩
theorem lw_p13 : lw_okq (⟨"WideTurn$Search", "prepare", "(LWideTurn$Basin;I)V"⟩, 14) := ⟨⟨by decide +kernel, by decide +kernel⟩, List.mem_of_getElem? (i := 103) (by decide +kernel), List.mem_of_getElem? (i := 653) (by decide +kernel), List.mem_of_getElem? (i := 654) (by decide +kernel)⟩
theorem lw_p14 : lw_okq (⟨"WideTurn$Search", "choosePacers", "(LWideTurn$Basin;)V"⟩, 14) := ⟨⟨by decide +kernel, by decide +kernel⟩, List.mem_of_getElem? (i := 103) (by decide +kernel), List.mem_of_getElem? (i := 665) (by decide +kernel), List.mem_of_getElem? (i := 666) (by decide +kernel)⟩
theorem lw_p15 : lw_okq (⟨"WideTurn$Search", "add", "(III)V"⟩, 14) := ⟨⟨by decide +kernel, by decide +kernel⟩, List.mem_of_getElem? (i := 103) (by decide +kernel), List.mem_of_getElem? (i := 674) (by decide +kernel), List.mem_of_getElem? (i := 675) (by decide +kernel)⟩
def lw_privs_1 : List (MethodName × Nat) := [(⟨"WideTurn", "found", "(I)I"⟩, 10), (⟨"WideTurn", "sound", "(I)I"⟩, 10), (⟨"WideTurn$Tape", "readLaw", "(LWideTurn$Basin;)V"⟩, 6), (⟨"WideTurn$Tape", "readLetter", "(I)V"⟩, 6), (⟨"WideTurn$Tape", "letterAt", "(I)I"⟩, 6), (⟨"WideTurn$Tape", "fail", "(II)V"⟩, 6), (⟨"WideTurn$Tape", "readNumber", "(II)I"⟩, 6), (⟨"WideTurn$Tape", "readDepths", "(LWideTurn$Basin;)V"⟩, 6), (⟨"WideTurn$Tape", "readDepth", "()I"⟩, 6), (⟨"WideTurn$Tape", "readBoat", "(LWideTurn$Basin;)V"⟩, 6), (⟨"WideTurn$Tape", "readMoored", "(LWideTurn$Basin;)V"⟩, 6), (⟨"WideTurn$Tape", "readHands", "(LWideTurn$Basin;)V"⟩, 6), (⟨"WideTurn$Basin", "clearance", "(I)I"⟩, 11), (⟨"WideTurn$Search", "prepare", "(LWideTurn$Basin;I)V"⟩, 14), (⟨"WideTurn$Search", "choosePacers", "(LWideTurn$Basin;)V"⟩, 14), (⟨"WideTurn$Search", "add", "(III)V"⟩, 14)]
theorem lw_r1 : ∀ q ∈ lw_privs_1, lw_okq q := List.forall_mem_cons.mpr ⟨lw_p0, List.forall_mem_cons.mpr ⟨lw_p1, List.forall_mem_cons.mpr ⟨lw_p2, List.forall_mem_cons.mpr ⟨lw_p3, List.forall_mem_cons.mpr ⟨lw_p4, List.forall_mem_cons.mpr ⟨lw_p5, List.forall_mem_cons.mpr ⟨lw_p6, List.forall_mem_cons.mpr ⟨lw_p7, List.forall_mem_cons.mpr ⟨lw_p8, List.forall_mem_cons.mpr ⟨lw_p9, List.forall_mem_cons.mpr ⟨lw_p10, List.forall_mem_cons.mpr ⟨lw_p11, List.forall_mem_cons.mpr ⟨lw_p12, List.forall_mem_cons.mpr ⟨lw_p13, List.forall_mem_cons.mpr ⟨lw_p14, List.forall_mem_cons.mpr ⟨lw_p15, fun _ h => absurd h List.not_mem_nil⟩⟩⟩⟩⟩⟩⟩⟩⟩⟩⟩⟩⟩⟩⟩⟩
theorem lw_p16 : lw_okq (⟨"WideTurn$Search", "remove", "(I)V"⟩, 14) := ⟨⟨by decide +kernel, by decide +kernel⟩, List.mem_of_getElem? (i := 103) (by decide +kernel), List.mem_of_getElem? (i := 678) (by decide +kernel), List.mem_of_getElem? (i := 679) (by decide +kernel)⟩
theorem lw_p17 : lw_okq (⟨"WideTurn$Search", "leave", "(I)V"⟩, 14) := ⟨⟨by decide +kernel, by decide +kernel⟩, List.mem_of_getElem? (i := 103) (by decide +kernel), List.mem_of_getElem? (i := 682) (by decide +kernel), List.mem_of_getElem? (i := 683) (by decide +kernel)⟩
theorem lw_p18 : lw_okq (⟨"WideTurn$Search", "clearAt", "(II)I"⟩, 14) := ⟨⟨by decide +kernel, by decide +kernel⟩, List.mem_of_getElem? (i := 103) (by decide +kernel), List.mem_of_getElem? (i := 689) (by decide +kernel), List.mem_of_getElem? (i := 690) (by decide +kernel)⟩
theorem lw_p19 : lw_okq (⟨"WideTurn$Search", "behind", "(III)I"⟩, 14) := ⟨⟨by decide +kernel, by decide +kernel⟩, List.mem_of_getElem? (i := 103) (by decide +kernel), List.mem_of_getElem? (i := 693) (by decide +kernel), List.mem_of_getElem? (i := 694) (by decide +kernel)⟩
theorem lw_p20 : lw_okq (⟨"WideTurn$Search", "offer", "(III)V"⟩, 14) := ⟨⟨by decide +kernel, by decide +kernel⟩, List.mem_of_getElem? (i := 103) (by decide +kernel), List.mem_of_getElem? (i := 698) (by decide +kernel), List.mem_of_getElem? (i := 699) (by decide +kernel)⟩
theorem lw_p21 : lw_okq (⟨"WideTurn", "easiestCell", "(ZI)I"⟩, 10) := ⟨⟨by decide +kernel, by decide +kernel⟩, List.mem_of_getElem? (i := 19) (by decide +kernel), List.mem_of_getElem? (i := 728) (by decide +kernel), List.mem_of_getElem? (i := 729) (by decide +kernel)⟩
theorem lw_p22 : lw_okq (⟨"WideTurn", "minutesIfLaden", "(I)I"⟩, 10) := ⟨⟨by decide +kernel, by decide +kernel⟩, List.mem_of_getElem? (i := 19) (by decide +kernel), List.mem_of_getElem? (i := 745) (by decide +kernel), List.mem_of_getElem? (i := 746) (by decide +kernel)⟩
theorem lw_p23 : lw_okq (⟨"WideTurn", "findingAt", "(III)I"⟩, 10) := ⟨⟨by decide +kernel, by decide +kernel⟩, List.mem_of_getElem? (i := 19) (by decide +kernel), List.mem_of_getElem? (i := 753) (by decide +kernel), List.mem_of_getElem? (i := 754) (by decide +kernel)⟩
theorem lw_p24 : lw_okq (⟨"WideTurn", "planned", "(IIII)I"⟩, 10) := ⟨⟨by decide +kernel, by decide +kernel⟩, List.mem_of_getElem? (i := 19) (by decide +kernel), List.mem_of_getElem? (i := 757) (by decide +kernel), List.mem_of_getElem? (i := 758) (by decide +kernel)⟩
theorem lw_p25 : lw_okq (⟨"WideTurn", "waysSeen", "(IIIII)I"⟩, 10) := ⟨⟨by decide +kernel, by decide +kernel⟩, List.mem_of_getElem? (i := 19) (by decide +kernel), List.mem_of_getElem? (i := 769) (by decide +kernel), List.mem_of_getElem? (i := 770) (by decide +kernel)⟩
theorem lw_p26 : lw_okq (⟨"WideTurn", "waysBehind", "(IIIIII)I"⟩, 10) := ⟨⟨by decide +kernel, by decide +kernel⟩, List.mem_of_getElem? (i := 19) (by decide +kernel), List.mem_of_getElem? (i := 773) (by decide +kernel), List.mem_of_getElem? (i := 774) (by decide +kernel)⟩
theorem lw_p27 : lw_okq (⟨"WideTurn", "firstSeen", "(III)I"⟩, 10) := ⟨⟨by decide +kernel, by decide +kernel⟩, List.mem_of_getElem? (i := 19) (by decide +kernel), List.mem_of_getElem? (i := 777) (by decide +kernel), List.mem_of_getElem? (i := 778) (by decide +kernel)⟩
theorem lw_p28 : lw_okq (⟨"WideTurn", "passDays", "(II)I"⟩, 10) := ⟨⟨by decide +kernel, by decide +kernel⟩, List.mem_of_getElem? (i := 19) (by decide +kernel), List.mem_of_getElem? (i := 808) (by decide +kernel), List.mem_of_getElem? (i := 809) (by decide +kernel)⟩
theorem lw_p29 : lw_okq (⟨"WideTurnModel", "finds", "(I)I"⟩, 25) := ⟨⟨by decide +kernel, by decide +kernel⟩, List.mem_of_getElem? (i := 932) (by decide +kernel), List.mem_of_getElem? (i := 1026) (by decide +kernel), List.mem_of_getElem? (i := 1027) (by decide +kernel)⟩
theorem lw_p30 : lw_okq (⟨"WideTurnModel", "is", "(I)I"⟩, 25) := ⟨⟨by decide +kernel, by decide +kernel⟩, List.mem_of_getElem? (i := 932) (by decide +kernel), List.mem_of_getElem? (i := 1031) (by decide +kernel), List.mem_of_getElem? (i := 1032) (by decide +kernel)⟩
theorem lw_p31 : lw_okq (⟨"WideTurnModel", "isPart", "(III)Z"⟩, 25) := ⟨⟨by decide +kernel, by decide +kernel⟩, List.mem_of_getElem? (i := 932) (by decide +kernel), List.mem_of_getElem? (i := 1046) (by decide +kernel), List.mem_of_getElem? (i := 1047) (by decide +kernel)⟩
def lw_privs_2 : List (MethodName × Nat) := [(⟨"WideTurn$Search", "remove", "(I)V"⟩, 14), (⟨"WideTurn$Search", "leave", "(I)V"⟩, 14), (⟨"WideTurn$Search", "clearAt", "(II)I"⟩, 14), (⟨"WideTurn$Search", "behind", "(III)I"⟩, 14), (⟨"WideTurn$Search", "offer", "(III)V"⟩, 14), (⟨"WideTurn", "easiestCell", "(ZI)I"⟩, 10), (⟨"WideTurn", "minutesIfLaden", "(I)I"⟩, 10), (⟨"WideTurn", "findingAt", "(III)I"⟩, 10), (⟨"WideTurn", "planned", "(IIII)I"⟩, 10), (⟨"WideTurn", "waysSeen", "(IIIII)I"⟩, 10), (⟨"WideTurn", "waysBehind", "(IIIIII)I"⟩, 10), (⟨"WideTurn", "firstSeen", "(III)I"⟩, 10), (⟨"WideTurn", "passDays", "(II)I"⟩, 10), (⟨"WideTurnModel", "finds", "(I)I"⟩, 25), (⟨"WideTurnModel", "is", "(I)I"⟩, 25), (⟨"WideTurnModel", "isPart", "(III)Z"⟩, 25)]
theorem lw_r2 : ∀ q ∈ lw_privs_2, lw_okq q := List.forall_mem_cons.mpr ⟨lw_p16, List.forall_mem_cons.mpr ⟨lw_p17, List.forall_mem_cons.mpr ⟨lw_p18, List.forall_mem_cons.mpr ⟨lw_p19, List.forall_mem_cons.mpr ⟨lw_p20, List.forall_mem_cons.mpr ⟨lw_p21, List.forall_mem_cons.mpr ⟨lw_p22, List.forall_mem_cons.mpr ⟨lw_p23, List.forall_mem_cons.mpr ⟨lw_p24, List.forall_mem_cons.mpr ⟨lw_p25, List.forall_mem_cons.mpr ⟨lw_p26, List.forall_mem_cons.mpr ⟨lw_p27, List.forall_mem_cons.mpr ⟨lw_p28, List.forall_mem_cons.mpr ⟨lw_p29, List.forall_mem_cons.mpr ⟨lw_p30, List.forall_mem_cons.mpr ⟨lw_p31, fun _ h => absurd h List.not_mem_nil⟩⟩⟩⟩⟩⟩⟩⟩⟩⟩⟩⟩⟩⟩⟩⟩
theorem lw_p32 : lw_okq (⟨"WideTurnModel", "advances", "()V"⟩, 25) := ⟨⟨by decide +kernel, by decide +kernel⟩, List.mem_of_getElem? (i := 932) (by decide +kernel), List.mem_of_getElem? (i := 1063) (by decide +kernel), List.mem_of_getElem? (i := 1064) (by decide +kernel)⟩
theorem lw_p33 : lw_okq (⟨"WideTurnModel", "letterAt", "(I)I"⟩, 25) := ⟨⟨by decide +kernel, by decide +kernel⟩, List.mem_of_getElem? (i := 932) (by decide +kernel), List.mem_of_getElem? (i := 1067) (by decide +kernel), List.mem_of_getElem? (i := 1068) (by decide +kernel)⟩
theorem lw_p34 : lw_okq (⟨"WideTurnModel", "readsHead", "()V"⟩, 25) := ⟨⟨by decide +kernel, by decide +kernel⟩, List.mem_of_getElem? (i := 932) (by decide +kernel), List.mem_of_getElem? (i := 1071) (by decide +kernel), List.mem_of_getElem? (i := 1072) (by decide +kernel)⟩
theorem lw_p35 : lw_okq (⟨"WideTurnModel", "wants", "(II)V"⟩, 25) := ⟨⟨by decide +kernel, by decide +kernel⟩, List.mem_of_getElem? (i := 932) (by decide +kernel), List.mem_of_getElem? (i := 1075) (by decide +kernel), List.mem_of_getElem? (i := 1076) (by decide +kernel)⟩
theorem lw_p36 : lw_okq (⟨"WideTurnModel", "fails", "(I)V"⟩, 25) := ⟨⟨by decide +kernel, by decide +kernel⟩, List.mem_of_getElem? (i := 932) (by decide +kernel), List.mem_of_getElem? (i := 1079) (by decide +kernel), List.mem_of_getElem? (i := 1080) (by decide +kernel)⟩
theorem lw_p37 : lw_okq (⟨"WideTurnModel", "isWell", "()Z"⟩, 25) := ⟨⟨by decide +kernel, by decide +kernel⟩, List.mem_of_getElem? (i := 932) (by decide +kernel), List.mem_of_getElem? (i := 1083) (by decide +kernel), List.mem_of_getElem? (i := 1084) (by decide +kernel)⟩
theorem lw_p38 : lw_okq (⟨"WideTurnModel", "number", "(IIZ)I"⟩, 25) := ⟨⟨by decide +kernel, by decide +kernel⟩, List.mem_of_getElem? (i := 932) (by decide +kernel), List.mem_of_getElem? (i := 1087) (by decide +kernel), List.mem_of_getElem? (i := 1088) (by decide +kernel)⟩
theorem lw_p39 : lw_okq (⟨"WideTurnModel", "readsRest", "()V"⟩, 25) := ⟨⟨by decide +kernel, by decide +kernel⟩, List.mem_of_getElem? (i := 932) (by decide +kernel), List.mem_of_getElem? (i := 1091) (by decide +kernel), List.mem_of_getElem? (i := 1092) (by decide +kernel)⟩
theorem lw_p40 : lw_okq (⟨"WideTurnModel", "isHand", "(I)Z"⟩, 25) := ⟨⟨by decide +kernel, by decide +kernel⟩, List.mem_of_getElem? (i := 932) (by decide +kernel), List.mem_of_getElem? (i := 1118) (by decide +kernel), List.mem_of_getElem? (i := 1119) (by decide +kernel)⟩
theorem lw_p41 : lw_okq (⟨"WideTurnModel", "notes", "()V"⟩, 25) := ⟨⟨by decide +kernel, by decide +kernel⟩, List.mem_of_getElem? (i := 932) (by decide +kernel), List.mem_of_getElem? (i := 1146) (by decide +kernel), List.mem_of_getElem? (i := 1147) (by decide +kernel)⟩
theorem lw_p42 : lw_okq (⟨"WideTurnModel", "boatCells", "()I"⟩, 25) := ⟨⟨by decide +kernel, by decide +kernel⟩, List.mem_of_getElem? (i := 932) (by decide +kernel), List.mem_of_getElem? (i := 1161) (by decide +kernel), List.mem_of_getElem? (i := 1162) (by decide +kernel)⟩
theorem lw_p43 : lw_okq (⟨"WideTurnModel", "fitsNow", "()Z"⟩, 25) := ⟨⟨by decide +kernel, by decide +kernel⟩, List.mem_of_getElem? (i := 932) (by decide +kernel), List.mem_of_getElem? (i := 1172) (by decide +kernel), List.mem_of_getElem? (i := 1173) (by decide +kernel)⟩
theorem lw_p44 : lw_okq (⟨"WideTurnModel", "solves", "([IIII)I"⟩, 25) := ⟨⟨by decide +kernel, by decide +kernel⟩, List.mem_of_getElem? (i := 932) (by decide +kernel), List.mem_of_getElem? (i := 1193) (by decide +kernel), List.mem_of_getElem? (i := 1194) (by decide +kernel)⟩
theorem lw_p45 : lw_okq (⟨"WideTurnModel", "firstOf", "([I)I"⟩, 25) := ⟨⟨by decide +kernel, by decide +kernel⟩, List.mem_of_getElem? (i := 932) (by decide +kernel), List.mem_of_getElem? (i := 1207) (by decide +kernel), List.mem_of_getElem? (i := 1208) (by decide +kernel)⟩
theorem lw_p46 : lw_okq (⟨"WideTurnModel", "turnedOf", "([II)I"⟩, 25) := ⟨⟨by decide +kernel, by decide +kernel⟩, List.mem_of_getElem? (i := 932) (by decide +kernel), List.mem_of_getElem? (i := 1215) (by decide +kernel), List.mem_of_getElem? (i := 1216) (by decide +kernel)⟩
theorem lw_p47 : lw_okq (⟨"WideTurnModel", "wrongRow", "(III)I"⟩, 25) := ⟨⟨by decide +kernel, by decide +kernel⟩, List.mem_of_getElem? (i := 932) (by decide +kernel), List.mem_of_getElem? (i := 1243) (by decide +kernel), List.mem_of_getElem? (i := 1244) (by decide +kernel)⟩
def lw_privs_3 : List (MethodName × Nat) := [(⟨"WideTurnModel", "advances", "()V"⟩, 25), (⟨"WideTurnModel", "letterAt", "(I)I"⟩, 25), (⟨"WideTurnModel", "readsHead", "()V"⟩, 25), (⟨"WideTurnModel", "wants", "(II)V"⟩, 25), (⟨"WideTurnModel", "fails", "(I)V"⟩, 25), (⟨"WideTurnModel", "isWell", "()Z"⟩, 25), (⟨"WideTurnModel", "number", "(IIZ)I"⟩, 25), (⟨"WideTurnModel", "readsRest", "()V"⟩, 25), (⟨"WideTurnModel", "isHand", "(I)Z"⟩, 25), (⟨"WideTurnModel", "notes", "()V"⟩, 25), (⟨"WideTurnModel", "boatCells", "()I"⟩, 25), (⟨"WideTurnModel", "fitsNow", "()Z"⟩, 25), (⟨"WideTurnModel", "solves", "([IIII)I"⟩, 25), (⟨"WideTurnModel", "firstOf", "([I)I"⟩, 25), (⟨"WideTurnModel", "turnedOf", "([II)I"⟩, 25), (⟨"WideTurnModel", "wrongRow", "(III)I"⟩, 25)]
theorem lw_r3 : ∀ q ∈ lw_privs_3, lw_okq q := List.forall_mem_cons.mpr ⟨lw_p32, List.forall_mem_cons.mpr ⟨lw_p33, List.forall_mem_cons.mpr ⟨lw_p34, List.forall_mem_cons.mpr ⟨lw_p35, List.forall_mem_cons.mpr ⟨lw_p36, List.forall_mem_cons.mpr ⟨lw_p37, List.forall_mem_cons.mpr ⟨lw_p38, List.forall_mem_cons.mpr ⟨lw_p39, List.forall_mem_cons.mpr ⟨lw_p40, List.forall_mem_cons.mpr ⟨lw_p41, List.forall_mem_cons.mpr ⟨lw_p42, List.forall_mem_cons.mpr ⟨lw_p43, List.forall_mem_cons.mpr ⟨lw_p44, List.forall_mem_cons.mpr ⟨lw_p45, List.forall_mem_cons.mpr ⟨lw_p46, List.forall_mem_cons.mpr ⟨lw_p47, fun _ h => absurd h List.not_mem_nil⟩⟩⟩⟩⟩⟩⟩⟩⟩⟩⟩⟩⟩⟩⟩⟩
theorem lw_p48 : lw_okq (⟨"WideTurnModel", "sizeOf", "(I)I"⟩, 25) := ⟨⟨by decide +kernel, by decide +kernel⟩, List.mem_of_getElem? (i := 932) (by decide +kernel), List.mem_of_getElem? (i := 1298) (by decide +kernel), List.mem_of_getElem? (i := 1299) (by decide +kernel)⟩
theorem lw_p49 : lw_okq (⟨"WideTurnModel", "leaves", "(I)V"⟩, 25) := ⟨⟨by decide +kernel, by decide +kernel⟩, List.mem_of_getElem? (i := 932) (by decide +kernel), List.mem_of_getElem? (i := 1302) (by decide +kernel), List.mem_of_getElem? (i := 1303) (by decide +kernel)⟩
theorem lw_p50 : lw_okq (⟨"WideTurnModel", "plainMark", "(I)I"⟩, 25) := ⟨⟨by decide +kernel, by decide +kernel⟩, List.mem_of_getElem? (i := 932) (by decide +kernel), List.mem_of_getElem? (i := 1306) (by decide +kernel), List.mem_of_getElem? (i := 1307) (by decide +kernel)⟩
theorem lw_p51 : lw_okq (⟨"WideTurnModel", "markOf", "(I)I"⟩, 25) := ⟨⟨by decide +kernel, by decide +kernel⟩, List.mem_of_getElem? (i := 932) (by decide +kernel), List.mem_of_getElem? (i := 1310) (by decide +kernel), List.mem_of_getElem? (i := 1311) (by decide +kernel)⟩
def lw_privs_4 : List (MethodName × Nat) := [(⟨"WideTurnModel", "sizeOf", "(I)I"⟩, 25), (⟨"WideTurnModel", "leaves", "(I)V"⟩, 25), (⟨"WideTurnModel", "plainMark", "(I)I"⟩, 25), (⟨"WideTurnModel", "markOf", "(I)I"⟩, 25)]
theorem lw_r4 : ∀ q ∈ lw_privs_4, lw_okq q := List.forall_mem_cons.mpr ⟨lw_p48, List.forall_mem_cons.mpr ⟨lw_p49, List.forall_mem_cons.mpr ⟨lw_p50, List.forall_mem_cons.mpr ⟨lw_p51, fun _ h => absurd h List.not_mem_nil⟩⟩⟩⟩
def lw_privs : List (MethodName × Nat) := lw_privs_1 ++ (lw_privs_2 ++ (lw_privs_3 ++ (lw_privs_4)))
def lw_tbl : List Cond := k2_sels lw_privs ++ tables_1
theorem lw_privs_ok : ∀ q ∈ lw_privs, lw_okq q := by
  show ∀ q ∈ lw_privs_1 ++ (lw_privs_2 ++ (lw_privs_3 ++ (lw_privs_4))), lw_okq q
  exact List.forall_mem_append.mpr ⟨lw_r1, List.forall_mem_append.mpr ⟨lw_r2, List.forall_mem_append.mpr ⟨lw_r3, lw_r4⟩⟩⟩

-- class tables (begun as NAMES.whole.lean.txt)
def RX0 : String := "WideTurn$Acts"
def TX0 : u_T := fun k => match k with
  | 0 => ("WideTurn$Acts", "middle", "[I", true)
  | 1 => ("WideTurn$Acts", "turn", "[I", true)
  | 2 => ("WideTurn$Acts", "laden", "[I", true)
  | 3 => ("WideTurn$Acts", "moves", "[I", true)
  | 4 => ("WideTurn$Acts", "moored", "[I", true)
  | 5 => ("WideTurn$Acts", "lowered", "[I", true)
  | 6 => ("WideTurn$Acts", "next", "I", false)
  | _ => ("WideTurn$Acts", "kept", "I", false)
def tyX0 : Nat → FieldType := fun k => match k with
  | 0 => .array .int
  | 1 => .array .int
  | 2 => .array .int
  | 3 => .array .int
  | 4 => .array .int
  | 5 => .array .int
  | 6 => .int
  | _ => .int
theorem nmX0 : ∀ a, a < 8 → ∀ b, b < 8 → a ≠ b → (TX0 a).2.1 ≠ (TX0 b).2.1 := by decide +kernel
theorem tyX0_ok : ∀ k, k < 8 → parseFieldDescriptor (TX0 k).2.2.1 = some (tyX0 k) := by decide +kernel
def RX1 : String := "WideTurn$Basin"
def TX1 : u_T := fun k => match k with
  | 0 => ("WideTurn$Basin", "wind", "I", false)
  | 1 => ("WideTurn$Basin", "draught", "I", false)
  | 2 => ("WideTurn$Basin", "load", "I", false)
  | 3 => ("WideTurn$Basin", "middle", "I", false)
  | 4 => ("WideTurn$Basin", "turn", "I", false)
  | 5 => ("WideTurn$Basin", "laden", "I", false)
  | 6 => ("WideTurn$Basin", "moves", "I", false)
  | 7 => ("WideTurn$Basin", "moored", "I", false)
  | 8 => ("WideTurn$Basin", "hands", "I", false)
  | 9 => ("WideTurn$Basin", "depth", "[I", true)
  | _ => ("WideTurn$Basin", "hand", "[LWideTurn$Hand;", true)
def tyX1 : Nat → FieldType := fun k => match k with
  | 0 => .int
  | 1 => .int
  | 2 => .int
  | 3 => .int
  | 4 => .int
  | 5 => .int
  | 6 => .int
  | 7 => .int
  | 8 => .int
  | 9 => .array .int
  | _ => .array (.object "WideTurn$Hand")
theorem nmX1 : ∀ a, a < 11 → ∀ b, b < 11 → a ≠ b → (TX1 a).2.1 ≠ (TX1 b).2.1 := by decide +kernel
theorem tyX1_ok : ∀ k, k < 11 → parseFieldDescriptor (TX1 k).2.2.1 = some (tyX1 k) := by decide +kernel
def RX2 : String := "WideTurn$Hand"
def TX2 : u_T := fun k => match k with
  | _ => ("", "", "", false)
def tyX2 : Nat → FieldType := fun k => match k with
  | _ => .int
theorem nmX2 : ∀ a, a < 0 → ∀ b, b < 0 → a ≠ b → (TX2 a).2.1 ≠ (TX2 b).2.1 := by decide +kernel
theorem tyX2_ok : ∀ k, k < 0 → parseFieldDescriptor (TX2 k).2.2.1 = some (tyX2 k) := by decide +kernel
def RX3 : String := "WideTurn$Lifter"
def TX3 : u_T := fun k => match k with
  | 0 => ("WideTurn$Hand", "number", "I", true)
  | 1 => ("WideTurn$Hand", "minutes", "I", true)
  | _ => ("WideTurn$Hand", "known", "I", true)
def tyX3 : Nat → FieldType := fun k => match k with
  | 0 => .int
  | 1 => .int
  | _ => .int
theorem nmX3 : ∀ a, a < 3 → ∀ b, b < 3 → a ≠ b → (TX3 a).2.1 ≠ (TX3 b).2.1 := by decide +kernel
theorem tyX3_ok : ∀ k, k < 3 → parseFieldDescriptor (TX3 k).2.2.1 = some (tyX3 k) := by decide +kernel
def RX4 : String := "WideTurn$Poler"
def TX4 : u_T := fun k => match k with
  | 0 => ("WideTurn$Hand", "number", "I", true)
  | 1 => ("WideTurn$Hand", "minutes", "I", true)
  | _ => ("WideTurn$Hand", "known", "I", true)
def tyX4 : Nat → FieldType := fun k => match k with
  | 0 => .int
  | 1 => .int
  | _ => .int
theorem nmX4 : ∀ a, a < 3 → ∀ b, b < 3 → a ≠ b → (TX4 a).2.1 ≠ (TX4 b).2.1 := by decide +kernel
theorem tyX4_ok : ∀ k, k < 3 → parseFieldDescriptor (TX4 k).2.2.1 = some (tyX4 k) := by decide +kernel
def RX5 : String := "WideTurn$Roper"
def TX5 : u_T := fun k => match k with
  | 0 => ("WideTurn$Hand", "number", "I", true)
  | 1 => ("WideTurn$Hand", "minutes", "I", true)
  | _ => ("WideTurn$Hand", "known", "I", true)
def tyX5 : Nat → FieldType := fun k => match k with
  | 0 => .int
  | 1 => .int
  | _ => .int
theorem nmX5 : ∀ a, a < 3 → ∀ b, b < 3 → a ≠ b → (TX5 a).2.1 ≠ (TX5 b).2.1 := by decide +kernel
theorem tyX5_ok : ∀ k, k < 3 → parseFieldDescriptor (TX5 k).2.2.1 = some (tyX5 k) := by decide +kernel
def RX6 : String := "WideTurn$Rows"
def TX6 : u_T := fun k => match k with
  | 0 => ("WideTurn$Rows", "items", "[I", true)
  | 1 => ("WideTurn$Rows", "lanes", "[I", true)
  | _ => ("WideTurn$Rows", "sizes", "[I", true)
def tyX6 : Nat → FieldType := fun k => match k with
  | 0 => .array .int
  | 1 => .array .int
  | _ => .array .int
theorem nmX6 : ∀ a, a < 3 → ∀ b, b < 3 → a ≠ b → (TX6 a).2.1 ≠ (TX6 b).2.1 := by decide +kernel
theorem tyX6_ok : ∀ k, k < 3 → parseFieldDescriptor (TX6 k).2.2.1 = some (tyX6 k) := by decide +kernel
def RX7 : String := "WideTurn$Search"
def TX7 : u_T := fun k => match k with
  | 0 => ("WideTurn$Search", "clear", "[I", true)
  | 1 => ("WideTurn$Search", "minutes", "[I", true)
  | 2 => ("WideTurn$Search", "first", "[I", true)
  | 3 => ("WideTurn$Search", "after", "[I", true)
  | 4 => ("WideTurn$Search", "before", "[I", true)
  | 5 => ("WideTurn$Search", "heads", "[I", true)
  | 6 => ("WideTurn$Search", "paces", "[I", true)
  | 7 => ("WideTurn$Search", "pacers", "[I", true)
  | 8 => ("WideTurn$Search", "draught", "I", false)
  | 9 => ("WideTurn$Search", "lee", "I", false)
  | 10 => ("WideTurn$Search", "start", "I", false)
  | 11 => ("WideTurn$Search", "waiting", "I", false)
  | 12 => ("WideTurn$Search", "foundMinutes", "I", false)
  | _ => ("WideTurn$Search", "foundFirst", "I", false)
def tyX7 : Nat → FieldType := fun k => match k with
  | 0 => .array .int
  | 1 => .array .int
  | 2 => .array .int
  | 3 => .array .int
  | 4 => .array .int
  | 5 => .array .int
  | 6 => .array .int
  | 7 => .array .int
  | 8 => .int
  | 9 => .int
  | 10 => .int
  | 11 => .int
  | 12 => .int
  | _ => .int
theorem nmX7 : ∀ a, a < 14 → ∀ b, b < 14 → a ≠ b → (TX7 a).2.1 ≠ (TX7 b).2.1 := by decide +kernel
theorem tyX7_ok : ∀ k, k < 14 → parseFieldDescriptor (TX7 k).2.2.1 = some (tyX7 k) := by decide +kernel
def RX8 : String := "WideTurn$Shover"
def TX8 : u_T := fun k => match k with
  | 0 => ("WideTurn$Hand", "number", "I", true)
  | 1 => ("WideTurn$Hand", "minutes", "I", true)
  | _ => ("WideTurn$Hand", "known", "I", true)
def tyX8 : Nat → FieldType := fun k => match k with
  | 0 => .int
  | 1 => .int
  | _ => .int
theorem nmX8 : ∀ a, a < 3 → ∀ b, b < 3 → a ≠ b → (TX8 a).2.1 ≠ (TX8 b).2.1 := by decide +kernel
theorem tyX8_ok : ∀ k, k < 3 → parseFieldDescriptor (TX8 k).2.2.1 = some (tyX8 k) := by decide +kernel
def RX9 : String := "WideTurn$Swinger"
def TX9 : u_T := fun k => match k with
  | 0 => ("WideTurn$Hand", "number", "I", true)
  | 1 => ("WideTurn$Hand", "minutes", "I", true)
  | _ => ("WideTurn$Hand", "known", "I", true)
def tyX9 : Nat → FieldType := fun k => match k with
  | 0 => .int
  | 1 => .int
  | _ => .int
theorem nmX9 : ∀ a, a < 3 → ∀ b, b < 3 → a ≠ b → (TX9 a).2.1 ≠ (TX9 b).2.1 := by decide +kernel
theorem tyX9_ok : ∀ k, k < 3 → parseFieldDescriptor (TX9 k).2.2.1 = some (tyX9 k) := by decide +kernel
def RX10 : String := "WideTurn$Tape"
def TX10 : u_T := fun k => match k with
  | 0 => ("WideTurn$Tape", "bytes", "[I", true)
  | 1 => ("WideTurn$Tape", "length", "I", false)
  | 2 => ("WideTurn$Tape", "place", "I", false)
  | 3 => ("WideTurn$Tape", "fault", "I", false)
  | 4 => ("WideTurn$Tape", "faultPlace", "I", false)
  | _ => ("WideTurn$Tape", "latestFault", "I", false)
def tyX10 : Nat → FieldType := fun k => match k with
  | 0 => .array .int
  | 1 => .int
  | 2 => .int
  | 3 => .int
  | 4 => .int
  | _ => .int
theorem nmX10 : ∀ a, a < 6 → ∀ b, b < 6 → a ≠ b → (TX10 a).2.1 ≠ (TX10 b).2.1 := by decide +kernel
theorem tyX10_ok : ∀ k, k < 6 → parseFieldDescriptor (TX10 k).2.2.1 = some (tyX10 k) := by decide +kernel
def RX11 : String := "WideTurn"
def TX11 : u_T := fun k => match k with
  | 0 => ("WideTurn", "rows", "LWideTurn$Rows;", true)
  | 1 => ("WideTurn", "tape", "LWideTurn$Tape;", true)
  | 2 => ("WideTurn", "acts", "LWideTurn$Acts;", true)
  | 3 => ("WideTurn", "search", "LWideTurn$Search;", true)
  | 4 => ("WideTurn", "now", "LWideTurn$Basin;", true)
  | 5 => ("WideTurn", "trial", "LWideTurn$Basin;", true)
  | 6 => ("WideTurn", "images", "[LWideTurn$Basin;", true)
  | 7 => ("WideTurn", "trace", "[I", true)
  | 8 => ("WideTurn", "told", "Z", false)
  | _ => ("WideTurn", "finding", "I", false)
def tyX11 : Nat → FieldType := fun k => match k with
  | 0 => .object "WideTurn$Rows"
  | 1 => .object "WideTurn$Tape"
  | 2 => .object "WideTurn$Acts"
  | 3 => .object "WideTurn$Search"
  | 4 => .object "WideTurn$Basin"
  | 5 => .object "WideTurn$Basin"
  | 6 => .array (.object "WideTurn$Basin")
  | 7 => .array .int
  | 8 => .boolean
  | _ => .int
theorem nmX11 : ∀ a, a < 10 → ∀ b, b < 10 → a ≠ b → (TX11 a).2.1 ≠ (TX11 b).2.1 := by decide +kernel
theorem tyX11_ok : ∀ k, k < 10 → parseFieldDescriptor (TX11 k).2.2.1 = some (tyX11 k) := by decide +kernel
def RX12 : String := "WideTurnModel"
def TX12 : u_T := fun k => match k with
  | 0 => ("WideTurnModel", "thrown", "I", false)
  | 1 => ("WideTurnModel", "tape", "[I", true)
  | 2 => ("WideTurnModel", "typed", "I", false)
  | 3 => ("WideTurnModel", "next", "I", false)
  | 4 => ("WideTurnModel", "token", "I", false)
  | 5 => ("WideTurnModel", "place", "I", false)
  | 6 => ("WideTurnModel", "value", "I", false)
  | 7 => ("WideTurnModel", "fault", "I", false)
  | 8 => ("WideTurnModel", "faultAt", "I", false)
  | 9 => ("WideTurnModel", "latestFault", "I", false)
  | 10 => ("WideTurnModel", "lane", "[I", true)
  | 11 => ("WideTurnModel", "length", "[I", true)
  | 12 => ("WideTurnModel", "items", "[I", true)
  | 13 => ("WideTurnModel", "finding", "I", false)
  | 14 => ("WideTurnModel", "draft", "[I", true)
  | 15 => ("WideTurnModel", "s", "[I", true)
  | 16 => ("WideTurnModel", "w", "[I", true)
  | 17 => ("WideTurnModel", "acts", "[I", true)
  | 18 => ("WideTurnModel", "actMany", "I", false)
  | 19 => ("WideTurnModel", "images", "[I", true)
  | 20 => ("WideTurnModel", "isKept", "[Z", true)
  | 21 => ("WideTurnModel", "trace", "[I", true)
  | 22 => ("WideTurnModel", "traceMany", "I", false)
  | 23 => ("WideTurnModel", "best", "[I", true)
  | _ => ("WideTurnModel", "ways", "[I", true)
def tyX12 : Nat → FieldType := fun k => match k with
  | 0 => .int
  | 1 => .array .int
  | 2 => .int
  | 3 => .int
  | 4 => .int
  | 5 => .int
  | 6 => .int
  | 7 => .int
  | 8 => .int
  | 9 => .int
  | 10 => .array .int
  | 11 => .array .int
  | 12 => .array .int
  | 13 => .int
  | 14 => .array .int
  | 15 => .array .int
  | 16 => .array .int
  | 17 => .array .int
  | 18 => .int
  | 19 => .array .int
  | 20 => .array .boolean
  | 21 => .array .int
  | 22 => .int
  | 23 => .array .int
  | _ => .array .int
theorem nmX12 : ∀ a, a < 25 → ∀ b, b < 25 → a ≠ b → (TX12 a).2.1 ≠ (TX12 b).2.1 := by decide +kernel
theorem tyX12_ok : ∀ k, k < 25 → parseFieldDescriptor (TX12 k).2.2.1 = some (tyX12 k) := by decide +kernel
-- ===== the classes whose objects are made, and what the tables say of them =====
def mj_cl : List vw_C := [(RX0, TX0, 8), (RX1, TX1, 11), (RX3, TX3, 3), (RX4, TX4, 3), (RX5, TX5, 3), (RX6, TX6, 3), (RX7, TX7, 14), (RX8, TX8, 3), (RX9, TX9, 3), (RX10, TX10, 6), (RX11, TX11, 10), (RX12, TX12, 25)]
theorem mj_in0 : ∀ w ∈ u_ws RX0 TX0 8, w ∈ lw_tbl := by decide +kernel
theorem mj_in1 : ∀ w ∈ u_ws RX1 TX1 11, w ∈ lw_tbl := by decide +kernel
theorem mj_in2 : ∀ w ∈ u_ws RX3 TX3 3, w ∈ lw_tbl := by decide +kernel
theorem mj_in3 : ∀ w ∈ u_ws RX4 TX4 3, w ∈ lw_tbl := by decide +kernel
theorem mj_in4 : ∀ w ∈ u_ws RX5 TX5 3, w ∈ lw_tbl := by decide +kernel
theorem mj_in5 : ∀ w ∈ u_ws RX6 TX6 3, w ∈ lw_tbl := by decide +kernel
theorem mj_in6 : ∀ w ∈ u_ws RX7 TX7 14, w ∈ lw_tbl := by decide +kernel
theorem mj_in7 : ∀ w ∈ u_ws RX8 TX8 3, w ∈ lw_tbl := by decide +kernel
theorem mj_in8 : ∀ w ∈ u_ws RX9 TX9 3, w ∈ lw_tbl := by decide +kernel
theorem mj_in9 : ∀ w ∈ u_ws RX10 TX10 6, w ∈ lw_tbl := by decide +kernel
theorem mj_in10 : ∀ w ∈ u_ws RX11 TX11 10, w ∈ lw_tbl := by decide +kernel
theorem mj_in11 : ∀ w ∈ u_ws RX12 TX12 25, w ∈ lw_tbl := by decide +kernel
/-- what a class's row of mj_cl brings: its words, its fields' types, its fields' names apart -/
def mj_ok (q : vw_C) : Prop := (∀ w ∈ u_ws q.1 q.2.1 q.2.2, w ∈ lw_tbl) ∧ (∃ ty : Nat → FieldType, ∀ k, k < q.2.2 → parseFieldDescriptor (q.2.1 k).2.2.1 = some (ty k)) ∧ ∀ a, a < q.2.2 → ∀ b, b < q.2.2 → a ≠ b → (q.2.1 a).2.1 ≠ (q.2.1 b).2.1
theorem mj_oks : ∀ q ∈ mj_cl, mj_ok q := by
  unfold mj_cl
  refine List.forall_mem_cons.mpr ⟨⟨mj_in0, ⟨tyX0, tyX0_ok⟩, nmX0⟩, ?_⟩
  refine List.forall_mem_cons.mpr ⟨⟨mj_in1, ⟨tyX1, tyX1_ok⟩, nmX1⟩, ?_⟩
  refine List.forall_mem_cons.mpr ⟨⟨mj_in2, ⟨tyX3, tyX3_ok⟩, nmX3⟩, ?_⟩
  refine List.forall_mem_cons.mpr ⟨⟨mj_in3, ⟨tyX4, tyX4_ok⟩, nmX4⟩, ?_⟩
  refine List.forall_mem_cons.mpr ⟨⟨mj_in4, ⟨tyX5, tyX5_ok⟩, nmX5⟩, ?_⟩
  refine List.forall_mem_cons.mpr ⟨⟨mj_in5, ⟨tyX6, tyX6_ok⟩, nmX6⟩, ?_⟩
  refine List.forall_mem_cons.mpr ⟨⟨mj_in6, ⟨tyX7, tyX7_ok⟩, nmX7⟩, ?_⟩
  refine List.forall_mem_cons.mpr ⟨⟨mj_in7, ⟨tyX8, tyX8_ok⟩, nmX8⟩, ?_⟩
  refine List.forall_mem_cons.mpr ⟨⟨mj_in8, ⟨tyX9, tyX9_ok⟩, nmX9⟩, ?_⟩
  refine List.forall_mem_cons.mpr ⟨⟨mj_in9, ⟨tyX10, tyX10_ok⟩, nmX10⟩, ?_⟩
  refine List.forall_mem_cons.mpr ⟨⟨mj_in10, ⟨tyX11, tyX11_ok⟩, nmX11⟩, ?_⟩
  refine List.forall_mem_cons.mpr ⟨⟨mj_in11, ⟨tyX12, tyX12_ok⟩, nmX12⟩, ?_⟩
  exact fun _ h => absurd h List.not_mem_nil
/-- the words that stay as the machine warms up, whatever the arguments; and those others that stay, too -/
def mj_tbl : List Cond := lw_tbl.filter goodWord
def mj_kind : Cond → Bool
  | .methodLinkNest .. => true
  | .declares _ => true
  | .castable .. => true
  | .arrayOver (.object _) => true
  | _ => false
def mj_bad : List Cond := lw_tbl.filter mj_kind
theorem mj_tblIn : GoodIn mj_tbl mj_tbl := fun w hw => ⟨hw, good_of_word (List.mem_filter.mp hw).2⟩
theorem mj_keep {s U : State} (hW : s.WarmedH U.vm) {w : Cond} (hk : mj_kind w = true) (h : va_Nw w s) : va_Nw w U := by
  unfold mj_kind at hk
  split at hk
  · exact va_Nw.warmM hW h
  · exact va_Nw.warmD hW h
  · exact va_Nw.warmC hW h
  · exact va_AO.use (A := #[]) (va_AO.moved hW.alike (va_AO.of (A := #[]) h))
  · cases hk
