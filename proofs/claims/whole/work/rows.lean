section
-- ===== PART A: goes FIRST, ahead of the names: the tables' words, and 'selects' of the private methods out of them =====
/-- a private method of a class that the tables say can be made, by its rows of tables_1 -/
def lw_okq (q : MethodName × Nat) : Prop := (q.1.cls ≠ "java/lang/invoke/MethodHandle" ∧ q.1.cls ≠ "java/lang/invoke/VarHandle") ∧ Cond.instantiable q.1.cls q.2 ∈ tables_1 ∧ Cond.privateMethod q.1 ∈ tables_1 ∧ Cond.instanceMethod q.1 ∈ tables_1
theorem lw_p0 : lw_okq (⟨"WideTurn", "found", "(I)I"⟩, 10) := ⟨⟨by decide +kernel, by decide +kernel⟩, List.mem_of_getElem? (i := 19) (by decide +kernel), List.mem_of_getElem? (i := 266) (by decide +kernel), List.mem_of_getElem? (i := 267) (by decide +kernel)⟩
theorem lw_p1 : lw_okq (⟨"WideTurn", "sound", "(I)I"⟩, 10) := ⟨⟨by decide +kernel, by decide +kernel⟩, List.mem_of_getElem? (i := 19) (by decide +kernel), List.mem_of_getElem? (i := 278) (by decide +kernel), List.mem_of_getElem? (i := 279) (by decide +kernel)⟩
theorem lw_p2 : lw_okq (⟨"WideTurn$Tape", "readLaw", "(LWideTurn$Basin;)V"⟩, 6) := ⟨⟨by decide +kernel, by decide +kernel⟩, List.mem_of_getElem? (i := 47) (by decide +kernel), List.mem_of_getElem? (i := 353) (by decide +kernel), List.mem_of_getElem? (i := 354) (by decide +kernel)⟩
theorem lw_p3 : lw_okq (⟨"WideTurn$Tape", "readLetter", "(I)V"⟩, 6) := ⟨⟨by decide +kernel, by decide +kernel⟩, List.mem_of_getElem? (i := 47) (by decide +kernel), List.mem_of_getElem? (i := 357) (by decide +kernel), List.mem_of_getElem? (i := 358) (by decide +kernel)⟩
theorem lw_p4 : lw_okq (⟨"WideTurn$Tape", "letterAt", "(I)I"⟩, 6) := ⟨⟨by decide +kernel, by decide +kernel⟩, List.mem_of_getElem? (i := 47) (by decide +kernel), List.mem_of_getElem? (i := 361) (by decide +kernel), List.mem_of_getElem? (i := 362) (by decide +kernel)⟩
theorem lw_p5 : lw_okq (⟨"WideTurn$Tape", "fail", "(II)V"⟩, 6) := ⟨⟨by decide +kernel, by decide +kernel⟩, List.mem_of_getElem? (i := 47) (by decide +kernel), List.mem_of_getElem? (i := 366) (by decide +kernel), List.mem_of_getElem? (i := 367) (by decide +kernel)⟩
theorem lw_p6 : lw_okq (⟨"WideTurn$Tape", "readNumber", "(II)I"⟩, 6) := ⟨⟨by decide +kernel, by decide +kernel⟩, List.mem_of_getElem? (i := 47) (by decide +kernel), List.mem_of_getElem? (i := 370) (by decide +kernel), List.mem_of_getElem? (i := 371) (by decide +kernel)⟩
theorem lw_p7 : lw_okq (⟨"WideTurn$Tape", "readDepths", "(LWideTurn$Basin;)V"⟩, 6) := ⟨⟨by decide +kernel, by decide +kernel⟩, List.mem_of_getElem? (i := 47) (by decide +kernel), List.mem_of_getElem? (i := 377) (by decide +kernel), List.mem_of_getElem? (i := 378) (by decide +kernel)⟩
theorem lw_p8 : lw_okq (⟨"WideTurn$Tape", "readDepth", "()I"⟩, 6) := ⟨⟨by decide +kernel, by decide +kernel⟩, List.mem_of_getElem? (i := 47) (by decide +kernel), List.mem_of_getElem? (i := 381) (by decide +kernel), List.mem_of_getElem? (i := 382) (by decide +kernel)⟩
theorem lw_p9 : lw_okq (⟨"WideTurn$Tape", "readBoat", "(LWideTurn$Basin;)V"⟩, 6) := ⟨⟨by decide +kernel, by decide +kernel⟩, List.mem_of_getElem? (i := 47) (by decide +kernel), List.mem_of_getElem? (i := 385) (by decide +kernel), List.mem_of_getElem? (i := 386) (by decide +kernel)⟩
theorem lw_p10 : lw_okq (⟨"WideTurn$Tape", "readMoored", "(LWideTurn$Basin;)V"⟩, 6) := ⟨⟨by decide +kernel, by decide +kernel⟩, List.mem_of_getElem? (i := 47) (by decide +kernel), List.mem_of_getElem? (i := 389) (by decide +kernel), List.mem_of_getElem? (i := 390) (by decide +kernel)⟩
theorem lw_p11 : lw_okq (⟨"WideTurn$Tape", "readHands", "(LWideTurn$Basin;)V"⟩, 6) := ⟨⟨by decide +kernel, by decide +kernel⟩, List.mem_of_getElem? (i := 47) (by decide +kernel), List.mem_of_getElem? (i := 396) (by decide +kernel), List.mem_of_getElem? (i := 397) (by decide +kernel)⟩
theorem lw_p12 : lw_okq (⟨"WideTurn$Basin", "clearance", "(I)I"⟩, 11) := ⟨⟨by decide +kernel, by decide +kernel⟩, List.mem_of_getElem? (i := 154) (by decide +kernel), List.mem_of_getElem? (i := 575) (by decide +kernel), List.mem_of_getElem? (i := 576) (by decide +kernel)⟩
theorem lw_p13 : lw_okq (⟨"WideTurn$Search", "prepare", "(LWideTurn$Basin;I)V"⟩, 14) := ⟨⟨by decide +kernel, by decide +kernel⟩, List.mem_of_getElem? (i := 103) (by decide +kernel), List.mem_of_getElem? (i := 653) (by decide +kernel), List.mem_of_getElem? (i := 654) (by decide +kernel)⟩
theorem lw_p14 : lw_okq (⟨"WideTurn$Search", "choosePacers", "(LWideTurn$Basin;)V"⟩, 14) := ⟨⟨by decide +kernel, by decide +kernel⟩, List.mem_of_getElem? (i := 103) (by decide +kernel), List.mem_of_getElem? (i := 665) (by decide +kernel), List.mem_of_getElem? (i := 666) (by decide +kernel)⟩
theorem lw_p15 : lw_okq (⟨"WideTurn$Search", "add", "(III)V"⟩, 14) := ⟨⟨by decide +kernel, by decide +kernel⟩, List.mem_of_getElem? (i := 103) (by decide +kernel), List.mem_of_getElem? (i := 674) (by decide +kernel), List.mem_of_getElem? (i := 675) (by decide +kernel)⟩
def lw_privs_1 : List (MethodName × Nat) := [(⟨"WideTurn", "found", "(I)I"⟩, 10), (⟨"WideTurn", "sound", "(I)I"⟩, 10), (⟨"WideTurn$Tape", "readLaw", "(LWideTurn$Basin;)V"⟩, 6), (⟨"WideTurn$Tape", "readLetter", "(I)V"⟩, 6), (⟨"WideTurn$Tape", "letterAt", "(I)I"⟩, 6), (⟨"WideTurn$Tape", "fail", "(II)V"⟩, 6), (⟨"WideTurn$Tape", "readNumber", "(II)I"⟩, 6), (⟨"WideTurn$Tape", "readDepths", "(LWideTurn$Basin;)V"⟩, 6), (⟨"WideTurn$Tape", "readDepth", "()I"⟩, 6), (⟨"WideTurn$Tape", "readBoat", "(LWideTurn$Basin;)V"⟩, 6), (⟨"WideTurn$Tape", "readMoored", "(LWideTurn$Basin;)V"⟩, 6), (⟨"WideTurn$Tape", "readHands", "(LWideTurn$Basin;)V"⟩, 6), (⟨"WideTurn$Basin", "clearance", "(I)I"⟩, 11), (⟨"WideTurn$Search", "prepare", "(LWideTurn$Basin;I)V"⟩, 14), (⟨"WideTurn$Search", "choosePacers", "(LWideTurn$Basin;)V"⟩, 14), (⟨"WideTurn$Search", "add", "(III)V"⟩, 14)]
theorem lw_r1 : ∀ q ∈ lw_privs_1, lw_okq q := List.forall_mem_cons.mpr ⟨lw_p0, List.forall_mem_cons.mpr ⟨lw_p1, List.forall_mem_cons.mpr ⟨lw_p2, List.forall_mem_cons.mpr ⟨lw_p3, List.forall_mem_cons.mpr ⟨lw_p4, List.forall_mem_cons.mpr ⟨lw_p5, List.forall_mem_cons.mpr ⟨lw_p6, List.forall_mem_cons.mpr ⟨lw_p7, List.forall_mem_cons.mpr ⟨lw_p8, List.forall_mem_cons.mpr ⟨lw_p9, List.forall_mem_cons.mpr ⟨lw_p10, List.forall_mem_cons.mpr ⟨lw_p11, List.forall_mem_cons.mpr ⟨lw_p12, List.forall_mem_cons.mpr ⟨lw_p13, List.forall_mem_cons.mpr ⟨lw_p14, List.forall_mem_cons.mpr ⟨lw_p15, fun _ h => absurd h List.not_mem_nil⟩⟩⟩⟩⟩⟩⟩⟩⟩⟩⟩⟩⟩⟩⟩⟩
theorem lw_p16 : lw_okq (⟨"WideTurn$Search", "remove", "(I)V"⟩, 14) := ⟨⟨by decide +kernel, by decide +kernel⟩, List.mem_of_getElem? (i := 103) (by decide +kernel), List.mem_of_getElem? (i := 678) (by decide +kernel), List.mem_of_getElem? (i := 679) (by decide +kernel)⟩
theorem lw_p17 : lw_okq (⟨"WideTurn$Search", "leave", "(I)V"⟩, 14) := ⟨⟨by decide +kernel, by decide +kernel⟩, List.mem_of_getElem? (i := 103) (by decide +kernel), List.mem_of_getElem? (i := 682) (by decide +kernel), List.mem_of_getElem? (i := 683) (by decide +kernel)⟩
theorem lw_p18 : lw_okq (⟨"WideTurn$Search", "clearAt", "(II)I"⟩, 14) := ⟨⟨by decide +kernel, by decide +kernel⟩, List.mem_of_getElem? (i := 103) (by decide +kernel), List.mem_of_getElem? (i := 689) (by decide +kernel), List.mem_of_getElem? (i := 690) (by decide +kernel)⟩
theorem lw_p19 : lw_okq (⟨"WideTurn$Search", "behind", "(III)I"⟩, 14) := ⟨⟨by decide +kernel, by decide +kernel⟩, List.mem_of_getElem? (i := 103) (by decide +kernel), List.mem_of_getElem? (i := 693) (by decide +kernel), List.mem_of_getElem? (i := 694) (by decide +kernel)⟩
theorem lw_p20 : lw_okq (⟨"WideTurn$Search", "offer", "(III)V"⟩, 14) := ⟨⟨by decide +kernel, by decide +kernel⟩, List.mem_of_getElem? (i := 103) (by decide +kernel), List.mem_of_getElem? (i := 698) (by decide +kernel), List.mem_of_getElem? (i := 699) (by decide +kernel)⟩
theorem lw_p21 : lw_okq (⟨"WideTurn", "easiestCell", "(ZI)I"⟩, 10) := ⟨⟨by decide +kernel, by decide +kernel⟩, List.mem_of_getElem? (i := 19) (by decide +kernel), List.mem_of_getElem? (i := 728) (by decide +kernel), List.mem_of_getElem? (i := 729) (by decide +kernel)⟩
theorem lw_p22 : lw_okq (⟨"WideTurn", "minutesIfLaden", "(I)I"⟩, 10) := ⟨⟨by decide +kernel, by decide +kernel⟩, List.mem_of_getElem? (i := 19) (by decide +kernel), List.mem_of_getElem? (i := 745) (by decide +kernel), List.mem_of_getElem? (i := 746) (by decide +kernel)⟩
theorem lw_p23 : lw_okq (⟨"WideTurn", "findingAt", "(III)I"⟩, 10) := ⟨⟨by decide +kernel, by decide +kernel⟩, List.mem_of_getElem? (i := 19) (by decide +kernel), List.mem_of_getElem? (i := 753) (by decide +kernel), List.mem_of_getElem? (i := 754) (by decide +kernel)⟩
theorem lw_p24 : lw_okq (⟨"WideTurn", "planned", "(IIII)I"⟩, 10) := ⟨⟨by decide +kernel, by decide +kernel⟩, List.mem_of_getElem? (i := 19) (by decide +kernel), List.mem_of_getElem? (i := 757) (by decide +kernel), List.mem_of_getElem? (i := 758) (by decide +kernel)⟩
theorem lw_p25 : lw_okq (⟨"WideTurn", "waysSeen", "(IIIII)I"⟩, 10) := ⟨⟨by decide +kernel, by decide +kernel⟩, List.mem_of_getElem? (i := 19) (by decide +kernel), List.mem_of_getElem? (i := 769) (by decide +kernel), List.mem_of_getElem? (i := 770) (by decide +kernel)⟩
theorem lw_p26 : lw_okq (⟨"WideTurn", "waysBehind", "(IIIIII)I"⟩, 10) := ⟨⟨by decide +kernel, by decide +kernel⟩, List.mem_of_getElem? (i := 19) (by decide +kernel), List.mem_of_getElem? (i := 773) (by decide +kernel), List.mem_of_getElem? (i := 774) (by decide +kernel)⟩
theorem lw_p27 : lw_okq (⟨"WideTurn", "firstSeen", "(III)I"⟩, 10) := ⟨⟨by decide +kernel, by decide +kernel⟩, List.mem_of_getElem? (i := 19) (by decide +kernel), List.mem_of_getElem? (i := 777) (by decide +kernel), List.mem_of_getElem? (i := 778) (by decide +kernel)⟩
theorem lw_p28 : lw_okq (⟨"WideTurn", "passDays", "(II)I"⟩, 10) := ⟨⟨by decide +kernel, by decide +kernel⟩, List.mem_of_getElem? (i := 19) (by decide +kernel), List.mem_of_getElem? (i := 808) (by decide +kernel), List.mem_of_getElem? (i := 809) (by decide +kernel)⟩
theorem lw_p29 : lw_okq (⟨"WideTurnModel", "finds", "(I)I"⟩, 25) := ⟨⟨by decide +kernel, by decide +kernel⟩, List.mem_of_getElem? (i := 932) (by decide +kernel), List.mem_of_getElem? (i := 1026) (by decide +kernel), List.mem_of_getElem? (i := 1027) (by decide +kernel)⟩
theorem lw_p30 : lw_okq (⟨"WideTurnModel", "is", "(I)I"⟩, 25) := ⟨⟨by decide +kernel, by decide +kernel⟩, List.mem_of_getElem? (i := 932) (by decide +kernel), List.mem_of_getElem? (i := 1031) (by decide +kernel), List.mem_of_getElem? (i := 1032) (by decide +kernel)⟩
theorem lw_p31 : lw_okq (⟨"WideTurnModel", "isPart", "(III)Z"⟩, 25) := ⟨⟨by decide +kernel, by decide +kernel⟩, List.mem_of_getElem? (i := 932) (by decide +kernel), List.mem_of_getElem? (i := 1046) (by decide +kernel), List.mem_of_getElem? (i := 1047) (by decide +kernel)⟩
def lw_privs_2 : List (MethodName × Nat) := [(⟨"WideTurn$Search", "remove", "(I)V"⟩, 14), (⟨"WideTurn$Search", "leave", "(I)V"⟩, 14), (⟨"WideTurn$Search", "clearAt", "(II)I"⟩, 14), (⟨"WideTurn$Search", "behind", "(III)I"⟩, 14), (⟨"WideTurn$Search", "offer", "(III)V"⟩, 14), (⟨"WideTurn", "easiestCell", "(ZI)I"⟩, 10), (⟨"WideTurn", "minutesIfLaden", "(I)I"⟩, 10), (⟨"WideTurn", "findingAt", "(III)I"⟩, 10), (⟨"WideTurn", "planned", "(IIII)I"⟩, 10), (⟨"WideTurn", "waysSeen", "(IIIII)I"⟩, 10), (⟨"WideTurn", "waysBehind", "(IIIIII)I"⟩, 10), (⟨"WideTurn", "firstSeen", "(III)I"⟩, 10), (⟨"WideTurn", "passDays", "(II)I"⟩, 10), (⟨"WideTurnModel", "finds", "(I)I"⟩, 25), (⟨"WideTurnModel", "is", "(I)I"⟩, 25), (⟨"WideTurnModel", "isPart", "(III)Z"⟩, 25)]
theorem lw_r2 : ∀ q ∈ lw_privs_2, lw_okq q := List.forall_mem_cons.mpr ⟨lw_p16, List.forall_mem_cons.mpr ⟨lw_p17, List.forall_mem_cons.mpr ⟨lw_p18, List.forall_mem_cons.mpr ⟨lw_p19, List.forall_mem_cons.mpr ⟨lw_p20, List.forall_mem_cons.mpr ⟨lw_p21, List.forall_mem_cons.mpr ⟨lw_p22, List.forall_mem_cons.mpr ⟨lw_p23, List.forall_mem_cons.mpr ⟨lw_p24, List.forall_mem_cons.mpr ⟨lw_p25, List.forall_mem_cons.mpr ⟨lw_p26, List.forall_mem_cons.mpr ⟨lw_p27, List.forall_mem_cons.mpr ⟨lw_p28, List.forall_mem_cons.mpr ⟨lw_p29, List.forall_mem_cons.mpr ⟨lw_p30, List.forall_mem_cons.mpr ⟨lw_p31, fun _ h => absurd h List.not_mem_nil⟩⟩⟩⟩⟩⟩⟩⟩⟩⟩⟩⟩⟩⟩⟩⟩
theorem lw_p32 : lw_okq (⟨"WideTurnModel", "advances", "()V"⟩, 25) := ⟨⟨by decide +kernel, by decide +kernel⟩, List.mem_of_getElem? (i := 932) (by decide +kernel), List.mem_of_getElem? (i := 1063) (by decide +kernel), List.mem_of_getElem? (i := 1064) (by decide +kernel)⟩
theorem lw_p33 : lw_okq (⟨"WideTurnModel", "letterAt", "(I)I"⟩, 25) := ⟨⟨by decide +kernel, by decide +kernel⟩, List.mem_of_getElem? (i := 932) (by decide +kernel), List.mem_of_getElem? (i := 1067) (by decide +kernel), List.mem_of_getElem? (i := 1068) (by decide +kernel)⟩
theorem lw_p34 : lw_okq (⟨"WideTurnModel", "readsHead", "()V"⟩, 25) := ⟨⟨by decide +kernel, by decide +kernel⟩, List.mem_of_getElem? (i := 932) (by decide +kernel), List.mem_of_getElem? (i := 1071) (by decide +kernel), List.mem_of_getElem? (i := 1072) (by decide +kernel)⟩
theorem lw_p35 : lw_okq (⟨"WideTurnModel", "wants", "(II)V"⟩, 25) := ⟨⟨by decide +kernel, by decide +kernel⟩, List.mem_of_getElem? (i := 932) (by decide +kernel), List.mem_of_getElem? (i := 1075) (by decide +kernel), List.mem_of_getElem? (i := 1076) (by decide +kernel)⟩
theorem lw_p36 : lw_okq (⟨"WideTurnModel", "fails", "(I)V"⟩, 25) := ⟨⟨by decide +kernel, by decide +kernel⟩, List.mem_of_getElem? (i := 932) (by decide +kernel), List.mem_of_getElem? (i := 1079) (by decide +kernel), List.mem_of_getElem? (i := 1080) (by decide +kernel)⟩
theorem lw_p37 : lw_okq (⟨"WideTurnModel", "isWell", "()Z"⟩, 25) := ⟨⟨by decide +kernel, by decide +kernel⟩, List.mem_of_getElem? (i := 932) (by decide +kernel), List.mem_of_getElem? (i := 1083) (by decide +kernel), List.mem_of_getElem? (i := 1084) (by decide +kernel)⟩
theorem lw_p38 : lw_okq (⟨"WideTurnModel", "number", "(IIZ)I"⟩, 25) := ⟨⟨by decide +kernel, by decide +kernel⟩, List.mem_of_getElem? (i := 932) (by decide +kernel), List.mem_of_getElem? (i := 1087) (by decide +kernel), List.mem_of_getElem? (i := 1088) (by decide +kernel)⟩
theorem lw_p39 : lw_okq (⟨"WideTurnModel", "readsRest", "()V"⟩, 25) := ⟨⟨by decide +kernel, by decide +kernel⟩, List.mem_of_getElem? (i := 932) (by decide +kernel), List.mem_of_getElem? (i := 1091) (by decide +kernel), List.mem_of_getElem? (i := 1092) (by decide +kernel)⟩
theorem lw_p40 : lw_okq (⟨"WideTurnModel", "isHand", "(I)Z"⟩, 25) := ⟨⟨by decide +kernel, by decide +kernel⟩, List.mem_of_getElem? (i := 932) (by decide +kernel), List.mem_of_getElem? (i := 1118) (by decide +kernel), List.mem_of_getElem? (i := 1119) (by decide +kernel)⟩
theorem lw_p41 : lw_okq (⟨"WideTurnModel", "notes", "()V"⟩, 25) := ⟨⟨by decide +kernel, by decide +kernel⟩, List.mem_of_getElem? (i := 932) (by decide +kernel), List.mem_of_getElem? (i := 1146) (by decide +kernel), List.mem_of_getElem? (i := 1147) (by decide +kernel)⟩
theorem lw_p42 : lw_okq (⟨"WideTurnModel", "boatCells", "()I"⟩, 25) := ⟨⟨by decide +kernel, by decide +kernel⟩, List.mem_of_getElem? (i := 932) (by decide +kernel), List.mem_of_getElem? (i := 1161) (by decide +kernel), List.mem_of_getElem? (i := 1162) (by decide +kernel)⟩
theorem lw_p43 : lw_okq (⟨"WideTurnModel", "fitsNow", "()Z"⟩, 25) := ⟨⟨by decide +kernel, by decide +kernel⟩, List.mem_of_getElem? (i := 932) (by decide +kernel), List.mem_of_getElem? (i := 1172) (by decide +kernel), List.mem_of_getElem? (i := 1173) (by decide +kernel)⟩
theorem lw_p44 : lw_okq (⟨"WideTurnModel", "solves", "([IIII)I"⟩, 25) := ⟨⟨by decide +kernel, by decide +kernel⟩, List.mem_of_getElem? (i := 932) (by decide +kernel), List.mem_of_getElem? (i := 1193) (by decide +kernel), List.mem_of_getElem? (i := 1194) (by decide +kernel)⟩
theorem lw_p45 : lw_okq (⟨"WideTurnModel", "firstOf", "([I)I"⟩, 25) := ⟨⟨by decide +kernel, by decide +kernel⟩, List.mem_of_getElem? (i := 932) (by decide +kernel), List.mem_of_getElem? (i := 1207) (by decide +kernel), List.mem_of_getElem? (i := 1208) (by decide +kernel)⟩
theorem lw_p46 : lw_okq (⟨"WideTurnModel", "turnedOf", "([II)I"⟩, 25) := ⟨⟨by decide +kernel, by decide +kernel⟩, List.mem_of_getElem? (i := 932) (by decide +kernel), List.mem_of_getElem? (i := 1215) (by decide +kernel), List.mem_of_getElem? (i := 1216) (by decide +kernel)⟩
theorem lw_p47 : lw_okq (⟨"WideTurnModel", "wrongRow", "(III)I"⟩, 25) := ⟨⟨by decide +kernel, by decide +kernel⟩, List.mem_of_getElem? (i := 932) (by decide +kernel), List.mem_of_getElem? (i := 1243) (by decide +kernel), List.mem_of_getElem? (i := 1244) (by decide +kernel)⟩
def lw_privs_3 : List (MethodName × Nat) := [(⟨"WideTurnModel", "advances", "()V"⟩, 25), (⟨"WideTurnModel", "letterAt", "(I)I"⟩, 25), (⟨"WideTurnModel", "readsHead", "()V"⟩, 25), (⟨"WideTurnModel", "wants", "(II)V"⟩, 25), (⟨"WideTurnModel", "fails", "(I)V"⟩, 25), (⟨"WideTurnModel", "isWell", "()Z"⟩, 25), (⟨"WideTurnModel", "number", "(IIZ)I"⟩, 25), (⟨"WideTurnModel", "readsRest", "()V"⟩, 25), (⟨"WideTurnModel", "isHand", "(I)Z"⟩, 25), (⟨"WideTurnModel", "notes", "()V"⟩, 25), (⟨"WideTurnModel", "boatCells", "()I"⟩, 25), (⟨"WideTurnModel", "fitsNow", "()Z"⟩, 25), (⟨"WideTurnModel", "solves", "([IIII)I"⟩, 25), (⟨"WideTurnModel", "firstOf", "([I)I"⟩, 25), (⟨"WideTurnModel", "turnedOf", "([II)I"⟩, 25), (⟨"WideTurnModel", "wrongRow", "(III)I"⟩, 25)]
theorem lw_r3 : ∀ q ∈ lw_privs_3, lw_okq q := List.forall_mem_cons.mpr ⟨lw_p32, List.forall_mem_cons.mpr ⟨lw_p33, List.forall_mem_cons.mpr ⟨lw_p34, List.forall_mem_cons.mpr ⟨lw_p35, List.forall_mem_cons.mpr ⟨lw_p36, List.forall_mem_cons.mpr ⟨lw_p37, List.forall_mem_cons.mpr ⟨lw_p38, List.forall_mem_cons.mpr ⟨lw_p39, List.forall_mem_cons.mpr ⟨lw_p40, List.forall_mem_cons.mpr ⟨lw_p41, List.forall_mem_cons.mpr ⟨lw_p42, List.forall_mem_cons.mpr ⟨lw_p43, List.forall_mem_cons.mpr ⟨lw_p44, List.forall_mem_cons.mpr ⟨lw_p45, List.forall_mem_cons.mpr ⟨lw_p46, List.forall_mem_cons.mpr ⟨lw_p47, fun _ h => absurd h List.not_mem_nil⟩⟩⟩⟩⟩⟩⟩⟩⟩⟩⟩⟩⟩⟩⟩⟩
theorem lw_p48 : lw_okq (⟨"WideTurnModel", "sizeOf", "(I)I"⟩, 25) := ⟨⟨by decide +kernel, by decide +kernel⟩, List.mem_of_getElem? (i := 932) (by decide +kernel), List.mem_of_getElem? (i := 1298) (by decide +kernel), List.mem_of_getElem? (i := 1299) (by decide +kernel)⟩
theorem lw_p49 : lw_okq (⟨"WideTurnModel", "leaves", "(I)V"⟩, 25) := ⟨⟨by decide +kernel, by decide +kernel⟩, List.mem_of_getElem? (i := 932) (by decide +kernel), List.mem_of_getElem? (i := 1302) (by decide +kernel), List.mem_of_getElem? (i := 1303) (by decide +kernel)⟩
theorem lw_p50 : lw_okq (⟨"WideTurnModel", "plainMark", "(I)I"⟩, 25) := ⟨⟨by decide +kernel, by decide +kernel⟩, List.mem_of_getElem? (i := 932) (by decide +kernel), List.mem_of_getElem? (i := 1306) (by decide +kernel), List.mem_of_getElem? (i := 1307) (by decide +kernel)⟩
theorem lw_p51 : lw_okq (⟨"WideTurnModel", "markOf", "(I)I"⟩, 25) := ⟨⟨by decide +kernel, by decide +kernel⟩, List.mem_of_getElem? (i := 932) (by decide +kernel), List.mem_of_getElem? (i := 1310) (by decide +kernel), List.mem_of_getElem? (i := 1311) (by decide +kernel)⟩
def lw_privs_4 : List (MethodName × Nat) := [(⟨"WideTurnModel", "sizeOf", "(I)I"⟩, 25), (⟨"WideTurnModel", "leaves", "(I)V"⟩, 25), (⟨"WideTurnModel", "plainMark", "(I)I"⟩, 25), (⟨"WideTurnModel", "markOf", "(I)I"⟩, 25)]
theorem lw_r4 : ∀ q ∈ lw_privs_4, lw_okq q := List.forall_mem_cons.mpr ⟨lw_p48, List.forall_mem_cons.mpr ⟨lw_p49, List.forall_mem_cons.mpr ⟨lw_p50, List.forall_mem_cons.mpr ⟨lw_p51, fun _ h => absurd h List.not_mem_nil⟩⟩⟩⟩
def lw_privs : List (MethodName × Nat) := lw_privs_1 ++ (lw_privs_2 ++ (lw_privs_3 ++ (lw_privs_4)))
def lw_tbl : List Cond := k2_sels lw_privs ++ tables_1
theorem lw_privs_ok : ∀ q ∈ lw_privs, lw_okq q := by
  show ∀ q ∈ lw_privs_1 ++ (lw_privs_2 ++ (lw_privs_3 ++ (lw_privs_4))), lw_okq q
  exact List.forall_mem_append.mpr ⟨lw_r1, List.forall_mem_append.mpr ⟨lw_r2, List.forall_mem_append.mpr ⟨lw_r3, lw_r4⟩⟩⟩

-- class tables (begun as NAMES.whole.lean.txt)
def RX0 : String := "WideTurn$Acts"
def TX0 : u_T := fun k => match k with
  | 0 => ("WideTurn$Acts", "middle", "[I", true)
  | 1 => ("WideTurn$Acts", "turn", "[I", true)
  | 2 => ("WideTurn$Acts", "laden", "[I", true)
  | 3 => ("WideTurn$Acts", "moves", "[I", true)
  | 4 => ("WideTurn$Acts", "moored", "[I", true)
  | 5 => ("WideTurn$Acts", "lowered", "[I", true)
  | 6 => ("WideTurn$Acts", "next", "I", false)
  | _ => ("WideTurn$Acts", "kept", "I", false)
def tyX0 : Nat → FieldType := fun k => match k with
  | 0 => .array .int
  | 1 => .array .int
  | 2 => .array .int
  | 3 => .array .int
  | 4 => .array .int
  | 5 => .array .int
  | 6 => .int
  | _ => .int
theorem nmX0 : ∀ a, a < 8 → ∀ b, b < 8 → a ≠ b → (TX0 a).2.1 ≠ (TX0 b).2.1 := by decide +kernel
theorem tyX0_ok : ∀ k, k < 8 → parseFieldDescriptor (TX0 k).2.2.1 = some (tyX0 k) := by decide +kernel
def RX1 : String := "WideTurn$Basin"
def TX1 : u_T := fun k => match k with
  | 0 => ("WideTurn$Basin", "wind", "I", false)
  | 1 => ("WideTurn$Basin", "draught", "I", false)
  | 2 => ("WideTurn$Basin", "load", "I", false)
  | 3 => ("WideTurn$Basin", "middle", "I", false)
  | 4 => ("WideTurn$Basin", "turn", "I", false)
  | 5 => ("WideTurn$Basin", "laden", "I", false)
  | 6 => ("WideTurn$Basin", "moves", "I", false)
  | 7 => ("WideTurn$Basin", "moored", "I", false)
  | 8 => ("WideTurn$Basin", "hands", "I", false)
  | 9 => ("WideTurn$Basin", "depth", "[I", true)
  | _ => ("WideTurn$Basin", "hand", "[LWideTurn$Hand;", true)
def tyX1 : Nat → FieldType := fun k => match k with
  | 0 => .int
  | 1 => .int
  | 2 => .int
  | 3 => .int
  | 4 => .int
  | 5 => .int
  | 6 => .int
  | 7 => .int
  | 8 => .int
  | 9 => .array .int
  | _ => .array (.object "WideTurn$Hand")
theorem nmX1 : ∀ a, a < 11 → ∀ b, b < 11 → a ≠ b → (TX1 a).2.1 ≠ (TX1 b).2.1 := by decide +kernel
theorem tyX1_ok : ∀ k, k < 11 → parseFieldDescriptor (TX1 k).2.2.1 = some (tyX1 k) := by decide +kernel
def RX2 : String := "WideTurn$Hand"
def TX2 : u_T := fun k => match k with
  | _ => ("", "", "", false)
def tyX2 : Nat → FieldType := fun k => match k with
  | _ => .int
theorem nmX2 : ∀ a, a < 0 → ∀ b, b < 0 → a ≠ b → (TX2 a).2.1 ≠ (TX2 b).2.1 := by decide +kernel
theorem tyX2_ok : ∀ k, k < 0 → parseFieldDescriptor (TX2 k).2.2.1 = some (tyX2 k) := by decide +kernel
def RX3 : String := "WideTurn$Lifter"
def TX3 : u_T := fun k => match k with
  | 0 => ("WideTurn$Hand", "number", "I", true)
  | 1 => ("WideTurn$Hand", "minutes", "I", true)
  | _ => ("WideTurn$Hand", "known", "I", true)
def tyX3 : Nat → FieldType := fun k => match k with
  | 0 => .int
  | 1 => .int
  | _ => .int
theorem nmX3 : ∀ a, a < 3 → ∀ b, b < 3 → a ≠ b → (TX3 a).2.1 ≠ (TX3 b).2.1 := by decide +kernel
theorem tyX3_ok : ∀ k, k < 3 → parseFieldDescriptor (TX3 k).2.2.1 = some (tyX3 k) := by decide +kernel
def RX4 : String := "WideTurn$Poler"
def TX4 : u_T := fun k => match k with
  | 0 => ("WideTurn$Hand", "number", "I", true)
  | 1 => ("WideTurn$Hand", "minutes", "I", true)
  | _ => ("WideTurn$Hand", "known", "I", true)
def tyX4 : Nat → FieldType := fun k => match k with
  | 0 => .int
  | 1 => .int
  | _ => .int
theorem nmX4 : ∀ a, a < 3 → ∀ b, b < 3 → a ≠ b → (TX4 a).2.1 ≠ (TX4 b).2.1 := by decide +kernel
theorem tyX4_ok : ∀ k, k < 3 → parseFieldDescriptor (TX4 k).2.2.1 = some (tyX4 k) := by decide +kernel
def RX5 : String := "WideTurn$Roper"
def TX5 : u_T := fun k => match k with
  | 0 => ("WideTurn$Hand", "number", "I", true)
  | 1 => ("WideTurn$Hand", "minutes", "I", true)
  | _ => ("WideTurn$Hand", "known", "I", true)
def tyX5 : Nat → FieldType := fun k => match k with
  | 0 => .int
  | 1 => .int
  | _ => .int
theorem nmX5 : ∀ a, a < 3 → ∀ b, b < 3 → a ≠ b → (TX5 a).2.1 ≠ (TX5 b).2.1 := by decide +kernel
theorem tyX5_ok : ∀ k, k < 3 → parseFieldDescriptor (TX5 k).2.2.1 = some (tyX5 k) := by decide +kernel
def RX6 : String := "WideTurn$Rows"
def TX6 : u_T := fun k => match k with
  | 0 => ("WideTurn$Rows", "items", "[I", true)
  | 1 => ("WideTurn$Rows", "lanes", "[I", true)
  | _ => ("WideTurn$Rows", "sizes", "[I", true)
def tyX6 : Nat → FieldType := fun k => match k with
  | 0 => .array .int
  | 1 => .array .int
  | _ => .array .int
theorem nmX6 : ∀ a, a < 3 → ∀ b, b < 3 → a ≠ b → (TX6 a).2.1 ≠ (TX6 b).2.1 := by decide +kernel
theorem tyX6_ok : ∀ k, k < 3 → parseFieldDescriptor (TX6 k).2.2.1 = some (tyX6 k) := by decide +kernel
def RX7 : String := "WideTurn$Search"
def TX7 : u_T := fun k => match k with
  | 0 => ("WideTurn$Search", "clear", "[I", true)
  | 1 => ("WideTurn$Search", "minutes", "[I", true)
  | 2 => ("WideTurn$Search", "first", "[I", true)
  | 3 => ("WideTurn$Search", "after", "[I", true)
  | 4 => ("WideTurn$Search", "before", "[I", true)
  | 5 => ("WideTurn$Search", "heads", "[I", true)
  | 6 => ("WideTurn$Search", "paces", "[I", true)
  | 7 => ("WideTurn$Search", "pacers", "[I", true)
  | 8 => ("WideTurn$Search", "draught", "I", false)
  | 9 => ("WideTurn$Search", "lee", "I", false)
  | 10 => ("WideTurn$Search", "start", "I", false)
  | 11 => ("WideTurn$Search", "waiting", "I", false)
  | 12 => ("WideTurn$Search", "foundMinutes", "I", false)
  | _ => ("WideTurn$Search", "foundFirst", "I", false)
def tyX7 : Nat → FieldType := fun k => match k with
  | 0 => .array .int
  | 1 => .array .int
  | 2 => .array .int
  | 3 => .array .int
  | 4 => .array .int
  | 5 => .array .int
  | 6 => .array .int
  | 7 => .array .int
  | 8 => .int
  | 9 => .int
  | 10 => .int
  | 11 => .int
  | 12 => .int
  | _ => .int
theorem nmX7 : ∀ a, a < 14 → ∀ b, b < 14 → a ≠ b → (TX7 a).2.1 ≠ (TX7 b).2.1 := by decide +kernel
theorem tyX7_ok : ∀ k, k < 14 → parseFieldDescriptor (TX7 k).2.2.1 = some (tyX7 k) := by decide +kernel
def RX8 : String := "WideTurn$Shover"
def TX8 : u_T := fun k => match k with
  | 0 => ("WideTurn$Hand", "number", "I", true)
  | 1 => ("WideTurn$Hand", "minutes", "I", true)
  | _ => ("WideTurn$Hand", "known", "I", true)
def tyX8 : Nat → FieldType := fun k => match k with
  | 0 => .int
  | 1 => .int
  | _ => .int
theorem nmX8 : ∀ a, a < 3 → ∀ b, b < 3 → a ≠ b → (TX8 a).2.1 ≠ (TX8 b).2.1 := by decide +kernel
theorem tyX8_ok : ∀ k, k < 3 → parseFieldDescriptor (TX8 k).2.2.1 = some (tyX8 k) := by decide +kernel
def RX9 : String := "WideTurn$Swinger"
def TX9 : u_T := fun k => match k with
  | 0 => ("WideTurn$Hand", "number", "I", true)
  | 1 => ("WideTurn$Hand", "minutes", "I", true)
  | _ => ("WideTurn$Hand", "known", "I", true)
def tyX9 : Nat → FieldType := fun k => match k with
  | 0 => .int
  | 1 => .int
  | _ => .int
theorem nmX9 : ∀ a, a < 3 → ∀ b, b < 3 → a ≠ b → (TX9 a).2.1 ≠ (TX9 b).2.1 := by decide +kernel
theorem tyX9_ok : ∀ k, k < 3 → parseFieldDescriptor (TX9 k).2.2.1 = some (tyX9 k) := by decide +kernel
def RX10 : String := "WideTurn$Tape"
def TX10 : u_T := fun k => match k with
  | 0 => ("WideTurn$Tape", "bytes", "[I", true)
  | 1 => ("WideTurn$Tape", "length", "I", false)
  | 2 => ("WideTurn$Tape", "place", "I", false)
  | 3 => ("WideTurn$Tape", "fault", "I", false)
  | 4 => ("WideTurn$Tape", "faultPlace", "I", false)
  | _ => ("WideTurn$Tape", "latestFault", "I", false)
def tyX10 : Nat → FieldType := fun k => match k with
  | 0 => .array .int
  | 1 => .int
  | 2 => .int
  | 3 => .int
  | 4 => .int
  | _ => .int
theorem nmX10 : ∀ a, a < 6 → ∀ b, b < 6 → a ≠ b → (TX10 a).2.1 ≠ (TX10 b).2.1 := by decide +kernel
theorem tyX10_ok : ∀ k, k < 6 → parseFieldDescriptor (TX10 k).2.2.1 = some (tyX10 k) := by decide +kernel
def RX11 : String := "WideTurn"
def TX11 : u_T := fun k => match k with
  | 0 => ("WideTurn", "rows", "LWideTurn$Rows;", true)
  | 1 => ("WideTurn", "tape", "LWideTurn$Tape;", true)
  | 2 => ("WideTurn", "acts", "LWideTurn$Acts;", true)
  | 3 => ("WideTurn", "search", "LWideTurn$Search;", true)
  | 4 => ("WideTurn", "now", "LWideTurn$Basin;", true)
  | 5 => ("WideTurn", "trial", "LWideTurn$Basin;", true)
  | 6 => ("WideTurn", "images", "[LWideTurn$Basin;", true)
  | 7 => ("WideTurn", "trace", "[I", true)
  | 8 => ("WideTurn", "told", "Z", false)
  | _ => ("WideTurn", "finding", "I", false)
def tyX11 : Nat → FieldType := fun k => match k with
  | 0 => .object "WideTurn$Rows"
  | 1 => .object "WideTurn$Tape"
  | 2 => .object "WideTurn$Acts"
  | 3 => .object "WideTurn$Search"
  | 4 => .object "WideTurn$Basin"
  | 5 => .object "WideTurn$Basin"
  | 6 => .array (.object "WideTurn$Basin")
  | 7 => .array .int
  | 8 => .boolean
  | _ => .int
theorem nmX11 : ∀ a, a < 10 → ∀ b, b < 10 → a ≠ b → (TX11 a).2.1 ≠ (TX11 b).2.1 := by decide +kernel
theorem tyX11_ok : ∀ k, k < 10 → parseFieldDescriptor (TX11 k).2.2.1 = some (tyX11 k) := by decide +kernel
def RX12 : String := "WideTurnModel"
def TX12 : u_T := fun k => match k with
  | 0 => ("WideTurnModel", "thrown", "I", false)
  | 1 => ("WideTurnModel", "tape", "[I", true)
  | 2 => ("WideTurnModel", "typed", "I", false)
  | 3 => ("WideTurnModel", "next", "I", false)
  | 4 => ("WideTurnModel", "token", "I", false)
  | 5 => ("WideTurnModel", "place", "I", false)
  | 6 => ("WideTurnModel", "value", "I", false)
  | 7 => ("WideTurnModel", "fault", "I", false)
  | 8 => ("WideTurnModel", "faultAt", "I", false)
  | 9 => ("WideTurnModel", "latestFault", "I", false)
  | 10 => ("WideTurnModel", "lane", "[I", true)
  | 11 => ("WideTurnModel", "length", "[I", true)
  | 12 => ("WideTurnModel", "items", "[I", true)
  | 13 => ("WideTurnModel", "finding", "I", false)
  | 14 => ("WideTurnModel", "draft", "[I", true)
  | 15 => ("WideTurnModel", "s", "[I", true)
  | 16 => ("WideTurnModel", "w", "[I", true)
  | 17 => ("WideTurnModel", "acts", "[I", true)
  | 18 => ("WideTurnModel", "actMany", "I", false)
  | 19 => ("WideTurnModel", "images", "[I", true)
  | 20 => ("WideTurnModel", "isKept", "[Z", true)
  | 21 => ("WideTurnModel", "trace", "[I", true)
  | 22 => ("WideTurnModel", "traceMany", "I", false)
  | 23 => ("WideTurnModel", "best", "[I", true)
  | _ => ("WideTurnModel", "ways", "[I", true)
def tyX12 : Nat → FieldType := fun k => match k with
  | 0 => .int
  | 1 => .array .int
  | 2 => .int
  | 3 => .int
  | 4 => .int
  | 5 => .int
  | 6 => .int
  | 7 => .int
  | 8 => .int
  | 9 => .int
  | 10 => .array .int
  | 11 => .array .int
  | 12 => .array .int
  | 13 => .int
  | 14 => .array .int
  | 15 => .array .int
  | 16 => .array .int
  | 17 => .array .int
  | 18 => .int
  | 19 => .array .int
  | 20 => .array .boolean
  | 21 => .array .int
  | 22 => .int
  | 23 => .array .int
  | _ => .array .int
theorem nmX12 : ∀ a, a < 25 → ∀ b, b < 25 → a ≠ b → (TX12 a).2.1 ≠ (TX12 b).2.1 := by decide +kernel
theorem tyX12_ok : ∀ k, k < 25 → parseFieldDescriptor (TX12 k).2.2.1 = some (tyX12 k) := by decide +kernel
-- ===== the classes whose objects are made, and what the tables say of them =====
def mj_cl : List vw_C := [(RX0, TX0, 8), (RX1, TX1, 11), (RX3, TX3, 3), (RX4, TX4, 3), (RX5, TX5, 3), (RX6, TX6, 3), (RX7, TX7, 14), (RX8, TX8, 3), (RX9, TX9, 3), (RX10, TX10, 6), (RX11, TX11, 10), (RX12, TX12, 25)]
theorem mj_in0 : ∀ w ∈ u_ws RX0 TX0 8, w ∈ lw_tbl := by decide +kernel
theorem mj_in1 : ∀ w ∈ u_ws RX1 TX1 11, w ∈ lw_tbl := by decide +kernel
theorem mj_in2 : ∀ w ∈ u_ws RX3 TX3 3, w ∈ lw_tbl := by decide +kernel
theorem mj_in3 : ∀ w ∈ u_ws RX4 TX4 3, w ∈ lw_tbl := by decide +kernel
theorem mj_in4 : ∀ w ∈ u_ws RX5 TX5 3, w ∈ lw_tbl := by decide +kernel
theorem mj_in5 : ∀ w ∈ u_ws RX6 TX6 3, w ∈ lw_tbl := by decide +kernel
theorem mj_in6 : ∀ w ∈ u_ws RX7 TX7 14, w ∈ lw_tbl := by decide +kernel
theorem mj_in7 : ∀ w ∈ u_ws RX8 TX8 3, w ∈ lw_tbl := by decide +kernel
theorem mj_in8 : ∀ w ∈ u_ws RX9 TX9 3, w ∈ lw_tbl := by decide +kernel
theorem mj_in9 : ∀ w ∈ u_ws RX10 TX10 6, w ∈ lw_tbl := by decide +kernel
theorem mj_in10 : ∀ w ∈ u_ws RX11 TX11 10, w ∈ lw_tbl := by decide +kernel
theorem mj_in11 : ∀ w ∈ u_ws RX12 TX12 25, w ∈ lw_tbl := by decide +kernel
/-- what a class's row of mj_cl brings: its words, its fields' types, its fields' names apart -/
def mj_ok (q : vw_C) : Prop := (∀ w ∈ u_ws q.1 q.2.1 q.2.2, w ∈ lw_tbl) ∧ (∃ ty : Nat → FieldType, ∀ k, k < q.2.2 → parseFieldDescriptor (q.2.1 k).2.2.1 = some (ty k)) ∧ ∀ a, a < q.2.2 → ∀ b, b < q.2.2 → a ≠ b → (q.2.1 a).2.1 ≠ (q.2.1 b).2.1
theorem mj_oks : ∀ q ∈ mj_cl, mj_ok q := by
  unfold mj_cl
  refine List.forall_mem_cons.mpr ⟨⟨mj_in0, ⟨tyX0, tyX0_ok⟩, nmX0⟩, ?_⟩
  refine List.forall_mem_cons.mpr ⟨⟨mj_in1, ⟨tyX1, tyX1_ok⟩, nmX1⟩, ?_⟩
  refine List.forall_mem_cons.mpr ⟨⟨mj_in2, ⟨tyX3, tyX3_ok⟩, nmX3⟩, ?_⟩
  refine List.forall_mem_cons.mpr ⟨⟨mj_in3, ⟨tyX4, tyX4_ok⟩, nmX4⟩, ?_⟩
  refine List.forall_mem_cons.mpr ⟨⟨mj_in4, ⟨tyX5, tyX5_ok⟩, nmX5⟩, ?_⟩
  refine List.forall_mem_cons.mpr ⟨⟨mj_in5, ⟨tyX6, tyX6_ok⟩, nmX6⟩, ?_⟩
  refine List.forall_mem_cons.mpr ⟨⟨mj_in6, ⟨tyX7, tyX7_ok⟩, nmX7⟩, ?_⟩
  refine List.forall_mem_cons.mpr ⟨⟨mj_in7, ⟨tyX8, tyX8_ok⟩, nmX8⟩, ?_⟩
  refine List.forall_mem_cons.mpr ⟨⟨mj_in8, ⟨tyX9, tyX9_ok⟩, nmX9⟩, ?_⟩
  refine List.forall_mem_cons.mpr ⟨⟨mj_in9, ⟨tyX10, tyX10_ok⟩, nmX10⟩, ?_⟩
  refine List.forall_mem_cons.mpr ⟨⟨mj_in10, ⟨tyX11, tyX11_ok⟩, nmX11⟩, ?_⟩
  refine List.forall_mem_cons.mpr ⟨⟨mj_in11, ⟨tyX12, tyX12_ok⟩, nmX12⟩, ?_⟩
  exact fun _ h => absurd h List.not_mem_nil
/-- the words that stay as the machine warms up, whatever the arguments; and those others that stay, too -/
def mj_tbl : List Cond := lw_tbl.filter goodWord
def mj_kind : Cond → Bool
  | .methodLinkNest .. => true
  | .declares _ => true
  | .castable .. => true
  | .arrayOver (.object _) => true
  | _ => false
def mj_bad : List Cond := lw_tbl.filter mj_kind
theorem mj_tblIn : GoodIn mj_tbl mj_tbl := fun w hw => ⟨hw, good_of_word (List.mem_filter.mp hw).2⟩
theorem mj_keep {s U : State} (hW : s.WarmedH U.vm) {w : Cond} (hk : mj_kind w = true) (h : va_Nw w s) : va_Nw w U := by
  unfold mj_kind at hk
  split at hk
  · exact va_Nw.warmM hW h
  · exact va_Nw.warmD hW h
  · exact va_Nw.warmC hW h
  · exact va_AO.use (A := #[]) (va_AO.moved hW.alike (va_AO.of (A := #[]) h))
  · cases hk
end
section
/-! ===== the small picture of the heap: cells by number, arrays as functions, objects as lists; numbers 0, 1, 2 are EAST, SOUTH and the script ===== -/
abbrev MC : Type := (Nat × Nat × (Nat → Int32)) ⊕ ((Nat × Nat × (Nat → Option Nat)) ⊕ (Nat × List Value))
abbrev MH : Type := (Nat → MC) × Nat × Nat
/-- the launch; the classes' numbers and slots; the array classes; the addresses; where what is made begins -/
abbrev CX : Type := Launch × va_G × (Nat → ClassId) × (Nat → Nat) × Nat
abbrev CX.l (G : CX) : Launch := G.1
abbrev CX.D (G : CX) : va_G := G.2.1
abbrev CX.cA (G : CX) : Nat → ClassId := G.2.2.1
abbrev CX.ad (G : CX) : Nat → Nat := G.2.2.2.1
abbrev CX.base (G : CX) : Nat := G.2.2.2.2
def mj_v (ad : Nat → Nat) : Value → Value
  | .ref a => .ref (ad a)
  | .int x => .int x
  | .long x => .long x
  | .float x => .float x
  | .double x => .double x
  | .null => .null
  | .retAddr a => .retAddr a
def mj_e (G : CX) : MC → va_E
  | .inl (t, n, f) => .inl (G.cA t, n, .inl f)
  | .inr (.inl (t, n, f)) => .inl (G.cA t, n, .inr (.inr (.inr (.inr (fun j => (f j).map G.ad)))))
  | .inr (.inr (ci, fs)) => .inr (ci, fs.map (mj_v G.ad))
def mj_l (ad : Nat → Nat) (lv : List (Nat × Value)) : List (Nat × Value) := lv.map fun q => (q.1, mj_v ad q.2)
def mj_nil : MC := .inr (.inr (0, []))
def mj_aty : Nat → FieldType := fun k => match k with
  | 0 => .int
  | 1 => .boolean
  | 2 => .object "WideTurn$Hand"
  | _ => .object "WideTurn$Basin"
def mj_tys (G : CX) : List (ClassId × FieldType) := [(G.cA 0, mj_aty 0), (G.cA 1, mj_aty 1), (G.cA 2, mj_aty 2), (G.cA 3, mj_aty 3)]
theorem mj_tys_at (G : CX) {t : Nat} (h : t < 4) : (mj_tys G)[t]? = some (G.cA t, mj_aty t) := by
  rcases (show t = 0 ∨ t = 1 ∨ t = 2 ∨ t = 3 by omega) with rfl | rfl | rfl | rfl <;> rfl
/-- which pairs of classes are not castable -/
def mj_nc : List (String × String) := (["WideTurn$Swinger", "WideTurn$Poler", "WideTurn$Roper", "WideTurn$Shover", "WideTurn$Lifter"].flatMap fun a => ["WideTurn$Swinger", "WideTurn$Poler", "WideTurn$Roper", "WideTurn$Shover", "WideTurn$Lifter"].map fun b => (a, b)).filter fun q => q.1 ≠ q.2 && !(q.2 == "WideTurn$Swinger" && (q.1 == "WideTurn$Poler" || q.1 == "WideTurn$Roper")) && !(q.2 == "WideTurn$Shover" && q.1 == "WideTurn$Lifter")
/-- what stays true of the machine from the law's start on -/
def mj_Fx (G : CX) (s : State) : Prop :=
  va_K G.D mj_cl (mj_tys G) s ∧ (∀ i, 3 ≤ i → G.ad i = G.base + (i - 3)) ∧ (∀ i, i < 3 → G.ad i < G.base) ∧ (∀ w ∈ mj_bad, va_Nw w s) ∧ (∀ q ∈ mj_nc, va_Nc q.1 q.2 s)
/-- an int array that was there before, of n places at least -/
def mj_X (b n : Nat) (f : Nat → Int32) (U : State) (H : Heap) : Prop := ∃ scr : Cell, H[b]? = some scr ∧ U.isArrayOf scr .int ∧ scr.vm ≠ .unknown ∧ n ≤ scr.slots.size ∧ scr.slots.size.toInt32 = Int32.ofNat n ∧ ∀ j : Nat, j < n → scr.slots[j]? = some (.int (f j))
theorem mj_X.kept {b n : Nat} {f : Nat → Int32} {U : State} {H H1 : Heap} (h : mj_X b n f U H) (hq : H1[b]? = H[b]?) : mj_X b n f U H1 := by
  obtain ⟨scr, h1, h2⟩ := h
  exact ⟨scr, hq.trans h1, h2⟩
theorem mj_X.moved {b n : Nat} {f : Nat → Int32} {u U : State} {H : Heap} (hvm : u.vm.Alike U.vm) (h : mj_X b n f u H) : mj_X b n f U H := by
  obtain ⟨scr, h1, h2, h3⟩ := h
  exact ⟨scr, h1, State.isArrayOf_alike hvm h2, h3⟩
/-- the heap H holds the picture h; below base it is as at this frame's start -/
def mj_Rep (G : CX) (s : State) (h : MH) (H : Heap) (locs : List Loc) : Prop :=
  H.size + 3 = G.base + h.2.1 ∧ 3 ≤ h.2.1 ∧
  (∀ i, 3 ≤ i → i < h.2.1 → va_at G.D mj_cl (G.ad i, mj_e G (h.1 i)) H) ∧
  (∀ i, h.2.1 ≤ i → h.1 i = mj_nil) ∧
  (∀ i, i < 3 → ∃ (n : Nat) (f : Nat → Int32), h.1 i = .inl (0, n, f) ∧ mj_X (G.ad i) n f s H) ∧
  (∀ i, i < 2 → va_Z "WideTurn" (if i = 0 then "EAST" else "SOUTH") "[I" (.ref (G.ad i)) (fun q => G.base ≤ q) s H) ∧
  (∀ q, q < G.base → H[q]? = s.heap[q]?) ∧ G.base ≤ s.heap.size ∧ ∀ q ∈ locs, G.base ≤ q.base
/-- a method: its name, its bytes, how many locals, what it returns -/
abbrev MI : Type := MethodName × ByteArray × Nat × Option FieldType
def mj_Fr (mi : MI) (p : Program) (s : State) (m : MethodId) (args : Array Value) (meth : Method) (c : Code) : Prop :=
  p.tables.exec = Jvm.exec ∧ c.code = mi.2.1 ∧ c.maxLocals = mi.2.2.1 ∧ s.vm.findClass mi.1.cls = some m.cls ∧ (∀ w ∈ mj_tbl, w.before args s = true) ∧ meth.name = mi.1.name ∧ meth.sig.returnType = mi.2.2.2 ∧ meth.locks = false
/-- from one place of a frame (pc, locals, stack, heap) the machine comes to another of the same frame -/
def Go (mi : MI) (d : Nat) (h0 : MH) (pc : Nat) (lv : List (Nat × Value)) (st : List Value) (h : MH) (pc' : Nat) (lv' : List (Nat × Value)) (st' : List Value) (h' : MH) : Prop :=
  h.2.1 ≤ h'.2.1 ∧ h.2.2 ≤ h'.2.2 ∧
  ∀ (G : CX) (p : Program) (e : Env) (R : Room) (s : State) (m : MethodId) (args : Array Value) (below : List Frame) (meth : Method) (c : Code) (Q : State → Prop),
    mj_Fr mi p s m args meth c → mj_Fx G s → h0.2.1 ≤ h.2.1 → h0.2.2 ≤ h.2.2 → d ≤ R.frames → 64 * d ≤ R.locals → h'.2.1 - h0.2.1 ≤ R.cells → h'.2.2 - h0.2.2 ≤ R.slots →
    (∀ (H : Heap) (locs : List Loc) (ls : Array Slot), mj_Rep G s h' H locs → lv_has ls mi.2.2.1 (mj_l G.ad lv') → W p G.l e R s m args below meth c H locs (h'.2.1 - h0.2.1) (h'.2.2 - h0.2.2) Q (F0 m pc' ls (st'.map (mj_v G.ad)))) →
    ∀ (H : Heap) (locs : List Loc) (ls : Array Slot), mj_Rep G s h H locs → lv_has ls mi.2.2.1 (mj_l G.ad lv) → W p G.l e R s m args below meth c H locs (h.2.1 - h0.2.1) (h.2.2 - h0.2.2) Q (F0 m pc ls (st.map (mj_v G.ad)))
theorem Go.rf {mi : MI} {d : Nat} {h0 : MH} {pc : Nat} {lv : List (Nat × Value)} {st : List Value} {h : MH} : Go mi d h0 pc lv st h pc lv st h :=
  ⟨Nat.le_refl _, Nat.le_refl _, fun _ _ _ _ _ _ _ _ _ _ _ _ _ _ _ _ _ _ _ hQ => hQ⟩
theorem Go.tr {mi : MI} {d : Nat} {h0 : MH} {pc pc1 pc2 : Nat} {lv lv1 lv2 : List (Nat × Value)} {st st1 st2 : List Value} {h h1 h2 : MH} (A : Go mi d h0 pc lv st h pc1 lv1 st1 h1) (B : Go mi d h0 pc1 lv1 st1 h1 pc2 lv2 st2 h2) : Go mi d h0 pc lv st h pc2 lv2 st2 h2 := by
  obtain ⟨a1, a2, a3⟩ := A
  obtain ⟨b1, b2, b3⟩ := B
  refine ⟨Nat.le_trans a1 b1, Nat.le_trans a2 b2, fun G p e R s m args below meth c Q hF hX g1 g2 g3 g4 g5 g6 hQ => ?_⟩
  exact a3 G p e R s m args below meth c Q hF hX g1 g2 g3 g4 (Nat.le_trans (Nat.sub_le_sub_right b1 _) g5) (Nat.le_trans (Nat.sub_le_sub_right b2 _) g6)
    (b3 G p e R s m args below meth c Q hF hX (Nat.le_trans g1 a1) (Nat.le_trans g2 a2) g3 g4 g5 g6 hQ)
/-- more depth, more room -/
theorem Go.up {mi : MI} {d d' : Nat} {h0 : MH} {pc pc1 : Nat} {lv lv1 : List (Nat × Value)} {st st1 : List Value} {h h1 : MH} (hd : d ≤ d') (A : Go mi d h0 pc lv st h pc1 lv1 st1 h1) : Go mi d' h0 pc lv st h pc1 lv1 st1 h1 :=
  ⟨A.1, A.2.1, fun G p e R s m args below meth c Q hF hX g1 g2 g3 g4 g5 g6 hQ => A.2.2 G p e R s m args below meth c Q hF hX g1 g2 (Nat.le_trans hd g3) (Nat.le_trans (Nat.mul_le_mul_left 64 hd) g4) g5 g6 hQ⟩
/-- one instruction that leaves the heap alone -/
theorem Go.one {mi : MI} {d : Nat} {h0 : MH} {pc pc1 pc2 : Nat} {lv lv1 lv2 : List (Nat × Value)} {st st1 st2 : List Value} {h h2 : MH}
    (A : ∀ (G : CX) (p : Program) (e : Env) (R : Room) (s : State) (m : MethodId) (args : Array Value) (below : List Frame) (meth : Method) (c : Code) (Q : State → Prop) (cells slots : Nat) (H : Heap) (locs : List Loc) (ls : Array Slot),
      mj_Fr mi p s m args meth c → mj_Fx G s → d ≤ R.frames → 64 * d ≤ R.locals → mj_Rep G s h H locs → lv_has ls mi.2.2.1 (mj_l G.ad lv) →
      (∀ ls1 : Array Slot, lv_has ls1 mi.2.2.1 (mj_l G.ad lv1) → W p G.l e R s m args below meth c H locs cells slots Q (F0 m pc1 ls1 (st1.map (mj_v G.ad)))) →
      W p G.l e R s m args below meth c H locs cells slots Q (F0 m pc ls (st.map (mj_v G.ad))))
    (B : Go mi d h0 pc1 lv1 st1 h pc2 lv2 st2 h2) : Go mi d h0 pc lv st h pc2 lv2 st2 h2 := by
  obtain ⟨b1, b2, b3⟩ := B
  refine ⟨b1, b2, fun G p e R s m args below meth c Q hF hX g1 g2 g3 g4 g5 g6 hQ H locs ls hR hl => ?_⟩
  exact A G p e R s m args below meth c Q _ _ H locs ls hF hX g3 g4 hR hl (fun ls1 hl1 => b3 G p e R s m args below meth c Q hF hX g1 g2 g3 g4 g5 g6 hQ H locs ls1 hR hl1)
theorem mj_cat (ad : Nat → Nat) (v : Value) : (mj_v ad v).category = v.category := by cases v <;> rfl
theorem mj_lat {ad : Nat → Nat} {ls : Array Slot} {nL : Nat} {lv : List (Nat × Value)} (h : lv_has ls nL (mj_l ad lv)) {k i : Nat} {v : Value} (hk : lv[k]? = some (i, v)) : ls[i]? = some (.val (mj_v ad v)) :=
  lv_at h k (by simp [mj_l, hk])
def mj_s1 (i : Nat) (v : Value) (lv : List (Nat × Value)) : List (Nat × Value) := (i, v) :: lv.filter (fun q => !(q.1 == i) && !(q.1 + 1 == i && q.2.category == 2))
def mj_s2 (i : Nat) (v : Value) (lv : List (Nat × Value)) : List (Nat × Value) := (i, v) :: lv.filter (fun q => !(q.1 == i) && (!(q.1 == i + 1) && !(q.1 + 1 == i && q.2.category == 2)))
theorem mj_l1 (ad : Nat → Nat) (i : Nat) (v : Value) (lv : List (Nat × Value)) : mj_l ad (mj_s1 i v lv) = (i, mj_v ad v) :: (mj_l ad lv).filter (fun q => !(q.1 == i) && !(q.1 + 1 == i && q.2.category == 2)) := by
  unfold mj_l mj_s1
  rw [List.map_cons, List.filter_map]
  congr 2
  apply List.filter_congr
  intro q _
  simp only [Function.comp, mj_cat]
theorem mj_l2 (ad : Nat → Nat) (i : Nat) (v : Value) (lv : List (Nat × Value)) : mj_l ad (mj_s2 i v lv) = (i, mj_v ad v) :: (mj_l ad lv).filter (fun q => !(q.1 == i) && (!(q.1 == i + 1) && !(q.1 + 1 == i && q.2.category == 2))) := by
  unfold mj_l mj_s2
  rw [List.map_cons, List.filter_map]
  congr 2
  apply List.filter_congr
  intro q _
  simp only [Function.comp, mj_cat]
end
section
/-! ===== an instruction, a rule: those that leave the heap alone ===== -/
section GO1
variable {mi : MI} {d : Nat} {h0 : MH} {pc pc2 : Nat} {lv lv2 : List (Nat × Value)} {st st2 : List Value} {h h2 : MH}
theorem mj_vrf (ad : Nat → Nat) (o : Option Nat) : mj_v ad (va_rf o) = va_rf (o.map ad) := by cases o <;> rfl
theorem go_iconst {n : Int} {v : Int32} (hd : decode mi.2.1 pc = .ok (.iconst n, 1)) (hv : Int32.ofInt n = v) (B : Go mi d h0 (pc + 1) lv (.int v :: st) h pc2 lv2 st2 h2) : Go mi d h0 pc lv st h pc2 lv2 st2 h2 :=
  Go.one (fun G p e R s m args below meth c Q cells slots H locs ls hF hX g3 g4 hR hl K => lv_iconst hF.1 hF.2.1 hd hv (K ls hl)) B
theorem go_bipush {n : Int} {v : Int32} (hd : decode mi.2.1 pc = .ok (.bipush n, 2)) (hv : (Int8.ofInt n).toInt32 = v) (B : Go mi d h0 (pc + 2) lv (.int v :: st) h pc2 lv2 st2 h2) : Go mi d h0 pc lv st h pc2 lv2 st2 h2 :=
  Go.one (fun G p e R s m args below meth c Q cells slots H locs ls hF hX g3 g4 hR hl K => lv_bipush hF.1 hF.2.1 hd hv (K ls hl)) B
theorem go_sipush {n : Int} {v : Int32} (hd : decode mi.2.1 pc = .ok (.sipush n, 3)) (hv : (Int16.ofInt n).toInt32 = v) (B : Go mi d h0 (pc + 3) lv (.int v :: st) h pc2 lv2 st2 h2) : Go mi d h0 pc lv st h pc2 lv2 st2 h2 :=
  Go.one (fun G p e R s m args below meth c Q cells slots H locs ls hF hX g3 g4 hR hl K => lv_sipush hF.1 hF.2.1 hd hv (K ls hl)) B
theorem go_lconst {n : Fin 2} {v : Int64} (hd : decode mi.2.1 pc = .ok (.lconst n, 1)) (hv : Int64.ofNat (n : Nat) = v) (B : Go mi d h0 (pc + 1) lv (.long v :: st) h pc2 lv2 st2 h2) : Go mi d h0 pc lv st h pc2 lv2 st2 h2 :=
  Go.one (fun G p e R s m args below meth c Q cells slots H locs ls hF hX g3 g4 hR hl K => lv_lconst hF.1 hF.2.1 hd hv (K ls hl)) B
theorem go_null (hd : decode mi.2.1 pc = .ok (.aconst_null, 1)) (B : Go mi d h0 (pc + 1) lv (va_rf none :: st) h pc2 lv2 st2 h2) : Go mi d h0 pc lv st h pc2 lv2 st2 h2 :=
  Go.one (fun G p e R s m args below meth c Q cells slots H locs ls hF hX g3 g4 hR hl K => lv_null hF.1 hF.2.1 hd (K ls hl)) B
theorem go_ldc {idx : Nat} {v : Int32} (hd : decode mi.2.1 pc = .ok (.ldc idx, 2)) (hc : Cond.constant mi.1.cls idx v ∈ mj_tbl) (B : Go mi d h0 (pc + 2) lv (.int v :: st) h pc2 lv2 st2 h2) : Go mi d h0 pc lv st h pc2 lv2 st2 h2 :=
  Go.one (fun G p e R s m args below meth c Q cells slots H locs ls hF hX g3 g4 hR hl K => lv_ldc hF.1 hF.2.1 hF.2.2.2.1 (hF.2.2.2.2.1 _ hc) hd (K ls hl)) B
theorem go_ldcw {idx : Nat} {v : Int32} (hd : decode mi.2.1 pc = .ok (.ldc_w idx, 3)) (hc : Cond.constant mi.1.cls idx v ∈ mj_tbl) (B : Go mi d h0 (pc + 3) lv (.int v :: st) h pc2 lv2 st2 h2) : Go mi d h0 pc lv st h pc2 lv2 st2 h2 :=
  Go.one (fun G p e R s m args below meth c Q cells slots H locs ls hF hX g3 g4 hR hl K => lv_ldcw hF.1 hF.2.1 hF.2.2.2.1 (hF.2.2.2.2.1 _ hc) hd (K ls hl)) B
theorem go_ldc2 {idx : Nat} {v : Int64} (hd : decode mi.2.1 pc = .ok (.ldc2_w idx, 3)) (hc : Cond.constantLong mi.1.cls idx v ∈ mj_tbl) (B : Go mi d h0 (pc + 3) lv (.long v :: st) h pc2 lv2 st2 h2) : Go mi d h0 pc lv st h pc2 lv2 st2 h2 :=
  Go.one (fun G p e R s m args below meth c Q cells slots H locs ls hF hX g3 g4 hR hl K => lv_ldc2 hF.1 hF.2.1 hF.2.2.2.1 (hF.2.2.2.2.1 _ hc) hd (K ls hl)) B
theorem go_iload_n {k : Fin 4} {x : Int32} (q : Nat) (hd : decode mi.2.1 pc = .ok (.iload_n k, 1)) (hv : lv[q]? = some ((k : Nat), .int x)) (B : Go mi d h0 (pc + 1) lv (.int x :: st) h pc2 lv2 st2 h2) : Go mi d h0 pc lv st h pc2 lv2 st2 h2 :=
  Go.one (fun G p e R s m args below meth c Q cells slots H locs ls hF hX g3 g4 hR hl K => lv_iload_n hF.1 hF.2.1 hd rfl (mj_lat hl hv) (K ls hl)) B
theorem go_iload {i : Nat} {x : Int32} (q : Nat) (hd : decode mi.2.1 pc = .ok (.iload i, 2)) (hv : lv[q]? = some (i, .int x)) (B : Go mi d h0 (pc + 2) lv (.int x :: st) h pc2 lv2 st2 h2) : Go mi d h0 pc lv st h pc2 lv2 st2 h2 :=
  Go.one (fun G p e R s m args below meth c Q cells slots H locs ls hF hX g3 g4 hR hl K => lv_iload hF.1 hF.2.1 hd (mj_lat hl hv) (K ls hl)) B
theorem go_lload_n {k : Fin 4} {x : Int64} (q : Nat) (hd : decode mi.2.1 pc = .ok (.lload_n k, 1)) (hv : lv[q]? = some ((k : Nat), .long x)) (B : Go mi d h0 (pc + 1) lv (.long x :: st) h pc2 lv2 st2 h2) : Go mi d h0 pc lv st h pc2 lv2 st2 h2 :=
  Go.one (fun G p e R s m args below meth c Q cells slots H locs ls hF hX g3 g4 hR hl K => lv_lload_n hF.1 hF.2.1 hd rfl (mj_lat hl hv) (K ls hl)) B
theorem go_lload {i : Nat} {x : Int64} (q : Nat) (hd : decode mi.2.1 pc = .ok (.lload i, 2)) (hv : lv[q]? = some (i, .long x)) (B : Go mi d h0 (pc + 2) lv (.long x :: st) h pc2 lv2 st2 h2) : Go mi d h0 pc lv st h pc2 lv2 st2 h2 :=
  Go.one (fun G p e R s m args below meth c Q cells slots H locs ls hF hX g3 g4 hR hl K => lv_lload hF.1 hF.2.1 hd (mj_lat hl hv) (K ls hl)) B
theorem go_aload_n {k : Fin 4} {o : Option Nat} (q : Nat) (hd : decode mi.2.1 pc = .ok (.aload_n k, 1)) (hv : lv[q]? = some ((k : Nat), va_rf o)) (B : Go mi d h0 (pc + 1) lv (va_rf o :: st) h pc2 lv2 st2 h2) : Go mi d h0 pc lv st h pc2 lv2 st2 h2 :=
  Go.one (fun G p e R s m args below meth c Q cells slots H locs ls hF hX g3 g4 hR hl K => by
    cases o with
    | none => exact lv_aload_nN hF.1 hF.2.1 hd rfl (mj_lat hl hv) (K ls hl)
    | some a => exact lv_aload_n hF.1 hF.2.1 hd rfl (mj_lat hl hv) (K ls hl)) B
theorem go_aload {i : Nat} {o : Option Nat} (q : Nat) (hd : decode mi.2.1 pc = .ok (.aload i, 2)) (hv : lv[q]? = some (i, va_rf o)) (B : Go mi d h0 (pc + 2) lv (va_rf o :: st) h pc2 lv2 st2 h2) : Go mi d h0 pc lv st h pc2 lv2 st2 h2 :=
  Go.one (fun G p e R s m args below meth c Q cells slots H locs ls hF hX g3 g4 hR hl K => by
    cases o with
    | none => exact lv_aloadN hF.1 hF.2.1 hd (mj_lat hl hv) (K ls hl)
    | some a => exact lv_aload hF.1 hF.2.1 hd (mj_lat hl hv) (K ls hl)) B
theorem go_istore_n {k : Fin 4} {x : Int32} (hd : decode mi.2.1 pc = .ok (.istore_n k, 1)) (hn : (k : Nat) < mi.2.2.1) {lv1 : List (Nat × Value)} (hs : mj_s1 (k : Nat) (.int x) lv = lv1) (B : Go mi d h0 (pc + 1) lv1 st h pc2 lv2 st2 h2) : Go mi d h0 pc lv ((.int x) :: st) h pc2 lv2 st2 h2 := by
  subst hs
  exact Go.one (fun G p e R s m args below meth c Q cells slots H locs ls hF hX g3 g4 hR hl K => lv_istore_n hF.1 hF.2.1 hd rfl hl hn (mj_l1 G.ad (k : Nat) (.int x) lv).symm (fun ls1 h1 => K ls1 h1)) B
theorem go_istore {i : Nat} {x : Int32} (hd : decode mi.2.1 pc = .ok (.istore i, 2)) (hn : i < mi.2.2.1) {lv1 : List (Nat × Value)} (hs : mj_s1 i (.int x) lv = lv1) (B : Go mi d h0 (pc + 2) lv1 st h pc2 lv2 st2 h2) : Go mi d h0 pc lv ((.int x) :: st) h pc2 lv2 st2 h2 := by
  subst hs
  exact Go.one (fun G p e R s m args below meth c Q cells slots H locs ls hF hX g3 g4 hR hl K => lv_istore hF.1 hF.2.1 hd hl hn (mj_l1 G.ad i (.int x) lv).symm (fun ls1 h1 => K ls1 h1)) B
theorem go_lstore_n {k : Fin 4} {x : Int64} (hd : decode mi.2.1 pc = .ok (.lstore_n k, 1)) (hn : (k : Nat) + 1 < mi.2.2.1) {lv1 : List (Nat × Value)} (hs : mj_s2 (k : Nat) (.long x) lv = lv1) (B : Go mi d h0 (pc + 1) lv1 st h pc2 lv2 st2 h2) : Go mi d h0 pc lv ((.long x) :: st) h pc2 lv2 st2 h2 := by
  subst hs
  exact Go.one (fun G p e R s m args below meth c Q cells slots H locs ls hF hX g3 g4 hR hl K => lv_lstore_n hF.1 hF.2.1 hd rfl hl hn (mj_l2 G.ad (k : Nat) (.long x) lv).symm (fun ls1 h1 => K ls1 h1)) B
theorem go_lstore {i : Nat} {x : Int64} (hd : decode mi.2.1 pc = .ok (.lstore i, 2)) (hn : i + 1 < mi.2.2.1) {lv1 : List (Nat × Value)} (hs : mj_s2 i (.long x) lv = lv1) (B : Go mi d h0 (pc + 2) lv1 st h pc2 lv2 st2 h2) : Go mi d h0 pc lv ((.long x) :: st) h pc2 lv2 st2 h2 := by
  subst hs
  exact Go.one (fun G p e R s m args below meth c Q cells slots H locs ls hF hX g3 g4 hR hl K => lv_lstore hF.1 hF.2.1 hd hl hn (mj_l2 G.ad i (.long x) lv).symm (fun ls1 h1 => K ls1 h1)) B
theorem go_astore_n {k : Fin 4} {o : Option Nat} (hd : decode mi.2.1 pc = .ok (.astore_n k, 1)) (hn : (k : Nat) < mi.2.2.1) {lv1 : List (Nat × Value)} (hs : mj_s1 (k : Nat) (va_rf o) lv = lv1) (B : Go mi d h0 (pc + 1) lv1 st h pc2 lv2 st2 h2) : Go mi d h0 pc lv ((va_rf o) :: st) h pc2 lv2 st2 h2 := by
  subst hs
  exact Go.one (fun G p e R s m args below meth c Q cells slots H locs ls hF hX g3 g4 hR hl K => by
    cases o with
    | none => exact lv_astore_nN hF.1 hF.2.1 hd rfl hl hn (mj_l1 G.ad (k : Nat) (va_rf none) lv).symm (fun ls1 h1 => K ls1 h1)
    | some a => exact lv_astore_n hF.1 hF.2.1 hd rfl hl hn (mj_l1 G.ad (k : Nat) (va_rf (some a)) lv).symm (fun ls1 h1 => K ls1 h1)) B
theorem go_astore {i : Nat} {o : Option Nat} (hd : decode mi.2.1 pc = .ok (.astore i, 2)) (hn : i < mi.2.2.1) {lv1 : List (Nat × Value)} (hs : mj_s1 i (va_rf o) lv = lv1) (B : Go mi d h0 (pc + 2) lv1 st h pc2 lv2 st2 h2) : Go mi d h0 pc lv ((va_rf o) :: st) h pc2 lv2 st2 h2 := by
  subst hs
  exact Go.one (fun G p e R s m args below meth c Q cells slots H locs ls hF hX g3 g4 hR hl K => by
    cases o with
    | none => exact lv_astoreN hF.1 hF.2.1 hd hl hn (mj_l1 G.ad i (va_rf none) lv).symm (fun ls1 h1 => K ls1 h1)
    | some a => exact lv_astore hF.1 hF.2.1 hd hl hn (mj_l1 G.ad i (va_rf (some a)) lv).symm (fun ls1 h1 => K ls1 h1)) B
theorem go_iinc {i : Nat} {n : Int} {x v : Int32} (q : Nat) (hd : decode mi.2.1 pc = .ok (.iinc i n, 3)) (hv : lv[q]? = some (i, .int x)) (hx : x + Int32.ofInt n = v) (hn : i < mi.2.2.1) {lv1 : List (Nat × Value)} (hs : mj_s1 i (.int v) lv = lv1) (B : Go mi d h0 (pc + 3) lv1 st h pc2 lv2 st2 h2) : Go mi d h0 pc lv st h pc2 lv2 st2 h2 := by
  subst hs
  exact Go.one (fun G p e R s m args below meth c Q cells slots H locs ls hF hX g3 g4 hR hl K => lv_iinc (k := q) hF.1 hF.2.1 hd hl (by simp [mj_l, hv, mj_v]) hx hn (mj_l1 G.ad i (.int v) lv).symm (fun ls1 h1 => K ls1 h1)) B
theorem go_iadd {x y : Int32} (hd : decode mi.2.1 pc = .ok (.iadd, 1)) (B : Go mi d h0 (pc + 1) lv (.int (x + y) :: st) h pc2 lv2 st2 h2) : Go mi d h0 pc lv (.int y :: .int x :: st) h pc2 lv2 st2 h2 :=
  Go.one (fun G p e R s m args below meth c Q cells slots H locs ls hF hX g3 g4 hR hl K => lv_iadd hF.1 hF.2.1 hd (K ls hl)) B
theorem go_isub {x y : Int32} (hd : decode mi.2.1 pc = .ok (.isub, 1)) (B : Go mi d h0 (pc + 1) lv (.int (x - y) :: st) h pc2 lv2 st2 h2) : Go mi d h0 pc lv (.int y :: .int x :: st) h pc2 lv2 st2 h2 :=
  Go.one (fun G p e R s m args below meth c Q cells slots H locs ls hF hX g3 g4 hR hl K => lv_isub hF.1 hF.2.1 hd (K ls hl)) B
theorem go_imul {x y : Int32} (hd : decode mi.2.1 pc = .ok (.imul, 1)) (B : Go mi d h0 (pc + 1) lv (.int (x * y) :: st) h pc2 lv2 st2 h2) : Go mi d h0 pc lv (.int y :: .int x :: st) h pc2 lv2 st2 h2 :=
  Go.one (fun G p e R s m args below meth c Q cells slots H locs ls hF hX g3 g4 hR hl K => lv_imul hF.1 hF.2.1 hd (K ls hl)) B
theorem go_iand {x y : Int32} (hd : decode mi.2.1 pc = .ok (.iand, 1)) (B : Go mi d h0 (pc + 1) lv (.int (x &&& y) :: st) h pc2 lv2 st2 h2) : Go mi d h0 pc lv (.int y :: .int x :: st) h pc2 lv2 st2 h2 :=
  Go.one (fun G p e R s m args below meth c Q cells slots H locs ls hF hX g3 g4 hR hl K => lv_iand hF.1 hF.2.1 hd (K ls hl)) B
theorem go_ior {x y : Int32} (hd : decode mi.2.1 pc = .ok (.ior, 1)) (B : Go mi d h0 (pc + 1) lv (.int (x ||| y) :: st) h pc2 lv2 st2 h2) : Go mi d h0 pc lv (.int y :: .int x :: st) h pc2 lv2 st2 h2 :=
  Go.one (fun G p e R s m args below meth c Q cells slots H locs ls hF hX g3 g4 hR hl K => lv_ior hF.1 hF.2.1 hd (K ls hl)) B
theorem go_ixor {x y : Int32} (hd : decode mi.2.1 pc = .ok (.ixor, 1)) (B : Go mi d h0 (pc + 1) lv (.int (x ^^^ y) :: st) h pc2 lv2 st2 h2) : Go mi d h0 pc lv (.int y :: .int x :: st) h pc2 lv2 st2 h2 :=
  Go.one (fun G p e R s m args below meth c Q cells slots H locs ls hF hX g3 g4 hR hl K => lv_ixor hF.1 hF.2.1 hd (K ls hl)) B
def mj_irem (x y : Int32) : Int32 := x - x / y * y
def mj_lrem (x y : Int64) : Int64 := x - x / y * y
theorem go_idiv {x y : Int32} (hd : decode mi.2.1 pc = .ok (.idiv, 1)) (hne : ¬ y = 0) (B : Go mi d h0 (pc + 1) lv (.int (x / y) :: st) h pc2 lv2 st2 h2) : Go mi d h0 pc lv (.int y :: .int x :: st) h pc2 lv2 st2 h2 :=
  Go.one (fun G p e R s m args below meth c Q cells slots H locs ls hF hX g3 g4 hR hl K => lv_idiv hF.1 hF.2.1 hd hne (K ls hl)) B
theorem go_ldiv {x y : Int64} (hd : decode mi.2.1 pc = .ok (.ldiv, 1)) (hne : ¬ y = 0) (B : Go mi d h0 (pc + 1) lv (.long (x / y) :: st) h pc2 lv2 st2 h2) : Go mi d h0 pc lv (.long y :: .long x :: st) h pc2 lv2 st2 h2 :=
  Go.one (fun G p e R s m args below meth c Q cells slots H locs ls hF hX g3 g4 hR hl K => lv_ldiv hF.1 hF.2.1 hd hne (K ls hl)) B
theorem go_irem {x y : Int32} (hd : decode mi.2.1 pc = .ok (.irem, 1)) (hne : ¬ y = 0) (B : Go mi d h0 (pc + 1) lv (.int (mj_irem x y) :: st) h pc2 lv2 st2 h2) : Go mi d h0 pc lv (.int y :: .int x :: st) h pc2 lv2 st2 h2 :=
  Go.one (fun G p e R s m args below meth c Q cells slots H locs ls hF hX g3 g4 hR hl K => lv_irem hF.1 hF.2.1 hd hne (K ls hl)) B
theorem go_lrem {x y : Int64} (hd : decode mi.2.1 pc = .ok (.lrem, 1)) (hne : ¬ y = 0) (B : Go mi d h0 (pc + 1) lv (.long (mj_lrem x y) :: st) h pc2 lv2 st2 h2) : Go mi d h0 pc lv (.long y :: .long x :: st) h pc2 lv2 st2 h2 :=
  Go.one (fun G p e R s m args below meth c Q cells slots H locs ls hF hX g3 g4 hR hl K => lv_lrem hF.1 hF.2.1 hd hne (K ls hl)) B
theorem go_ineg {x : Int32} (hd : decode mi.2.1 pc = .ok (.ineg, 1)) (B : Go mi d h0 (pc + 1) lv (.int (-x) :: st) h pc2 lv2 st2 h2) : Go mi d h0 pc lv (.int x :: st) h pc2 lv2 st2 h2 :=
  Go.one (fun G p e R s m args below meth c Q cells slots H locs ls hF hX g3 g4 hR hl K => lv_ineg hF.1 hF.2.1 hd (K ls hl)) B
theorem go_ladd {x y : Int64} (hd : decode mi.2.1 pc = .ok (.ladd, 1)) (B : Go mi d h0 (pc + 1) lv (.long (x + y) :: st) h pc2 lv2 st2 h2) : Go mi d h0 pc lv (.long y :: .long x :: st) h pc2 lv2 st2 h2 :=
  Go.one (fun G p e R s m args below meth c Q cells slots H locs ls hF hX g3 g4 hR hl K => lv_ladd hF.1 hF.2.1 hd (K ls hl)) B
theorem go_lmul {x y : Int64} (hd : decode mi.2.1 pc = .ok (.lmul, 1)) (B : Go mi d h0 (pc + 1) lv (.long (x * y) :: st) h pc2 lv2 st2 h2) : Go mi d h0 pc lv (.long y :: .long x :: st) h pc2 lv2 st2 h2 :=
  Go.one (fun G p e R s m args below meth c Q cells slots H locs ls hF hX g3 g4 hR hl K => lv_lmul hF.1 hF.2.1 hd (K ls hl)) B
theorem go_ishl {x y : Int32} (hd : decode mi.2.1 pc = .ok (.ishl, 1)) (B : Go mi d h0 (pc + 1) lv (.int (x <<< (y &&& 31)) :: st) h pc2 lv2 st2 h2) : Go mi d h0 pc lv (.int y :: .int x :: st) h pc2 lv2 st2 h2 :=
  Go.one (fun G p e R s m args below meth c Q cells slots H locs ls hF hX g3 g4 hR hl K => lv_ishl hF.1 hF.2.1 hd (K ls hl)) B
theorem go_ishr {x y : Int32} (hd : decode mi.2.1 pc = .ok (.ishr, 1)) (B : Go mi d h0 (pc + 1) lv (.int (x >>> (y &&& 31)) :: st) h pc2 lv2 st2 h2) : Go mi d h0 pc lv (.int y :: .int x :: st) h pc2 lv2 st2 h2 :=
  Go.one (fun G p e R s m args below meth c Q cells slots H locs ls hF hX g3 g4 hR hl K => lv_ishr hF.1 hF.2.1 hd (K ls hl)) B
theorem go_iushr {x y : Int32} (hd : decode mi.2.1 pc = .ok (.iushr, 1)) (B : Go mi d h0 (pc + 1) lv (.int (x.toUInt32 >>> (y.toUInt32 &&& Int32.toUInt32 31)).toInt32 :: st) h pc2 lv2 st2 h2) : Go mi d h0 pc lv (.int y :: .int x :: st) h pc2 lv2 st2 h2 :=
  Go.one (fun G p e R s m args below meth c Q cells slots H locs ls hF hX g3 g4 hR hl K => lv_iushr hF.1 hF.2.1 hd rfl (K ls hl)) B
theorem go_i2l {x : Int32} (hd : decode mi.2.1 pc = .ok (.i2l, 1)) (B : Go mi d h0 (pc + 1) lv (.long x.toInt64 :: st) h pc2 lv2 st2 h2) : Go mi d h0 pc lv (.int x :: st) h pc2 lv2 st2 h2 :=
  Go.one (fun G p e R s m args below meth c Q cells slots H locs ls hF hX g3 g4 hR hl K => lv_i2l hF.1 hF.2.1 hd rfl (K ls hl)) B
theorem go_l2i {x : Int64} (hd : decode mi.2.1 pc = .ok (.l2i, 1)) (B : Go mi d h0 (pc + 1) lv (.int x.toInt32 :: st) h pc2 lv2 st2 h2) : Go mi d h0 pc lv (.long x :: st) h pc2 lv2 st2 h2 :=
  Go.one (fun G p e R s m args below meth c Q cells slots H locs ls hF hX g3 g4 hR hl K => lv_l2i hF.1 hF.2.1 hd rfl (K ls hl)) B
theorem go_i2b {x : Int32} (hd : decode mi.2.1 pc = .ok (.i2b, 1)) (B : Go mi d h0 (pc + 1) lv (.int x.toInt8.toInt32 :: st) h pc2 lv2 st2 h2) : Go mi d h0 pc lv (.int x :: st) h pc2 lv2 st2 h2 :=
  Go.one (fun G p e R s m args below meth c Q cells slots H locs ls hF hX g3 g4 hR hl K => lv_i2b hF.1 hF.2.1 hd rfl (K ls hl)) B
theorem go_i2s {x : Int32} (hd : decode mi.2.1 pc = .ok (.i2s, 1)) (B : Go mi d h0 (pc + 1) lv (.int x.toInt16.toInt32 :: st) h pc2 lv2 st2 h2) : Go mi d h0 pc lv (.int x :: st) h pc2 lv2 st2 h2 :=
  Go.one (fun G p e R s m args below meth c Q cells slots H locs ls hF hX g3 g4 hR hl K => lv_i2s hF.1 hF.2.1 hd rfl (K ls hl)) B
theorem go_lcmp {x y : Int64} (hd : decode mi.2.1 pc = .ok (.lcmp, 1)) (B : Go mi d h0 (pc + 1) lv (.int (lg_cmp x y) :: st) h pc2 lv2 st2 h2) : Go mi d h0 pc lv (.long y :: .long x :: st) h pc2 lv2 st2 h2 :=
  Go.one (fun G p e R s m args below meth c Q cells slots H locs ls hF hX g3 g4 hR hl K => W.lcmp hF.1 hF.2.1 hd (K ls hl)) B
theorem go_dup {v : Value} (hd : decode mi.2.1 pc = .ok (.dup, 1)) (hv : v.category = 1) (B : Go mi d h0 (pc + 1) lv (v :: v :: st) h pc2 lv2 st2 h2) : Go mi d h0 pc lv (v :: st) h pc2 lv2 st2 h2 :=
  Go.one (fun G p e R s m args below meth c Q cells slots H locs ls hF hX g3 g4 hR hl K => lv_dup hF.1 hF.2.1 hd ((mj_cat _ _).trans hv) (K ls hl)) B
theorem go_pop {v : Value} (hd : decode mi.2.1 pc = .ok (.pop, 1)) (hv : v.category = 1) (B : Go mi d h0 (pc + 1) lv st h pc2 lv2 st2 h2) : Go mi d h0 pc lv (v :: st) h pc2 lv2 st2 h2 :=
  Go.one (fun G p e R s m args below meth c Q cells slots H locs ls hF hX g3 g4 hR hl K => lv_pop hF.1 hF.2.1 hd ((mj_cat _ _).trans hv) (K ls hl)) B
theorem go_dup2 {v w : Value} (hd : decode mi.2.1 pc = .ok (.dup2, 1)) (hv : v.category = 1) (hw : w.category = 1) (B : Go mi d h0 (pc + 1) lv (v :: w :: v :: w :: st) h pc2 lv2 st2 h2) : Go mi d h0 pc lv (v :: w :: st) h pc2 lv2 st2 h2 :=
  Go.one (fun G p e R s m args below meth c Q cells slots H locs ls hF hX g3 g4 hR hl K => lv_dup2_11 hF.1 hF.2.1 hd ((mj_cat _ _).trans hv) ((mj_cat _ _).trans hw) (K ls hl)) B
theorem go_if_eq_t {x : Int32} {off : Int} (tgt : Nat) (hd : decode mi.2.1 pc = .ok (.ifCond .eq off, 3)) (ht : (pc : Int) + off = (tgt : Int)) (hc : x = 0) (B : Go mi d h0 tgt lv st h pc2 lv2 st2 h2) : Go mi d h0 pc lv (.int x :: st) h pc2 lv2 st2 h2 :=
  Go.one (fun G p e R s m args below meth c Q cells slots H locs ls hF hX g3 g4 hR hl K => lv_if_eq hF.1 hF.2.1 hd ht (fun _ => K ls hl) (fun z => absurd hc z)) B
theorem go_if_eq_f {x : Int32} {off : Int} {tgt : Nat} (hd : decode mi.2.1 pc = .ok (.ifCond .eq off, 3)) (ht : (pc : Int) + off = (tgt : Int)) (hc : ¬ x = 0) (B : Go mi d h0 (pc + 3) lv st h pc2 lv2 st2 h2) : Go mi d h0 pc lv (.int x :: st) h pc2 lv2 st2 h2 :=
  Go.one (fun G p e R s m args below meth c Q cells slots H locs ls hF hX g3 g4 hR hl K => lv_if_eq hF.1 hF.2.1 hd ht (fun z => absurd z hc) (fun _ => K ls hl)) B
theorem go_icmp_eq_t {x y : Int32} {off : Int} (tgt : Nat) (hd : decode mi.2.1 pc = .ok (.if_icmp .eq off, 3)) (ht : (pc : Int) + off = (tgt : Int)) (hc : x = y) (B : Go mi d h0 tgt lv st h pc2 lv2 st2 h2) : Go mi d h0 pc lv (.int y :: .int x :: st) h pc2 lv2 st2 h2 :=
  Go.one (fun G p e R s m args below meth c Q cells slots H locs ls hF hX g3 g4 hR hl K => lv_icmp_eq hF.1 hF.2.1 hd ht (fun _ => K ls hl) (fun z => absurd hc z)) B
theorem go_icmp_eq_f {x y : Int32} {off : Int} {tgt : Nat} (hd : decode mi.2.1 pc = .ok (.if_icmp .eq off, 3)) (ht : (pc : Int) + off = (tgt : Int)) (hc : ¬ x = y) (B : Go mi d h0 (pc + 3) lv st h pc2 lv2 st2 h2) : Go mi d h0 pc lv (.int y :: .int x :: st) h pc2 lv2 st2 h2 :=
  Go.one (fun G p e R s m args below meth c Q cells slots H locs ls hF hX g3 g4 hR hl K => lv_icmp_eq hF.1 hF.2.1 hd ht (fun z => absurd z hc) (fun _ => K ls hl)) B
theorem go_if_ne_t {x : Int32} {off : Int} (tgt : Nat) (hd : decode mi.2.1 pc = .ok (.ifCond .ne off, 3)) (ht : (pc : Int) + off = (tgt : Int)) (hc : ¬ x = 0) (B : Go mi d h0 tgt lv st h pc2 lv2 st2 h2) : Go mi d h0 pc lv (.int x :: st) h pc2 lv2 st2 h2 :=
  Go.one (fun G p e R s m args below meth c Q cells slots H locs ls hF hX g3 g4 hR hl K => lv_if_ne hF.1 hF.2.1 hd ht (fun _ => K ls hl) (fun z => absurd z hc)) B
theorem go_if_ne_f {x : Int32} {off : Int} {tgt : Nat} (hd : decode mi.2.1 pc = .ok (.ifCond .ne off, 3)) (ht : (pc : Int) + off = (tgt : Int)) (hc : x = 0) (B : Go mi d h0 (pc + 3) lv st h pc2 lv2 st2 h2) : Go mi d h0 pc lv (.int x :: st) h pc2 lv2 st2 h2 :=
  Go.one (fun G p e R s m args below meth c Q cells slots H locs ls hF hX g3 g4 hR hl K => lv_if_ne hF.1 hF.2.1 hd ht (fun z => absurd hc z) (fun _ => K ls hl)) B
theorem go_icmp_ne_t {x y : Int32} {off : Int} (tgt : Nat) (hd : decode mi.2.1 pc = .ok (.if_icmp .ne off, 3)) (ht : (pc : Int) + off = (tgt : Int)) (hc : ¬ x = y) (B : Go mi d h0 tgt lv st h pc2 lv2 st2 h2) : Go mi d h0 pc lv (.int y :: .int x :: st) h pc2 lv2 st2 h2 :=
  Go.one (fun G p e R s m args below meth c Q cells slots H locs ls hF hX g3 g4 hR hl K => lv_icmp_ne hF.1 hF.2.1 hd ht (fun _ => K ls hl) (fun z => absurd z hc)) B
theorem go_icmp_ne_f {x y : Int32} {off : Int} {tgt : Nat} (hd : decode mi.2.1 pc = .ok (.if_icmp .ne off, 3)) (ht : (pc : Int) + off = (tgt : Int)) (hc : x = y) (B : Go mi d h0 (pc + 3) lv st h pc2 lv2 st2 h2) : Go mi d h0 pc lv (.int y :: .int x :: st) h pc2 lv2 st2 h2 :=
  Go.one (fun G p e R s m args below meth c Q cells slots H locs ls hF hX g3 g4 hR hl K => lv_icmp_ne hF.1 hF.2.1 hd ht (fun z => absurd hc z) (fun _ => K ls hl)) B
theorem go_if_lt_t {x : Int32} {off : Int} (tgt : Nat) (hd : decode mi.2.1 pc = .ok (.ifCond .lt off, 3)) (ht : (pc : Int) + off = (tgt : Int)) (hc : x < 0) (B : Go mi d h0 tgt lv st h pc2 lv2 st2 h2) : Go mi d h0 pc lv (.int x :: st) h pc2 lv2 st2 h2 :=
  Go.one (fun G p e R s m args below meth c Q cells slots H locs ls hF hX g3 g4 hR hl K => lv_if_lt hF.1 hF.2.1 hd ht (fun _ => K ls hl) (fun z => absurd hc z)) B
theorem go_if_lt_f {x : Int32} {off : Int} {tgt : Nat} (hd : decode mi.2.1 pc = .ok (.ifCond .lt off, 3)) (ht : (pc : Int) + off = (tgt : Int)) (hc : ¬ x < 0) (B : Go mi d h0 (pc + 3) lv st h pc2 lv2 st2 h2) : Go mi d h0 pc lv (.int x :: st) h pc2 lv2 st2 h2 :=
  Go.one (fun G p e R s m args below meth c Q cells slots H locs ls hF hX g3 g4 hR hl K => lv_if_lt hF.1 hF.2.1 hd ht (fun z => absurd z hc) (fun _ => K ls hl)) B
theorem go_icmp_lt_t {x y : Int32} {off : Int} (tgt : Nat) (hd : decode mi.2.1 pc = .ok (.if_icmp .lt off, 3)) (ht : (pc : Int) + off = (tgt : Int)) (hc : x < y) (B : Go mi d h0 tgt lv st h pc2 lv2 st2 h2) : Go mi d h0 pc lv (.int y :: .int x :: st) h pc2 lv2 st2 h2 :=
  Go.one (fun G p e R s m args below meth c Q cells slots H locs ls hF hX g3 g4 hR hl K => lv_icmp_lt hF.1 hF.2.1 hd ht (fun _ => K ls hl) (fun z => absurd hc z)) B
theorem go_icmp_lt_f {x y : Int32} {off : Int} {tgt : Nat} (hd : decode mi.2.1 pc = .ok (.if_icmp .lt off, 3)) (ht : (pc : Int) + off = (tgt : Int)) (hc : ¬ x < y) (B : Go mi d h0 (pc + 3) lv st h pc2 lv2 st2 h2) : Go mi d h0 pc lv (.int y :: .int x :: st) h pc2 lv2 st2 h2 :=
  Go.one (fun G p e R s m args below meth c Q cells slots H locs ls hF hX g3 g4 hR hl K => lv_icmp_lt hF.1 hF.2.1 hd ht (fun z => absurd z hc) (fun _ => K ls hl)) B
theorem go_if_ge_t {x : Int32} {off : Int} (tgt : Nat) (hd : decode mi.2.1 pc = .ok (.ifCond .ge off, 3)) (ht : (pc : Int) + off = (tgt : Int)) (hc : 0 ≤ x) (B : Go mi d h0 tgt lv st h pc2 lv2 st2 h2) : Go mi d h0 pc lv (.int x :: st) h pc2 lv2 st2 h2 :=
  Go.one (fun G p e R s m args below meth c Q cells slots H locs ls hF hX g3 g4 hR hl K => lv_if_ge hF.1 hF.2.1 hd ht (fun _ => K ls hl) (fun z => absurd hc z)) B
theorem go_if_ge_f {x : Int32} {off : Int} {tgt : Nat} (hd : decode mi.2.1 pc = .ok (.ifCond .ge off, 3)) (ht : (pc : Int) + off = (tgt : Int)) (hc : ¬ 0 ≤ x) (B : Go mi d h0 (pc + 3) lv st h pc2 lv2 st2 h2) : Go mi d h0 pc lv (.int x :: st) h pc2 lv2 st2 h2 :=
  Go.one (fun G p e R s m args below meth c Q cells slots H locs ls hF hX g3 g4 hR hl K => lv_if_ge hF.1 hF.2.1 hd ht (fun z => absurd z hc) (fun _ => K ls hl)) B
theorem go_icmp_ge_t {x y : Int32} {off : Int} (tgt : Nat) (hd : decode mi.2.1 pc = .ok (.if_icmp .ge off, 3)) (ht : (pc : Int) + off = (tgt : Int)) (hc : y ≤ x) (B : Go mi d h0 tgt lv st h pc2 lv2 st2 h2) : Go mi d h0 pc lv (.int y :: .int x :: st) h pc2 lv2 st2 h2 :=
  Go.one (fun G p e R s m args below meth c Q cells slots H locs ls hF hX g3 g4 hR hl K => lv_icmp_ge hF.1 hF.2.1 hd ht (fun _ => K ls hl) (fun z => absurd hc z)) B
theorem go_icmp_ge_f {x y : Int32} {off : Int} {tgt : Nat} (hd : decode mi.2.1 pc = .ok (.if_icmp .ge off, 3)) (ht : (pc : Int) + off = (tgt : Int)) (hc : ¬ y ≤ x) (B : Go mi d h0 (pc + 3) lv st h pc2 lv2 st2 h2) : Go mi d h0 pc lv (.int y :: .int x :: st) h pc2 lv2 st2 h2 :=
  Go.one (fun G p e R s m args below meth c Q cells slots H locs ls hF hX g3 g4 hR hl K => lv_icmp_ge hF.1 hF.2.1 hd ht (fun z => absurd z hc) (fun _ => K ls hl)) B
theorem go_if_gt_t {x : Int32} {off : Int} (tgt : Nat) (hd : decode mi.2.1 pc = .ok (.ifCond .gt off, 3)) (ht : (pc : Int) + off = (tgt : Int)) (hc : 0 < x) (B : Go mi d h0 tgt lv st h pc2 lv2 st2 h2) : Go mi d h0 pc lv (.int x :: st) h pc2 lv2 st2 h2 :=
  Go.one (fun G p e R s m args below meth c Q cells slots H locs ls hF hX g3 g4 hR hl K => lv_if_gt hF.1 hF.2.1 hd ht (fun _ => K ls hl) (fun z => absurd hc z)) B
theorem go_if_gt_f {x : Int32} {off : Int} {tgt : Nat} (hd : decode mi.2.1 pc = .ok (.ifCond .gt off, 3)) (ht : (pc : Int) + off = (tgt : Int)) (hc : ¬ 0 < x) (B : Go mi d h0 (pc + 3) lv st h pc2 lv2 st2 h2) : Go mi d h0 pc lv (.int x :: st) h pc2 lv2 st2 h2 :=
  Go.one (fun G p e R s m args below meth c Q cells slots H locs ls hF hX g3 g4 hR hl K => lv_if_gt hF.1 hF.2.1 hd ht (fun z => absurd z hc) (fun _ => K ls hl)) B
theorem go_icmp_gt_t {x y : Int32} {off : Int} (tgt : Nat) (hd : decode mi.2.1 pc = .ok (.if_icmp .gt off, 3)) (ht : (pc : Int) + off = (tgt : Int)) (hc : y < x) (B : Go mi d h0 tgt lv st h pc2 lv2 st2 h2) : Go mi d h0 pc lv (.int y :: .int x :: st) h pc2 lv2 st2 h2 :=
  Go.one (fun G p e R s m args below meth c Q cells slots H locs ls hF hX g3 g4 hR hl K => lv_icmp_gt hF.1 hF.2.1 hd ht (fun _ => K ls hl) (fun z => absurd hc z)) B
theorem go_icmp_gt_f {x y : Int32} {off : Int} {tgt : Nat} (hd : decode mi.2.1 pc = .ok (.if_icmp .gt off, 3)) (ht : (pc : Int) + off = (tgt : Int)) (hc : ¬ y < x) (B : Go mi d h0 (pc + 3) lv st h pc2 lv2 st2 h2) : Go mi d h0 pc lv (.int y :: .int x :: st) h pc2 lv2 st2 h2 :=
  Go.one (fun G p e R s m args below meth c Q cells slots H locs ls hF hX g3 g4 hR hl K => lv_icmp_gt hF.1 hF.2.1 hd ht (fun z => absurd z hc) (fun _ => K ls hl)) B
theorem go_if_le_t {x : Int32} {off : Int} (tgt : Nat) (hd : decode mi.2.1 pc = .ok (.ifCond .le off, 3)) (ht : (pc : Int) + off = (tgt : Int)) (hc : x ≤ 0) (B : Go mi d h0 tgt lv st h pc2 lv2 st2 h2) : Go mi d h0 pc lv (.int x :: st) h pc2 lv2 st2 h2 :=
  Go.one (fun G p e R s m args below meth c Q cells slots H locs ls hF hX g3 g4 hR hl K => lv_if_le hF.1 hF.2.1 hd ht (fun _ => K ls hl) (fun z => absurd hc z)) B
theorem go_if_le_f {x : Int32} {off : Int} {tgt : Nat} (hd : decode mi.2.1 pc = .ok (.ifCond .le off, 3)) (ht : (pc : Int) + off = (tgt : Int)) (hc : ¬ x ≤ 0) (B : Go mi d h0 (pc + 3) lv st h pc2 lv2 st2 h2) : Go mi d h0 pc lv (.int x :: st) h pc2 lv2 st2 h2 :=
  Go.one (fun G p e R s m args below meth c Q cells slots H locs ls hF hX g3 g4 hR hl K => lv_if_le hF.1 hF.2.1 hd ht (fun z => absurd z hc) (fun _ => K ls hl)) B
theorem go_icmp_le_t {x y : Int32} {off : Int} (tgt : Nat) (hd : decode mi.2.1 pc = .ok (.if_icmp .le off, 3)) (ht : (pc : Int) + off = (tgt : Int)) (hc : x ≤ y) (B : Go mi d h0 tgt lv st h pc2 lv2 st2 h2) : Go mi d h0 pc lv (.int y :: .int x :: st) h pc2 lv2 st2 h2 :=
  Go.one (fun G p e R s m args below meth c Q cells slots H locs ls hF hX g3 g4 hR hl K => lv_icmp_le hF.1 hF.2.1 hd ht (fun _ => K ls hl) (fun z => absurd hc z)) B
theorem go_icmp_le_f {x y : Int32} {off : Int} {tgt : Nat} (hd : decode mi.2.1 pc = .ok (.if_icmp .le off, 3)) (ht : (pc : Int) + off = (tgt : Int)) (hc : ¬ x ≤ y) (B : Go mi d h0 (pc + 3) lv st h pc2 lv2 st2 h2) : Go mi d h0 pc lv (.int y :: .int x :: st) h pc2 lv2 st2 h2 :=
  Go.one (fun G p e R s m args below meth c Q cells slots H locs ls hF hX g3 g4 hR hl K => lv_icmp_le hF.1 hF.2.1 hd ht (fun z => absurd z hc) (fun _ => K ls hl)) B
theorem go_goto {off : Int} (tgt : Nat) (hd : decode mi.2.1 pc = .ok (.goto off, 3)) (ht : (pc : Int) + off = (tgt : Int)) (B : Go mi d h0 tgt lv st h pc2 lv2 st2 h2) : Go mi d h0 pc lv st h pc2 lv2 st2 h2 :=
  Go.one (fun G p e R s m args below meth c Q cells slots H locs ls hF hX g3 g4 hR hl K => lv_goto hF.1 hF.2.1 hd ht (K ls hl)) B
theorem go_ifnull_t {off : Int} (tgt : Nat) {o : Option Nat} (hd : decode mi.2.1 pc = .ok (.ifnull off, 3)) (ht : (pc : Int) + off = (tgt : Int)) (hc : o = none) (B : Go mi d h0 tgt lv st h pc2 lv2 st2 h2) : Go mi d h0 pc lv (va_rf o :: st) h pc2 lv2 st2 h2 := by
  subst hc
  exact Go.one (fun G p e R s m args below meth c Q cells slots H locs ls hF hX g3 g4 hR hl K => lv_ifnullN hF.1 hF.2.1 hd ht (K ls hl)) B
theorem go_ifnull_f {off : Int} {tgt : Nat} {o : Option Nat} (hd : decode mi.2.1 pc = .ok (.ifnull off, 3)) (ht : (pc : Int) + off = (tgt : Int)) (hc : ¬ o = none) (B : Go mi d h0 (pc + 3) lv st h pc2 lv2 st2 h2) : Go mi d h0 pc lv (va_rf o :: st) h pc2 lv2 st2 h2 := by
  cases o with
  | none => exact absurd rfl hc
  | some a => exact Go.one (fun G p e R s m args below meth c Q cells slots H locs ls hF hX g3 g4 hR hl K => lv_ifnull hF.1 hF.2.1 hd (K ls hl)) B
theorem go_ifnonnull_t {off : Int} (tgt : Nat) {o : Option Nat} (hd : decode mi.2.1 pc = .ok (.ifnonnull off, 3)) (ht : (pc : Int) + off = (tgt : Int)) (hc : ¬ o = none) (B : Go mi d h0 tgt lv st h pc2 lv2 st2 h2) : Go mi d h0 pc lv (va_rf o :: st) h pc2 lv2 st2 h2 := by
  cases o with
  | none => exact absurd rfl hc
  | some a => exact Go.one (fun G p e R s m args below meth c Q cells slots H locs ls hF hX g3 g4 hR hl K => lv_ifnonnull hF.1 hF.2.1 hd ht (K ls hl)) B
theorem go_ifnonnull_f {off : Int} {tgt : Nat} {o : Option Nat} (hd : decode mi.2.1 pc = .ok (.ifnonnull off, 3)) (ht : (pc : Int) + off = (tgt : Int)) (hc : o = none) (B : Go mi d h0 (pc + 3) lv st h pc2 lv2 st2 h2) : Go mi d h0 pc lv (va_rf o :: st) h pc2 lv2 st2 h2 := by
  subst hc
  exact Go.one (fun G p e R s m args below meth c Q cells slots H locs ls hF hX g3 g4 hR hl K => lv_ifnonnullN hF.1 hF.2.1 hd (K ls hl)) B
/-- switches: the offset that the table says for x -/
def mj_sw (dflt lo hi : Int) (offs : Array Int) (x : Int32) : Int := if x.toInt < lo ∨ hi < x.toInt then dflt else offs.getD (x.toInt - lo).toNat 0
theorem go_tsw {dflt lo hi : Int} {offs : Array Int} {len : Nat} {x : Int32} (tgt : Nat) (hd : decode mi.2.1 pc = .ok (.tableswitch dflt lo hi offs, len)) (hn : (hi - lo).toNat < offs.size) (ht : (pc : Int) + mj_sw dflt lo hi offs x = (tgt : Int)) (B : Go mi d h0 tgt lv st h pc2 lv2 st2 h2) : Go mi d h0 pc lv (.int x :: st) h pc2 lv2 st2 h2 := by
  refine Go.one (fun G p e R s m args below meth c Q cells slots H locs ls hF hX g3 g4 hR hl K => ?_) B
  unfold mj_sw at ht
  by_cases hx : x.toInt < lo ∨ hi < x.toInt
  · rw [if_pos hx] at ht
    exact lv_tableOut hF.1 hF.2.1 hd hx ht (K ls hl)
  · rw [if_neg hx] at ht
    refine lv_tableIn hF.1 hF.2.1 hd (fun z => hx (Or.inl z)) (fun z => hx (Or.inr z)) (off := offs.getD (x.toInt - lo).toNat 0) ?_ ht (K ls hl)
    have hlt : (x.toInt - lo).toNat < offs.size := by omega
    rw [Array.getD_eq_getD_getElem?, Array.getElem?_eq_getElem hlt]
    rfl
theorem go_lsw {dflt : Int} {ps : Array (Int × Int)} {len : Nat} {x : Int32} (tgt : Nat) (hd : decode mi.2.1 pc = .ok (.lookupswitch dflt ps, len)) (hp : (ps.toList.zip (ps.toList.drop 1)).all (fun (a, next) => a.1 < next.1) = true) (ht : (pc : Int) + Op.lookupswitch.offset ps.toList dflt x.toInt = (tgt : Int)) (B : Go mi d h0 tgt lv st h pc2 lv2 st2 h2) : Go mi d h0 pc lv (.int x :: st) h pc2 lv2 st2 h2 :=
  Go.one (fun G p e R s m args below meth c Q cells slots H locs ls hF hX g3 g4 hR hl K => lv_lookup hF.1 hF.2.1 hd hp rfl ht (K ls hl)) B
end GO1
end
section
/-! ===== the picture's own operations ===== -/
def mj_up (h : MH) (a : Nat) (c : MC) : MH := (fun j => if j = a then c else h.1 j, h.2)
def mj_push (h : MH) (c : MC) (n : Nat) : MH := (fun j => if j = h.2.1 then c else h.1 j, h.2.1 + 1, h.2.2 + n)
def mj_obj (h : MH) (o : Option Nat) : Option (Nat × List Value) := match o with
  | none => none
  | some a => match h.1 a with
    | .inr (.inr q) => some q
    | _ => none
def mj_arr (h : MH) (o : Option Nat) : Option (Nat × Nat × (Nat → Int32)) := match o with
  | none => none
  | some a => match h.1 a with
    | .inl q => some q
    | _ => none
def mj_arq (h : MH) (o : Option Nat) : Option (Nat × Nat × (Nat → Option Nat)) := match o with
  | none => none
  | some a => match h.1 a with
    | .inr (.inl q) => some q
    | _ => none
def mj_int (v : Value) : Option Int32 := match v with
  | .int x => some x
  | _ => none
def mj_ref (v : Value) : Option (Option Nat) := match v with
  | .ref a => some (some a)
  | .null => some none
  | _ => none
theorem mj_ref_eq {v : Value} {o : Option Nat} (h : mj_ref v = some o) : v = va_rf o := by
  cases v <;> simp [mj_ref] at h <;> subst h <;> rfl
theorem mj_int_eq {v : Value} {x : Int32} (h : mj_int v = some x) : v = .int x := by
  cases v <;> simp [mj_int] at h
  rw [h]
/-- a field of an object of one of the classes cs -/
def mj_get (h : MH) (o : Option Nat) (cs : List Nat) (k : Nat) : Option Value := (mj_obj h o).bind fun q => if cs.contains q.1 then q.2[k]? else none
def gfi (h : MH) (o : Option Nat) (cs : List Nat) (k : Nat) : Option Int32 := (mj_get h o cs k).bind mj_int
def gfr (h : MH) (o : Option Nat) (cs : List Nat) (k : Nat) : Option (Option Nat) := (mj_get h o cs k).bind mj_ref
def pfv (h : MH) (o : Option Nat) (cs : List Nat) (k : Nat) (v : Value) : Option MH := (mj_obj h o).bind fun q => if cs.contains q.1 ∧ k < q.2.length then some (mj_up h (o.getD 0) (.inr (.inr (q.1, q.2.set k v)))) else none
/-- arrays of whole numbers, of booleans (t = 0, 1); of references (t = 2, 3) -/
def ald (h : MH) (o : Option Nat) (t : Nat) (i : Int32) : Option Int32 := (mj_arr h o).bind fun q => if q.1 = t ∧ 0 ≤ i ∧ i.toNatClampNeg < q.2.1 then some (q.2.2 i.toNatClampNeg) else none
def ast (h : MH) (o : Option Nat) (t : Nat) (i x : Int32) : Option MH := (mj_arr h o).bind fun q => if q.1 = t ∧ 3 ≤ o.getD 0 ∧ 0 ≤ i ∧ i.toNatClampNeg < q.2.1 then some (mj_up h (o.getD 0) (.inl (t, q.2.1, upd q.2.2 i.toNatClampNeg x))) else none
def alen (h : MH) (o : Option Nat) : Option Int32 := match o with
  | none => none
  | some a => match h.1 a with
    | .inl q => if q.1 < 2 then some (Int32.ofNat q.2.1) else none
    | .inr (.inl q) => if q.1 = 2 ∨ q.1 = 3 then some (Int32.ofNat q.2.1) else none
    | _ => none
def qld (h : MH) (o : Option Nat) (t : Nat) (i : Int32) : Option (Option Nat) := (mj_arq h o).bind fun q => if q.1 = t ∧ 0 ≤ i ∧ i.toNatClampNeg < q.2.1 then some (q.2.2 i.toNatClampNeg) else none
def mj_clo (h : MH) (o : Option Nat) (cs : List Nat) : Bool := match mj_obj h o with
  | some q => cs.contains q.1 && decide (q.2 ≠ [])
  | none => o.isNone
def qst (h : MH) (o : Option Nat) (t : Nat) (cs : List Nat) (i : Int32) (v : Option Nat) : Option MH := (mj_arq h o).bind fun q => if q.1 = t ∧ 0 ≤ i ∧ i.toNatClampNeg < q.2.1 ∧ mj_clo h v cs = true then some (mj_up h (o.getD 0) (.inr (.inl (t, q.2.1, va_up q.2.2 i.toNatClampNeg v)))) else none
def newo (h : MH) (ci : Nat) (fs : List Value) : MH := mj_push h (.inr (.inr (ci, fs))) fs.length
def newa (h : MH) (t n : Nat) : MH := mj_push h (.inl (t, n, fun _ => 0)) n
def newq (h : MH) (t n : Nat) : MH := mj_push h (.inr (.inl (t, n, fun _ => none))) n
def cpy (h : MH) (o : Option Nat) (sp dp n : Int32) : Option MH := (mj_arr h o).bind fun q => if q.1 = 0 ∧ 3 ≤ o.getD 0 ∧ 0 ≤ sp ∧ 0 ≤ dp ∧ 0 ≤ n ∧ sp.toNatClampNeg + n.toNatClampNeg ≤ q.2.1 ∧ dp.toNatClampNeg + n.toNatClampNeg ≤ q.2.1 then some (mj_up h (o.getD 0) (.inl (0, q.2.1, va_cpy q.2.2 q.2.2 sp.toNatClampNeg dp.toNatClampNeg n.toNatClampNeg))) else none
/-- a class's field k: who declares it, its name, its type, whether final -/
def mj_fd (c k : Nat) : Option (String × String × String × Bool) := match mj_cl[c]? with
  | some q => if k < q.2.2 then some (q.2.1 k) else none
  | none => none
theorem mj_fd_spec {c k : Nat} {f : String × String × String × Bool} (h : mj_fd c k = some f) : ∃ q : vw_C, mj_cl[c]? = some q ∧ k < q.2.2 ∧ q.2.1 k = f := by
  unfold mj_fd at h
  cases hq : mj_cl[c]? with
  | none => rw [hq] at h; cases h
  | some q =>
    rw [hq] at h
    dsimp only at h
    by_cases hk : k < q.2.2
    · rw [if_pos hk] at h
      exact ⟨q, rfl, hk, Option.some.inj h⟩
    · rw [if_neg hk] at h; cases h
theorem mj_in {w : Cond} (h : w ∈ lw_tbl) (hg : goodWord w = true) : w ∈ mj_tbl := List.mem_filter.mpr ⟨h, hg⟩
theorem mj_lays_good (C : String) (T : u_T) (k : Nat) : goodWord (u_lay C T k) = true := by
  unfold u_lay
  split <;> rfl
theorem mj_cl_in {c : Nat} {q : vw_C} (h : mj_cl[c]? = some q) : ∀ w ∈ u_ws q.1 q.2.1 q.2.2, w ∈ mj_tbl := fun w hw => by
  refine mj_in ((mj_oks q (List.mem_of_getElem? h)).1 w hw) ?_
  obtain ⟨k, -, rfl⟩ := List.mem_map.mp hw
  exact mj_lays_good _ _ _
/-! ===== what the picture says of the heap ===== -/
theorem mj_ad_ne {G : CX} {s : State} (hX : mj_Fx G s) {i j : Nat} (hi : 3 ≤ i) (hij : j ≠ i) : G.ad j ≠ G.ad i := by
  intro e
  have h1 := hX.2.1 i hi
  by_cases hj : 3 ≤ j
  · have h2 := hX.2.1 j hj
    omega
  · have h2 := hX.2.2.1 j (by omega)
    omega
theorem mj_obj_at {G : CX} {s : State} {h : MH} {H : Heap} {locs : List Loc} (hR : mj_Rep G s h H locs) {a : Nat} {c : Nat} {fs : List Value} (hq : h.1 a = .inr (.inr (c, fs))) (hne : fs ≠ []) : 3 ≤ a ∧ a < h.2.1 ∧ va_at G.D mj_cl (G.ad a, .inr (c, fs.map (mj_v G.ad))) H := by
  obtain ⟨r1, r2, r3, r4, r5, r6, r7, r8⟩ := hR
  have h3 : 3 ≤ a := by
    rcases Nat.lt_or_ge a 3 with hlt | hge
    · obtain ⟨n, f, e, -⟩ := r5 a hlt
      rw [hq] at e
      cases e
    · exact hge
  have hlt : a < h.2.1 := by
    rcases Nat.lt_or_ge a h.2.1 with hlt | hge
    · exact hlt
    · have e := r4 a hge
      rw [hq] at e
      unfold mj_nil at e
      cases e
      exact absurd rfl hne
  refine ⟨h3, hlt, ?_⟩
  have h4 := r3 a h3 hlt
  rw [hq] at h4
  exact h4
theorem mj_arq_at {G : CX} {s : State} {h : MH} {H : Heap} {locs : List Loc} (hR : mj_Rep G s h H locs) {a : Nat} {t n : Nat} {f : Nat → Option Nat} (hq : h.1 a = .inr (.inl (t, n, f))) : 3 ≤ a ∧ a < h.2.1 ∧ H[G.ad a]? = some (vp_cell (G.cA t) (n, .inr (.inr (.inr (.inr (fun j => (f j).map G.ad)))))) := by
  obtain ⟨r1, r2, r3, r4, r5, r6, r7, r8⟩ := hR
  have h3 : 3 ≤ a := by
    rcases Nat.lt_or_ge a 3 with hlt | hge
    · obtain ⟨n, f, e, -⟩ := r5 a hlt
      rw [hq] at e
      cases e
    · exact hge
  have hlt : a < h.2.1 := by
    rcases Nat.lt_or_ge a h.2.1 with hlt | hge
    · exact hlt
    · have e := r4 a hge
      rw [hq] at e
      unfold mj_nil at e
      cases e
  refine ⟨h3, hlt, ?_⟩
  have h4 := r3 a h3 hlt
  rw [hq] at h4
  exact h4
theorem mj_arr_at {G : CX} {s : State} {h : MH} {H : Heap} {locs : List Loc} (hR : mj_Rep G s h H locs) {a : Nat} {t n : Nat} {f : Nat → Int32} (hq : h.1 a = .inl (t, n, f)) (h3 : 3 ≤ a) : a < h.2.1 ∧ H[G.ad a]? = some (vp_cell (G.cA t) (n, .inl f)) := by
  obtain ⟨r1, r2, r3, r4, r5, r6, r7, r8⟩ := hR
  have hlt : a < h.2.1 := by
    rcases Nat.lt_or_ge a h.2.1 with hlt | hge
    · exact hlt
    · have e := r4 a hge
      rw [hq] at e
      unfold mj_nil at e
      cases e
  refine ⟨hlt, ?_⟩
  have h4 := r3 a h3 hlt
  rw [hq] at h4
  exact h4
theorem mj_Rep.put {G : CX} {s : State} {h : MH} {H H1 : Heap} {locs : List Loc} (hR : mj_Rep G s h H locs) (hX : mj_Fx G s) {a : Nat} {c : MC} {locs1 : List Loc} (h3 : 3 ≤ a) (hlt : a < h.2.1) (hc : va_at G.D mj_cl (G.ad a, mj_e G c) H1) (hz : H1.size = H.size) (ho : ∀ q, q ≠ G.ad a → H1[q]? = H[q]?) (hL : ∀ q ∈ locs1, q.base = G.ad a) : mj_Rep G s (mj_up h a c) H1 (locs ++ locs1) := by
  obtain ⟨r1, r2, r3, r4, r5, r6, r7, r8, r9⟩ := hR
  have hb : G.base ≤ G.ad a := by have := hX.2.1 a h3; omega
  refine ⟨by rw [hz]; exact r1, r2, fun i h1 h2 => ?_, fun i hi => ?_, fun i hi => ?_, fun i hi => ?_, fun q hq => ?_, r8, fun q hq => ?_⟩
  · by_cases hi : i = a
    · subst hi
      simpa [mj_up] using hc
    · have := (r3 i h1 h2).kept (ho _ (mj_ad_ne hX h3 hi))
      simpa [mj_up, hi] using this
  · have hne : i ≠ a := by have : h.2.1 ≤ i := hi; omega
    show (if i = a then c else h.1 i) = mj_nil
    rw [if_neg hne]
    exact r4 i hi
  · obtain ⟨n, f, e1, e2⟩ := r5 i hi
    have hne : i ≠ a := by omega
    refine ⟨n, f, ?_, e2.kept (ho _ (mj_ad_ne hX h3 hne))⟩
    show (if i = a then c else h.1 i) = _
    rw [if_neg hne]
    exact e1
  · exact (r6 i hi).kept (fun q _ h2 => ho q (fun e => h2 (by rw [e]; exact hb)))
  · rw [ho q (by omega)]
    exact r7 q hq
  · rcases List.mem_append.mp hq with hq | hq
    · exact r9 q hq
    · rw [hL q hq]; exact hb
theorem mj_Rep.push {G : CX} {s : State} {h : MH} {H H1 : Heap} {locs : List Loc} (hR : mj_Rep G s h H locs) (hX : mj_Fx G s) {c : MC} {n : Nat} (hc : va_at G.D mj_cl (H.size, mj_e G c) H1) (hz : H1.size = H.size + 1) (ho : ∀ q, q < H.size → H1[q]? = H[q]?) : mj_Rep G s (mj_push h c n) H1 locs ∧ G.ad h.2.1 = H.size := by
  obtain ⟨r1, r2, r3, r4, r5, r6, r7, r8, r9⟩ := hR
  have had : G.ad h.2.1 = H.size := by have := hX.2.1 h.2.1 r2; omega
  refine ⟨⟨?_, Nat.le_succ_of_le r2, fun i h1 h2 => ?_, fun i hi => ?_, fun i hi => ?_, fun i hi => ?_, fun q hq => ?_, r8, r9⟩, had⟩
  · show H1.size + 3 = G.base + (h.2.1 + 1)
    omega
  · by_cases hi : i = h.2.1
    · subst hi
      have := hc
      rw [← had] at this
      simpa [mj_push] using this
    · have h2' : i < h.2.1 := by have h2'' : i < h.2.1 + 1 := h2; omega
      have := (r3 i h1 h2').kept (ho _ ((r3 i h1 h2').lt))
      simpa [mj_push, hi] using this
  · have hi' : h.2.1 + 1 ≤ i := hi
    show (if i = h.2.1 then c else h.1 i) = mj_nil
    rw [if_neg (by omega)]
    exact r4 i (by omega)
  · obtain ⟨n, f, e1, e2⟩ := r5 i hi
    refine ⟨n, f, ?_, e2.kept (ho _ ?_)⟩
    · show (if i = h.2.1 then c else h.1 i) = _
      rw [if_neg (by omega)]
      exact e1
    · obtain ⟨scr, g1, -⟩ := e2
      exact (Array.getElem?_eq_some_iff.mp g1).1
  · exact (r6 i hi).kept (fun q h2 _ => ho q h2)
  · rw [ho q (by omega)]
    exact r7 q hq
end
section
/-! ===== rules of the instructions that read or write the heap ===== -/
section GO2
variable {mi : MI} {d : Nat} {h0 : MH} {pc pc1 pc2 : Nat} {lv lv2 : List (Nat × Value)} {st st1 st2 : List Value} {h h1 h2 : MH}
theorem Go.wr (e1 : h1.2 = h.2)
    (A : ∀ (G : CX) (p : Program) (e : Env) (R : Room) (s : State) (m : MethodId) (args : Array Value) (below : List Frame) (meth : Method) (c : Code) (Q : State → Prop) (cells slots : Nat) (H : Heap) (locs : List Loc) (ls : Array Slot),
      mj_Fr mi p s m args meth c → mj_Fx G s → 64 * d ≤ R.locals → d ≤ R.frames → mj_Rep G s h H locs → lv_has ls mi.2.2.1 (mj_l G.ad lv) →
      (∀ (H1 : Heap) (locs1 : List Loc), mj_Rep G s h1 H1 locs1 → W p G.l e R s m args below meth c H1 locs1 cells slots Q (F0 m pc1 ls (st1.map (mj_v G.ad)))) →
      W p G.l e R s m args below meth c H locs cells slots Q (F0 m pc ls (st.map (mj_v G.ad))))
    (B : Go mi d h0 pc1 lv st1 h1 pc2 lv2 st2 h2) : Go mi d h0 pc lv st h pc2 lv2 st2 h2 := by
  obtain ⟨b1, b2, b3⟩ := B
  obtain ⟨x1, x2, x3⟩ := h
  obtain ⟨y1, y2, y3⟩ := h1
  dsimp only at e1
  obtain ⟨rfl, rfl⟩ := Prod.mk.inj e1
  refine ⟨b1, b2, fun G p e R s m args below meth c Q hF hX g1 g2 g3 g4 g5 g6 hQ H locs ls hR hl => ?_⟩
  exact A G p e R s m args below meth c Q _ _ H locs ls hF hX g4 g3 hR hl (fun H1 locs1 hR1 => b3 G p e R s m args below meth c Q hF hX g1 g2 g3 g4 g5 g6 hQ H1 locs1 ls hR1 hl)
theorem Go.al {n : Nat} (e1 : h1.2.1 = h.2.1 + 1) (e2 : h1.2.2 = h.2.2 + n)
    (A : ∀ (G : CX) (p : Program) (e : Env) (R : Room) (s : State) (m : MethodId) (args : Array Value) (below : List Frame) (meth : Method) (c : Code) (Q : State → Prop) (cells slots : Nat) (H : Heap) (locs : List Loc) (ls : Array Slot),
      mj_Fr mi p s m args meth c → mj_Fx G s → cells + 1 ≤ R.cells → slots + n ≤ R.slots → mj_Rep G s h H locs → lv_has ls mi.2.2.1 (mj_l G.ad lv) →
      (∀ (H1 : Heap), mj_Rep G s h1 H1 locs → W p G.l e R s m args below meth c H1 locs (cells + 1) (slots + n) Q (F0 m pc1 ls (st1.map (mj_v G.ad)))) →
      W p G.l e R s m args below meth c H locs cells slots Q (F0 m pc ls (st.map (mj_v G.ad))))
    (B : Go mi d h0 pc1 lv st1 h1 pc2 lv2 st2 h2) : Go mi d h0 pc lv st h pc2 lv2 st2 h2 := by
  obtain ⟨b1, b2, b3⟩ := B
  refine ⟨by omega, by omega, fun G p e R s m args below meth c Q hF hX g1 g2 g3 g4 g5 g6 hQ H locs ls hR hl => ?_⟩
  refine A G p e R s m args below meth c Q _ _ H locs ls hF hX (by omega) (by omega) hR hl (fun H1 hR1 => ?_)
  have := b3 G p e R s m args below meth c Q hF hX (by omega) (by omega) g3 g4 g5 g6 hQ H1 locs ls hR1 hl
  rw [e1, e2, Nat.sub_add_comm g1, Nat.sub_add_comm g2] at this
  exact this
theorem mj_P1 {D : va_G} {cl : List vw_C} {q : Nat × va_E} {H : Heap} (h : va_at D cl q H) : va_P D cl [q] H := by
  intro k r hk
  have hz : k < 1 := (List.getElem?_eq_some_iff.mp hk).1
  rw [show k = 0 by omega] at hk
  cases hk
  exact h
theorem go_get {idx : Nat} {o : Option Nat} {cs : List Nat} {k : Nat} {v : Value} {ref nm desc : String} {fin : Bool} (hd : decode mi.2.1 pc = .ok (.getfield idx, 3)) (hcs : ∀ c ∈ cs, mj_fd c k = some (ref, nm, desc, fin)) (hw : Cond.fieldLink mi.1.cls idx ref nm desc ∈ mj_tbl) (hg : mj_get h o cs k = some v) (B : Go mi d h0 (pc + 3) lv (v :: st) h pc2 lv2 st2 h2) : Go mi d h0 pc lv (va_rf o :: st) h pc2 lv2 st2 h2 := by
  unfold mj_get at hg
  obtain ⟨⟨c, fs⟩, hq, hk⟩ := Option.bind_eq_some_iff.mp hg
  dsimp only at hk
  have hcc : cs.contains c = true := by
    cases hb : cs.contains c with
    | true => rfl
    | false => simp only [hb] at hk; simp at hk
  rw [if_pos hcc] at hk
  cases o with
  | none => simp [mj_obj] at hq
  | some a =>
    have ha : h.1 a = .inr (.inr (c, fs)) := by
      simp only [mj_obj] at hq
      split at hq
      · next q e => cases hq; exact e
      · cases hq
    have hne : fs ≠ [] := fun e => by rw [e] at hk; simp at hk
    obtain ⟨⟨C, T, N⟩, hcl, hkN, hT⟩ := mj_fd_spec (hcs c (List.contains_iff_mem.mp hcc))
    dsimp only at hkN hT
    refine Go.one (fun G p e R s m args below meth c Q cells slots H locs ls hF hX g3 g4 hR hl K => ?_) B
    obtain ⟨h3, hlt, hat⟩ := mj_obj_at hR ha hne
    refine va_get (ref := ref) hF.1 hF.2.1 hF.2.2.2.2.1 (mj_cl_in hcl) hF.2.2.2.1 hX.1 (mj_P1 hat) 0 rfl hcl k hkN (by dsimp only; rw [hT]; exact hF.2.2.2.2.1 _ hw) (by dsimp only; rw [hT]; exact fun _ z => z) (v := mj_v G.ad v) (by rw [List.getElem?_map, hk]; rfl) hd (K ls hl)
theorem go_gfi {idx : Nat} {o : Option Nat} {cs : List Nat} {k : Nat} {x : Int32} {ref nm desc : String} {fin : Bool} (hd : decode mi.2.1 pc = .ok (.getfield idx, 3)) (hcs : ∀ c ∈ cs, mj_fd c k = some (ref, nm, desc, fin)) (hw : Cond.fieldLink mi.1.cls idx ref nm desc ∈ mj_tbl) (hg : gfi h o cs k = some x) (B : Go mi d h0 (pc + 3) lv (.int x :: st) h pc2 lv2 st2 h2) : Go mi d h0 pc lv (va_rf o :: st) h pc2 lv2 st2 h2 := by
  obtain ⟨v, hv, hi⟩ := Option.bind_eq_some_iff.mp hg
  rw [mj_int_eq hi] at hv
  exact go_get hd hcs hw hv B
theorem go_gfr {idx : Nat} {o r : Option Nat} {cs : List Nat} {k : Nat} {ref nm desc : String} {fin : Bool} (hd : decode mi.2.1 pc = .ok (.getfield idx, 3)) (hcs : ∀ c ∈ cs, mj_fd c k = some (ref, nm, desc, fin)) (hw : Cond.fieldLink mi.1.cls idx ref nm desc ∈ mj_tbl) (hg : gfr h o cs k = some r) (B : Go mi d h0 (pc + 3) lv (va_rf r :: st) h pc2 lv2 st2 h2) : Go mi d h0 pc lv (va_rf o :: st) h pc2 lv2 st2 h2 := by
  obtain ⟨v, hv, hi⟩ := Option.bind_eq_some_iff.mp hg
  rw [mj_ref_eq hi] at hv
  exact go_get hd hcs hw hv B
theorem go_put {idx : Nat} {o : Option Nat} {cs : List Nat} {k : Nat} {v : Value} {ref nm desc : String} {fin : Bool} {ty : FieldType} (hd : decode mi.2.1 pc = .ok (.putfield idx, 3)) (hcs : ∀ c ∈ cs, mj_fd c k = some (ref, nm, desc, fin)) (hw : Cond.fieldLink mi.1.cls idx ref nm desc ∈ mj_tbl) (hfin : fin = true → mi.1.name = "<init>" ∧ ref = mi.1.cls) (hty : parseFieldDescriptor desc = some ty) (hn : ∀ ad, narrow ty (mj_v ad v) = mj_v ad v) (hf : ∀ ad, fits ty (mj_v ad v) = true) (hg : pfv h o cs k v = some h1) (B : Go mi d h0 (pc + 3) lv st h1 pc2 lv2 st2 h2) : Go mi d h0 pc lv (v :: va_rf o :: st) h pc2 lv2 st2 h2 := by
  unfold pfv at hg
  obtain ⟨⟨c, fs⟩, hq, hk⟩ := Option.bind_eq_some_iff.mp hg
  dsimp only at hk
  by_cases hcc : cs.contains c = true ∧ k < fs.length
  · rw [if_pos hcc] at hk
    obtain ⟨hcc, hkl⟩ := hcc
    cases o with
    | none => simp [mj_obj] at hq
    | some a =>
      have ha : h.1 a = .inr (.inr (c, fs)) := by
        simp only [mj_obj] at hq
        split at hq
        · next q e => cases hq; exact e
        · cases hq
      have hne : fs ≠ [] := fun e => by rw [e] at hkl; simp at hkl
      have hh1 : h1 = mj_up h a (.inr (.inr (c, fs.set k v))) := (Option.some.inj hk).symm
      obtain ⟨⟨C, T, N⟩, hcl, hkN, hT⟩ := mj_fd_spec (hcs c (List.contains_iff_mem.mp hcc))
      dsimp only at hkN hT
      obtain ⟨hin0, ⟨ty0, hty0⟩, hnm⟩ := mj_oks _ (List.mem_of_getElem? hcl)
      dsimp only at hin0 hty0 hnm
      refine Go.wr (by rw [hh1]; rfl) (fun G p e R s m args below meth cd Q cells slots H locs ls hF hX g3 g4 hR hl K => ?_) B
      obtain ⟨h3, hlt, hat⟩ := mj_obj_at hR ha hne
      have hts := hF.2.2.2.2.1
      have hin := mj_cl_in hcl
      have hown := hF.2.2.2.1
      have hap := va_apart (own := mi.1.cls) hts hin ty0 hty0 hnm hX.1 hcl
      obtain ⟨r, hr1, cell, q1, q2, q3, q4⟩ := hat
      have hr : r = (C, T, N) := Option.some.inj (hr1.symm.trans hcl)
      subst hr
      dsimp only at q1 q2 q3 q4
      obtain ⟨hS, hfc, kC, hkC, hkind⟩ := hX.1.1 c _ hcl
      obtain ⟨cf, kf, fi, f, hi, hsl⟩ := hS k hkN
      dsimp only at hS hfc hi hsl q4
      have hlay := hts _ (hin _ (u_in_lay hkN))
      have hst := (u_facts hfc hkC (u_lays hts hin hkN) hi).1
      have hlink : (Cond.fieldLink mi.1.cls idx ref (T k).2.1 (T k).2.2.1).before args s = true := by rw [hT]; exact hts _ hw
      have hpd : parseFieldDescriptor (T k).2.2.1 = some ty := by rw [hT]; exact hty
      have hsame : s.fieldFound? ref (T k).2.1 (T k).2.2.1 = some (cf, kf, fi, f) := by
        have := hi
        rw [hT] at this ⊢
        exact this
      have fin' : ∀ (H' : Heap) (locs1 : List Loc), H'[G.ad a]? = some (cell.setSlot (G.D.2 c k) (mj_v G.ad v)) → H'.size = H.size → (∀ q, q ≠ G.ad a → H'[q]? = H[q]?) → (∀ q ∈ locs1, q.base = G.ad a) → W p G.l e R s m args below meth cd H' (locs ++ locs1) cells slots Q (F0 m (pc + 3) ls (st.map (mj_v G.ad))) := by
        intro H' locs1 e1 e2 e3 e4
        refine K H' _ ?_
        rw [hh1]
        refine hR.put hX h3 hlt ?_ e2 e3 e4
        refine ⟨_, hcl, t_OB.to (V := updV (vp_V (fs.map (mj_v G.ad))) k (mj_v G.ad v)) ⟨_, e1, q2, q3, t_set q4 hap hkN (mj_v G.ad v)⟩ (fun j _ => ?_)⟩
        rw [vp_updV_set (by simpa using hkl)]
        show vp_V _ j = vp_V ((fs.set k v).map (mj_v G.ad)) j
        rw [List.map_set]
      unfold u_lay at hlay
      by_cases hfn : (T k).2.2.2 = true
      · rw [if_pos hfn] at hlay
        have hfn' : fin = true := by rw [hT] at hfn; exact hfn
        obtain ⟨hin2, href⟩ := hfin hfn'
        have hcf : m.cls = cf := by
          obtain ⟨_, _, c', _, _, _, -, -, hf', -, -, -, hown2, -⟩ := Cond.laysFinal_spec hlay
          have e1 : c' = cf := by have := hi.symm.trans hf'; simp at this; exact this.1.symm
          dsimp only at hown2
          rw [hT] at hown2
          dsimp only at hown2
          rw [href] at hown2
          rw [← e1]; exact Option.some.inj (hown.symm.trans hown2)
        have h6 := u_fits hfc hkC hkind (Or.inr hlay) hi hpd (hn G.ad) (hf G.ad)
        refine W.putFinK hF.1 hF.2.1 hown hlink hsame hst hcf (hF.2.2.2.2.2.1.trans hin2) (by rw [q2]; exact h6) q1 q3 (by rw [hsl]; exact k2_hasslot (q4 k hkN)) rfl rfl hd fun H' e1 e2 e3 => ?_
        rw [hsl] at e1
        exact fin' H' _ e1 e2 e3 (fun q hq => by rw [List.mem_singleton.mp hq])
      · rw [if_neg hfn] at hlay
        have h6 := u_store hfc hkC hkind hlay hi hpd (hn G.ad) (hf G.ad)
        refine W.putK hF.1 hF.2.1 (f := f) ⟨hown, hlink, ⟨_, _, _, hsame⟩, hst⟩ (by rw [q2]; exact h6) q1 q3 (by rw [hsl]; exact k2_hasslot (q4 k hkN)) rfl rfl hd fun H' e1 e2 e3 => ?_
        rw [hsl] at e1
        exact fin' H' _ e1 e2 e3 (fun q hq => by rw [List.mem_singleton.mp hq])
  · rw [if_neg hcc] at hk; cases hk
theorem go_pfi {idx : Nat} {o : Option Nat} {cs : List Nat} {k : Nat} {x : Int32} {ref nm : String} {fin : Bool} (hd : decode mi.2.1 pc = .ok (.putfield idx, 3)) (hcs : ∀ c ∈ cs, mj_fd c k = some (ref, nm, "I", fin)) (hw : Cond.fieldLink mi.1.cls idx ref nm "I" ∈ mj_tbl) (hfin : fin = true → mi.1.name = "<init>" ∧ ref = mi.1.cls) (hg : pfv h o cs k (.int x) = some h1) (B : Go mi d h0 (pc + 3) lv st h1 pc2 lv2 st2 h2) : Go mi d h0 pc lv (.int x :: va_rf o :: st) h pc2 lv2 st2 h2 :=
  go_put (ty := .int) hd hcs hw hfin (by decide +kernel) (fun _ => rfl) (fun _ => rfl) hg B
theorem go_pfz {idx : Nat} {o : Option Nat} {cs : List Nat} {k : Nat} {x : Int32} {ref nm : String} {fin : Bool} (hd : decode mi.2.1 pc = .ok (.putfield idx, 3)) (hcs : ∀ c ∈ cs, mj_fd c k = some (ref, nm, "Z", fin)) (hw : Cond.fieldLink mi.1.cls idx ref nm "Z" ∈ mj_tbl) (hfin : fin = true → mi.1.name = "<init>" ∧ ref = mi.1.cls) (hx : x = 0 ∨ x = 1) (hg : pfv h o cs k (.int x) = some h1) (B : Go mi d h0 (pc + 3) lv st h1 pc2 lv2 st2 h2) : Go mi d h0 pc lv (.int x :: va_rf o :: st) h pc2 lv2 st2 h2 :=
  go_put (ty := .boolean) hd hcs hw hfin (by decide +kernel) (fun _ => by rcases hx with rfl | rfl <;> rfl) (fun _ => by rcases hx with rfl | rfl <;> rfl) hg B
theorem go_pfr {idx : Nat} {o r : Option Nat} {cs : List Nat} {k : Nat} {ref nm desc : String} {fin : Bool} {ty : FieldType} (hd : decode mi.2.1 pc = .ok (.putfield idx, 3)) (hcs : ∀ c ∈ cs, mj_fd c k = some (ref, nm, desc, fin)) (hw : Cond.fieldLink mi.1.cls idx ref nm desc ∈ mj_tbl) (hfin : fin = true → mi.1.name = "<init>" ∧ ref = mi.1.cls) (hty : parseFieldDescriptor desc = some ty) (hr : ty.isReference = true) (hg : pfv h o cs k (va_rf r) = some h1) (B : Go mi d h0 (pc + 3) lv st h1 pc2 lv2 st2 h2) : Go mi d h0 pc lv (va_rf r :: va_rf o :: st) h pc2 lv2 st2 h2 :=
  go_put (ty := ty) hd hcs hw hfin hty (fun _ => by cases ty <;> first | (cases hr; done) | (cases r <;> rfl)) (fun _ => by cases ty <;> first | (cases hr; done) | (cases r <;> rfl)) hg B
end GO2
end
section
/-! ===== rules of arrays, of making, of the static arrays, of instanceof, of arraycopy ===== -/
section GO3
variable {mi : MI} {d : Nat} {h0 : MH} {pc pc1 pc2 : Nat} {lv lv2 : List (Nat × Value)} {st st1 st2 : List Value} {h h1 h2 : MH}
theorem mj_arr_spec {o : Option Nat} {q : Nat × Nat × (Nat → Int32)} (hq : mj_arr h o = some q) : ∃ a, o = some a ∧ h.1 a = .inl q := by
  cases o with
  | none => simp [mj_arr] at hq
  | some a =>
    simp only [mj_arr] at hq
    split at hq
    · next q e => cases hq; exact ⟨a, rfl, e⟩
    · cases hq
theorem mj_arq_spec {o : Option Nat} {q : Nat × Nat × (Nat → Option Nat)} (hq : mj_arq h o = some q) : ∃ a, o = some a ∧ h.1 a = .inr (.inl q) := by
  cases o with
  | none => simp [mj_arq] at hq
  | some a =>
    simp only [mj_arq] at hq
    split at hq
    · next q e => cases hq; exact ⟨a, rfl, e⟩
    · cases hq
theorem mj_nn {i : Int32} {n : Nat} (h1 : 0 ≤ i) (h2 : i.toNatClampNeg < n) : ¬ (i < 0 ∨ n ≤ i.toNatClampNeg) := fun z => z.elim (fun z => absurd z (Int32.not_lt.mpr h1)) (fun z => Nat.not_le.mpr h2 z)
theorem go_iald {o : Option Nat} {i x : Int32} (hd : decode mi.2.1 pc = .ok (.iaload, 1)) (hg : ald h o 0 i = some x) (B : Go mi d h0 (pc + 1) lv (.int x :: st) h pc2 lv2 st2 h2) : Go mi d h0 pc lv (.int i :: va_rf o :: st) h pc2 lv2 st2 h2 := by
  unfold ald at hg
  obtain ⟨⟨t, n, f⟩, hq, hk⟩ := Option.bind_eq_some_iff.mp hg
  dsimp only at hk
  by_cases hc : t = 0 ∧ 0 ≤ i ∧ i.toNatClampNeg < n
  · rw [if_pos hc] at hk
    obtain ⟨rfl, c1, c2⟩ := hc
    obtain ⟨a, rfl, ha⟩ := mj_arr_spec hq
    have hx : f i.toNatClampNeg = x := Option.some.inj hk
    refine Go.one (fun G p e R s m args below meth c Q cells slots H locs ls hF hX g3 g4 hR hl K => ?_) B
    rcases Nat.lt_or_ge a 3 with h3 | h3
    · obtain ⟨n', f', e1, scr, e2, e3, e4, e5, -, e6⟩ := hR.2.2.2.2.1 a h3
      rw [ha] at e1
      cases e1
      exact W.iald (v := .int x) hF.1 hF.2.1 e2 e3 e4 (mj_nn c1 (Nat.lt_of_lt_of_le c2 e5)) (by rw [e6 _ c2, hx]) rfl rfl hd (K ls hl)
    · obtain ⟨hlt, hc⟩ := mj_arr_at hR ha h3
      exact W.iald (v := .int x) hF.1 hF.2.1 hc ((hX.1.2 0 _ (mj_tys_at G (by decide))).1 n (fun j => .int (f j))) (fun q => by cases q) (by show ¬ (i < 0 ∨ (arrV _ _ _).slots.size ≤ _); rw [arrV_size]; exact mj_nn c1 c2) (by show (arrV _ _ _).slots[_]? = _; rw [arrV_read _ _ c2, hx]) rfl rfl hd (K ls hl)
  · rw [if_neg hc] at hk; cases hk
theorem go_zald {o : Option Nat} {i x : Int32} (hd : decode mi.2.1 pc = .ok (.baload, 1)) (hg : ald h o 1 i = some x) (B : Go mi d h0 (pc + 1) lv (.int x :: st) h pc2 lv2 st2 h2) : Go mi d h0 pc lv (.int i :: va_rf o :: st) h pc2 lv2 st2 h2 := by
  unfold ald at hg
  obtain ⟨⟨t, n, f⟩, hq, hk⟩ := Option.bind_eq_some_iff.mp hg
  dsimp only at hk
  by_cases hc : t = 1 ∧ 0 ≤ i ∧ i.toNatClampNeg < n
  · rw [if_pos hc] at hk
    obtain ⟨rfl, c1, c2⟩ := hc
    obtain ⟨a, rfl, ha⟩ := mj_arr_spec hq
    have hx : f i.toNatClampNeg = x := Option.some.inj hk
    refine Go.one (fun G p e R s m args below meth c Q cells slots H locs ls hF hX g3 g4 hR hl K => ?_) B
    rcases Nat.lt_or_ge a 3 with h3 | h3
    · obtain ⟨n', f', e1, -⟩ := hR.2.2.2.2.1 a h3
      rw [ha] at e1
      cases e1
    · obtain ⟨hlt, hc⟩ := mj_arr_at hR ha h3
      exact W.zald (v := .int x) hF.1 hF.2.1 hc ((hX.1.2 1 _ (mj_tys_at G (by decide))).1 n (fun j => .int (f j))) (fun q => by cases q) (by show ¬ (i < 0 ∨ (arrV _ _ _).slots.size ≤ _); rw [arrV_size]; exact mj_nn c1 c2) (by show (arrV _ _ _).slots[_]? = _; rw [arrV_read _ _ c2, hx]) rfl rfl hd (K ls hl)
  · rw [if_neg hc] at hk; cases hk
theorem go_iast {o : Option Nat} {i x : Int32} (hd : decode mi.2.1 pc = .ok (.iastore, 1)) (hg : ast h o 0 i x = some h1) (B : Go mi d h0 (pc + 1) lv st h1 pc2 lv2 st2 h2) : Go mi d h0 pc lv (.int x :: .int i :: va_rf o :: st) h pc2 lv2 st2 h2 := by
  unfold ast at hg
  obtain ⟨⟨t, n, f⟩, hq, hk⟩ := Option.bind_eq_some_iff.mp hg
  dsimp only at hk
  by_cases hc : t = 0 ∧ 3 ≤ o.getD 0 ∧ 0 ≤ i ∧ i.toNatClampNeg < n
  · rw [if_pos hc] at hk
    obtain ⟨rfl, h3, c1, c2⟩ := hc
    obtain ⟨a, rfl, ha⟩ := mj_arr_spec hq
    have h3 : 3 ≤ a := h3
    have hh1 : h1 = mj_up h a (.inl (0, n, upd f i.toNatClampNeg x)) := (Option.some.inj hk).symm
    refine Go.wr (by rw [hh1]; rfl) (fun G p e R s m args below meth cd Q cells slots H locs ls hF hX g3 g4 hR hl K => ?_) B
    obtain ⟨hlt, hc⟩ := mj_arr_at hR ha h3
    refine W.iast hF.1 hF.2.1 hc ((hX.1.2 0 _ (mj_tys_at G (by decide))).1 n (fun j => .int (f j))) (fun q => by cases q) (by show ¬ (i < 0 ∨ (arrV _ _ _).slots.size ≤ _); rw [arrV_size]; exact mj_nn c1 c2) rfl rfl hd fun H1 e z oq => ?_
    refine K H1 _ ?_
    rw [hh1]
    refine hR.put hX h3 hlt ?_ z oq (fun q hq => by rw [List.mem_singleton.mp hq])
    show H1[G.ad a]? = some (vp_cell _ _)
    rw [e]
    rw [vp_cell_i, vp_cell_i, arrV_store]
    congr 2
    funext q
    by_cases hq : q = i.toNatClampNeg
    · subst hq
      simp [updV, upd]
    · simp [updV, upd, hq]
  · rw [if_neg hc] at hk; cases hk
theorem go_zast {o : Option Nat} {i x : Int32} (hd : decode mi.2.1 pc = .ok (.bastore, 1)) (hx : vp_nar .boolean x = x) (hg : ast h o 1 i x = some h1) (B : Go mi d h0 (pc + 1) lv st h1 pc2 lv2 st2 h2) : Go mi d h0 pc lv (.int x :: .int i :: va_rf o :: st) h pc2 lv2 st2 h2 := by
  unfold ast at hg
  obtain ⟨⟨t, n, f⟩, hq, hk⟩ := Option.bind_eq_some_iff.mp hg
  dsimp only at hk
  by_cases hc : t = 1 ∧ 3 ≤ o.getD 0 ∧ 0 ≤ i ∧ i.toNatClampNeg < n
  · rw [if_pos hc] at hk
    obtain ⟨rfl, h3, c1, c2⟩ := hc
    obtain ⟨a, rfl, ha⟩ := mj_arr_spec hq
    have h3 : 3 ≤ a := h3
    have hh1 : h1 = mj_up h a (.inl (1, n, upd f i.toNatClampNeg x)) := (Option.some.inj hk).symm
    refine Go.wr (by rw [hh1]; rfl) (fun G p e R s m args below meth cd Q cells slots H locs ls hF hX g3 g4 hR hl K => ?_) B
    obtain ⟨hlt, hc⟩ := mj_arr_at hR ha h3
    refine W.zast hF.1 hF.2.1 hc ((hX.1.2 1 _ (mj_tys_at G (by decide))).1 n (fun j => .int (f j))) (fun q => by cases q) (by show ¬ (i < 0 ∨ (arrV _ _ _).slots.size ≤ _); rw [arrV_size]; exact mj_nn c1 c2) rfl rfl hd fun H1 e z oq => ?_
    refine K H1 _ ?_
    rw [hh1]
    refine hR.put hX h3 hlt ?_ z oq (fun q hq => by rw [List.mem_singleton.mp hq])
    show H1[G.ad a]? = some (vp_cell _ _)
    rw [e]
    rw [vp_cell_i, vp_cell_i, arrV_store]
    congr 2
    funext q
    by_cases hq : q = i.toNatClampNeg
    · subst hq
      have hx' : narrow FieldType.boolean (Value.int x) = Value.int x := congrArg Value.int hx
      simp [updV, upd, hx']
    · simp [updV, upd, hq]
  · rw [if_neg hc] at hk; cases hk
theorem go_alen {o : Option Nat} {x : Int32} (hd : decode mi.2.1 pc = .ok (.arraylength, 1)) (hg : alen h o = some x) (B : Go mi d h0 (pc + 1) lv (.int x :: st) h pc2 lv2 st2 h2) : Go mi d h0 pc lv (va_rf o :: st) h pc2 lv2 st2 h2 := by
  cases o with
  | none => simp [alen] at hg
  | some a =>
    refine Go.one (fun G p e R s m args below meth c Q cells slots H locs ls hF hX g3 g4 hR hl K => ?_) B
    simp only [alen] at hg
    split at hg
    · next q ha =>
      obtain ⟨t, n, f⟩ := q
      by_cases hc : t < 2
      · rw [if_pos hc] at hg
        have hx : Int32.ofNat n = x := Option.some.inj hg
        rcases Nat.lt_or_ge a 3 with h3 | h3
        · obtain ⟨n', f', e1, scr, e2, e3, e4, e5, e5', e6⟩ := hR.2.2.2.2.1 a h3
          rw [ha] at e1
          cases e1
          exact W.alen (n := x) hF.1 hF.2.1 e2 e3 (e5'.trans hx) rfl rfl hd (K ls hl)
        · obtain ⟨hlt, hcl⟩ := mj_arr_at hR ha h3
          exact W.alen (n := x) hF.1 hF.2.1 hcl ((hX.1.2 t _ (mj_tys_at G (by omega))).1 n (fun j => .int (f j))) (by rw [vp_cell_i, arrV_size, ← hx] <;> rfl) rfl rfl hd (K ls hl)
      · rw [if_neg hc] at hg; cases hg
    · next q ha =>
      obtain ⟨t, n, f⟩ := q
      by_cases hc : t = 2 ∨ t = 3
      · rw [if_pos hc] at hg
        have hx : Int32.ofNat n = x := Option.some.inj hg
        obtain ⟨h3, hlt, hcl⟩ := mj_arq_at hR ha
        exact W.alen (n := x) hF.1 hF.2.1 hcl ((hX.1.2 t _ (mj_tys_at G (by omega))).1 n (fun j => va_rf ((f j).map G.ad))) (by rw [vp_cell_q, arrV_size, ← hx] <;> rfl) rfl rfl hd (K ls hl)
      · rw [if_neg hc] at hg; cases hg
    · cases hg
theorem go_qld {o r : Option Nat} {t : Nat} {i : Int32} (ht : t = 2 ∨ t = 3) (hd : decode mi.2.1 pc = .ok (.aaload, 1)) (hg : qld h o t i = some r) (B : Go mi d h0 (pc + 1) lv (va_rf r :: st) h pc2 lv2 st2 h2) : Go mi d h0 pc lv (.int i :: va_rf o :: st) h pc2 lv2 st2 h2 := by
  unfold qld at hg
  obtain ⟨⟨t', n, f⟩, hq, hk⟩ := Option.bind_eq_some_iff.mp hg
  dsimp only at hk
  by_cases hc : t' = t ∧ 0 ≤ i ∧ i.toNatClampNeg < n
  · rw [if_pos hc] at hk
    obtain ⟨rfl, c1, c2⟩ := hc
    obtain ⟨a, rfl, ha⟩ := mj_arq_spec hq
    have hx : f i.toNatClampNeg = r := Option.some.inj hk
    refine Go.one (fun G p e R s m args below meth c Q cells slots H locs ls hF hX g3 g4 hR hl K => ?_) B
    obtain ⟨h3, hlt, hcl⟩ := mj_arq_at hR ha
    have hty : (mj_aty t').isReference = true := by rcases ht with rfl | rfl <;> rfl
    have K' := K ls hl
    rw [List.map_cons, mj_vrf] at K'
    exact W.aald (v := va_rf (r.map G.ad)) (ty := mj_aty t') hF.1 hF.2.1 hcl ((hX.1.2 t' _ (mj_tys_at G (by omega))).1 n (fun j => va_rf ((f j).map G.ad))) hty (fun q => by cases q) (by show ¬ (i < 0 ∨ (arrV _ _ _).slots.size ≤ _); rw [arrV_size]; exact mj_nn c1 c2) (by show (arrV _ _ _).slots[_]? = _; rw [arrV_read _ _ c2]; dsimp only; rw [hx]) rfl rfl hd K'
  · rw [if_neg hc] at hk; cases hk
theorem mj_asg {s : State} {C E : String} (h : va_Nw (.castable C E) s) : ∀ comp c0 : ClassId, s.vm.findClass E = some comp → s.vm.findClass C = some c0 → s.vm.assignable c0 comp = true := by
  intro comp c0 h1 h2
  obtain ⟨c3, t3, w1, w2, w3⟩ := Cond.castable_spec (args := #[]) (s := s) h
  cases h2.symm.trans w1
  cases h1.symm.trans w2
  exact w3
/-- which classes may stand in a row of t -/
def mj_fits (t c : Nat) : Bool := match mj_cl[c]? with
  | some q => match mj_aty t with
    | .object E => decide (q.1 = E) || decide (Cond.castable q.1 E ∈ mj_bad)
    | _ => false
  | none => false
theorem go_qst {o v : Option Nat} {t : Nat} {cs : List Nat} {i : Int32} (ht : t = 2 ∨ t = 3) (hcs : ∀ c ∈ cs, mj_fits t c = true) (hd : decode mi.2.1 pc = .ok (.aastore, 1)) (hg : qst h o t cs i v = some h1) (B : Go mi d h0 (pc + 1) lv st h1 pc2 lv2 st2 h2) : Go mi d h0 pc lv (va_rf v :: .int i :: va_rf o :: st) h pc2 lv2 st2 h2 := by
  unfold qst at hg
  obtain ⟨⟨t', n, f⟩, hq, hk⟩ := Option.bind_eq_some_iff.mp hg
  dsimp only at hk
  by_cases hc : t' = t ∧ 0 ≤ i ∧ i.toNatClampNeg < n ∧ mj_clo h v cs = true
  · rw [if_pos hc] at hk
    obtain ⟨rfl, c1, c2, c3⟩ := hc
    obtain ⟨a, rfl, ha⟩ := mj_arq_spec hq
    have hh1 : h1 = mj_up h a (.inr (.inl (t', n, va_up f i.toNatClampNeg v))) := (Option.some.inj hk).symm
    refine Go.wr (by rw [hh1]; rfl) (fun G p e R s m args below meth cd Q cells slots H locs ls hF hX g3 g4 hR hl K => ?_) B
    obtain ⟨h3, hlt, hcl⟩ := mj_arq_at hR ha
    have fin' : ∀ (H1 : Heap), H1[G.ad a]? = some ((vp_cell (G.cA t') (n, .inr (.inr (.inr (.inr (fun j => (f j).map G.ad)))))).setSlot i.toNatClampNeg (va_rf (v.map G.ad))) → H1.size = H.size → (∀ q, q ≠ G.ad a → H1[q]? = H[q]?) → W p G.l e R s m args below meth cd H1 (locs ++ [⟨G.ad a, i.toNatClampNeg⟩]) cells slots Q (F0 m (pc + 1) ls (st.map (mj_v G.ad))) := by
      intro H1 e z oq
      refine K H1 _ ?_
      rw [hh1]
      refine hR.put hX h3 hlt ?_ z oq (fun q hq => by rw [List.mem_singleton.mp hq])
      show H1[G.ad a]? = some (vp_cell _ _)
      rw [e]
      rw [vp_cell_q, vp_cell_q, arrV_store]
      congr 2
      funext q
      by_cases hq : q = i.toNatClampNeg
      · subst hq
        simp [updV, va_up]
      · simp [updV, va_up, hq]
    obtain ⟨E, hE⟩ : ∃ E, mj_aty t' = .object E := by rcases ht with rfl | rfl <;> exact ⟨_, rfl⟩
    have harr := hX.1.2 t' _ (mj_tys_at G (by omega))
    dsimp only at harr
    rw [hE] at harr
    cases v with
    | none =>
      refine va_WaastN (C := E) hF.1 hF.2.1 hcl (harr.1 n (fun j => va_rf ((f j).map G.ad))) (fun h => by cases h) (by show ¬ (i < 0 ∨ (arrV _ _ _).slots.size ≤ _); rw [arrV_size]; exact mj_nn c1 c2) rfl rfl hd fun H1 e z oq => ?_
      exact fin' H1 e z oq
    | some b =>
      unfold mj_clo at c3
      split at c3
      · next q hq =>
        obtain ⟨ci, fs⟩ := q
        rw [Bool.and_eq_true, decide_eq_true_eq] at c3
        dsimp only at c3
        have hb : h.1 b = .inr (.inr (ci, fs)) := by
          simp only [mj_obj] at hq
          split at hq
          · next q e => cases hq; exact e
          · cases hq
        obtain ⟨b3, blt, bat⟩ := mj_obj_at hR hb c3.2
        have hfit := hcs ci (List.contains_iff_mem.mp c3.1)
        unfold mj_fits at hfit
        cases hcq : mj_cl[ci]? with
        | none => rw [hcq] at hfit; cases hfit
        | some r =>
          rw [hcq] at hfit
          dsimp only at hfit
          rw [hE] at hfit
          dsimp only at hfit
          rw [Bool.or_eq_true, decide_eq_true_eq, decide_eq_true_eq] at hfit
          have hasg : ∀ comp c0 : ClassId, s.vm.findClass E = some comp → s.vm.findClass r.1 = some c0 → s.vm.assignable c0 comp = true := by
            rcases hfit with hfit | hfit
            · intro comp c0 w1 w2
              rw [hfit] at w2
              cases w1.symm.trans w2
              have := (hX.1.1 ci _ hcq).2
              rw [hfit] at this
              have h5 := va_assign this
              cases w1.symm.trans this.1
              exact h5
            · exact mj_asg (hX.2.2.2.1 _ hfit)
          obtain ⟨cellV, g1, g3, ⟨kC, hkC⟩, hasg⟩ := va_rAny hX.1 (mj_P1 bat) (q0 := 0) rfl hcq hasg
          obtain ⟨kA, comp, k1, k2, k3, -⟩ := harr.2
          obtain ⟨kE, hkE, -⟩ := Vm.findClass_spec k3
          refine W.aast hF.1 hF.2.1 hcl (fun q h => by cases h) (fun h => by cases h) k1 k2 rfl hkE ⟨fun q => absurd q (Int32.not_lt.mpr c1), by show _ < (arrV _ _ _).slots.size; rw [arrV_size]; exact c2⟩ g1 (fun q h => by rw [h] at g3; cases g3) hkC (hasg _ k3) rfl rfl hd fun H1 e z oq => ?_
          exact fin' H1 e z oq
      · cases c3
  · rw [if_neg hc] at hk; cases hk
end GO3
end
section
/-! ===== rules of making; the two static arrays; instanceof; arraycopy ===== -/
section GO4
variable {mi : MI} {d : Nat} {h0 : MH} {pc pc1 pc2 : Nat} {lv lv2 : List (Nat × Value)} {st st1 st2 : List Value} {h h1 h2 : MH}
theorem go_new {idx ci : Nat} {q : vw_C} {fs : List Value} (hd : decode mi.2.1 pc = .ok (.new idx, 3)) (hcl : mj_cl[ci]? = some q) (hfs : (List.range q.2.2).map (fun j => (parseFieldDescriptor (q.2.1 j).2.2.1).map defaultValue) = fs.map some) (htv : ∀ ad, fs.map (mj_v ad) = fs) (hw1 : Cond.classLink mi.1.cls idx q.1 ∈ mj_tbl) (hw2 : Cond.instantiable q.1 q.2.2 ∈ mj_tbl) (hw3 : Cond.initialized q.1 ∈ mj_tbl) (B : Go mi d h0 (pc + 3) lv (va_rf (some h.2.1) :: st) (newo h ci fs) pc2 lv2 st2 h2) : Go mi d h0 pc lv st h pc2 lv2 st2 h2 := by
  obtain ⟨-, ⟨ty, hty⟩, -⟩ := mj_oks q (List.mem_of_getElem? hcl)
  have hlen : fs.length = q.2.2 := by
    have := congrArg List.length hfs
    simpa using this.symm
  refine Go.al (h1 := newo h ci fs) (n := fs.length) rfl rfl (fun G p e R s m args below meth c Q cells slots H locs ls hF hX g5 g6 hR hl K => ?_) B
  have hts := hF.2.2.2.2.1
  have hKn := hX.1.1 ci _ hcl
  rw [hlen] at g6 K
  refine W.newcK hF.1 hF.2.1 hF.2.2.2.1 (hts _ hw1) (hts _ hw2) (hts _ hw3) rfl hd g5 g6 hKn.2.1 rfl fun H1 kC hkC e1 z1 o1 => ?_
  have hat : va_at G.D mj_cl (H.size, mj_e G (.inr (.inr (ci, fs)))) H1 := by
    refine ⟨q, hcl, (u_born ty hts (mj_cl_in hcl) hKn hkC e1 hty).to (fun j hj => ?_)⟩
    show defaultValue (ty j) = vp_V (fs.map (mj_v G.ad)) j
    rw [htv]
    have e2 : (fs.map some)[j]? = some (some (defaultValue (ty j))) := by
      rw [← hfs, List.getElem?_map, List.getElem?_range hj]
      simp [hty j hj]
    rw [List.getElem?_map] at e2
    unfold vp_V
    rw [List.getD_eq_getElem?_getD]
    cases hv : fs[j]? with
    | none => rw [hv] at e2; cases e2
    | some v => rw [hv] at e2; exact (Option.some.inj (Option.some.inj e2)).symm
  obtain ⟨hR1, had⟩ := hR.push hX hat z1 o1 (n := fs.length)
  have := K H1 hR1
  rw [List.map_cons, mj_vrf] at this
  dsimp only [Option.map_some] at this
  rw [had] at this
  exact this
theorem go_newa {atype : ArrayType} {t N : Nat} {n : Int32} (ht : t < 2) (hty : newarray.typeOf atype = mj_aty t) (hd : decode mi.2.1 pc = .ok (.newarray atype, 2)) (hw : Cond.arrayClass (mj_aty t) ∈ mj_tbl) (hn : ¬ n < 0) (hN : n.toNatClampNeg = N) (hb : N ≤ 100000) (B : Go mi d h0 (pc + 2) lv (va_rf (some h.2.1) :: st) (newa h t N) pc2 lv2 st2 h2) : Go mi d h0 pc lv (.int n :: st) h pc2 lv2 st2 h2 := by
  refine Go.al (h1 := newa h t N) (n := N) rfl rfl (fun G p e R s m args below meth c Q cells slots H locs ls hF hX g5 g6 hR hl K => ?_) B
  have hts := hF.2.2.2.2.1
  have hbytes : N * componentBytes (newarray.typeOf atype) ≤ 536870912 := by
    rw [hty]
    rcases (show t = 0 ∨ t = 1 by omega) with rfl | rfl
    · show N * 4 ≤ _; omega
    · show N * 1 ≤ _; omega
  refine va_newaK hF.1 hF.2.1 (by rw [hty]; exact hts _ hw) rfl hd rfl hn hN hbytes g5 g6 rfl fun H1 cA e1 z1 o1 hAr hNm => ?_
  have hcA : cA = G.cA t := by
    have h5 := (hX.1.2 t _ (mj_tys_at G (by omega))).2
    rw [hty] at hNm
    rcases (show t = 0 ∨ t = 1 by omega) with rfl | rfl
    · exact Option.some.inj (hNm.symm.trans h5)
    · exact Option.some.inj (hNm.symm.trans h5)
  have hat : va_at G.D mj_cl (H.size, mj_e G (.inl (t, N, fun _ => 0))) H1 := by
    show H1[H.size]? = some (vp_cell (G.cA t) (N, .inl fun _ => 0))
    rw [e1, hcA, vp_cell_i, hty]
    rcases (show t = 0 ∨ t = 1 by omega) with rfl | rfl <;> rfl
  obtain ⟨hR1, had⟩ := hR.push hX hat z1 o1 (n := N)
  have := K H1 hR1
  rw [List.map_cons, mj_vrf] at this
  dsimp only [Option.map_some] at this
  rw [had] at this
  exact this
theorem go_newq {idx t N : Nat} {C : String} {n : Int32} (ht : t = 2 ∨ t = 3) (hty : mj_aty t = .object C) (hd : decode mi.2.1 pc = .ok (.anewarray idx, 3)) (hw : Cond.classLink mi.1.cls idx C ∈ mj_tbl) (hw2 : Cond.arrayOver (.object C) ∈ mj_bad) (hn : ¬ n < 0) (hN : n.toNatClampNeg = N) (hb : N ≤ 100000) (B : Go mi d h0 (pc + 3) lv (va_rf (some h.2.1) :: st) (newq h t N) pc2 lv2 st2 h2) : Go mi d h0 pc lv (.int n :: st) h pc2 lv2 st2 h2 := by
  refine Go.al (h1 := newq h t N) (n := N) rfl rfl (fun G p e R s m args below meth c Q cells slots H locs ls hF hX g5 g6 hR hl K => ?_) B
  have hts := hF.2.2.2.2.1
  subst hN
  refine W.anew hF.1 hF.2.1 hF.2.2.2.1 (hts _ hw) (va_AO.use (va_AO.of (A := #[]) (hX.2.2.2.1 _ hw2))) rfl hd rfl hn (by omega) g5 g6 fun cA kA comp f1 f2 f3 f4 => ?_
  have hcA : cA = G.cA t := by
    have h5 := (hX.1.2 t _ (mj_tys_at G (by omega))).2
    dsimp only at h5
    rw [hty] at h5
    obtain ⟨kA', comp', -, -, -, h6⟩ := h5
    exact Option.some.inj (f1.symm.trans h6)
  generalize hH1 : H.push ({ cls := cA, slots := Array.replicate n.toNatClampNeg .null, vm := .none } : Cell) = H1
  have z1 : H1.size = H.size + 1 := by rw [← hH1, Array.size_push]
  have e1 : H1[H.size]? = some (arrV cA n.toNatClampNeg (fun _ => .null)) := by rw [← hH1, Array.getElem?_push_size, ← arrV_new]
  have o1 : ∀ q, q < H.size → H1[q]? = H[q]? := fun q hq => by rw [← hH1, Array.getElem?_push, if_neg (Nat.ne_of_lt hq)]
  have hat : va_at G.D mj_cl (H.size, mj_e G (.inr (.inl (t, n.toNatClampNeg, fun _ => none)))) H1 := by
    show H1[H.size]? = some (vp_cell (G.cA t) _)
    rw [e1, hcA, vp_cell_q]
    rfl
  obtain ⟨hR1, had⟩ := hR.push hX hat z1 o1 (n := n.toNatClampNeg)
  have := K H1 hR1
  rw [List.map_cons, mj_vrf] at this
  dsimp only [Option.map_some] at this
  rw [had] at this
  exact this
theorem go_gets {idx i : Nat} {nm : String} (hi : i < 2) (hnm : (if i = 0 then "EAST" else "SOUTH") = nm) (hd : decode mi.2.1 pc = .ok (.getstatic idx, 3)) (hw : Cond.fieldLink mi.1.cls idx "WideTurn" nm "[I" ∈ mj_tbl) (B : Go mi d h0 (pc + 3) lv (va_rf (some i) :: st) h pc2 lv2 st2 h2) : Go mi d h0 pc lv st h pc2 lv2 st2 h2 := by
  refine Go.one (fun G p e R s m args below meth c Q cells slots H locs ls hF hX g3 g4 hR hl K => ?_) B
  have hts := hF.2.2.2.2.1
  obtain ⟨cf, kf, fi, f, a, cell, w1, w2, w3, w4, w5, w6, w7, w8⟩ := hR.2.2.2.2.2.1 i hi
  rw [hnm] at w1
  have K' := K ls hl
  rw [List.map_cons, mj_vrf] at K'
  exact W.gets hF.1 hF.2.1 hF.2.2.2.1 (hts _ hw) w1 w2 w3 w4 w5 (fun e => by rw [e] at w6; cases w6) w7 rfl hd K'
/-- whether an object of class c is one of class C: 1, 0 -/
def mj_is (c : Nat) (C : String) : Option Bool := match mj_cl[c]? with
  | some q => if q.1 = C ∨ Cond.castable q.1 C ∈ mj_bad then some true else if (q.1, C) ∈ mj_nc then some false else none
  | none => none
theorem go_inst {idx : Nat} {o : Option Nat} {C : String} {c : Nat} {fs : List Value} {b : Bool} (hd : decode mi.2.1 pc = .ok (.instanceof idx, 3)) (hw : Cond.classLink mi.1.cls idx C ∈ mj_tbl) (hg : mj_obj h o = some (c, fs)) (hne : fs ≠ []) (hb : mj_is c C = some b) (B : Go mi d h0 (pc + 3) lv (.int (if b then 1 else 0) :: st) h pc2 lv2 st2 h2) : Go mi d h0 pc lv (va_rf o :: st) h pc2 lv2 st2 h2 := by
  cases o with
  | none => simp [mj_obj] at hg
  | some a =>
    have ha : h.1 a = .inr (.inr (c, fs)) := by
      simp only [mj_obj] at hg
      split at hg
      · next q e => cases hg; exact e
      · cases hg
    refine Go.one (fun G p e R s m args below meth cd Q cells slots H locs ls hF hX g3 g4 hR hl K => ?_) B
    have hts := hF.2.2.2.2.1
    obtain ⟨h3, hlt, hat⟩ := mj_obj_at hR ha hne
    unfold mj_is at hb
    cases hcq : mj_cl[c]? with
    | none => rw [hcq] at hb; cases hb
    | some r =>
      rw [hcq] at hb
      dsimp only at hb
      have hrec := va_recv hX.1 (mj_P1 hat) (q0 := 0) hcq rfl
      by_cases h1 : r.1 = C ∨ Cond.castable r.1 C ∈ mj_bad
      · rw [if_pos h1] at hb
        have hb' : b = true := (Option.some.inj hb).symm
        subst hb'
        rcases h1 with h1 | h1
        · refine va_instS hF.1 hF.2.1 hF.2.2.2.1 (hts _ hw) (cC := G.D.1 c) ?_ (by rw [← h1]; exact hrec) hd (K ls hl)
          rw [← h1]
          exact (hX.1.1 c _ hcq).2
        · exact va_instY hF.1 hF.2.1 hF.2.2.2.1 (hts _ hw) (hX.2.2.2.1 _ h1) hrec hd (K ls hl)
      · rw [if_neg h1] at hb
        by_cases h4 : (r.1, C) ∈ mj_nc
        · rw [if_pos h4] at hb
          have hb' : b = false := (Option.some.inj hb).symm
          subst hb'
          exact va_instNo hF.1 hF.2.1 hF.2.2.2.1 (hts _ hw) (hX.2.2.2.2 _ h4) hrec hd (K ls hl)
        · rw [if_neg h4] at hb; cases hb
theorem go_cpy {idx : Nat} {o : Option Nat} {sp dp n : Int32} (hd1 : 1 ≤ d) (hst : (st.map fun v => v.category).sum ≤ 8) (hd : decode mi.2.1 pc = .ok (.invokestatic idx, 3)) (hw1 : Cond.methodLink mi.1.cls idx arraycopyName ∈ mj_tbl) (hw2 : Cond.native arraycopyName ∈ mj_tbl) (hw3 : Cond.static arraycopyName ∈ mj_tbl) (hw4 : Cond.initialized "java/lang/System" ∈ mj_tbl) (hg : cpy h o sp dp n = some h1) (B : Go mi d h0 (pc + 3) lv st h1 pc2 lv2 st2 h2) : Go mi d h0 pc lv (.int n :: .int dp :: va_rf o :: .int sp :: va_rf o :: st) h pc2 lv2 st2 h2 := by
  unfold cpy at hg
  obtain ⟨⟨t, N, f⟩, hq, hk⟩ := Option.bind_eq_some_iff.mp hg
  dsimp only at hk
  by_cases hc : t = 0 ∧ 3 ≤ o.getD 0 ∧ 0 ≤ sp ∧ 0 ≤ dp ∧ 0 ≤ n ∧ sp.toNatClampNeg + n.toNatClampNeg ≤ N ∧ dp.toNatClampNeg + n.toNatClampNeg ≤ N
  · rw [if_pos hc] at hk
    obtain ⟨rfl, h3, c1, c2, c3, c4, c5⟩ := hc
    obtain ⟨a, rfl, ha⟩ := mj_arr_spec hq
    have h3 : 3 ≤ a := h3
    have hh1 : h1 = mj_up h a (.inl (0, N, va_cpy f f sp.toNatClampNeg dp.toNatClampNeg n.toNatClampNeg)) := (Option.some.inj hk).symm
    refine Go.wr (by rw [hh1]; rfl) (fun G p e R s m args below meth cd Q cells slots H locs ls hF hX g3 g4 hR hl K => ?_) B
    have hts := hF.2.2.2.2.1
    have nn : ∀ z : Int32, 0 ≤ z → z.toInt = (z.toNatClampNeg : Int) := by
      intro z hz
      have hz0 : (0 : Int) ≤ z.toInt := by simpa using Int32.le_iff_toInt_le.mp hz
      show z.toInt = ((z.toInt.toNat : Nat) : Int)
      omega
    have hno : ∀ z : Int32, 0 ≤ z → ¬ z < 0 := fun z hz => Int32.not_lt.mpr hz
    obtain ⟨hlt, hcl⟩ := mj_arr_at hR ha h3
    obtain ⟨-, k0, hk0, cm0, hkk0⟩ := (hX.1.2 0 _ (mj_tys_at G (by decide))).1 N (fun j => .int (f j))
    intro T hT X
    obtain ⟨vm', X', step⟩ := X.arraycopy hF.1 hF.2.2.2.1 (hts _ hw1) (hts _ hw2) (hts _ hw3) (hts _ hw4) (src := G.ad a) (dst := G.ad a) (cs := vp_cell (G.cA 0) (N, .inl f)) (cd := vp_cell (G.cA 0) (N, .inl f)) (srcPos := sp) (destPos := dp) (n := n) (by rw [hT]; exact hcl) (by rw [hT]; exact hcl)
      (fun _ h => by cases h) (fun _ h => by cases h) (fun h => by cases h) (fun h => by cases h) hk0 hk0 hkk0 hkk0 (by simp [mj_aty, refKind]) (hno _ c1) (hno _ c2) (hno _ c3)
      (by rw [nn sp c1, nn n c3]; show ¬ _ > ((arrV (G.cA 0) N (fun j => .int (f j))).slots.size : Int); rw [arrV_size]; omega)
      (by rw [nn dp c2, nn n c3]; show ¬ _ > ((arrV (G.cA 0) N (fun j => .int (f j))).slots.size : Int); rw [arrV_size]; omega)
      (fun vm₁ _ i hi => by
        have e : (vp_cell (G.cA 0) (N, .inl f)).slots.getD (sp.toNatClampNeg + i) .null = .int (f (sp.toNatClampNeg + i)) := by
          show (arrV (G.cA 0) N (fun j => .int (f j))).slots.getD _ _ = _
          rw [Array.getD_eq_getD_getElem?, arrV_read _ _ (by omega)]
          rfl
        refine ⟨?_, ?_⟩
        · rw [e]
          rfl
        · rw [e]
          exact trivial)
      (g := F0 m pc ls (.int n :: .int dp :: .ref (G.ad a) :: .int sp :: .ref (G.ad a) :: st.map (mj_v G.ad))) rfl (by rw [hF.2.2.1]; exact hl.1) (rest := st.map (mj_v G.ad)) rfl (by rw [hF.2.1]; exact hd) (Nat.le_trans hd1 g4) (by
        have e5 : ((st.map (mj_v G.ad)).map fun v => v.category).sum = (st.map fun v => v.category).sum := by
          rw [List.map_map]
          congr 1
          exact List.map_congr_left fun v _ => mj_cat G.ad v
        show 2 * 0 + _ + _ ≤ _
        rw [e5]
        have e6 : nativeFrameWords "java/lang/System" "arraycopy" 5 + 11 ≤ 20 := by decide
        omega)
    have e1 : copied (vp_cell (G.cA 0) (N, .inl f)) (vp_cell (G.cA 0) (N, .inl f)) sp dp n = vp_cell (G.cA 0) (N, .inl (va_cpy f f sp.toNatClampNeg dp.toNatClampNeg n.toNatClampNeg)) := va_copied (fun z => .int z) (G.cA 0) (G.cA 0) f f c4
    rw [e1] at X' step
    have hsz : G.ad a < H.size := (Array.getElem?_eq_some_iff.mp hcl).1
    have hheap : ((T.setVm vm').setCell (G.ad a) (vp_cell (G.cA 0) (N, .inl (va_cpy f f sp.toNatClampNeg dp.toNatClampNeg n.toNatClampNeg)))).heap = H.setIfInBounds (G.ad a) (vp_cell (G.cA 0) (N, .inl (va_cpy f f sp.toNatClampNeg dp.toNatClampNeg n.toNatClampNeg))) := by rw [← hT]; rfl
    have oq : ∀ q : Nat, q ≠ G.ad a → (H.setIfInBounds (G.ad a) (vp_cell (G.cA 0) (N, .inl (va_cpy f f sp.toNatClampNeg dp.toNatClampNeg n.toNatClampNeg))))[q]? = H[q]? := fun q hq => by simp [Array.getElem?_setIfInBounds, Ne.symm hq]
    have hR1 := hR.put (c := .inl (0, N, va_cpy f f sp.toNatClampNeg dp.toNatClampNeg n.toNatClampNeg)) (locs1 := ((vp_cell (G.cA 0) (N, .inl f)).stretch sp.toNatClampNeg n.toNatClampNeg).zipIdx.map fun (q : Value × Nat) => (⟨G.ad a, dp.toNatClampNeg + q.2⟩ : Loc)) hX h3 hlt (show (H.setIfInBounds (G.ad a) _)[G.ad a]? = some _ by simp [Array.getElem?_setIfInBounds, hsz, mj_e]) (by simp) oq (fun q hq => by obtain ⟨z, -, rfl⟩ := List.mem_map.mp hq; rfl)
    rw [← hh1] at hR1
    obtain ⟨t, a1, b1⟩ := K _ _ hR1 _ hheap X'
    exact ⟨t, step t a1, b1⟩
  · rw [if_neg hc] at hk; cases hk
end GO4
end
section
/-! ===== a method's contract, and how it is called ===== -/
theorem mj_Fx.move {G : CX} {s U : State} (hW : s.WarmedH U.vm) (h : mj_Fx G s) : mj_Fx G U :=
  ⟨va_K.moved hW.alike h.1, h.2.1, h.2.2.1, fun w hw => mj_keep hW (List.mem_filter.mp hw).2 (h.2.2.2.1 w hw), fun q hq => (h.2.2.2.2 q hq).moved hW.alike⟩
theorem mj_Rep.move {G : CX} {s U : State} {h : MH} {H : Heap} {locs locs1 : List Loc} (hA : s.vm.Alike U.vm) (hR : mj_Rep G s h H locs) (hq : ∀ q, q < G.base → H[q]? = U.heap[q]?) (hb : G.base ≤ U.heap.size) (hL : ∀ q ∈ locs1, G.base ≤ q.base) : mj_Rep G U h H locs1 := by
  obtain ⟨r1, r2, r3, r4, r5, r6, r7, r8, r9⟩ := hR
  refine ⟨r1, r2, r3, r4, fun i hi => ?_, fun i hi => (r6 i hi).moved hA, hq, hb, hL⟩
  obtain ⟨n, f, e1, e2⟩ := r5 i hi
  exact ⟨n, f, e1, e2.moved hA⟩
def mj_Pc (G : CX) (av : List Value) (h : MH) : Array Value → State → Prop := fun a U => a = (av.map (mj_v G.ad)).toArray ∧ mj_Fx G U ∧ mj_Rep G U h U.heap []
def mj_Qc (G : CX) (r : Option Value) (h1 : MH) : Array Value → State → Outcome → State → Prop := fun _ st o t => o = .returned (r.map (mj_v G.ad)) ∧ mj_Rep G t h1 t.heap [] ∧ ∀ q, q < G.base → t.heap[q]? = st.heap[q]?
def mj_ws (mi : MI) : List Cond := Cond.code mi.1 mi.2.1 mi.2.2.1 mi.2.2.2 :: mj_tbl
/-- method mi, called with av on the heap h, returns r, and the heap is h1 -/
def Mt (mi : MI) (d : Nat) (av : List Value) (h : MH) (r : Option Value) (h1 : MH) : Prop :=
  h.2.1 ≤ h1.2.1 ∧ h.2.2 ≤ h1.2.2 ∧ ∀ G : CX, Met G.l mi.1 (mj_ws mi) { frames := d, cells := h1.2.1 - h.2.1, slots := h1.2.2 - h.2.2, locals := 64 * d } (mj_Pc G av h) (mj_Qc G r h1) (h1.2.1 - h.2.1) (h1.2.2 - h.2.2) (fun q => G.base ≤ q)
theorem mj_rfc (o : Option Nat) : (va_rf o).category = 1 := by cases o <;> rfl
theorem mj_sl (ad : Nat → Nat) (av : List Value) : (lg_sl (av.map (mj_v ad))).length = (av.map Value.category).sum := by
  induction av with
  | nil => rfl
  | cons v vs ih =>
    have e : lg_sl ((v :: vs).map (mj_v ad)) = (if v.category = 2 then [.val (mj_v ad v), .second] else [.val (mj_v ad v)]) ++ lg_sl (vs.map (mj_v ad)) := by
      simp [lg_sl, mj_cat]
    rw [e, List.length_append, ih, List.map_cons, List.sum_cons]
    rcases lv_cat v with h | h <;> simp [h]
theorem mj_largs (ad : Nat → Nat) (av : List Value) : ∀ i, lv_args i (av.map (mj_v ad)) = mj_l ad (lv_args i av) := by
  induction av with
  | nil => intro i; rfl
  | cons v vs ih =>
    intro i
    show (i, mj_v ad v) :: lv_args (if (mj_v ad v).category = 2 then i + 2 else i + 1) (vs.map (mj_v ad)) = (i, mj_v ad v) :: mj_l ad (lv_args _ vs)
    rw [ih, mj_cat]
theorem mj_endQ {G : CX} {s t : State} {h1 : MH} {H : Heap} {locs : List Loc} {args : Array Value} {r : Option Value} (hR : mj_Rep G s h1 H locs) (ht : t.heap = H) (hW : s.WarmedH t.vm) : mj_Qc G r h1 args s (.returned (r.map (mj_v G.ad))) t := by
  refine ⟨rfl, ?_, ?_⟩
  · rw [ht]
    refine hR.move hW.alike (fun q _ => by rw [ht]) ?_ (fun _ h => by cases h)
    rw [ht]
    have h1 := hR.1
    have h2 := hR.2.1
    omega
  · intro q hq
    rw [ht]
    exact hR.2.2.2.2.2.2.1 q hq
/-- from the walk of its body to its contract; 'fin' is what its return does -/
theorem Mt.of {mi : MI} {d : Nat} {av : List Value} {h h1 : MH} {r : Option Value} {lv lv1 : List (Nat × Value)} {pc1 : Nat} (hy : plainName mi.1.cls = true) (hlv : lv_args 0 av = lv) (hn : (av.map Value.category).sum ≤ mi.2.2.1)
    (A : Go mi d h 0 lv [] h pc1 lv1 r.toList h1)
    (fin : ∀ (G : CX) (p : Program) (e : Env) (R : Room) (s : State) (m : MethodId) (args : Array Value) (below : List Frame) (meth : Method) (c : Code) (cells slots : Nat) (H : Heap) (locs : List Loc) (ls : Array Slot) (Qc : Array Value → State → Outcome → State → Prop), mj_Fr mi p s m args meth c → (∀ t : State, t.heap = H → s.WarmedH t.vm → Qc args s (.returned (r.map (mj_v G.ad))) t) → (∀ q ∈ locs, G.base ≤ q.base) →
      W p G.l e R s m args below meth c H locs cells slots (MQ below Qc args s cells slots (fun q => G.base ≤ q)) (F0 m pc1 ls (r.toList.map (mj_v G.ad)))) : Mt mi d av h r h1 := by
  obtain ⟨a1, a2, a3⟩ := A
  refine ⟨a1, a2, fun G => Met.ofW (cc := mi.2.1) (maxL := mi.2.2.1) (ret := mi.2.2.2) (ws' := mj_tbl) hy rfl ?_⟩
  intro p e s m args below meth c s₁ B hml hv
  obtain ⟨rfl, hX, hR⟩ := hv
  have hts : ∀ w ∈ mj_tbl, w.before (av.map (mj_v G.ad)).toArray s = true := fun w hw => atoms_spec (ws := mj_ws mi) B.pre w (List.mem_cons_of_mem _ hw)
  have hF : mj_Fr mi p s m (av.map (mj_v G.ad)).toArray meth c := ⟨B.exec, B.bytes, hml, findClass_of_methodNamed B.named, hts, (name_of_methodNamed B.named B.method).1, B.returns, B.notSynchronized⟩
  have hl := lv_entry (av.map (mj_v G.ad)) (n := mi.2.2.1) (by rw [mj_sl]; exact hn)
  rw [lg_entry_eq]
  generalize (lg_sl (av.map (mj_v G.ad)) ++ List.replicate (mi.2.2.1 - (lg_sl (av.map (mj_v G.ad))).length) Slot.unset).toArray = ls at hl ⊢
  rw [mj_largs, hlv] at hl
  have K := a3 G p e { frames := d, cells := h1.2.1 - h.2.1, slots := h1.2.2 - h.2.2, locals := 64 * d } s m (av.map (mj_v G.ad)).toArray below meth c (MQ below (mj_Qc G r h1) (av.map (mj_v G.ad)).toArray s (h1.2.1 - h.2.1) (h1.2.2 - h.2.2) (fun q => G.base ≤ q)) hF hX (Nat.le_refl _) (Nat.le_refl _) (Nat.le_refl _) (Nat.le_refl _) (Nat.le_refl _) (Nat.le_refl _)
    (fun H locs ls hR1 _ => fin G p e _ s m _ below meth c _ _ H locs ls (mj_Qc G r h1) hF (fun t ht hW => mj_endQ hR1 ht hW) hR1.2.2.2.2.2.2.2.2) s.heap [] ls hR hl
  rw [Nat.sub_self, Nat.sub_self] at K
  exact K
theorem Mt.ofi {mi : MI} {d : Nat} {av : List Value} {h h1 : MH} {v : Int32} {lv lv1 : List (Nat × Value)} {pc1 : Nat} {ty : FieldType} (hy : plainName mi.1.cls = true) (hlv : lv_args 0 av = lv) (hn : (av.map Value.category).sum ≤ mi.2.2.1) (hr : mi.2.2.2 = some ty) (hnr : narrow ty (.int v) = .int v) (hd : decode mi.2.1 pc1 = .ok (.ireturn, 1))
    (A : Go mi d h 0 lv [] h pc1 lv1 [.int v] h1) : Mt mi d av h (some (.int v)) h1 :=
  Mt.of (r := some (.int v)) hy hlv hn A (fun G p e R s m args below meth c cells slots H locs ls Qc hF hq hf => W.zret hF.1 hF.2.1 (hF.2.2.2.2.2.2.1.trans hr) hnr hq hf hd hF.2.2.2.2.2.2.2)
theorem Mt.ofl {mi : MI} {d : Nat} {av : List Value} {h h1 : MH} {v : Int64} {lv lv1 : List (Nat × Value)} {pc1 : Nat} (hy : plainName mi.1.cls = true) (hlv : lv_args 0 av = lv) (hn : (av.map Value.category).sum ≤ mi.2.2.1) (hr : mi.2.2.2 = some .long) (hd : decode mi.2.1 pc1 = .ok (.lreturn, 1))
    (A : Go mi d h 0 lv [] h pc1 lv1 [.long v] h1) : Mt mi d av h (some (.long v)) h1 :=
  Mt.of (r := some (.long v)) hy hlv hn A (fun G p e R s m args below meth c cells slots H locs ls Qc hF hq hf => W.lret hF.1 hF.2.1 (hF.2.2.2.2.2.2.1.trans hr) hq hf hd hF.2.2.2.2.2.2.2)
theorem Mt.ofv {mi : MI} {d : Nat} {av : List Value} {h h1 : MH} {lv lv1 : List (Nat × Value)} {pc1 : Nat} (hy : plainName mi.1.cls = true) (hlv : lv_args 0 av = lv) (hn : (av.map Value.category).sum ≤ mi.2.2.1) (hr : mi.2.2.2 = none) (hd : decode mi.2.1 pc1 = .ok (.return_, 1))
    (A : Go mi d h 0 lv [] h pc1 lv1 [] h1) : Mt mi d av h none h1 :=
  Mt.of (r := none) hy hlv hn A (fun G p e R s m args below meth c cells slots H locs ls Qc hF hq hf => W.vret hF.1 hF.2.1 (hF.2.2.2.2.2.2.1.trans hr) hq hf hd hF.2.2.2.2.2.2.2)
theorem Mt.ofr {mi : MI} {d : Nat} {av : List Value} {h h1 : MH} {o : Option Nat} {lv lv1 : List (Nat × Value)} {pc1 : Nat} {nm : String} (hy : plainName mi.1.cls = true) (hlv : lv_args 0 av = lv) (hn : (av.map Value.category).sum ≤ mi.2.2.1) (hr : mi.2.2.2 = some (.object nm)) (hd : decode mi.2.1 pc1 = .ok (.areturn, 1))
    (A : Go mi d h 0 lv [] h pc1 lv1 [va_rf o] h1) : Mt mi d av h (some (va_rf o)) h1 :=
  Mt.of (r := some (va_rf o)) hy hlv hn A (fun G p e R s m args below meth c cells slots H locs ls Qc hF hq hf => by
    have e1 : (some (va_rf o)).toList.map (mj_v G.ad) = [va_rf (o.map G.ad)] := by simp [mj_vrf]
    have e2 : (some (va_rf o)).map (mj_v G.ad) = some (va_rf (o.map G.ad)) := by simp [mj_vrf]
    rw [e1]
    rw [e2] at hq
    exact W.aret hF.1 hF.2.1 (hF.2.2.2.2.2.2.1.trans hr) (Or.inl ⟨nm, rfl⟩) (by cases o with | none => exact Or.inl rfl | some a => exact Or.inr ⟨_, rfl⟩) hq hf hd hF.2.2.2.2.2.2.2)
/-! ===== calls ===== -/
/-- what every call of method mi asks of the tables; n: its arguments -/
def mj_M (mi : MI) (n : Nat) : Prop := Cond.code mi.1 mi.2.1 mi.2.2.1 mi.2.2.2 ∈ mj_tbl ∧ Cond.initialized mi.1.cls ∈ mj_tbl ∧ (mi.1.cls ≠ "java/lang/invoke/MethodHandle" ∧ mi.1.cls ≠ "java/lang/invoke/VarHandle") ∧ (parseMethodDescriptor mi.1.desc).map (fun d => d.parameters.length) = some n ∧ mi.2.2.1 ≤ 40
theorem mj_wsIn {mi : MI} {n : Nat} (h : mj_M mi n) : GoodIn mj_tbl (mj_ws mi) := fun w hw => by
  rcases List.mem_cons.mp hw with rfl | hw
  · exact mj_tblIn _ h.1
  · exact mj_tblIn _ hw
theorem mj_blind (G : CX) (av : List Value) (h : MH) : FrameBlind (mj_Pc G av h) := by
  intro a U g mk q
  obtain ⟨h1, h2, h3⟩ := q
  exact ⟨h1, mj_Fx.move (s := U) (U := U.calling g mk a) (State.WarmedH.refl U) h2, mj_Rep.move (s := U) (U := U.calling g mk a) (Vm.Alike.refl U.vm) h3 (fun q _ => rfl) h3.2.2.2.2.2.2.2.1 (fun _ h => by cases h)⟩
theorem mj_start {G : CX} {s U : State} {h : MH} {H : Heap} {locs : List Loc} (hX : mj_Fx G s) (hR : mj_Rep G s h H locs) (hU : U.heap = H) (hW : s.WarmedH U.vm) (av : List Value) : mj_Pc G av h (av.map (mj_v G.ad)).toArray U := by
  refine ⟨rfl, hX.move hW, ?_⟩
  rw [hU]
  refine hR.move hW.alike (fun q _ => by rw [hU]) ?_ (fun _ h => by cases h)
  rw [hU]
  have h1 := hR.1
  have h2 := hR.2.1
  omega
section GO5
variable {mi mi2 : MI} {d d2 : Nat} {h0 : MH} {pc pc1 pc2 : Nat} {lv lv2 : List (Nat × Value)} {st st1 st2 : List Value} {h h1 h2 : MH} {r : Option Value}
/-- behind a call -/
theorem mj_back {G : CX} {p : Program} {e : Env} {R : Room} {s : State} {m : MethodId} {args : Array Value} {below : List Frame} {meth : Method} {c : Code} {Q : State → Prop} {H : Heap} {locs : List Loc} {cells slots mc ms : Nat} {ls : Array Slot} {st0 rest : List Value} {a : Array Value} {pc : Nat}
    (hr : va_Run p G.l e R s m args below meth c H locs cells slots mc ms (F0 m pc ls st0) rest (mj_Qc G r h1 a) (fun q => G.base ≤ q)) (hR : mj_Rep G s h H locs)
    (kk : ∀ (H1 : Heap) (locs1 : List Loc), mj_Rep G s h1 H1 locs1 → W p G.l e R s m args below meth c H1 locs1 (cells + mc) (slots + ms) Q (F0 m (pc + 3) ls ((r.map (mj_v G.ad)).toList ++ rest))) : W p G.l e R s m args below meth c H locs cells slots Q (F0 m pc ls st0) := by
  intro T hT X
  obtain ⟨v, st₀, t, T', L, e0, X', hL, e1, e2, ⟨hv, hR1, hq⟩, st⟩ := hr T hT X
  cases hv
  have hA : t.vm.Alike s.vm := by rw [← e2]; exact X'.warmed.alike.symm
  have hR2 : mj_Rep G s h1 T'.heap (locs ++ L) := by
    rw [e1]
    refine hR1.move hA (fun q hq1 => ?_) hR.2.2.2.2.2.2.2.1 (fun q hq1 => ?_)
    · rw [hq q hq1, e0]
      exact hR.2.2.2.2.2.2.1 q hq1
    · rcases List.mem_append.mp hq1 with h | h
      · exact hR.2.2.2.2.2.2.2.2 q h
      · exact hL q h
  obtain ⟨t2, a1, b1⟩ := kk T'.heap (locs ++ L) hR2 T' rfl X'
  exact ⟨t2, st t2 a1, b1⟩
/-- a call, in general: how it runs is the rows' business -/
theorem Go.call {av : List Value} (hM : Mt mi2 d2 av h r h1) (hd2 : d2 + 1 ≤ d)
    (A : ∀ (G : CX) (p : Program) (e : Env) (R : Room) (s : State) (m : MethodId) (args : Array Value) (below : List Frame) (meth : Method) (c : Code) (cells slots : Nat) (H : Heap) (locs : List Loc) (ls : Array Slot),
      mj_Fr mi p s m args meth c → mj_Fx G s → d ≤ R.frames → 64 * d ≤ R.locals → cells + (h1.2.1 - h.2.1) ≤ R.cells ∧ slots + (h1.2.2 - h.2.2) ≤ R.slots → mj_Rep G s h H locs → lv_has ls mi.2.2.1 (mj_l G.ad lv) →
      va_Run p G.l e R s m args below meth c H locs cells slots (h1.2.1 - h.2.1) (h1.2.2 - h.2.2) (F0 m pc ls (st1.map (mj_v G.ad))) (st.map (mj_v G.ad)) (mj_Qc G r h1 (av.map (mj_v G.ad)).toArray) (fun q => G.base ≤ q))
    (B : Go mi d h0 (pc + 3) lv (r.toList ++ st) h1 pc2 lv2 st2 h2) : Go mi d h0 pc lv st1 h pc2 lv2 st2 h2 := by
  obtain ⟨b1, b2, b3⟩ := B
  obtain ⟨m1, m2, -⟩ := hM
  refine ⟨Nat.le_trans m1 b1, Nat.le_trans m2 b2, fun G p e R s m args below meth c Q hF hX g1 g2 g3 g4 g5 g6 hQ H locs ls hR hl => ?_⟩
  refine mj_back (A G p e R s m args below meth c _ _ H locs ls hF hX g3 g4 (by omega) hR hl) hR (fun H1 locs1 hR1 => ?_)
  have K := b3 G p e R s m args below meth c Q hF hX (Nat.le_trans g1 m1) (Nat.le_trans g2 m2) g3 g4 g5 g6 hQ H1 locs1 ls hR1 hl
  have e1 : h.2.1 - h0.2.1 + (h1.2.1 - h.2.1) = h1.2.1 - h0.2.1 := by omega
  have e2 : h.2.2 - h0.2.2 + (h1.2.2 - h.2.2) = h1.2.2 - h0.2.2 := by omega
  rw [e1, e2]
  have e3 : (r.map (mj_v G.ad)).toList ++ st.map (mj_v G.ad) = (r.toList ++ st).map (mj_v G.ad) := by cases r <;> rfl
  rw [e3]
  exact K
theorem mj_rm {hd2 : d2 + 1 ≤ d} {n : Nat} (hm : mj_M mi2 n) {R : Room} (g3 : d ≤ R.frames) (g4 : 64 * d ≤ R.locals) : d2 + 1 ≤ R.frames ∧ 8 + (mi2.2.2.1 + 11) + 64 * d2 ≤ R.locals := by
  have h1 := hm.2.2.2.2
  have h2 : 64 * (d2 + 1) ≤ 64 * d := Nat.mul_le_mul_left 64 hd2
  omega
theorem mj_rest {ad : Nat → Nat} {st : List Value} {m : MethodId} {pc : Nat} {ls : Array Slot} {st0 : List Value} (hst : st.length ≤ 4) : 2 * (F0 m pc ls st0).monitorRoom + ((st.map (mj_v ad)).map fun v => v.category).sum ≤ 8 := by
  refine lv_room ?_
  have key : ∀ (l : List Value), (l.map fun v => v.category).sum ≤ 2 * l.length := by
    intro l
    induction l with
    | nil => exact Nat.le_refl _
    | cons v t ih =>
      rw [List.map_cons, List.sum_cons, List.length_cons]
      rcases lv_cat v with h | h <;> omega
  have := key (st.map (mj_v ad))
  rw [List.length_map] at this
  omega
theorem mj_rev {ad : Nat → Nat} (As st : List Value) : (As.reverse ++ st).map (mj_v ad) = (As.map (mj_v ad)).reverse ++ st.map (mj_v ad) := by
  rw [List.map_append, List.map_reverse]
/-- a static method, of any class -/
theorem go_callS {idx n : Nat} (As : List Value) (hM : Mt mi2 d2 As h r h1) (hm : mj_M mi2 n) (hd2 : d2 + 1 ≤ d) (hd : decode mi.2.1 pc = .ok (.invokestatic idx, 3)) (hl : Cond.methodLink mi.1.cls idx mi2.1 ∈ mj_tbl) (hs : Cond.static mi2.1 ∈ mj_tbl) (hn : As.length = n) (hst : st.length ≤ 4) (hstk : As.reverse ++ st = st1)
    (B : Go mi d h0 (pc + 3) lv (r.toList ++ st) h1 pc2 lv2 st2 h2) : Go mi d h0 pc lv st1 h pc2 lv2 st2 h2 := by
  subst hstk
  refine Go.call hM hd2 (fun G p e R s m args below meth c cells slots H locs ls hF hX g3 g4 g5 hR hlv => ?_) B
  have hts := hF.2.2.2.2.1
  have rm := mj_rm (hd2 := hd2) hm g3 g4
  refine va_runS (As := As.map (mj_v G.ad)) (Ts := mj_tbl) ⟨hF.1, hF.2.1, hF.2.2.1, hF.2.2.2.1, hts⟩ (hM.2.2 G) ⟨callB_of n hts (mj_wsIn hm) rfl rfl rfl (hts _ hm.2.1) (hts _ hl) ⟨hm.2.2.1.1, hm.2.2.1.2, hm.2.2.2.1⟩ rm, hts _ hs⟩ ⟨mj_blind G As h, fun U hU hW => mj_start hX hR hU hW As⟩ rfl (by rw [List.length_map]; exact hn) hlv.1 (mj_rev As st) (mj_rest hst) hd g5
/-- a static method of a nest mate, that is private there -/
theorem go_callSN {idx n : Nat} {host : String} (As : List Value) (hM : Mt mi2 d2 As h r h1) (hm : mj_M mi2 n) (hd2 : d2 + 1 ≤ d) (hd : decode mi.2.1 pc = .ok (.invokestatic idx, 3)) (hl : Cond.methodLinkNest mi.1.cls idx mi2.1 host ∈ mj_bad) (hs : Cond.static mi2.1 ∈ mj_tbl) (hn : As.length = n) (hst : st.length ≤ 4) (hstk : As.reverse ++ st = st1)
    (B : Go mi d h0 (pc + 3) lv (r.toList ++ st) h1 pc2 lv2 st2 h2) : Go mi d h0 pc lv st1 h pc2 lv2 st2 h2 := by
  subst hstk
  refine Go.call hM hd2 (fun G p e R s m args below meth c cells slots H locs ls hF hX g3 g4 g5 hR hlv => ?_) B
  have hts := hF.2.2.2.2.1
  have rm := mj_rm (hd2 := hd2) hm g3 g4
  refine va_runSN (As := As.map (mj_v G.ad)) (Ts := mj_tbl) ⟨hF.1, hF.2.1, hF.2.2.1, hF.2.2.2.1, hts⟩ (hM.2.2 G) ⟨va_cnB n hts (mj_wsIn hm) rfl rfl rfl (hX.2.2.2.1 _ hl) (hts _ hm.2.1) ⟨hm.2.2.1.1, hm.2.2.1.2, hm.2.2.2.1⟩ rm, hts _ hs, trivial⟩ ⟨mj_blind G As h, fun U hU hW => mj_start hX hR hU hW As⟩ rfl (by rw [List.length_map]; exact hn) hlv.1 (mj_rev As st) (mj_rest hst) hd g5
theorem mj_objS {o : Option Nat} {c : Nat} {fs : List Value} (hg : mj_obj h o = some (c, fs)) : ∃ a, o = some a ∧ h.1 a = .inr (.inr (c, fs)) := by
  cases o with
  | none => simp [mj_obj] at hg
  | some a =>
    simp only [mj_obj] at hg
    split at hg
    · next q e => cases hg; exact ⟨a, rfl, e⟩
    · cases hg
/-- the class of the object at o -/
def cls (h : MH) (o : Option Nat) : Option Nat := (mj_obj h o).bind fun q => if q.2 = [] then none else some q.1
theorem cls_spec {o : Option Nat} {c : Nat} (hg : cls h o = some c) : ∃ fs, mj_obj h o = some (c, fs) ∧ fs ≠ [] := by
  unfold cls at hg
  obtain ⟨⟨c', fs⟩, h1, h2⟩ := Option.bind_eq_some_iff.mp hg
  by_cases hf : fs = []
  · rw [if_pos hf] at h2; cases h2
  · rw [if_neg hf] at h2
    cases h2
    exact ⟨fs, h1, hf⟩
/-- an instance method that the receiver's class itself has -/
theorem go_callV {idx n ci : Nat} {o : Option Nat} {q : vw_C} (As : List Value) (hM : Mt mi2 d2 (va_rf o :: As) h r h1) (hm : mj_M mi2 n) (hd2 : d2 + 1 ≤ d) (hd : decode mi.2.1 pc = .ok (.invokevirtual idx, 3)) (hg : cls h o = some ci) (hq : mj_cl[ci]? = some q) (hqc : q.1 = mi2.1.cls) (hl : Cond.methodLink mi.1.cls idx mi2.1 ∈ mj_tbl) (hi : Cond.instanceMethod mi2.1 ∈ mj_tbl) (hs : Cond.selects mi2.1.cls mi2.1 mi2.1 ∈ mj_tbl) (hn : As.length = n) (hst : st.length ≤ 4) (hstk : As.reverse ++ va_rf o :: st = st1)
    (B : Go mi d h0 (pc + 3) lv (r.toList ++ st) h1 pc2 lv2 st2 h2) : Go mi d h0 pc lv st1 h pc2 lv2 st2 h2 := by
  subst hstk
  obtain ⟨fs, hob, hne⟩ := cls_spec hg
  obtain ⟨a, rfl, ha⟩ := mj_objS hob
  refine Go.call hM hd2 (fun G p e R s m args below meth c cells slots H locs ls hF hX g3 g4 g5 hR hlv => ?_) B
  have hts := hF.2.2.2.2.1
  have rm := mj_rm (hd2 := hd2) hm g3 g4
  obtain ⟨h3, hlt, hat⟩ := mj_obj_at hR ha hne
  have hrec := va_recv hX.1 (mj_P1 hat) (q0 := 0) hq rfl
  rw [hqc] at hrec
  refine va_runV (As := As.map (mj_v G.ad)) (b := G.ad a) (Ts := mj_tbl) ⟨hF.1, hF.2.1, hF.2.2.1, hF.2.2.2.1, hts⟩ (hM.2.2 G) ⟨callB_of n hts (mj_wsIn hm) rfl rfl rfl (hts _ hm.2.1) (hts _ hl) ⟨hm.2.2.1.1, hm.2.2.1.2, hm.2.2.2.1⟩ rm, hts _ hi, hts _ hs⟩ ⟨mj_blind G _ h, hrec, fun U hU hW => mj_start hX hR hU hW (va_rf (some a) :: As)⟩ rfl (by rw [List.length_map]; exact hn) hlv.1 (mj_rev As (va_rf (some a) :: st)) (mj_rest hst) hd g5
/-- a method that the reference names as x, and the receiver's class selects as mi2's -/
theorem go_callU {idx n ci : Nat} {o : Option Nat} {q : vw_C} {x : MethodName} {owner : String} (As : List Value) (hM : Mt mi2 d2 (va_rf o :: As) h r h1) (hm : mj_M mi2 n) (hd2 : d2 + 1 ≤ d) (hd : decode mi.2.1 pc = .ok (.invokevirtual idx, 3)) (hg : cls h o = some ci) (hq : mj_cl[ci]? = some q) (hl : Cond.methodLink mi.1.cls idx x ∈ mj_tbl) (hsm : Cond.sameMethod x.cls owner x.name x.desc ∈ mj_tbl)
    (hde : (∃ (b0 : ByteArray) (m0 : Nat) (r0 : Option FieldType), Cond.instanceMethod ⟨owner, x.name, x.desc⟩ ∈ mj_tbl ∧ Cond.code ⟨owner, x.name, x.desc⟩ b0 m0 r0 ∈ mj_tbl) ∨ Cond.declares ⟨owner, x.name, x.desc⟩ ∈ mj_bad)
    (how : (owner ≠ "java/lang/invoke/MethodHandle" ∧ owner ≠ "java/lang/invoke/VarHandle") ∧ (parseMethodDescriptor x.desc).map (fun d => d.parameters.length) = some n)
    (hs : Cond.selects q.1 x mi2.1 ∈ mj_tbl) (hi : Cond.instanceMethod mi2.1 ∈ mj_tbl) (hn : As.length = n) (hst : st.length ≤ 4) (hstk : As.reverse ++ va_rf o :: st = st1)
    (B : Go mi d h0 (pc + 3) lv (r.toList ++ st) h1 pc2 lv2 st2 h2) : Go mi d h0 pc lv st1 h pc2 lv2 st2 h2 := by
  subst hstk
  obtain ⟨fs, hob, hne⟩ := cls_spec hg
  obtain ⟨a, rfl, ha⟩ := mj_objS hob
  refine Go.call hM hd2 (fun G p e R s m args below meth c cells slots H locs ls hF hX g3 g4 g5 hR hlv => ?_) B
  have hts := hF.2.2.2.2.1
  have rm := mj_rm (hd2 := hd2) hm g3 g4
  obtain ⟨h3, hlt, hat⟩ := mj_obj_at hR ha hne
  have hrec := va_recv hX.1 (mj_P1 hat) (q0 := 0) hq rfl
  have hdecl : va_Decl s ⟨owner, x.name, x.desc⟩ := by
    rcases hde with ⟨b0, m0, r0, k1, k2⟩ | k
    · exact va_Decl.of (hts _ k1) (hts _ k2)
    · exact va_Decl.abs (hX.2.2.2.1 _ k)
  refine va_runU (n := n) (As := As.map (mj_v G.ad)) (b := G.ad a) (C := q.1) (owner := owner) (x := x) (Ts := mj_tbl) ⟨hF.1, hF.2.1, hF.2.2.1, hF.2.2.2.1, hts⟩ (hM.2.2 G) ⟨⟨rfl, rfl, rm.1, rm.2, pay_in hts (mj_wsIn hm), List.mem_cons_self⟩, hts _ hm.1, hts _ hm.2.1, how.1, fun sig h => ?_, hts _ hl, hts _ hsm, hdecl, hts _ hs, hts _ hi⟩ ⟨mj_blind G _ h, hrec, fun U hU hW => mj_start hX hR hU hW (va_rf (some a) :: As)⟩ rfl (by rw [List.length_map]; exact hn) hlv.1 (mj_rev As (va_rf (some a) :: st)) (mj_rest hst) hd g5
  have h2 := how.2
  rw [h] at h2
  exact (Option.some.inj h2).symm
/-- super.m(..) -/
theorem go_callSU {idx n ci : Nat} {o : Option Nat} {q : vw_C} (As : List Value) (hM : Mt mi2 d2 (va_rf o :: As) h r h1) (hm : mj_M mi2 n) (hd2 : d2 + 1 ≤ d) (hd : decode mi.2.1 pc = .ok (.invokespecial idx, 3)) (hg : cls h o = some ci) (hq : mj_cl[ci]? = some q) (hl : Cond.methodLink mi.1.cls idx mi2.1 ∈ mj_tbl) (hsm : Cond.sameMethod mi2.1.cls mi2.1.cls mi2.1.name mi2.1.desc ∈ mj_tbl) (hsu : Cond.superclass mi.1.cls mi2.1.cls ∈ mj_tbl) (hi : Cond.instanceMethod mi2.1 ∈ mj_tbl) (hno : mi2.1.name ≠ "<init>") (hn : As.length = n) (hst : st.length ≤ 4) (hstk : As.reverse ++ va_rf o :: st = st1)
    (B : Go mi d h0 (pc + 3) lv (r.toList ++ st) h1 pc2 lv2 st2 h2) : Go mi d h0 pc lv st1 h pc2 lv2 st2 h2 := by
  subst hstk
  obtain ⟨fs, hob, hne⟩ := cls_spec hg
  obtain ⟨a, rfl, ha⟩ := mj_objS hob
  refine Go.call hM hd2 (fun G p e R s m args below meth c cells slots H locs ls hF hX g3 g4 g5 hR hlv => ?_) B
  have hts := hF.2.2.2.2.1
  have rm := mj_rm (hd2 := hd2) hm g3 g4
  obtain ⟨h3, hlt, hat⟩ := mj_obj_at hR ha hne
  have hrec := va_recv hX.1 (mj_P1 hat) (q0 := 0) hq rfl
  refine va_runSU (n := n) (C := q.1) (hX.1.1 ci _ hq).2 (As := As.map (mj_v G.ad)) (b := G.ad a) (Ts := mj_tbl) ⟨hF.1, hF.2.1, hF.2.2.1, hF.2.2.2.1, hts⟩ (hM.2.2 G) ⟨⟨rfl, rfl, rm.1, rm.2, pay_in hts (mj_wsIn hm), List.mem_cons_self⟩, hts _ hl, hts _ hsm, hts _ hsu, hts _ hi, hts _ hm.2.1, hts _ hm.1, hno, fun sig h => ?_⟩ ⟨mj_blind G _ h, hrec, fun U hU hW => mj_start hX hR hU hW (va_rf (some a) :: As)⟩ rfl (by rw [List.length_map]; exact hn) hlv.1 (mj_rev As (va_rf (some a) :: st)) (mj_rest hst) hd g5
  have h2 := hm.2.2.2.1
  rw [h] at h2
  exact (Option.some.inj h2).symm
/-- a constructor; of a nest mate, that is private there -/
theorem go_callI {idx n a : Nat} (As : List Value) (hM : Mt mi2 d2 (va_rf (some a) :: As) h none h1) (hm : mj_M mi2 n) (hret : mi2.2.2.2 = none) (hd2 : d2 + 1 ≤ d) (hd : decode mi.2.1 pc = .ok (.invokespecial idx, 3)) (hl : Cond.methodLink mi.1.cls idx mi2.1 ∈ mj_tbl) (hi : Cond.instanceMethod mi2.1 ∈ mj_tbl) (hno : mi2.1.name = "<init>") (hn : As.length = n) (hst : st.length ≤ 4) (hstk : As.reverse ++ va_rf (some a) :: st = st1)
    (B : Go mi d h0 (pc + 3) lv st h1 pc2 lv2 st2 h2) : Go mi d h0 pc lv st1 h pc2 lv2 st2 h2 := by
  subst hstk
  refine Go.call hM hd2 (fun G p e R s m args below meth c cells slots H locs ls hF hX g3 g4 g5 hR hlv => ?_) B
  have hts := hF.2.2.2.2.1
  have rm := mj_rm (hd2 := hd2) hm g3 g4
  obtain ⟨y2, cc2, nL2, ret2⟩ := mi2
  dsimp only at hret
  subst hret
  refine va_runI (As := As.map (mj_v G.ad)) (b := G.ad a) (Ts := mj_tbl) ⟨hF.1, hF.2.1, hF.2.2.1, hF.2.2.2.1, hts⟩ (hM.2.2 G) ⟨callB_of n hts (mj_wsIn hm) rfl rfl rfl (hts _ hm.2.1) (hts _ hl) ⟨hm.2.2.1.1, hm.2.2.1.2, hm.2.2.2.1⟩ rm, hno, hts _ hi⟩ ⟨mj_blind G _ h, fun U hU hW => mj_start hX hR hU hW (va_rf (some a) :: As)⟩ rfl (by rw [List.length_map]; exact hn) hlv.1 (mj_rev As (va_rf (some a) :: st)) (mj_rest hst) hd g5
theorem go_callIN {idx n a : Nat} {host : String} (As : List Value) (hM : Mt mi2 d2 (va_rf (some a) :: As) h none h1) (hm : mj_M mi2 n) (hret : mi2.2.2.2 = none) (hd2 : d2 + 1 ≤ d) (hd : decode mi.2.1 pc = .ok (.invokespecial idx, 3)) (hl : Cond.methodLinkNest mi.1.cls idx mi2.1 host ∈ mj_bad) (hi : Cond.instanceMethod mi2.1 ∈ mj_tbl) (hno : mi2.1.name = "<init>") (hn : As.length = n) (hst : st.length ≤ 4) (hstk : As.reverse ++ va_rf (some a) :: st = st1)
    (B : Go mi d h0 (pc + 3) lv st h1 pc2 lv2 st2 h2) : Go mi d h0 pc lv st1 h pc2 lv2 st2 h2 := by
  subst hstk
  refine Go.call hM hd2 (fun G p e R s m args below meth c cells slots H locs ls hF hX g3 g4 g5 hR hlv => ?_) B
  have hts := hF.2.2.2.2.1
  have rm := mj_rm (hd2 := hd2) hm g3 g4
  obtain ⟨y2, cc2, nL2, ret2⟩ := mi2
  dsimp only at hret
  subst hret
  refine va_runIN (As := As.map (mj_v G.ad)) (b := G.ad a) (Ts := mj_tbl) ⟨hF.1, hF.2.1, hF.2.2.1, hF.2.2.2.1, hts⟩ (hM.2.2 G) ⟨va_cnB n hts (mj_wsIn hm) rfl rfl rfl (hX.2.2.2.1 _ hl) (hts _ hm.2.1) ⟨hm.2.2.1.1, hm.2.2.1.2, hm.2.2.2.1⟩ rm, hno, hts _ hi⟩ ⟨mj_blind G _ h, fun U hU hW => mj_start hX hR hU hW (va_rf (some a) :: As)⟩ rfl (by rw [List.length_map]; exact hn) hlv.1 (mj_rev As (va_rf (some a) :: st)) (mj_rest hst) hd g5
/-- Object's own constructor -/
theorem go_objI {idx : Nat} {o : Option Nat} (ho : o ≠ none) (hd1 : 1 ≤ d) (hd : decode mi.2.1 pc = .ok (.invokespecial idx, 3)) (hl : Cond.methodLink mi.1.cls idx objectInit ∈ mj_tbl) (hi : Cond.instanceMethod objectInit ∈ mj_tbl) (hc : Cond.code objectInit ⟨#[0xb1]⟩ 1 none ∈ mj_tbl) (hst : st.length ≤ 4) (B : Go mi d h0 (pc + 3) lv st h pc2 lv2 st2 h2) : Go mi d h0 pc lv (va_rf o :: st) h pc2 lv2 st2 h2 := by
  cases o with
  | none => exact absurd rfl ho
  | some a =>
    refine Go.one (fun G p e R s m args below meth c Q cells slots H locs ls hF hX g3 g4 hR hlv K => ?_) B
    have hts := hF.2.2.2.2.1
    refine W.objInit hF.1 hF.2.1 hF.2.2.2.1 (hts _ hl) (hts _ hi) (hts _ hc) rfl (by rw [hF.2.2.1]; exact hlv.1) rfl hd (Nat.le_trans hd1 g3) ?_ (K ls hlv)
    have := mj_rest (ad := G.ad) (m := m) (pc := pc) (ls := ls) (st0 := []) hst
    have h0 : (F0 m pc ls ((va_rf (some a) :: st).map (mj_v G.ad))).monitorRoom = (F0 m pc ls []).monitorRoom := rfl
    rw [h0]
    omega
end GO5
end
section
/-! ===== from a place of a frame to its return ===== -/
def mj_rt (r : Option Value) : Instr := match r with
  | none => .return_
  | some (.int _) => .ireturn
  | some (.long _) => .lreturn
  | some _ => .areturn
/-- what is returned is of the method's type -/
def mj_rk (ret : Option FieldType) (r : Option Value) : Prop := match r with
  | none => ret = none
  | some (.int x) => ∃ ty, ret = some ty ∧ narrow ty (.int x) = .int x
  | some (.long _) => ret = some .long
  | some .null => ∃ nm, ret = some (.object nm)
  | some (.ref _) => ∃ nm, ret = some (.object nm)
  | _ => False
def Rt (mi : MI) (d : Nat) (h0 : MH) (pc : Nat) (lv : List (Nat × Value)) (st : List Value) (h : MH) (r : Option Value) (h2 : MH) : Prop :=
  ∃ (pc1 : Nat) (lv1 : List (Nat × Value)), decode mi.2.1 pc1 = .ok (mj_rt r, 1) ∧ mj_rk mi.2.2.2 r ∧ Go mi d h0 pc lv st h pc1 lv1 r.toList h2
section RT
variable {mi : MI} {d : Nat} {h0 : MH} {pc : Nat} {lv lv1 : List (Nat × Value)} {st st1 : List Value} {h h1 h2 : MH} {r : Option Value}
theorem rt_st {pc1 : Nat} (A : ∀ (pc2 : Nat) (lv2 : List (Nat × Value)), Go mi d h0 pc1 lv1 st1 h1 pc2 lv2 r.toList h2 → Go mi d h0 pc lv st h pc2 lv2 r.toList h2) (B : Rt mi d h0 pc1 lv1 st1 h1 r h2) : Rt mi d h0 pc lv st h r h2 := by
  obtain ⟨pc2, lv2, b1, b2, b3⟩ := B
  exact ⟨pc2, lv2, b1, b2, A pc2 lv2 b3⟩
/-- fewer locals, in any order -/
theorem go_sub {pc2 : Nat} {lv2 : List (Nat × Value)} {st2 : List Value} (ks : List Nat) (hp : lv_pick lv ks = lv1) (B : Go mi d h0 pc lv1 st h pc2 lv2 st2 h2) : Go mi d h0 pc lv st h pc2 lv2 st2 h2 := by
  subst hp
  refine Go.one (fun G p e R s m args below meth c Q cells slots H locs ls hF hX g3 g4 hR hl K => ?_) B
  refine K ls (lv_sub hl ks ?_)
  unfold lv_pick mj_l
  rw [List.map_filterMap]
  congr 1
  funext k
  rw [List.getElem?_map]
theorem rt_sub (ks : List Nat) (hp : lv_pick lv ks = lv1) (B : Rt mi d h0 pc lv1 st h r h2) : Rt mi d h0 pc lv st h r h2 := rt_st (fun _ _ B => go_sub ks hp B) B
theorem rt_int {x : Int32} (hd : decode mi.2.1 pc = .ok (.ireturn, 1)) (hr : mi.2.2.2 = some .int) : Rt mi d h0 pc lv [.int x] h (some (.int x)) h := ⟨pc, lv, hd, ⟨.int, hr, rfl⟩, Go.rf⟩
theorem rt_bool {x : Int32} (hd : decode mi.2.1 pc = .ok (.ireturn, 1)) (hr : mi.2.2.2 = some .boolean) (hz : x &&& 1 = x) : Rt mi d h0 pc lv [.int x] h (some (.int x)) h := ⟨pc, lv, hd, ⟨.boolean, hr, congrArg Value.int hz⟩, Go.rf⟩
theorem rt_long {x : Int64} (hd : decode mi.2.1 pc = .ok (.lreturn, 1)) (hr : mi.2.2.2 = some .long) : Rt mi d h0 pc lv [.long x] h (some (.long x)) h := ⟨pc, lv, hd, hr, Go.rf⟩
theorem rt_ref {o : Option Nat} {nm : String} (hd : decode mi.2.1 pc = .ok (.areturn, 1)) (hr : mi.2.2.2 = some (.object nm)) : Rt mi d h0 pc lv [va_rf o] h (some (va_rf o)) h := by
  cases o <;> exact ⟨pc, lv, hd, ⟨nm, hr⟩, Go.rf⟩
theorem rt_void (hd : decode mi.2.1 pc = .ok (.return_, 1)) (hr : mi.2.2.2 = none) : Rt mi d h0 pc lv [] h none h := ⟨pc, lv, hd, hr, Go.rf⟩
end RT
theorem Mt.rt {mi : MI} {d : Nat} {av : List Value} {h h1 : MH} {r : Option Value} {lv : List (Nat × Value)} (hy : plainName mi.1.cls = true) (hlv : lv_args 0 av = lv) (hn : (av.map Value.category).sum ≤ mi.2.2.1) (A : Rt mi d h 0 lv [] h r h1) : Mt mi d av h r h1 := by
  obtain ⟨pc1, lv1, hd, hk, A⟩ := A
  cases r with
  | none => exact Mt.ofv hy hlv hn hk hd A
  | some v =>
    cases v with
    | int x =>
      obtain ⟨ty, hr, hz⟩ := hk
      exact Mt.ofi hy hlv hn hr hz hd A
    | long x => exact Mt.ofl hy hlv hn hk hd A
    | null =>
      obtain ⟨nm, hr⟩ := hk
      exact Mt.ofr (o := none) hy hlv hn hr hd A
    | ref a =>
      obtain ⟨nm, hr⟩ := hk
      exact Mt.ofr (o := some a) hy hlv hn hr hd A
    | float x => cases hk
    | double x => cases hk
    | retAddr x => cases hk
/-- a receiver's class, asked ahead of a call -/
def onc {α : Type} (h : MH) (o : Option Nat) (c : Nat) (x : Option α) : Option α := if cls h o = some c then x else none
theorem onc_spec {α : Type} {h : MH} {o : Option Nat} {c : Nat} {x : Option α} {y : α} (e : onc h o c x = some y) : cls h o = some c ∧ x = some y := by
  unfold onc at e
  by_cases hc : cls h o = some c
  · rw [if_pos hc] at e; exact ⟨hc, e⟩
  · rw [if_neg hc] at e; cases e
theorem mj_mem_tbl {w : Cond} (k : Nat) (h : lw_tbl[k]? = some w) (hg : goodWord w = true) : w ∈ mj_tbl := List.mem_filter.mpr ⟨List.mem_of_getElem? h, hg⟩
theorem mj_mem_bad {w : Cond} (k : Nat) (h : lw_tbl[k]? = some w) (hg : mj_kind w = true) : w ∈ mj_bad := List.mem_filter.mpr ⟨List.mem_of_getElem? h, hg⟩
end
section
/-! ===== what the printed walks stand on ===== -/
abbrev q_0 : vw_C := (RX0, TX0, 8)
abbrev q_1 : vw_C := (RX1, TX1, 11)
abbrev q_2 : vw_C := (RX3, TX3, 3)
abbrev q_3 : vw_C := (RX4, TX4, 3)
abbrev q_4 : vw_C := (RX5, TX5, 3)
abbrev q_5 : vw_C := (RX6, TX6, 3)
abbrev q_6 : vw_C := (RX7, TX7, 14)
abbrev q_7 : vw_C := (RX8, TX8, 3)
abbrev q_8 : vw_C := (RX9, TX9, 3)
abbrev q_9 : vw_C := (RX10, TX10, 6)
abbrev q_10 : vw_C := (RX11, TX11, 10)
abbrev q_11 : vw_C := (RX12, TX12, 25)
/-- a new object's fields -/
def mj_new (c : Nat) : List Value := match mj_cl[c]? with
  | some q => (List.range q.2.2).map fun j => match parseFieldDescriptor (q.2.1 j).2.2.1 with
    | some ty => defaultValue ty
    | none => .null
  | none => []
def o_0 : List Value := [.null, .null, .null, .null, .null, .null, .int 0, .int 0]
def o_1 : List Value := [.int 0, .int 0, .int 0, .int 0, .int 0, .int 0, .int 0, .int 0, .int 0, .null, .null]
def o_2 : List Value := [.int 0, .int 0, .int 0]
def o_3 : List Value := [.int 0, .int 0, .int 0]
def o_4 : List Value := [.int 0, .int 0, .int 0]
def o_5 : List Value := [.null, .null, .null]
def o_6 : List Value := [.null, .null, .null, .null, .null, .null, .null, .null, .int 0, .int 0, .int 0, .int 0, .int 0, .int 0]
def o_7 : List Value := [.int 0, .int 0, .int 0]
def o_8 : List Value := [.int 0, .int 0, .int 0]
def o_9 : List Value := [.null, .int 0, .int 0, .int 0, .int 0, .int 0]
def o_10 : List Value := [.null, .null, .null, .null, .null, .null, .null, .null, .int 0, .int 0]
def o_11 : List Value := [.int 0, .null, .int 0, .int 0, .int 0, .int 0, .int 0, .int 0, .int 0, .int 0, .null, .null, .null, .int 0, .null, .null, .null, .null, .int 0, .null, .null, .null, .int 0, .null, .null]
theorem o_0_ok : (List.range q_0.2.2).map (fun j => (parseFieldDescriptor (q_0.2.1 j).2.2.1).map defaultValue) = o_0.map some := by decide +kernel
theorem o_1_ok : (List.range q_1.2.2).map (fun j => (parseFieldDescriptor (q_1.2.1 j).2.2.1).map defaultValue) = o_1.map some := by decide +kernel
theorem o_2_ok : (List.range q_2.2.2).map (fun j => (parseFieldDescriptor (q_2.2.1 j).2.2.1).map defaultValue) = o_2.map some := by decide +kernel
theorem o_3_ok : (List.range q_3.2.2).map (fun j => (parseFieldDescriptor (q_3.2.1 j).2.2.1).map defaultValue) = o_3.map some := by decide +kernel
theorem o_4_ok : (List.range q_4.2.2).map (fun j => (parseFieldDescriptor (q_4.2.1 j).2.2.1).map defaultValue) = o_4.map some := by decide +kernel
theorem o_5_ok : (List.range q_5.2.2).map (fun j => (parseFieldDescriptor (q_5.2.1 j).2.2.1).map defaultValue) = o_5.map some := by decide +kernel
theorem o_6_ok : (List.range q_6.2.2).map (fun j => (parseFieldDescriptor (q_6.2.1 j).2.2.1).map defaultValue) = o_6.map some := by decide +kernel
theorem o_7_ok : (List.range q_7.2.2).map (fun j => (parseFieldDescriptor (q_7.2.1 j).2.2.1).map defaultValue) = o_7.map some := by decide +kernel
theorem o_8_ok : (List.range q_8.2.2).map (fun j => (parseFieldDescriptor (q_8.2.1 j).2.2.1).map defaultValue) = o_8.map some := by decide +kernel
theorem o_9_ok : (List.range q_9.2.2).map (fun j => (parseFieldDescriptor (q_9.2.1 j).2.2.1).map defaultValue) = o_9.map some := by decide +kernel
theorem o_10_ok : (List.range q_10.2.2).map (fun j => (parseFieldDescriptor (q_10.2.1 j).2.2.1).map defaultValue) = o_10.map some := by decide +kernel
theorem o_11_ok : (List.range q_11.2.2).map (fun j => (parseFieldDescriptor (q_11.2.1 j).2.2.1).map defaultValue) = o_11.map some := by decide +kernel
def o_of (c : Nat) : List Value := match c with
  | 0 => o_0
  | 1 => o_1
  | 2 => o_2
  | 3 => o_3
  | 4 => o_4
  | 5 => o_5
  | 6 => o_6
  | 7 => o_7
  | 8 => o_8
  | 9 => o_9
  | 10 => o_10
  | _ => o_11
def newO (h : MH) (c : Nat) : Option MH := some (newo h c (o_of c))
def newA (h : MH) (t n : Nat) : Option MH := some (newa h t n)
def newQ (h : MH) (t n : Nat) : Option MH := some (newq h t n)
def mj_nz (y : Int32) : Option Unit := if y = 0 then none else some ()
def mj_nzl (y : Int64) : Option Unit := if y = 0 then none else some ()
theorem mj_nz_spec {y : Int32} {u : Unit} (e : mj_nz y = some u) : ¬ y = 0 := fun h => by unfold mj_nz at e; rw [if_pos h] at e; cases e
theorem mj_nzl_spec {y : Int64} {u : Unit} (e : mj_nzl y = some u) : ¬ y = 0 := fun h => by unfold mj_nzl at e; rw [if_pos h] at e; cases e
def mj_b01 (x : Int32) : Option Unit := if x &&& 1 = x then some () else none
theorem mj_b01_spec {x : Int32} {u : Unit} (e : mj_b01 x = some u) : x &&& 1 = x := by
  unfold mj_b01 at e
  by_cases h : x &&& 1 = x
  · exact h
  · rw [if_neg h] at e; cases e
def mj_hand (c : Nat) : Option Unit := if [2, 3, 4, 7, 8].contains c then some () else none
theorem mj_hand_spec {c : Nat} {u : Unit} (e : mj_hand c = some u) : ∃ q, mj_cl[c]? = some q := by
  unfold mj_hand at e
  by_cases h : [2, 3, 4, 7, 8].contains c = true
  · have := List.contains_iff_mem.mp h
    simp only [List.mem_cons, List.not_mem_nil, or_false] at this
    rcases this with rfl | rfl | rfl | rfl | rfl <;> exact ⟨_, rfl⟩
  · rw [if_neg h] at e; cases e
def mj_same (a b : Option Nat) : Option Unit := if a = b then some () else none
theorem mj_same_spec {a b : Option Nat} {u : Unit} (e : mj_same a b = some u) : a = b := by
  unfold mj_same at e
  by_cases h : a = b
  · exact h
  · rw [if_neg h] at e; cases e
theorem mj_some {o : Option Nat} {t : Nat} (e : o = some t) : o ≠ none := by rw [e]; exact fun z => by cases z
theorem mj_swn {x k : Int32} {v : Int} (h : ¬ x = k) (hk : k.toInt = v) : x.toInt ≠ v := fun z => h (Int32.toInt_inj.mp (z.trans hk.symm))
theorem mj_swd {pc tgt : Nat} {dflt lo hi : Int} {offs : Array Int} {x : Int32} (ks : List Int) (hx : ∀ k ∈ ks, x.toInt ≠ k) (hall : ((List.range offs.size).all (fun j => offs.getD j 0 == dflt || ks.contains (lo + j)) && decide (hi - lo < offs.size)) = true) (ht : (pc : Int) + dflt = (tgt : Int)) : (pc : Int) + mj_sw dflt lo hi offs x = (tgt : Int) := by
  rw [Bool.and_eq_true, decide_eq_true_eq] at hall
  unfold mj_sw
  by_cases h : x.toInt < lo ∨ hi < x.toInt
  · rw [if_pos h]; exact ht
  · rw [if_neg h]
    have hj : (x.toInt - lo).toNat < offs.size := by omega
    have h1 := List.all_eq_true.mp hall.1 _ (List.mem_range.mpr hj)
    rw [Bool.or_eq_true] at h1
    rcases h1 with h1 | h1
    · rw [eq_of_beq h1]; exact ht
    · have h2 := List.contains_iff_mem.mp h1
      exact absurd (by omega) (hx _ h2)
theorem mj_lwo : ∀ (ps : List (Int × Int)) (dflt v : Int), (∀ k ∈ ps.map Prod.fst, v ≠ k) → Op.lookupswitch.offset ps dflt v = dflt
  | [], _, _, _ => rfl
  | (a, o) :: r, dflt, v, h => by
    rw [Op.lookupswitch.offset_cons, if_neg]
    · exact mj_lwo r dflt v (fun k hk => h k (List.mem_cons_of_mem _ hk))
    · exact fun z => h a List.mem_cons_self z.symm
theorem mj_lwd {pc tgt : Nat} {dflt : Int} {ps : Array (Int × Int)} {x : Int32} (hx : ∀ k ∈ ps.toList.map Prod.fst, x.toInt ≠ k) (ht : (pc : Int) + dflt = (tgt : Int)) : (pc : Int) + Op.lookupswitch.offset ps.toList dflt x.toInt = (tgt : Int) := by
  rw [mj_lwo _ _ _ hx]
  exact ht
/-- an invokestatic whose named class only inherits the method: asking for it first makes it ready, and changes nothing else -/
theorem mj_askUp {Q : Unit → Pre} {E : CtlPost} {e : Env} {d : Bool} {acts : List Action} {s s0 : State} {f : JFrame} {index ci n c : Nat} {mk : MethodId} {dk ck : Class} {cf : ClassFile} {nm ds : String} (hs : s.topJava?.isSome) (hp : e.platform.polymorphicOnlyByInvokevirtual = true)
    (hW : s0.WarmedH s.vm) (hE : s0.MethodEntryUp e s.vm f.method.cls index c mk ci) (k1 : s0.vm.classes[f.method.cls]? = some dk) (k2 : dk.cf = some cf) (k3 : cf.constantPool[index]? = some (.methodref ci n)) (k4 : cf.constantPool.nameAndType? n = some (nm, ds))
    (hck : s0.vm.classes[c]? = some ck) (hno : (ck.methods.any fun z => z.name == nm && !z.isStatic && signaturePolymorphic ck z) = false) :
    wp (invokestatic.sem index) Q E e d acts (s.setTop f) ↔ wp (invokestatic.sem index) Q E e d acts ((s.setVm (s.vm.calledUp f.method.cls ci index c mk)).setTop f) := by
  obtain ⟨g1, g2, g3, g4⟩ := hE.classFirst
  obtain ⟨a0, b0, e0⟩ := hW.alike.2.2 _ _ k1
  obtain ⟨a2, b2, e2⟩ := hE.warmed.alike.2.2 _ _ k1
  obtain ⟨a3, b3, e3⟩ := g3.alike.2.2 _ _ hck
  obtain ⟨a4, b4, e4⟩ := hE.warmed.alike.2.2 _ _ hck
  have k3' : cf.constantPool[index]? = some (if false then .interfaceMethodref ci n else .methodref ci n) := k3
  have m0 := memberRef_ask_via (e := e) b0 (by rw [e0]; exact k2) k3' k4
  have m2 := memberRef_ask_via (e := e) b2 (by rw [e2]; exact k2) k3' k4
  have n3 : (a3.methods.any fun z => z.name == nm && !z.isStatic && signaturePolymorphic a3 z) = false := by rw [e3]; exact hno
  have n4 : (a4.methods.any fun z => z.name == nm && !z.isStatic && signaturePolymorphic a4 z) = false := by rw [e4]; exact hno
  have t1 : (s.setVm (s.vm.noted f.method.cls ci (.cls c))).topJava?.isSome := hs
  have t2 : (s.setVm (s.vm.calledUp f.method.cls ci index c mk)).topJava?.isSome := hs
  have r1 : ∀ {Q' : ClassId → Pre} {d' : Bool} {acts' : List Action}, wp (Jvm.resolveClassAt ci) Q' E e d' acts' (s.setTop f) ↔ Q' c d' acts' ((s.setVm (s.vm.noted f.method.cls ci (.cls c))).setTop f) := W.resolveClassAt_links (t := s.setTop f) (State.method?_setTop f hs) g1
  have r2 : ∀ {Q' : MethodId → Pre} {d' : Bool} {acts' : List Action}, wp (Jvm.resolveMethodAt index) Q' E e d' acts' ((s.setVm (s.vm.noted f.method.cls ci (.cls c))).setTop f) ↔ Q' mk d' acts' ((s.setVm (s.vm.calledUp f.method.cls ci index c mk)).setTop f) := W.resolveMethodAt_links (t := (s.setVm (s.vm.noted f.method.cls ci (.cls c))).setTop f) (State.method?_setTop f t1) g4
  have r3 := @W.resolveClassAt_ready
  simp [invokestatic.sem, hp, Seam.memberRefOf, State.method?_setTop f hs, State.method?_setTop f t2, m0, m2, r1, W.resolveClassAt_ready (s := (s.setVm (s.vm.calledUp f.method.cls ci index c mk)).setTop f) (State.method?_setTop f t2) hE.classReady,
    b3, b4, n3, n4, r2, W.resolveMethodAt_ready (s := (s.setVm (s.vm.calledUp f.method.cls ci index c mk)).setTop f) (State.method?_setTop f t2) hE.ready, -Array.any_eq_true]
section GO6
variable {mi mi2 : MI} {d d2 : Nat} {h0 : MH} {pc pc2 : Nat} {lv lv2 : List (Nat × Value)} {st st1 st2 : List Value} {h h1 h2 : MH} {v : Value}
theorem go_newO {idx ci : Nat} {q : vw_C} (hd : decode mi.2.1 pc = .ok (.new idx, 3)) (hcl : mj_cl[ci]? = some q) (hfs : (List.range q.2.2).map (fun j => (parseFieldDescriptor (q.2.1 j).2.2.1).map defaultValue) = (o_of ci).map some) (htv : ∀ ad, (o_of ci).map (mj_v ad) = o_of ci) (hw1 : Cond.classLink mi.1.cls idx q.1 ∈ mj_tbl) (hw2 : Cond.instantiable q.1 q.2.2 ∈ mj_tbl) (hw3 : Cond.initialized q.1 ∈ mj_tbl) (e : newO h ci = some h1) (B : Go mi d h0 (pc + 3) lv (va_rf (some h.2.1) :: st) h1 pc2 lv2 st2 h2) : Go mi d h0 pc lv st h pc2 lv2 st2 h2 := by
  cases e
  exact go_new hd hcl hfs htv hw1 hw2 hw3 B
theorem go_newA {atype : ArrayType} {t N : Nat} {n : Int32} (ht : t < 2) (hty : newarray.typeOf atype = mj_aty t) (hd : decode mi.2.1 pc = .ok (.newarray atype, 2)) (hw : Cond.arrayClass (mj_aty t) ∈ mj_tbl) (hn : ¬ n < 0) (hN : n.toNatClampNeg = N) (hb : N ≤ 100000) (e : newA h t N = some h1) (B : Go mi d h0 (pc + 2) lv (va_rf (some h.2.1) :: st) h1 pc2 lv2 st2 h2) : Go mi d h0 pc lv (.int n :: st) h pc2 lv2 st2 h2 := by
  cases e
  exact go_newa ht hty hd hw hn hN hb B
theorem go_newQ {idx t N : Nat} {C : String} {n : Int32} (ht : t = 2 ∨ t = 3) (hty : mj_aty t = .object C) (hd : decode mi.2.1 pc = .ok (.anewarray idx, 3)) (hw : Cond.classLink mi.1.cls idx C ∈ mj_tbl) (hw2 : Cond.arrayOver (.object C) ∈ mj_bad) (hn : ¬ n < 0) (hN : n.toNatClampNeg = N) (hb : N ≤ 100000) (e : newQ h t N = some h1) (B : Go mi d h0 (pc + 3) lv (va_rf (some h.2.1) :: st) h1 pc2 lv2 st2 h2) : Go mi d h0 pc lv (.int n :: st) h pc2 lv2 st2 h2 := by
  cases e
  exact go_newq ht hty hd hw hw2 hn hN hb B
theorem go_instC {idx : Nat} {o : Option Nat} {C : String} {c : Nat} {b : Bool} (hd : decode mi.2.1 pc = .ok (.instanceof idx, 3)) (hw : Cond.classLink mi.1.cls idx C ∈ mj_tbl) (hg : cls h o = some c) (hb : mj_is c C = some b) (B : Go mi d h0 (pc + 3) lv (.int (if b then 1 else 0) :: st) h pc2 lv2 st2 h2) : Go mi d h0 pc lv (va_rf o :: st) h pc2 lv2 st2 h2 := by
  obtain ⟨fs, h1, h2⟩ := cls_spec hg
  exact go_inst hd hw h1 h2 hb B
theorem go_cpyS {idx : Nat} {o o2 : Option Nat} {sp dp n : Int32} (ho : o = o2) (hd1 : 1 ≤ d) (hst : (st.map fun v => v.category).sum ≤ 8) (hd : decode mi.2.1 pc = .ok (.invokestatic idx, 3)) (hw1 : Cond.methodLink mi.1.cls idx arraycopyName ∈ mj_tbl) (hw2 : Cond.native arraycopyName ∈ mj_tbl) (hw3 : Cond.static arraycopyName ∈ mj_tbl) (hw4 : Cond.initialized "java/lang/System" ∈ mj_tbl) (hg : cpy h o sp dp n = some h1) (B : Go mi d h0 (pc + 3) lv st h1 pc2 lv2 st2 h2) : Go mi d h0 pc lv (.int n :: .int dp :: va_rf o2 :: .int sp :: va_rf o :: st) h pc2 lv2 st2 h2 := by
  subst ho
  exact go_cpy hd1 hst hd hw1 hw2 hw3 hw4 hg B
theorem go_callS1 {idx n : Nat} (As : List Value) (hM : Mt mi2 d2 As h (some v) h1) (hm : mj_M mi2 n) (hd2 : d2 + 1 ≤ d) (hd : decode mi.2.1 pc = .ok (.invokestatic idx, 3)) (hl : Cond.methodLink mi.1.cls idx mi2.1 ∈ mj_tbl) (hs : Cond.static mi2.1 ∈ mj_tbl) (hn : As.length = n) (hst : st.length ≤ 4) (hstk : As.reverse ++ st = st1)
    (B : Go mi d h0 (pc + 3) lv (v :: st) h1 pc2 lv2 st2 h2) : Go mi d h0 pc lv st1 h pc2 lv2 st2 h2 := go_callS As hM hm hd2 hd hl hs hn hst hstk B
theorem go_callS0 {idx n : Nat} (As : List Value) (hM : Mt mi2 d2 As h none h1) (hm : mj_M mi2 n) (hd2 : d2 + 1 ≤ d) (hd : decode mi.2.1 pc = .ok (.invokestatic idx, 3)) (hl : Cond.methodLink mi.1.cls idx mi2.1 ∈ mj_tbl) (hs : Cond.static mi2.1 ∈ mj_tbl) (hn : As.length = n) (hst : st.length ≤ 4) (hstk : As.reverse ++ st = st1)
    (B : Go mi d h0 (pc + 3) lv st h1 pc2 lv2 st2 h2) : Go mi d h0 pc lv st1 h pc2 lv2 st2 h2 := go_callS As hM hm hd2 hd hl hs hn hst hstk B
theorem go_callSN1 {idx n : Nat} {host : String} (As : List Value) (hM : Mt mi2 d2 As h (some v) h1) (hm : mj_M mi2 n) (hd2 : d2 + 1 ≤ d) (hd : decode mi.2.1 pc = .ok (.invokestatic idx, 3)) (hl : Cond.methodLinkNest mi.1.cls idx mi2.1 host ∈ mj_bad) (hs : Cond.static mi2.1 ∈ mj_tbl) (hn : As.length = n) (hst : st.length ≤ 4) (hstk : As.reverse ++ st = st1)
    (B : Go mi d h0 (pc + 3) lv (v :: st) h1 pc2 lv2 st2 h2) : Go mi d h0 pc lv st1 h pc2 lv2 st2 h2 := go_callSN As hM hm hd2 hd hl hs hn hst hstk B
theorem go_callSN0 {idx n : Nat} {host : String} (As : List Value) (hM : Mt mi2 d2 As h none h1) (hm : mj_M mi2 n) (hd2 : d2 + 1 ≤ d) (hd : decode mi.2.1 pc = .ok (.invokestatic idx, 3)) (hl : Cond.methodLinkNest mi.1.cls idx mi2.1 host ∈ mj_bad) (hs : Cond.static mi2.1 ∈ mj_tbl) (hn : As.length = n) (hst : st.length ≤ 4) (hstk : As.reverse ++ st = st1)
    (B : Go mi d h0 (pc + 3) lv st h1 pc2 lv2 st2 h2) : Go mi d h0 pc lv st1 h pc2 lv2 st2 h2 := go_callSN As hM hm hd2 hd hl hs hn hst hstk B
theorem go_callV1 {idx n ci : Nat} {o : Option Nat} {q : vw_C} (As : List Value) (hM : Mt mi2 d2 (va_rf o :: As) h (some v) h1) (hm : mj_M mi2 n) (hd2 : d2 + 1 ≤ d) (hd : decode mi.2.1 pc = .ok (.invokevirtual idx, 3)) (hg : cls h o = some ci) (hq : mj_cl[ci]? = some q) (hqc : q.1 = mi2.1.cls) (hl : Cond.methodLink mi.1.cls idx mi2.1 ∈ mj_tbl) (hi : Cond.instanceMethod mi2.1 ∈ mj_tbl) (hs : Cond.selects mi2.1.cls mi2.1 mi2.1 ∈ mj_tbl) (hn : As.length = n) (hst : st.length ≤ 4) (hstk : As.reverse ++ va_rf o :: st = st1)
    (B : Go mi d h0 (pc + 3) lv (v :: st) h1 pc2 lv2 st2 h2) : Go mi d h0 pc lv st1 h pc2 lv2 st2 h2 := go_callV As hM hm hd2 hd hg hq hqc hl hi hs hn hst hstk B
theorem go_callV0 {idx n ci : Nat} {o : Option Nat} {q : vw_C} (As : List Value) (hM : Mt mi2 d2 (va_rf o :: As) h none h1) (hm : mj_M mi2 n) (hd2 : d2 + 1 ≤ d) (hd : decode mi.2.1 pc = .ok (.invokevirtual idx, 3)) (hg : cls h o = some ci) (hq : mj_cl[ci]? = some q) (hqc : q.1 = mi2.1.cls) (hl : Cond.methodLink mi.1.cls idx mi2.1 ∈ mj_tbl) (hi : Cond.instanceMethod mi2.1 ∈ mj_tbl) (hs : Cond.selects mi2.1.cls mi2.1 mi2.1 ∈ mj_tbl) (hn : As.length = n) (hst : st.length ≤ 4) (hstk : As.reverse ++ va_rf o :: st = st1)
    (B : Go mi d h0 (pc + 3) lv st h1 pc2 lv2 st2 h2) : Go mi d h0 pc lv st1 h pc2 lv2 st2 h2 := go_callV As hM hm hd2 hd hg hq hqc hl hi hs hn hst hstk B
theorem go_callU1 {idx n ci : Nat} {o : Option Nat} {q : vw_C} {x : MethodName} {owner : String} (As : List Value) (hM : Mt mi2 d2 (va_rf o :: As) h (some v) h1) (hm : mj_M mi2 n) (hd2 : d2 + 1 ≤ d) (hd : decode mi.2.1 pc = .ok (.invokevirtual idx, 3)) (hg : cls h o = some ci) (hq : mj_cl[ci]? = some q) (hl : Cond.methodLink mi.1.cls idx x ∈ mj_tbl) (hsm : Cond.sameMethod x.cls owner x.name x.desc ∈ mj_tbl)
    (hde : (∃ (b0 : ByteArray) (m0 : Nat) (r0 : Option FieldType), Cond.instanceMethod ⟨owner, x.name, x.desc⟩ ∈ mj_tbl ∧ Cond.code ⟨owner, x.name, x.desc⟩ b0 m0 r0 ∈ mj_tbl) ∨ Cond.declares ⟨owner, x.name, x.desc⟩ ∈ mj_bad)
    (how : (owner ≠ "java/lang/invoke/MethodHandle" ∧ owner ≠ "java/lang/invoke/VarHandle") ∧ (parseMethodDescriptor x.desc).map (fun d => d.parameters.length) = some n)
    (hs : Cond.selects q.1 x mi2.1 ∈ mj_tbl) (hi : Cond.instanceMethod mi2.1 ∈ mj_tbl) (hn : As.length = n) (hst : st.length ≤ 4) (hstk : As.reverse ++ va_rf o :: st = st1)
    (B : Go mi d h0 (pc + 3) lv (v :: st) h1 pc2 lv2 st2 h2) : Go mi d h0 pc lv st1 h pc2 lv2 st2 h2 := go_callU As hM hm hd2 hd hg hq hl hsm hde how hs hi hn hst hstk B
/-- super.m(..), the named class has it itself -/
theorem go_callSUh1 {idx n ci : Nat} {o : Option Nat} (As : List Value) (hM : Mt mi2 d2 (va_rf o :: As) h (some v) h1) (hm : mj_M mi2 n) (hd2 : d2 + 1 ≤ d) (hd : decode mi.2.1 pc = .ok (.invokespecial idx, 3)) (hg : cls h o = some ci) (hq : ∃ q, mj_cl[ci]? = some q) (hl : Cond.methodLink mi.1.cls idx mi2.1 ∈ mj_tbl) (hsm : Cond.sameMethod mi2.1.cls mi2.1.cls mi2.1.name mi2.1.desc ∈ mj_tbl) (hsu : Cond.superclass mi.1.cls mi2.1.cls ∈ mj_tbl) (hi : Cond.instanceMethod mi2.1 ∈ mj_tbl) (hno : mi2.1.name ≠ "<init>") (hn : As.length = n) (hst : st.length ≤ 4) (hstk : As.reverse ++ va_rf o :: st = st1)
    (B : Go mi d h0 (pc + 3) lv (v :: st) h1 pc2 lv2 st2 h2) : Go mi d h0 pc lv st1 h pc2 lv2 st2 h2 := by
  obtain ⟨q, hq⟩ := hq
  exact go_callSU As hM hm hd2 hd hg hq hl hsm hsu hi hno hn hst hstk B
/-- super.m(..), the named class x.cls only inherits it -/
theorem go_callSUu1 {idx n ci : Nat} {o : Option Nat} {x : MethodName} (As : List Value) (hM : Mt mi2 d2 (va_rf o :: As) h (some v) h1) (hm : mj_M mi2 n) (hd2 : d2 + 1 ≤ d) (hd : decode mi.2.1 pc = .ok (.invokespecial idx, 3)) (hg : cls h o = some ci) (hq : ∃ q, mj_cl[ci]? = some q) (hl : Cond.methodLink mi.1.cls idx x ∈ mj_tbl) (hsm : Cond.sameMethod x.cls mi2.1.cls x.name x.desc ∈ mj_tbl) (hsu : Cond.superclass mi.1.cls x.cls ∈ mj_tbl) (hsu2 : Cond.superclass x.cls mi2.1.cls ∈ mj_tbl) (hi : Cond.instanceMethod mi2.1 ∈ mj_tbl) (hx : x.name ≠ "<init>" ∧ mi2.1 = ⟨mi2.1.cls, x.name, x.desc⟩) (hn : As.length = n) (hst : st.length ≤ 4) (hstk : As.reverse ++ va_rf o :: st = st1)
    (B : Go mi d h0 (pc + 3) lv (v :: st) h1 pc2 lv2 st2 h2) : Go mi d h0 pc lv st1 h pc2 lv2 st2 h2 := by
  subst hstk
  obtain ⟨q, hq⟩ := hq
  obtain ⟨fs, hob, hne⟩ := cls_spec hg
  obtain ⟨a, rfl, ha⟩ := mj_objS hob
  refine Go.call hM hd2 (fun G p e R s m args below meth c cells slots H locs ls hF hX g3 g4 g5 hR hlv => ?_) B
  have hts := hF.2.2.2.2.1
  have rm := mj_rm (hd2 := hd2) hm g3 g4
  obtain ⟨h3, hlt, hat⟩ := mj_obj_at hR ha hne
  obtain ⟨cellB, hcB, hoB, hclB⟩ := va_recv hX.1 (mj_P1 hat) (q0 := 0) hq rfl
  obtain ⟨hfc, kB, hkB, -⟩ := (hX.1.1 ci _ hq).2
  have hcc : G.D.1 ci = cellB.cls := Option.some.inj (hfc.symm.trans hclB)
  rw [hcc] at hkB
  have hini := hts _ hm.2.1
  have hK : Back G.l R p e below s args mi2.1 3 8 (PreOf R (h1.2.1 - h.2.1) (h1.2.2 - h.2.2) (mj_Pc G (va_rf (some a) :: As) h)) (PostOf (mj_Qc G (some v) h1) (h1.2.1 - h.2.1) (h1.2.2 - h.2.2) (fun q => G.base ≤ q)) :=
    back_of (bytes := mi2.2.1) (maxL := mi2.2.2.1) (ret := mi2.2.2.2) (hM.2.2 G) (mj_blind G _ h) rfl rfl rm.1 rm.2 (pay_in hts (mj_wsIn hm)) List.mem_cons_self (fun a' U hW => word_at hW (Or.inl (by first | rfl | simp [Cond.onTables, Cond.keeps, Cond.steady])) hini)
  obtain ⟨mk, methM, hnamed, hmethM, hstM, habM⟩ := Cond.instanceMethod_spec (hts _ hi)
  obtain ⟨methM', cM, hmethM', -, -, -, -, -, -, hsigM⟩ := Cond.code_spec hnamed (hts _ hm.1)
  cases hmethM.symm.trans hmethM'
  obtain ⟨ps, dk, kp, hps, hdk, hkp, hsuper, -, -, hnid⟩ := Cond.superclass_spec hF.2.2.2.1 (hts _ hsu)
  obtain ⟨ps2, dk2, kp2, hps2, hdk2, hkp2, hsuper2, -, -, -⟩ := Cond.superclass_spec hps (hts _ hsu2)
  have hname : s.methodNamed? ⟨mi2.1.cls, x.name, x.desc⟩ = some mk := by rw [← hx.2]; exact hnamed
  have hpm : ps2 = mk.cls := Option.some.inj (hps2.symm.trans (findClass_of_methodNamed hnamed))
  have hsub : s.vm.isSubclass ps mk.cls = true := by
    rw [← hpm]
    have hlt2 : ps < s.vm.classes.size := (Array.getElem?_eq_some_iff.mp hdk2).1
    unfold Vm.isSubclass
    obtain ⟨k, hk⟩ : ∃ k, s.vm.classes.size = k + 1 := Nat.exists_eq_succ_of_ne_zero (fun z => absurd (z ▸ hlt2) (Nat.not_lt_zero _))
    rw [hk]
    by_cases hpp : ps = ps2
    · simp [Vm.isSubclassAux, hpp]
    · cases k with
      | zero => simp [Vm.isSubclassAux, hdk2, hsuper2]
      | succ k => simp [Vm.isSubclassAux, hdk2, hsuper2]
  intro T hT X
  obtain ⟨vm₁, X₁, hstep₁⟩ := X.invokespecialUp hF.1 hF.2.2.2.1 (hts _ hl) (hts _ hsm) hname hmethM hstM habM hx.1 hdk hnid hps hsuper hsub (a := G.ad a) (cell := cellB) (by rw [hT]; exact hcB)
    (fun z hz => by rw [hz] at hoB; cases hoB) hkB (g := F0 m pc ls ((As.reverse ++ va_rf (some a) :: st).map (mj_v G.ad))) rfl (argsL := As.map (mj_v G.ad)) (rest := st.map (mj_v G.ad)) (by
      rw [List.length_map, hn]
      have h2 := hm.2.2.2.1
      have h3 : parseMethodDescriptor mi2.1.desc = some methM.sig := hsigM
      rw [h3] at h2
      exact (Option.some.inj h2).symm) (mj_rev As (va_rf (some a) :: st)) (by rw [hF.2.1]; exact hd)
  obtain ⟨v', ⟨U', l2, c2, s2⟩, X', ⟨g', mk', t, L, e1, e2, hq', h4, hL, h5, h6⟩, hsteps⟩ := hK m meth c ⟨T.setVm vm₁, locs, cells, slots⟩ { (F0 m pc ls ((As.reverse ++ va_rf (some a) :: st).map (mj_v G.ad))) with stack := st.map (mj_v G.ad) } (.invokespecial idx) mk (Value.ref (G.ad a) :: As.map (mj_v G.ad)).toArray X₁ rfl (by rw [hF.2.2.1]; exact hlv.1) (by rw [hF.2.1]; exact hd) (mj_rest hst) (X₁.named hnamed)
    ⟨g5.1, g5.2, mj_start hX hR (U := T.setVm vm₁) hT X₁.warmed (va_rf (some a) :: As)⟩
  dsimp only [Pt.U, Pt.locs, Pt.cells, Pt.slots] at X' e1 e2 h4 h5 h6
  subst h4; subst h5; subst h6
  exact ⟨v', (T.setVm vm₁).calling g' mk' (Value.ref (G.ad a) :: As.map (mj_v G.ad)).toArray, t, U', L, hT, X', hL, e1, e2, hq', fun target hh => hstep₁ _ (by rw [doInvoke_state]; exact hsteps.trans hh)⟩
/-- a static method, named through a class that inherits it -/
theorem go_callSUp0 {idx n : Nat} {x : MethodName} (As : List Value) (hM : Mt mi2 d2 As h none h1) (hm : mj_M mi2 n) (hd2 : d2 + 1 ≤ d) (hd : decode mi.2.1 pc = .ok (.invokestatic idx, 3)) (hl : Cond.methodLink mi.1.cls idx x ∈ mj_tbl) (hsm : Cond.sameMethod x.cls mi2.1.cls x.name x.desc ∈ mj_tbl) (hs : Cond.static mi2.1 ∈ mj_tbl) (hx : mi2.1.cls ≠ "java/lang/invoke/MethodHandle" ∧ mi2.1.cls ≠ "java/lang/invoke/VarHandle" ∧ mi2.1 = ⟨mi2.1.cls, x.name, x.desc⟩) (hn : As.length = n) (hst : st.length ≤ 4) (hstk : As.reverse ++ st = st1)
    (B : Go mi d h0 (pc + 3) lv st h1 pc2 lv2 st2 h2) : Go mi d h0 pc lv st1 h pc2 lv2 st2 h2 := by
  subst hstk
  refine Go.call hM hd2 (fun G p e R s m args below meth c cells slots H locs ls hF hX g3 g4 g5 hR hlv => ?_) B
  have hts := hF.2.2.2.2.1
  have rm := mj_rm (hd2 := hd2) hm g3 g4
  have hini := hts _ hm.2.1
  have hK : Back G.l R p e below s args mi2.1 3 8 (PreOf R (h1.2.1 - h.2.1) (h1.2.2 - h.2.2) (mj_Pc G As h)) (PostOf (mj_Qc G none h1) (h1.2.1 - h.2.1) (h1.2.2 - h.2.2) (fun q => G.base ≤ q)) :=
    back_of (bytes := mi2.2.1) (maxL := mi2.2.2.1) (ret := mi2.2.2.2) (hM.2.2 G) (mj_blind G _ h) rfl rfl rm.1 rm.2 (pay_in hts (mj_wsIn hm)) List.mem_cons_self (fun a' U hW => word_at hW (Or.inl (by first | rfl | simp [Cond.onTables, Cond.keeps, Cond.steady])) hini)
  obtain ⟨mk, hnamed⟩ := Cond.code_named (hts _ hm.1)
  obtain ⟨methM, cM, hmethM, -, -, -, -, -, -, hsigM⟩ := Cond.code_spec hnamed (hts _ hm.1)
  have hstatic : methM.isStatic = true := Cond.static_spec hnamed hmethM (hts _ hs)
  obtain ⟨kP, hkP, hnP⟩ := className_of_methodNamed hnamed
  have hinitP : kP.init = .initialized := Cond.initialized_spec (findClass_of_methodNamed hnamed) hkP hini
  have hname : s.methodNamed? ⟨mi2.1.cls, x.name, x.desc⟩ = some mk := by rw [← hx.2.2]; exact hnamed
  rw [mj_rev]
  intro T hT X
  have hstep : ∃ vm₁, Stand p G.l e R s m args below meth c (T.setVm vm₁) locs cells slots ∧
      ∀ target, (∀ acts, Steps p.tables e below (doInvoke e ((T.setVm vm₁).setTop { (F0 m pc ls ((As.map (mj_v G.ad)).reverse ++ st.map (mj_v G.ad))) with stack := st.map (mj_v G.ad) }) acts mk (As.map (mj_v G.ad)).toArray).1 target) → Steps p.tables e below (T.setTop (F0 m pc ls ((As.map (mj_v G.ad)).reverse ++ st.map (mj_v G.ad)))) target := by
    have hpl : e.platform.magicAccessors = ({} : Platform).magicAccessors := by rw [X.admits.platform]
    have hpv : e.platform.polymorphicOnlyByInvokevirtual = true := by rw [X.admits.platform]
    obtain ⟨cn, ck, r1, hcn, hck, hni, hf, hn1⟩ := Cond.sameMethod_found (hts _ hsm)
    cases hname.symm.trans hn1
    obtain ⟨ci, hlk, hright⟩ := Cond.methodLink_specUp hF.2.2.2.1 hcn hck hni hf (hts _ hl) e.platform hpl (by rw [X.admits.platform])
    have hE : s.MethodEntryUp e T.vm m.cls idx cn mk ci := State.methodEntryUp X.warmed hlk hright
    obtain ⟨dk, cfile, nt, mname, mdesc, ck', _, _, hdk, hcf, hcp, hnt, -, -, hck', -, hnopoly, -⟩ := hlk.here
    cases hck.symm.trans hck'
    have alike := hE.warmed.alike
    obtain ⟨dk₂, hdk₂, hed₂⟩ := alike.2.2 _ _ hdk
    obtain ⟨k₂, hk₂, he₂⟩ := alike.2.2 _ _ hkP
    obtain ⟨ck₂, hck₂, hec₂⟩ := alike.2.2 _ _ hck
    have hnone : (ck.methods.any fun y => y.name == mname && !y.isStatic && signaturePolymorphic ck y) = false := by simp [hnopoly]
    have hnone₂ : (ck₂.methods.any fun y => y.name == mname && !y.isStatic && signaturePolymorphic ck₂ y) = false := by rw [hec₂]; exact hnone
    have hcp' : cfile.constantPool[idx]? = some (if false then .interfaceMethodref ci nt else .methodref ci nt) := hcp
    refine ⟨T.vm.calledUp m.cls ci idx cn mk, X.noted hE.warmed, fun target hrest => ?_⟩
    have hd' : decode c.code (F0 m pc ls ((As.map (mj_v G.ad)).reverse ++ st.map (mj_v G.ad))).pc = .ok (.invokestatic idx, 3) := by rw [hF.2.1]; exact hd
    have hlen : (As.map (mj_v G.ad)).length = methM.sig.parameters.length := by
      rw [List.length_map, hn]
      have h2 := hm.2.2.2.1
      have h3 : parseMethodDescriptor mi2.1.desc = some methM.sig := hsigM
      rw [h3] at h2
      exact (Option.some.inj h2).symm
    jvm_step X.here [hF.1, hd', mj_askUp (e := e) (s := T) (s0 := s) (f := F0 m pc ls ((As.map (mj_v G.ad)).reverse ++ st.map (mj_v G.ad))) X.here.top hpv X.warmed hE hdk hcf hcp hnt hck hnone,
      invokestatic.wp_ready (e := e) (s := T.setVm (T.vm.calledUp m.cls ci idx cn mk)) (k := k₂) (meth := methM) (m := mk) (args := As.map (mj_v G.ad)) (rest := st.map (mj_v G.ad)) (f := F0 m pc ls ((As.map (mj_v G.ad)).reverse ++ st.map (mj_v G.ad)))
        X.here.top ⟨ci, mname, mdesc, false, cn, ck₂, memberRef_ask_via (e := e) hdk₂ (by rw [hed₂]; exact hcf) hcp' hnt, hE.classReady, hck₂, hnone₂⟩ hE.ready hk₂
        (by show (T.vm.calledUp m.cls ci idx cn mk).method? mk = some methM; rw [alike.method?]; exact hmethM)
        (by rw [he₂]; show signaturePolymorphic kP methM = false; simp [signaturePolymorphic, hnP, hx.1, hx.2.1]) hstatic (by rw [he₂]; exact hinitP) hlen rfl]
    exact fun acts => hrest _
  obtain ⟨vm₁, X₁, hstep₁⟩ := hstep
  obtain ⟨v', ⟨U', l2, c2, s2⟩, X', ⟨g', mk', t, L, e1, e2, hq', h4, hL, h5, h6⟩, hsteps⟩ := hK m meth c ⟨T.setVm vm₁, locs, cells, slots⟩ { (F0 m pc ls ((As.map (mj_v G.ad)).reverse ++ st.map (mj_v G.ad))) with stack := st.map (mj_v G.ad) } (.invokestatic idx) mk (As.map (mj_v G.ad)).toArray X₁ rfl (by rw [hF.2.2.1]; exact hlv.1) (by rw [hF.2.1]; exact hd) (mj_rest hst) (X₁.named hnamed)
    ⟨g5.1, g5.2, mj_start hX hR (U := T.setVm vm₁) hT X₁.warmed As⟩
  dsimp only [Pt.U, Pt.locs, Pt.cells, Pt.slots] at X' e1 e2 h4 h5 h6
  subst h4; subst h5; subst h6
  exact ⟨v', (T.setVm vm₁).calling g' mk' (As.map (mj_v G.ad)).toArray, t, U', L, hT, X', hL, e1, e2, hq', fun target hh => hstep₁ _ fun acts => by rw [doInvoke_state]; exact hsteps.trans hh⟩
theorem go_callI0 {idx n a : Nat} (As : List Value) (hM : Mt mi2 d2 (va_rf (some a) :: As) h none h1) (hm : mj_M mi2 n) (hret : mi2.2.2.2 = none) (hd2 : d2 + 1 ≤ d) (hd : decode mi.2.1 pc = .ok (.invokespecial idx, 3)) (hl : Cond.methodLink mi.1.cls idx mi2.1 ∈ mj_tbl) (hi : Cond.instanceMethod mi2.1 ∈ mj_tbl) (hno : mi2.1.name = "<init>") (hn : As.length = n) (hst : st.length ≤ 4) (hstk : As.reverse ++ va_rf (some a) :: st = st1)
    (B : Go mi d h0 (pc + 3) lv st h1 pc2 lv2 st2 h2) : Go mi d h0 pc lv st1 h pc2 lv2 st2 h2 := go_callI As hM hm hret hd2 hd hl hi hno hn hst hstk B
theorem go_callIo {idx n : Nat} {o : Option Nat} (ho : o ≠ none) (As : List Value) (hM : Mt mi2 d2 (va_rf o :: As) h none h1) (hm : mj_M mi2 n) (hret : mi2.2.2.2 = none) (hd2 : d2 + 1 ≤ d) (hd : decode mi.2.1 pc = .ok (.invokespecial idx, 3)) (hl : Cond.methodLink mi.1.cls idx mi2.1 ∈ mj_tbl) (hi : Cond.instanceMethod mi2.1 ∈ mj_tbl) (hno : mi2.1.name = "<init>") (hn : As.length = n) (hst : st.length ≤ 4) (hstk : As.reverse ++ va_rf o :: st = st1)
    (B : Go mi d h0 (pc + 3) lv st h1 pc2 lv2 st2 h2) : Go mi d h0 pc lv st1 h pc2 lv2 st2 h2 := by
  cases o with
  | none => exact absurd rfl ho
  | some a => exact go_callI As hM hm hret hd2 hd hl hi hno hn hst hstk B
end GO6
theorem mj_fit2 : ∀ c ∈ [2, 3, 4, 7, 8], mj_fits 2 c = true := by decide +kernel
theorem mj_fit3 : ∀ c ∈ [1], mj_fits 3 c = true := by decide +kernel
theorem w_arr0 : Cond.arrayClass (mj_aty 0) ∈ mj_tbl := mj_mem_tbl 97 (by decide +kernel) rfl
theorem w_arr1 : Cond.arrayClass (mj_aty 1) ∈ mj_tbl := mj_mem_tbl 1065 (by decide +kernel) rfl
theorem w_objI : Cond.instanceMethod objectInit ∈ mj_tbl := mj_mem_tbl 76 (by decide +kernel) rfl
theorem w_objC : Cond.code objectInit ⟨#[0xb1]⟩ 1 none ∈ mj_tbl := mj_mem_tbl 77 (by decide +kernel) rfl
theorem w_cpN : Cond.native arraycopyName ∈ mj_tbl := mj_mem_tbl 369 (by decide +kernel) rfl
theorem w_cpS : Cond.static arraycopyName ∈ mj_tbl := mj_mem_tbl 368 (by decide +kernel) rfl
theorem w_cpI : Cond.initialized "java/lang/System" ∈ mj_tbl := mj_mem_tbl 61 (by decide +kernel) rfl
theorem w_leS : Cond.static ⟨"WideTurn$Hand", "leave", "([II)V"⟩ ∈ mj_tbl := mj_mem_tbl 920 (by decide +kernel) rfl
end
