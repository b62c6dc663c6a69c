section
-- ===== PART A: goes FIRST, ahead of the names: the tables' words, and 'selects' of the private methods out of them =====
/-- a private method of a class that the tables say can be made, by its rows of tables_1 -/
def lw_okq (q : MethodName × Nat) : Prop := (q.1.cls ≠ "java/lang/invoke/MethodHandle" ∧ q.1.cls ≠ "java/lang/invoke/VarHandle") ∧ Cond.instantiable q.1.cls q.2 ∈ tables_1 ∧ Cond.privateMethod q.1 ∈ tables_1 ∧ Cond.instanceMethod q.1 ∈ tables_1
theorem lw_p0 : lw_okq (⟨"WideTurn", "found", "(I)I"⟩, 10) := ⟨⟨by decide +kernel, by decide +kernel⟩, List.mem_of_getElem? (i := 19) (by decide +kernel), List.mem_of_getElem? (i := 266) (by decide +kernel), List.mem_of_getElem? (i := 267) (by decide +kernel)⟩
theorem lw_p1 : lw_okq (⟨"WideTurn", "sound", "(I)I"⟩, 10) := ⟨⟨by decide +kernel, by decide +kernel⟩, List.mem_of_getElem? (i := 19) (by decide +kernel), List.mem_of_getElem? (i := 278) (by decide +kernel), List.mem_of_getElem? (i := 279) (by decide +kernel)⟩
theorem lw_p2 : lw_okq (⟨"WideTurn$Tape", "readLaw", "(LWideTurn$Basin;)V"⟩, 6) := ⟨⟨by decide +kernel, by decide +kernel⟩, List.mem_of_getElem? (i := 47) (by decide +kernel), List.mem_of_getElem? (i := 353) (by decide +kernel), List.mem_of_getElem? (i := 354) (by decide +kernel)⟩
theorem lw_p3 : lw_okq (⟨"WideTurn$Tape", "readLetter", "(I)V"⟩, 6) := ⟨⟨by decide +kernel, by decide +kernel⟩, List.mem_of_getElem? (i := 47) (by decide +kernel), List.mem_of_getElem? (i := 357) (by decide +kernel), List.mem_of_getElem? (i := 358) (by decide +kernel)⟩
theorem lw_p4 : lw_okq (⟨"WideTurn$Tape", "letterAt", "(I)I"⟩, 6) := ⟨⟨by decide +kernel, by decide +kernel⟩, List.mem_of_getElem? (i := 47) (by decide +kernel), List.mem_of_getElem? (i := 361) (by decide +kernel), List.mem_of_getElem? (i := 362) (by decide +kernel)⟩
theorem lw_p5 : lw_okq (⟨"WideTurn$Tape", "fail", "(II)V"⟩, 6) := ⟨⟨by decide +kernel, by decide +kernel⟩, List.mem_of_getElem? (i := 47) (by decide +kernel), List.mem_of_getElem? (i := 366) (by decide +kernel), List.mem_of_getElem? (i := 367) (by decide +kernel)⟩
theorem lw_p6 : lw_okq (⟨"WideTurn$Tape", "readNumber", "(II)I"⟩, 6) := ⟨⟨by decide +kernel, by decide +kernel⟩, List.mem_of_getElem? (i := 47) (by decide +kernel), List.mem_of_getElem? (i := 370) (by decide +kernel), List.mem_of_getElem? (i := 371) (by decide +kernel)⟩
theorem lw_p7 : lw_okq (⟨"WideTurn$Tape", "readDepths", "(LWideTurn$Basin;)V"⟩, 6) := ⟨⟨by decide +kernel, by decide +kernel⟩, List.mem_of_getElem? (i := 47) (by decide +kernel), List.mem_of_getElem? (i := 377) (by decide +kernel), List.mem_of_getElem? (i := 378) (by decide +kernel)⟩
theorem lw_p8 : lw_okq (⟨"WideTurn$Tape", "readDepth", "()I"⟩, 6) := ⟨⟨by decide +kernel, by decide +kernel⟩, List.mem_of_getElem? (i := 47) (by decide +kernel), List.mem_of_getElem? (i := 381) (by decide +kernel), List.mem_of_getElem? (i := 382) (by decide +kernel)⟩
theorem lw_p9 : lw_okq (⟨"WideTurn$Tape", "readBoat", "(LWideTurn$Basin;)V"⟩, 6) := ⟨⟨by decide +kernel, by decide +kernel⟩, List.mem_of_getElem? (i := 47) (by decide +kernel), List.mem_of_getElem? (i := 385) (by decide +kernel), List.mem_of_getElem? (i := 386) (by decide +kernel)⟩
theorem lw_p10 : lw_okq (⟨"WideTurn$Tape", "readMoored", "(LWideTurn$Basin;)V"⟩, 6) := ⟨⟨by decide +kernel, by decide +kernel⟩, List.mem_of_getElem? (i := 47) (by decide +kernel), List.mem_of_getElem? (i := 389) (by decide +kernel), List.mem_of_getElem? (i := 390) (by decide +kernel)⟩
theorem lw_p11 : lw_okq (⟨"WideTurn$Tape", "readHands", "(LWideTurn$Basin;)V"⟩, 6) := ⟨⟨by decide +kernel, by decide +kernel⟩, List.mem_of_getElem? (i := 47) (by decide +kernel), List.mem_of_getElem? (i := 396) (by decide +kernel), List.mem_of_getElem? (i := 397) (by decide +kernel)⟩
theorem lw_p12 : lw_okq (⟨"WideTurn$Basin", "clearance", "(I)I"⟩, 11) := ⟨⟨by decide +kernel, by decide +kernel⟩, List.mem_of_getElem? (i := 154) (by decide +kernel), List.mem_of_getElem? (i := 575) (by decide +kernel), List.mem_of_getElem? (i := 576) (by decide +kernel)⟩
theorem lw_p13 : lw_okq (⟨"WideTurn$Search", "prepare", "(LWideTurn$Basin;I)V"⟩, 14) := ⟨⟨by decide +kernel, by decide +kernel⟩, List.mem_of_getElem? (i := 103) (by decide +kernel), List.mem_of_getElem? (i := 653) (by decide +kernel), List.mem_of_getElem? (i := 654) (by decide +kernel)⟩
theorem lw_p14 : lw_okq (⟨"WideTurn$Search", "choosePacers", "(LWideTurn$Basin;)V"⟩, 14) := ⟨⟨by decide +kernel, by decide +kernel⟩, List.mem_of_getElem? (i := 103) (by decide +kernel), List.mem_of_getElem? (i := 665) (by decide +kernel), List.mem_of_getElem? (i := 666) (by decide +kernel)⟩
theorem lw_p15 : lw_okq (⟨"WideTurn$Search", "add", "(III)V"⟩, 14) := ⟨⟨by decide +kernel, by decide +kernel⟩, List.mem_of_getElem? (i := 103) (by decide +kernel), List.mem_of_getElem? (i := 674) (by decide +kernel), List.mem_of_getElem? (i := 675) (by decide +kernel)⟩
def lw_privs_1 : List (MethodName × Nat) := [(⟨"WideTurn", "found", "(I)I"⟩, 10), (⟨"WideTurn", "sound", "(I)I"⟩, 10), (⟨"WideTurn$Tape", "readLaw", "(LWideTurn$Basin;)V"⟩, 6), (⟨"WideTurn$Tape", "readLetter", "(I)V"⟩, 6), (⟨"WideTurn$Tape", "letterAt", "(I)I"⟩, 6), (⟨"WideTurn$Tape", "fail", "(II)V"⟩, 6), (⟨"WideTurn$Tape", "readNumber", "(II)I"⟩, 6), (⟨"WideTurn$Tape", "readDepths", "(LWideTurn$Basin;)V"⟩, 6), (⟨"WideTurn$Tape", "readDepth", "()I"⟩, 6), (⟨"WideTurn$Tape", "readBoat", "(LWideTurn$Basin;)V"⟩, 6), (⟨"WideTurn$Tape", "readMoored", "(LWideTurn$Basin;)V"⟩, 6), (⟨"WideTurn$Tape", "readHands", "(LWideTurn$Basin;)V"⟩, 6), (⟨"WideTurn$Basin", "clearance", "(I)I"⟩, 11), (⟨"WideTurn$Search", "prepare", "(LWideTurn$Basin;I)V"⟩, 14), (⟨"WideTurn$Search", "choosePacers", "(LWideTurn$Basin;)V"⟩, 14), (⟨"WideTurn$Search", "add", "(III)V"⟩, 14)]
theorem lw_r1 : ∀ q ∈ lw_privs_1, lw_okq q := List.forall_mem_cons.mpr ⟨lw_p0, List.forall_mem_cons.mpr ⟨lw_p1, List.forall_mem_cons.mpr ⟨lw_p2, List.forall_mem_cons.mpr ⟨lw_p3, List.forall_mem_cons.mpr ⟨lw_p4, List.forall_mem_cons.mpr ⟨lw_p5, List.forall_mem_cons.mpr ⟨lw_p6, List.forall_mem_cons.mpr ⟨lw_p7, List.forall_mem_cons.mpr ⟨lw_p8, List.forall_mem_cons.mpr ⟨lw_p9, List.forall_mem_cons.mpr ⟨lw_p10, List.forall_mem_cons.mpr ⟨lw_p11, List.forall_mem_cons.mpr ⟨lw_p12, List.forall_mem_cons.mpr ⟨lw_p13, List.forall_mem_cons.mpr ⟨lw_p14, List.forall_mem_cons.mpr ⟨lw_p15, fun _ h => absurd h List.not_mem_nil⟩⟩⟩⟩⟩⟩⟩⟩⟩⟩⟩⟩⟩⟩⟩⟩
theorem lw_p16 : lw_okq (⟨"WideTurn$Search", "remove", "(I)V"⟩, 14) := ⟨⟨by decide +kernel, by decide +kernel⟩, List.mem_of_getElem? (i := 103) (by decide +kernel), List.mem_of_getElem? (i := 678) (by decide +kernel), List.mem_of_getElem? (i := 679) (by decide +kernel)⟩
theorem lw_p17 : lw_okq (⟨"WideTurn$Search", "leave", "(I)V"⟩, 14) := ⟨⟨by decide +kernel, by decide +kernel⟩, List.mem_of_getElem? (i := 103) (by decide +kernel), List.mem_of_getElem? (i := 682) (by decide +kernel), List.mem_of_getElem? (i := 683) (by decide +kernel)⟩
theorem lw_p18 : lw_okq (⟨"WideTurn$Search", "clearAt", "(II)I"⟩, 14) := ⟨⟨by decide +kernel, by decide +kernel⟩, List.mem_of_getElem? (i := 103) (by decide +kernel), List.mem_of_getElem? (i := 689) (by decide +kernel), List.mem_of_getElem? (i := 690) (by decide +kernel)⟩
theorem lw_p19 : lw_okq (⟨"WideTurn$Search", "behind", "(III)I"⟩, 14) := ⟨⟨by decide +kernel, by decide +kernel⟩, List.mem_of_getElem? (i := 103) (by decide +kernel), List.mem_of_getElem? (i := 693) (by decide +kernel), List.mem_of_getElem? (i := 694) (by decide +kernel)⟩
theorem lw_p20 : lw_okq (⟨"WideTurn$Search", "offer", "(III)V"⟩, 14) := ⟨⟨by decide +kernel, by decide +kernel⟩, List.mem_of_getElem? (i := 103) (by decide +kernel), List.mem_of_getElem? (i := 698) (by decide +kernel), List.mem_of_getElem? (i := 699) (by decide +kernel)⟩
theorem lw_p21 : lw_okq (⟨"WideTurn", "easiestCell", "(ZI)I"⟩, 10) := ⟨⟨by decide +kernel, by decide +kernel⟩, List.mem_of_getElem? (i := 19) (by decide +kernel), List.mem_of_getElem? (i := 728) (by decide +kernel), List.mem_of_getElem? (i := 729) (by decide +kernel)⟩
theorem lw_p22 : lw_okq (⟨"WideTurn", "minutesIfLaden", "(I)I"⟩, 10) := ⟨⟨by decide +kernel, by decide +kernel⟩, List.mem_of_getElem? (i := 19) (by decide +kernel), List.mem_of_getElem? (i := 745) (by decide +kernel), List.mem_of_getElem? (i := 746) (by decide +kernel)⟩
theorem lw_p23 : lw_okq (⟨"WideTurn", "findingAt", "(III)I"⟩, 10) := ⟨⟨by decide +kernel, by decide +kernel⟩, List.mem_of_getElem? (i := 19) (by decide +kernel), List.mem_of_getElem? (i := 753) (by decide +kernel), List.mem_of_getElem? (i := 754) (by decide +kernel)⟩
theorem lw_p24 : lw_okq (⟨"WideTurn", "planned", "(IIII)I"⟩, 10) := ⟨⟨by decide +kernel, by decide +kernel⟩, List.mem_of_getElem? (i := 19) (by decide +kernel), List.mem_of_getElem? (i := 757) (by decide +kernel), List.mem_of_getElem? (i := 758) (by decide +kernel)⟩
theorem lw_p25 : lw_okq (⟨"WideTurn", "waysSeen", "(IIIII)I"⟩, 10) := ⟨⟨by decide +kernel, by decide +kernel⟩, List.mem_of_getElem? (i := 19) (by decide +kernel), List.mem_of_getElem? (i := 769) (by decide +kernel), List.mem_of_getElem? (i := 770) (by decide +kernel)⟩
theorem lw_p26 : lw_okq (⟨"WideTurn", "waysBehind", "(IIIIII)I"⟩, 10) := ⟨⟨by decide +kernel, by decide +kernel⟩, List.mem_of_getElem? (i := 19) (by decide +kernel), List.mem_of_getElem? (i := 773) (by decide +kernel), List.mem_of_getElem? (i := 774) (by decide +kernel)⟩
theorem lw_p27 : lw_okq (⟨"WideTurn", "firstSeen", "(III)I"⟩, 10) := ⟨⟨by decide +kernel, by decide +kernel⟩, List.mem_of_getElem? (i := 19) (by decide +kernel), List.mem_of_getElem? (i := 777) (by decide +kernel), List.mem_of_getElem? (i := 778) (by decide +kernel)⟩
theorem lw_p28 : lw_okq (⟨"WideTurn", "passDays", "(II)I"⟩, 10) := ⟨⟨by decide +kernel, by decide +kernel⟩, List.mem_of_getElem? (i := 19) (by decide +kernel), List.mem_of_getElem? (i := 808) (by decide +kernel), List.mem_of_getElem? (i := 809) (by decide +kernel)⟩
theorem lw_p29 : lw_okq (⟨"WideTurnModel", "finds", "(I)I"⟩, 25) := ⟨⟨by decide +kernel, by decide +kernel⟩, List.mem_of_getElem? (i := 932) (by decide +kernel), List.mem_of_getElem? (i := 1026) (by decide +kernel), List.mem_of_getElem? (i := 1027) (by decide +kernel)⟩
theorem lw_p30 : lw_okq (⟨"WideTurnModel", "is", "(I)I"⟩, 25) := ⟨⟨by decide +kernel, by decide +kernel⟩, List.mem_of_getElem? (i := 932) (by decide +kernel), List.mem_of_getElem? (i := 1031) (by decide +kernel), List.mem_of_getElem? (i := 1032) (by decide +kernel)⟩
theorem lw_p31 : lw_okq (⟨"WideTurnModel", "isPart", "(III)Z"⟩, 25) := ⟨⟨by decide +kernel, by decide +kernel⟩, List.mem_of_getElem? (i := 932) (by decide +kernel), List.mem_of_getElem? (i := 1046) (by decide +kernel), List.mem_of_getElem? (i := 1047) (by decide +kernel)⟩
def lw_privs_2 : List (MethodName × Nat) := [(⟨"WideTurn$Search", "remove", "(I)V"⟩, 14), (⟨"WideTurn$Search", "leave", "(I)V"⟩, 14), (⟨"WideTurn$Search", "clearAt", "(II)I"⟩, 14), (⟨"WideTurn$Search", "behind", "(III)I"⟩, 14), (⟨"WideTurn$Search", "offer", "(III)V"⟩, 14), (⟨"WideTurn", "easiestCell", "(ZI)I"⟩, 10), (⟨"WideTurn", "minutesIfLaden", "(I)I"⟩, 10), (⟨"WideTurn", "findingAt", "(III)I"⟩, 10), (⟨"WideTurn", "planned", "(IIII)I"⟩, 10), (⟨"WideTurn", "waysSeen", "(IIIII)I"⟩, 10), (⟨"WideTurn", "waysBehind", "(IIIIII)I"⟩, 10), (⟨"WideTurn", "firstSeen", "(III)I"⟩, 10), (⟨"WideTurn", "passDays", "(II)I"⟩, 10), (⟨"WideTurnModel", "finds", "(I)I"⟩, 25), (⟨"WideTurnModel", "is", "(I)I"⟩, 25), (⟨"WideTurnModel", "isPart", "(III)Z"⟩, 25)]
theorem lw_r2 : ∀ q ∈ lw_privs_2, lw_okq q := List.forall_mem_cons.mpr ⟨lw_p16, List.forall_mem_cons.mpr ⟨lw_p17, List.forall_mem_cons.mpr ⟨lw_p18, List.forall_mem_cons.mpr ⟨lw_p19, List.forall_mem_cons.mpr ⟨lw_p20, List.forall_mem_cons.mpr ⟨lw_p21, List.forall_mem_cons.mpr ⟨lw_p22, List.forall_mem_cons.mpr ⟨lw_p23, List.forall_mem_cons.mpr ⟨lw_p24, List.forall_mem_cons.mpr ⟨lw_p25, List.forall_mem_cons.mpr ⟨lw_p26, List.forall_mem_cons.mpr ⟨lw_p27, List.forall_mem_cons.mpr ⟨lw_p28, List.forall_mem_cons.mpr ⟨lw_p29, List.forall_mem_cons.mpr ⟨lw_p30, List.forall_mem_cons.mpr ⟨lw_p31, fun _ h => absurd h List.not_mem_nil⟩⟩⟩⟩⟩⟩⟩⟩⟩⟩⟩⟩⟩⟩⟩⟩
theorem lw_p32 : lw_okq (⟨"WideTurnModel", "advances", "()V"⟩, 25) := ⟨⟨by decide +kernel, by decide +kernel⟩, List.mem_of_getElem? (i := 932) (by decide +kernel), List.mem_of_getElem? (i := 1063) (by decide +kernel), List.mem_of_getElem? (i := 1064) (by decide +kernel)⟩
theorem lw_p33 : lw_okq (⟨"WideTurnModel", "letterAt", "(I)I"⟩, 25) := ⟨⟨by decide +kernel, by decide +kernel⟩, List.mem_of_getElem? (i := 932) (by decide +kernel), List.mem_of_getElem? (i := 1067) (by decide +kernel), List.mem_of_getElem? (i := 1068) (by decide +kernel)⟩
theorem lw_p34 : lw_okq (⟨"WideTurnModel", "readsHead", "()V"⟩, 25) := ⟨⟨by decide +kernel, by decide +kernel⟩, List.mem_of_getElem? (i := 932) (by decide +kernel), List.mem_of_getElem? (i := 1071) (by decide +kernel), List.mem_of_getElem? (i := 1072) (by decide +kernel)⟩
theorem lw_p35 : lw_okq (⟨"WideTurnModel", "wants", "(II)V"⟩, 25) := ⟨⟨by decide +kernel, by decide +kernel⟩, List.mem_of_getElem? (i := 932) (by decide +kernel), List.mem_of_getElem? (i := 1075) (by decide +kernel), List.mem_of_getElem? (i := 1076) (by decide +kernel)⟩
theorem lw_p36 : lw_okq (⟨"WideTurnModel", "fails", "(I)V"⟩, 25) := ⟨⟨by decide +kernel, by decide +kernel⟩, List.mem_of_getElem? (i := 932) (by decide +kernel), List.mem_of_getElem? (i := 1079) (by decide +kernel), List.mem_of_getElem? (i := 1080) (by decide +kernel)⟩
theorem lw_p37 : lw_okq (⟨"WideTurnModel", "isWell", "()Z"⟩, 25) := ⟨⟨by decide +kernel, by decide +kernel⟩, List.mem_of_getElem? (i := 932) (by decide +kernel), List.mem_of_getElem? (i := 1083) (by decide +kernel), List.mem_of_getElem? (i := 1084) (by decide +kernel)⟩
theorem lw_p38 : lw_okq (⟨"WideTurnModel", "number", "(IIZ)I"⟩, 25) := ⟨⟨by decide +kernel, by decide +kernel⟩, List.mem_of_getElem? (i := 932) (by decide +kernel), List.mem_of_getElem? (i := 1087) (by decide +kernel), List.mem_of_getElem? (i := 1088) (by decide +kernel)⟩
theorem lw_p39 : lw_okq (⟨"WideTurnModel", "readsRest", "()V"⟩, 25) := ⟨⟨by decide +kernel, by decide +kernel⟩, List.mem_of_getElem? (i := 932) (by decide +kernel), List.mem_of_getElem? (i := 1091) (by decide +kernel), List.mem_of_getElem? (i := 1092) (by decide +kernel)⟩
theorem lw_p40 : lw_okq (⟨"WideTurnModel", "isHand", "(I)Z"⟩, 25) := ⟨⟨by decide +kernel, by decide +kernel⟩, List.mem_of_getElem? (i := 932) (by decide +kernel), List.mem_of_getElem? (i := 1118) (by decide +kernel), List.mem_of_getElem? (i := 1119) (by decide +kernel)⟩
theorem lw_p41 : lw_okq (⟨"WideTurnModel", "notes", "()V"⟩, 25) := ⟨⟨by decide +kernel, by decide +kernel⟩, List.mem_of_getElem? (i := 932) (by decide +kernel), List.mem_of_getElem? (i := 1146) (by decide +kernel), List.mem_of_getElem? (i := 1147) (by decide +kernel)⟩
theorem lw_p42 : lw_okq (⟨"WideTurnModel", "boatCells", "()I"⟩, 25) := ⟨⟨by decide +kernel, by decide +kernel⟩, List.mem_of_getElem? (i := 932) (by decide +kernel), List.mem_of_getElem? (i := 1161) (by decide +kernel), List.mem_of_getElem? (i := 1162) (by decide +kernel)⟩
theorem lw_p43 : lw_okq (⟨"WideTurnModel", "fitsNow", "()Z"⟩, 25) := ⟨⟨by decide +kernel, by decide +kernel⟩, List.mem_of_getElem? (i := 932) (by decide +kernel), List.mem_of_getElem? (i := 1172) (by decide +kernel), List.mem_of_getElem? (i := 1173) (by decide +kernel)⟩
theorem lw_p44 : lw_okq (⟨"WideTurnModel", "solves", "([IIII)I"⟩, 25) := ⟨⟨by decide +kernel, by decide +kernel⟩, List.mem_of_getElem? (i := 932) (by decide +kernel), List.mem_of_getElem? (i := 1193) (by decide +kernel), List.mem_of_getElem? (i := 1194) (by decide +kernel)⟩
theorem lw_p45 : lw_okq (⟨"WideTurnModel", "firstOf", "([I)I"⟩, 25) := ⟨⟨by decide +kernel, by decide +kernel⟩, List.mem_of_getElem? (i := 932) (by decide +kernel), List.mem_of_getElem? (i := 1207) (by decide +kernel), List.mem_of_getElem? (i := 1208) (by decide +kernel)⟩
theorem lw_p46 : lw_okq (⟨"WideTurnModel", "turnedOf", "([II)I"⟩, 25) := ⟨⟨by decide +kernel, by decide +kernel⟩, List.mem_of_getElem? (i := 932) (by decide +kernel), List.mem_of_getElem? (i := 1215) (by decide +kernel), List.mem_of_getElem? (i := 1216) (by decide +kernel)⟩
theorem lw_p47 : lw_okq (⟨"WideTurnModel", "wrongRow", "(III)I"⟩, 25) := ⟨⟨by decide +kernel, by decide +kernel⟩, List.mem_of_getElem? (i := 932) (by decide +kernel), List.mem_of_getElem? (i := 1243) (by decide +kernel), List.mem_of_getElem? (i := 1244) (by decide +kernel)⟩
def lw_privs_3 : List (MethodName × Nat) := [(⟨"WideTurnModel", "advances", "()V"⟩, 25), (⟨"WideTurnModel", "letterAt", "(I)I"⟩, 25), (⟨"WideTurnModel", "readsHead", "()V"⟩, 25), (⟨"WideTurnModel", "wants", "(II)V"⟩, 25), (⟨"WideTurnModel", "fails", "(I)V"⟩, 25), (⟨"WideTurnModel", "isWell", "()Z"⟩, 25), (⟨"WideTurnModel", "number", "(IIZ)I"⟩, 25), (⟨"WideTurnModel", "readsRest", "()V"⟩, 25), (⟨"WideTurnModel", "isHand", "(I)Z"⟩, 25), (⟨"WideTurnModel", "notes", "()V"⟩, 25), (⟨"WideTurnModel", "boatCells", "()I"⟩, 25), (⟨"WideTurnModel", "fitsNow", "()Z"⟩, 25), (⟨"WideTurnModel", "solves", "([IIII)I"⟩, 25), (⟨"WideTurnModel", "firstOf", "([I)I"⟩, 25), (⟨"WideTurnModel", "turnedOf", "([II)I"⟩, 25), (⟨"WideTurnModel", "wrongRow", "(III)I"⟩, 25)]
theorem lw_r3 : ∀ q ∈ lw_privs_3, lw_okq q := List.forall_mem_cons.mpr ⟨lw_p32, List.forall_mem_cons.mpr ⟨lw_p33, List.forall_mem_cons.mpr ⟨lw_p34, List.forall_mem_cons.mpr ⟨lw_p35, List.forall_mem_cons.mpr ⟨lw_p36, List.forall_mem_cons.mpr ⟨lw_p37, List.forall_mem_cons.mpr ⟨lw_p38, List.forall_mem_cons.mpr ⟨lw_p39, List.forall_mem_cons.mpr ⟨lw_p40, List.forall_mem_cons.mpr ⟨lw_p41, List.forall_mem_cons.mpr ⟨lw_p42, List.forall_mem_cons.mpr ⟨lw_p43, List.forall_mem_cons.mpr ⟨lw_p44, List.forall_mem_cons.mpr ⟨lw_p45, List.forall_mem_cons.mpr ⟨lw_p46, List.forall_mem_cons.mpr ⟨lw_p47, fun _ h => absurd h List.not_mem_nil⟩⟩⟩⟩⟩⟩⟩⟩⟩⟩⟩⟩⟩⟩⟩⟩
theorem lw_p48 : lw_okq (⟨"WideTurnModel", "sizeOf", "(I)I"⟩, 25) := ⟨⟨by decide +kernel, by decide +kernel⟩, List.mem_of_getElem? (i := 932) (by decide +kernel), List.mem_of_getElem? (i := 1298) (by decide +kernel), List.mem_of_getElem? (i := 1299) (by decide +kernel)⟩
theorem lw_p49 : lw_okq (⟨"WideTurnModel", "leaves", "(I)V"⟩, 25) := ⟨⟨by decide +kernel, by decide +kernel⟩, List.mem_of_getElem? (i := 932) (by decide +kernel), List.mem_of_getElem? (i := 1302) (by decide +kernel), List.mem_of_getElem? (i := 1303) (by decide +kernel)⟩
theorem lw_p50 : lw_okq (⟨"WideTurnModel", "plainMark", "(I)I"⟩, 25) := ⟨⟨by decide +kernel, by decide +kernel⟩, List.mem_of_getElem? (i := 932) (by decide +kernel), List.mem_of_getElem? (i := 1306) (by decide +kernel), List.mem_of_getElem? (i := 1307) (by decide +kernel)⟩
theorem lw_p51 : lw_okq (⟨"WideTurnModel", "markOf", "(I)I"⟩, 25) := ⟨⟨by decide +kernel, by decide +kernel⟩, List.mem_of_getElem? (i := 932) (by decide +kernel), List.mem_of_getElem? (i := 1310) (by decide +kernel), List.mem_of_getElem? (i := 1311) (by decide +kernel)⟩
def lw_privs_4 : List (MethodName × Nat) := [(⟨"WideTurnModel", "sizeOf", "(I)I"⟩, 25), (⟨"WideTurnModel", "leaves", "(I)V"⟩, 25), (⟨"WideTurnModel", "plainMark", "(I)I"⟩, 25), (⟨"WideTurnModel", "markOf", "(I)I"⟩, 25)]
theorem lw_r4 : ∀ q ∈ lw_privs_4, lw_okq q := List.forall_mem_cons.mpr ⟨lw_p48, List.forall_mem_cons.mpr ⟨lw_p49, List.forall_mem_cons.mpr ⟨lw_p50, List.forall_mem_cons.mpr ⟨lw_p51, fun _ h => absurd h List.not_mem_nil⟩⟩⟩⟩
def lw_privs : List (MethodName × Nat) := lw_privs_1 ++ (lw_privs_2 ++ (lw_privs_3 ++ (lw_privs_4)))
def lw_tbl : List Cond := k2_sels lw_privs ++ tables_1
theorem lw_privs_ok : ∀ q ∈ lw_privs, lw_okq q := by
  show ∀ q ∈ lw_privs_1 ++ (lw_privs_2 ++ (lw_privs_3 ++ (lw_privs_4))), lw_okq q
  exact List.forall_mem_append.mpr ⟨lw_r1, List.forall_mem_append.mpr ⟨lw_r2, List.forall_mem_append.mpr ⟨lw_r3, lw_r4⟩⟩⟩

-- class tables (begun as NAMES.whole.lean.txt)
def RX0 : String := "WideTurn$Acts"
def TX0 : u_T := fun k => match k with
  | 0 => ("WideTurn$Acts", "middle", "[I", true)
  | 1 => ("WideTurn$Acts", "turn", "[I", true)
  | 2 => ("WideTurn$Acts", "laden", "[I", true)
  | 3 => ("WideTurn$Acts", "moves", "[I", true)
  | 4 => ("WideTurn$Acts", "moored", "[I", true)
  | 5 => ("WideTurn$Acts", "lowered", "[I", true)
  | 6 => ("WideTurn$Acts", "next", "I", false)
  | _ => ("WideTurn$Acts", "kept", "I", false)
def tyX0 : Nat → FieldType := fun k => match k with
  | 0 => .array .int
  | 1 => .array .int
  | 2 => .array .int
  | 3 => .array .int
  | 4 => .array .int
  | 5 => .array .int
  | 6 => .int
  | _ => .int
theorem nmX0 : ∀ a, a < 8 → ∀ b, b < 8 → a ≠ b → (TX0 a).2.1 ≠ (TX0 b).2.1 := by decide +kernel
theorem tyX0_ok : ∀ k, k < 8 → parseFieldDescriptor (TX0 k).2.2.1 = some (tyX0 k) := by decide +kernel
def RX1 : String := "WideTurn$Basin"
def TX1 : u_T := fun k => match k with
  | 0 => ("WideTurn$Basin", "wind", "I", false)
  | 1 => ("WideTurn$Basin", "draught", "I", false)
  | 2 => ("WideTurn$Basin", "load", "I", false)
  | 3 => ("WideTurn$Basin", "middle", "I", false)
  | 4 => ("WideTurn$Basin", "turn", "I", false)
  | 5 => ("WideTurn$Basin", "laden", "I", false)
  | 6 => ("WideTurn$Basin", "moves", "I", false)
  | 7 => ("WideTurn$Basin", "moored", "I", false)
  | 8 => ("WideTurn$Basin", "hands", "I", false)
  | 9 => ("WideTurn$Basin", "depth", "[I", true)
  | _ => ("WideTurn$Basin", "hand", "[LWideTurn$Hand;", true)
def tyX1 : Nat → FieldType := fun k => match k with
  | 0 => .int
  | 1 => .int
  | 2 => .int
  | 3 => .int
  | 4 => .int
  | 5 => .int
  | 6 => .int
  | 7 => .int
  | 8 => .int
  | 9 => .array .int
  | _ => .array (.object "WideTurn$Hand")
theorem nmX1 : ∀ a, a < 11 → ∀ b, b < 11 → a ≠ b → (TX1 a).2.1 ≠ (TX1 b).2.1 := by decide +kernel
theorem tyX1_ok : ∀ k, k < 11 → parseFieldDescriptor (TX1 k).2.2.1 = some (tyX1 k) := by decide +kernel
def RX2 : String := "WideTurn$Hand"
def TX2 : u_T := fun k => match k with
  | _ => ("", "", "", false)
def tyX2 : Nat → FieldType := fun k => match k with
  | _ => .int
theorem nmX2 : ∀ a, a < 0 → ∀ b, b < 0 → a ≠ b → (TX2 a).2.1 ≠ (TX2 b).2.1 := by decide +kernel
theorem tyX2_ok : ∀ k, k < 0 → parseFieldDescriptor (TX2 k).2.2.1 = some (tyX2 k) := by decide +kernel
def RX3 : String := "WideTurn$Lifter"
def TX3 : u_T := fun k => match k with
  | 0 => ("WideTurn$Hand", "number", "I", true)
  | 1 => ("WideTurn$Hand", "minutes", "I", true)
  | _ => ("WideTurn$Hand", "known", "I", true)
def tyX3 : Nat → FieldType := fun k => match k with
  | 0 => .int
  | 1 => .int
  | _ => .int
theorem nmX3 : ∀ a, a < 3 → ∀ b, b < 3 → a ≠ b → (TX3 a).2.1 ≠ (TX3 b).2.1 := by decide +kernel
theorem tyX3_ok : ∀ k, k < 3 → parseFieldDescriptor (TX3 k).2.2.1 = some (tyX3 k) := by decide +kernel
def RX4 : String := "WideTurn$Poler"
def TX4 : u_T := fun k => match k with
  | 0 => ("WideTurn$Hand", "number", "I", true)
  | 1 => ("WideTurn$Hand", "minutes", "I", true)
  | _ => ("WideTurn$Hand", "known", "I", true)
def tyX4 : Nat → FieldType := fun k => match k with
  | 0 => .int
  | 1 => .int
  | _ => .int
theorem nmX4 : ∀ a, a < 3 → ∀ b, b < 3 → a ≠ b → (TX4 a).2.1 ≠ (TX4 b).2.1 := by decide +kernel
theorem tyX4_ok : ∀ k, k < 3 → parseFieldDescriptor (TX4 k).2.2.1 = some (tyX4 k) := by decide +kernel
def RX5 : String := "WideTurn$Roper"
def TX5 : u_T := fun k => match k with
  | 0 => ("WideTurn$Hand", "number", "I", true)
  | 1 => ("WideTurn$Hand", "minutes", "I", true)
  | _ => ("WideTurn$Hand", "known", "I", true)
def tyX5 : Nat → FieldType := fun k => match k with
  | 0 => .int
  | 1 => .int
  | _ => .int
theorem nmX5 : ∀ a, a < 3 → ∀ b, b < 3 → a ≠ b → (TX5 a).2.1 ≠ (TX5 b).2.1 := by decide +kernel
theorem tyX5_ok : ∀ k, k < 3 → parseFieldDescriptor (TX5 k).2.2.1 = some (tyX5 k) := by decide +kernel
def RX6 : String := "WideTurn$Rows"
def TX6 : u_T := fun k => match k with
  | 0 => ("WideTurn$Rows", "items", "[I", true)
  | 1 => ("WideTurn$Rows", "lanes", "[I", true)
  | _ => ("WideTurn$Rows", "sizes", "[I", true)
def tyX6 : Nat → FieldType := fun k => match k with
  | 0 => .array .int
  | 1 => .array .int
  | _ => .array .int
theorem nmX6 : ∀ a, a < 3 → ∀ b, b < 3 → a ≠ b → (TX6 a).2.1 ≠ (TX6 b).2.1 := by decide +kernel
theorem tyX6_ok : ∀ k, k < 3 → parseFieldDescriptor (TX6 k).2.2.1 = some (tyX6 k) := by decide +kernel
def RX7 : String := "WideTurn$Search"
def TX7 : u_T := fun k => match k with
  | 0 => ("WideTurn$Search", "clear", "[I", true)
  | 1 => ("WideTurn$Search", "minutes", "[I", true)
  | 2 => ("WideTurn$Search", "first", "[I", true)
  | 3 => ("WideTurn$Search", "after", "[I", true)
  | 4 => ("WideTurn$Search", "before", "[I", true)
  | 5 => ("WideTurn$Search", "heads", "[I", true)
  | 6 => ("WideTurn$Search", "paces", "[I", true)
  | 7 => ("WideTurn$Search", "pacers", "[I", true)
  | 8 => ("WideTurn$Search", "draught", "I", false)
  | 9 => ("WideTurn$Search", "lee", "I", false)
  | 10 => ("WideTurn$Search", "start", "I", false)
  | 11 => ("WideTurn$Search", "waiting", "I", false)
  | 12 => ("WideTurn$Search", "foundMinutes", "I", false)
  | _ => ("WideTurn$Search", "foundFirst", "I", false)
def tyX7 : Nat → FieldType := fun k => match k with
  | 0 => .array .int
  | 1 => .array .int
  | 2 => .array .int
  | 3 => .array .int
  | 4 => .array .int
  | 5 => .array .int
  | 6 => .array .int
  | 7 => .array .int
  | 8 => .int
  | 9 => .int
  | 10 => .int
  | 11 => .int
  | 12 => .int
  | _ => .int
theorem nmX7 : ∀ a, a < 14 → ∀ b, b < 14 → a ≠ b → (TX7 a).2.1 ≠ (TX7 b).2.1 := by decide +kernel
theorem tyX7_ok : ∀ k, k < 14 → parseFieldDescriptor (TX7 k).2.2.1 = some (tyX7 k) := by decide +kernel
def RX8 : String := "WideTurn$Shover"
def TX8 : u_T := fun k => match k with
  | 0 => ("WideTurn$Hand", "number", "I", true)
  | 1 => ("WideTurn$Hand", "minutes", "I", true)
  | _ => ("WideTurn$Hand", "known", "I", true)
def tyX8 : Nat → FieldType := fun k => match k with
  | 0 => .int
  | 1 => .int
  | _ => .int
theorem nmX8 : ∀ a, a < 3 → ∀ b, b < 3 → a ≠ b → (TX8 a).2.1 ≠ (TX8 b).2.1 := by decide +kernel
theorem tyX8_ok : ∀ k, k < 3 → parseFieldDescriptor (TX8 k).2.2.1 = some (tyX8 k) := by decide +kernel
def RX9 : String := "WideTurn$Swinger"
def TX9 : u_T := fun k => match k with
  | 0 => ("WideTurn$Hand", "number", "I", true)
  | 1 => ("WideTurn$Hand", "minutes", "I", true)
  | _ => ("WideTurn$Hand", "known", "I", true)
def tyX9 : Nat → FieldType := fun k => match k with
  | 0 => .int
  | 1 => .int
  | _ => .int
theorem nmX9 : ∀ a, a < 3 → ∀ b, b < 3 → a ≠ b → (TX9 a).2.1 ≠ (TX9 b).2.1 := by decide +kernel
theorem tyX9_ok : ∀ k, k < 3 → parseFieldDescriptor (TX9 k).2.2.1 = some (tyX9 k) := by decide +kernel
def RX10 : String := "WideTurn$Tape"
def TX10 : u_T := fun k => match k with
  | 0 => ("WideTurn$Tape", "bytes", "[I", true)
  | 1 => ("WideTurn$Tape", "length", "I", false)
  | 2 => ("WideTurn$Tape", "place", "I", false)
  | 3 => ("WideTurn$Tape", "fault", "I", false)
  | 4 => ("WideTurn$Tape", "faultPlace", "I", false)
  | _ => ("WideTurn$Tape", "latestFault", "I", false)
def tyX10 : Nat → FieldType := fun k => match k with
  | 0 => .array .int
  | 1 => .int
  | 2 => .int
  | 3 => .int
  | 4 => .int
  | _ => .int
theorem nmX10 : ∀ a, a < 6 → ∀ b, b < 6 → a ≠ b → (TX10 a).2.1 ≠ (TX10 b).2.1 := by decide +kernel
theorem tyX10_ok : ∀ k, k < 6 → parseFieldDescriptor (TX10 k).2.2.1 = some (tyX10 k) := by decide +kernel
def RX11 : String := "WideTurn"
def TX11 : u_T := fun k => match k with
  | 0 => ("WideTurn", "rows", "LWideTurn$Rows;", true)
  | 1 => ("WideTurn", "tape", "LWideTurn$Tape;", true)
  | 2 => ("WideTurn", "acts", "LWideTurn$Acts;", true)
  | 3 => ("WideTurn", "search", "LWideTurn$Search;", true)
  | 4 => ("WideTurn", "now", "LWideTurn$Basin;", true)
  | 5 => ("WideTurn", "trial", "LWideTurn$Basin;", true)
  | 6 => ("WideTurn", "images", "[LWideTurn$Basin;", true)
  | 7 => ("WideTurn", "trace", "[I", true)
  | 8 => ("WideTurn", "told", "Z", false)
  | _ => ("WideTurn", "finding", "I", false)
def tyX11 : Nat → FieldType := fun k => match k with
  | 0 => .object "WideTurn$Rows"
  | 1 => .object "WideTurn$Tape"
  | 2 => .object "WideTurn$Acts"
  | 3 => .object "WideTurn$Search"
  | 4 => .object "WideTurn$Basin"
  | 5 => .object "WideTurn$Basin"
  | 6 => .array (.object "WideTurn$Basin")
  | 7 => .array .int
  | 8 => .boolean
  | _ => .int
theorem nmX11 : ∀ a, a < 10 → ∀ b, b < 10 → a ≠ b → (TX11 a).2.1 ≠ (TX11 b).2.1 := by decide +kernel
theorem tyX11_ok : ∀ k, k < 10 → parseFieldDescriptor (TX11 k).2.2.1 = some (tyX11 k) := by decide +kernel
def RX12 : String := "WideTurnModel"
def TX12 : u_T := fun k => match k with
  | 0 => ("WideTurnModel", "thrown", "I", false)
  | 1 => ("WideTurnModel", "tape", "[I", true)
  | 2 => ("WideTurnModel", "typed", "I", false)
  | 3 => ("WideTurnModel", "next", "I", false)
  | 4 => ("WideTurnModel", "token", "I", false)
  | 5 => ("WideTurnModel", "place", "I", false)
  | 6 => ("WideTurnModel", "value", "I", false)
  | 7 => ("WideTurnModel", "fault", "I", false)
  | 8 => ("WideTurnModel", "faultAt", "I", false)
  | 9 => ("WideTurnModel", "latestFault", "I", false)
  | 10 => ("WideTurnModel", "lane", "[I", true)
  | 11 => ("WideTurnModel", "length", "[I", true)
  | 12 => ("WideTurnModel", "items", "[I", true)
  | 13 => ("WideTurnModel", "finding", "I", false)
  | 14 => ("WideTurnModel", "draft", "[I", true)
  | 15 => ("WideTurnModel", "s", "[I", true)
  | 16 => ("WideTurnModel", "w", "[I", true)
  | 17 => ("WideTurnModel", "acts", "[I", true)
  | 18 => ("WideTurnModel", "actMany", "I", false)
  | 19 => ("WideTurnModel", "images", "[I", true)
  | 20 => ("WideTurnModel", "isKept", "[Z", true)
  | 21 => ("WideTurnModel", "trace", "[I", true)
  | 22 => ("WideTurnModel", "traceMany", "I", false)
  | 23 => ("WideTurnModel", "best", "[I", true)
  | _ => ("WideTurnModel", "ways", "[I", true)
def tyX12 : Nat → FieldType := fun k => match k with
  | 0 => .int
  | 1 => .array .int
  | 2 => .int
  | 3 => .int
  | 4 => .int
  | 5 => .int
  | 6 => .int
  | 7 => .int
  | 8 => .int
  | 9 => .int
  | 10 => .array .int
  | 11 => .array .int
  | 12 => .array .int
  | 13 => .int
  | 14 => .array .int
  | 15 => .array .int
  | 16 => .array .int
  | 17 => .array .int
  | 18 => .int
  | 19 => .array .int
  | 20 => .array .boolean
  | 21 => .array .int
  | 22 => .int
  | 23 => .array .int
  | _ => .array .int
theorem nmX12 : ∀ a, a < 25 → ∀ b, b < 25 → a ≠ b → (TX12 a).2.1 ≠ (TX12 b).2.1 := by decide +kernel
theorem tyX12_ok : ∀ k, k < 25 → parseFieldDescriptor (TX12 k).2.2.1 = some (tyX12 k) := by decide +kernel
-- ===== the classes whose objects are made, and what the tables say of them =====
def mj_cl : List vw_C := [(RX0, TX0, 8), (RX1, TX1, 11), (RX3, TX3, 3), (RX4, TX4, 3), (RX5, TX5, 3), (RX6, TX6, 3), (RX7, TX7, 14), (RX8, TX8, 3), (RX9, TX9, 3), (RX10, TX10, 6), (RX11, TX11, 10), (RX12, TX12, 25)]
theorem mj_in0 : ∀ w ∈ u_ws RX0 TX0 8, w ∈ lw_tbl := by decide +kernel
theorem mj_in1 : ∀ w ∈ u_ws RX1 TX1 11, w ∈ lw_tbl := by decide +kernel
theorem mj_in2 : ∀ w ∈ u_ws RX3 TX3 3, w ∈ lw_tbl := by decide +kernel
theorem mj_in3 : ∀ w ∈ u_ws RX4 TX4 3, w ∈ lw_tbl := by decide +kernel
theorem mj_in4 : ∀ w ∈ u_ws RX5 TX5 3, w ∈ lw_tbl := by decide +kernel
theorem mj_in5 : ∀ w ∈ u_ws RX6 TX6 3, w ∈ lw_tbl := by decide +kernel
theorem mj_in6 : ∀ w ∈ u_ws RX7 TX7 14, w ∈ lw_tbl := by decide +kernel
theorem mj_in7 : ∀ w ∈ u_ws RX8 TX8 3, w ∈ lw_tbl := by decide +kernel
theorem mj_in8 : ∀ w ∈ u_ws RX9 TX9 3, w ∈ lw_tbl := by decide +kernel
theorem mj_in9 : ∀ w ∈ u_ws RX10 TX10 6, w ∈ lw_tbl := by decide +kernel
theorem mj_in10 : ∀ w ∈ u_ws RX11 TX11 10, w ∈ lw_tbl := by decide +kernel
theorem mj_in11 : ∀ w ∈ u_ws RX12 TX12 25, w ∈ lw_tbl := by decide +kernel
/-- what a class's row of mj_cl brings: its words, its fields' types, its fields' names apart -/
def mj_ok (q : vw_C) : Prop := (∀ w ∈ u_ws q.1 q.2.1 q.2.2, w ∈ lw_tbl) ∧ (∃ ty : Nat → FieldType, ∀ k, k < q.2.2 → parseFieldDescriptor (q.2.1 k).2.2.1 = some (ty k)) ∧ ∀ a, a < q.2.2 → ∀ b, b < q.2.2 → a ≠ b → (q.2.1 a).2.1 ≠ (q.2.1 b).2.1
theorem mj_oks : ∀ q ∈ mj_cl, mj_ok q := by
  unfold mj_cl
  refine List.forall_mem_cons.mpr ⟨⟨mj_in0, ⟨tyX0, tyX0_ok⟩, nmX0⟩, ?_⟩
  refine List.forall_mem_cons.mpr ⟨⟨mj_in1, ⟨tyX1, tyX1_ok⟩, nmX1⟩, ?_⟩
  refine List.forall_mem_cons.mpr ⟨⟨mj_in2, ⟨tyX3, tyX3_ok⟩, nmX3⟩, ?_⟩
  refine List.forall_mem_cons.mpr ⟨⟨mj_in3, ⟨tyX4, tyX4_ok⟩, nmX4⟩, ?_⟩
  refine List.forall_mem_cons.mpr ⟨⟨mj_in4, ⟨tyX5, tyX5_ok⟩, nmX5⟩, ?_⟩
  refine List.forall_mem_cons.mpr ⟨⟨mj_in5, ⟨tyX6, tyX6_ok⟩, nmX6⟩, ?_⟩
  refine List.forall_mem_cons.mpr ⟨⟨mj_in6, ⟨tyX7, tyX7_ok⟩, nmX7⟩, ?_⟩
  refine List.forall_mem_cons.mpr ⟨⟨mj_in7, ⟨tyX8, tyX8_ok⟩, nmX8⟩, ?_⟩
  refine List.forall_mem_cons.mpr ⟨⟨mj_in8, ⟨tyX9, tyX9_ok⟩, nmX9⟩, ?_⟩
  refine List.forall_mem_cons.mpr ⟨⟨mj_in9, ⟨tyX10, tyX10_ok⟩, nmX10⟩, ?_⟩
  refine List.forall_mem_cons.mpr ⟨⟨mj_in10, ⟨tyX11, tyX11_ok⟩, nmX11⟩, ?_⟩
  refine List.forall_mem_cons.mpr ⟨⟨mj_in11, ⟨tyX12, tyX12_ok⟩, nmX12⟩, ?_⟩
  exact fun _ h => absurd h List.not_mem_nil
/-- the words that stay as the machine warms up, whatever the arguments; and those others that stay, too -/
def mj_tbl : List Cond := lw_tbl.filter goodWord
def mj_kind : Cond → Bool
  | .methodLinkNest .. => true
  | .declares _ => true
  | .castable .. => true
  | .arrayOver (.object _) => true
  | _ => false
def mj_bad : List Cond := lw_tbl.filter mj_kind
theorem mj_tblIn : GoodIn mj_tbl mj_tbl := fun w hw => ⟨hw, good_of_word (List.mem_filter.mp hw).2⟩
theorem mj_keep {s U : State} (hW : s.WarmedH U.vm) {w : Cond} (hk : mj_kind w = true) (h : va_Nw w s) : va_Nw w U := by
  unfold mj_kind at hk
  split at hk
  · exact va_Nw.warmM hW h
  · exact va_Nw.warmD hW h
  · exact va_Nw.warmC hW h
  · exact va_AO.use (A := #[]) (va_AO.moved hW.alike (va_AO.of (A := #[]) h))
  · cases hk
end
section
/-! ===== the small picture of the heap: cells by number, arrays as functions, objects as lists; numbers 0, 1, 2 are EAST, SOUTH and the script ===== -/
abbrev MC : Type := (Nat × Nat × (Nat → Int32)) ⊕ ((Nat × Nat × (Nat → Option Nat)) ⊕ (Nat × List Value))
abbrev MH : Type := (Nat → MC) × Nat × Nat
/-- the launch; the classes' numbers and slots; the array classes; the addresses; where what is made begins -/
abbrev CX : Type := Launch × va_G × (Nat → ClassId) × (Nat → Nat) × Nat
abbrev CX.l (G : CX) : Launch := G.1
abbrev CX.D (G : CX) : va_G := G.2.1
abbrev CX.cA (G : CX) : Nat → ClassId := G.2.2.1
abbrev CX.ad (G : CX) : Nat → Nat := G.2.2.2.1
abbrev CX.base (G : CX) : Nat := G.2.2.2.2
def mj_v (ad : Nat → Nat) : Value → Value
  | .ref a => .ref (ad a)
  | .int x => .int x
  | .long x => .long x
  | .float x => .float x
  | .double x => .double x
  | .null => .null
  | .retAddr a => .retAddr a
def mj_e (G : CX) : MC → va_E
  | .inl (t, n, f) => .inl (G.cA t, n, .inl f)
  | .inr (.inl (t, n, f)) => .inl (G.cA t, n, .inr (.inr (.inr (.inr (fun j => (f j).map G.ad)))))
  | .inr (.inr (ci, fs)) => .inr (ci, fs.map (mj_v G.ad))
def mj_l (ad : Nat → Nat) (lv : List (Nat × Value)) : List (Nat × Value) := lv.map fun q => (q.1, mj_v ad q.2)
def mj_nil : MC := .inr (.inr (0, []))
def mj_aty : Nat → FieldType := fun k => match k with
  | 0 => .int
  | 1 => .boolean
  | 2 => .object "WideTurn$Hand"
  | _ => .object "WideTurn$Basin"
def mj_tys (G : CX) : List (ClassId × FieldType) := [(G.cA 0, mj_aty 0), (G.cA 1, mj_aty 1), (G.cA 2, mj_aty 2), (G.cA 3, mj_aty 3)]
theorem mj_tys_at (G : CX) {t : Nat} (h : t < 4) : (mj_tys G)[t]? = some (G.cA t, mj_aty t) := by
  rcases (show t = 0 ∨ t = 1 ∨ t = 2 ∨ t = 3 by omega) with rfl | rfl | rfl | rfl <;> rfl
/-- which pairs of classes are not castable -/
def mj_nc : List (String × String) := (["WideTurn$Swinger", "WideTurn$Poler", "WideTurn$Roper", "WideTurn$Shover", "WideTurn$Lifter"].flatMap fun a => ["WideTurn$Swinger", "WideTurn$Poler", "WideTurn$Roper", "WideTurn$Shover", "WideTurn$Lifter"].map fun b => (a, b)).filter fun q => q.1 ≠ q.2 && !(q.2 == "WideTurn$Swinger" && (q.1 == "WideTurn$Poler" || q.1 == "WideTurn$Roper")) && !(q.2 == "WideTurn$Shover" && q.1 == "WideTurn$Lifter")
/-- what stays true of the machine from the law's start on -/
def mj_Fx (G : CX) (s : State) : Prop :=
  va_K G.D mj_cl (mj_tys G) s ∧ (∀ i, 3 ≤ i → G.ad i = G.base + (i - 3)) ∧ (∀ i, i < 3 → G.ad i < G.base) ∧ (∀ w ∈ mj_bad, va_Nw w s) ∧ (∀ q ∈ mj_nc, va_Nc q.1 q.2 s)
/-- the heap H holds the picture h; below base it is as at this frame's start -/
def mj_Rep (G : CX) (s : State) (h : MH) (H : Heap) (locs : List Loc) : Prop :=
  H.size + 3 = G.base + h.2.1 ∧ 3 ≤ h.2.1 ∧
  (∀ i, 3 ≤ i → i < h.2.1 → va_at G.D mj_cl (G.ad i, mj_e G (h.1 i)) H) ∧
  (∀ i, h.2.1 ≤ i → h.1 i = mj_nil) ∧
  (∀ i, i < 3 → ∃ (n : Nat) (f : Nat → Int32), h.1 i = .inl (0, n, f) ∧ va_X (G.ad i) n f s H) ∧
  (∀ i, i < 2 → va_Z "WideTurn" (if i = 0 then "EAST" else "SOUTH") "[I" (.ref (G.ad i)) (fun q => G.base ≤ q) s H) ∧
  (∀ q, q < G.base → H[q]? = s.heap[q]?) ∧ G.base ≤ s.heap.size ∧ ∀ q ∈ locs, G.base ≤ q.base
/-- a method: its name, its bytes, how many locals, what it returns -/
abbrev MI : Type := MethodName × ByteArray × Nat × Option FieldType
def mj_Fr (mi : MI) (p : Program) (s : State) (m : MethodId) (args : Array Value) (meth : Method) (c : Code) : Prop :=
  p.tables.exec = Jvm.exec ∧ c.code = mi.2.1 ∧ c.maxLocals = mi.2.2.1 ∧ s.vm.findClass mi.1.cls = some m.cls ∧ (∀ w ∈ mj_tbl, w.before args s = true) ∧ meth.name = mi.1.name ∧ meth.sig.returnType = mi.2.2.2 ∧ meth.locks = false
/-- from one place of a frame (pc, locals, stack, heap) the machine comes to another of the same frame -/
def Go (mi : MI) (d : Nat) (h0 : MH) (pc : Nat) (lv : List (Nat × Value)) (st : List Value) (h : MH) (pc' : Nat) (lv' : List (Nat × Value)) (st' : List Value) (h' : MH) : Prop :=
  h.2.1 ≤ h'.2.1 ∧ h.2.2 ≤ h'.2.2 ∧
  ∀ (G : CX) (p : Program) (e : Env) (R : Room) (s : State) (m : MethodId) (args : Array Value) (below : List Frame) (meth : Method) (c : Code) (Q : State → Prop),
    mj_Fr mi p s m args meth c → mj_Fx G s → h0.2.1 ≤ h.2.1 → h0.2.2 ≤ h.2.2 → d ≤ R.frames → 64 * d ≤ R.locals → h'.2.1 - h0.2.1 ≤ R.cells → h'.2.2 - h0.2.2 ≤ R.slots →
    (∀ (H : Heap) (locs : List Loc) (ls : Array Slot), mj_Rep G s h' H locs → lv_has ls mi.2.2.1 (mj_l G.ad lv') → W p G.l e R s m args below meth c H locs (h'.2.1 - h0.2.1) (h'.2.2 - h0.2.2) Q (F0 m pc' ls (st'.map (mj_v G.ad)))) →
    ∀ (H : Heap) (locs : List Loc) (ls : Array Slot), mj_Rep G s h H locs → lv_has ls mi.2.2.1 (mj_l G.ad lv) → W p G.l e R s m args below meth c H locs (h.2.1 - h0.2.1) (h.2.2 - h0.2.2) Q (F0 m pc ls (st.map (mj_v G.ad)))
theorem Go.rf {mi : MI} {d : Nat} {h0 : MH} {pc : Nat} {lv : List (Nat × Value)} {st : List Value} {h : MH} : Go mi d h0 pc lv st h pc lv st h :=
  ⟨Nat.le_refl _, Nat.le_refl _, fun _ _ _ _ _ _ _ _ _ _ _ _ _ _ _ _ _ _ _ hQ => hQ⟩
theorem Go.tr {mi : MI} {d : Nat} {h0 : MH} {pc pc1 pc2 : Nat} {lv lv1 lv2 : List (Nat × Value)} {st st1 st2 : List Value} {h h1 h2 : MH} (A : Go mi d h0 pc lv st h pc1 lv1 st1 h1) (B : Go mi d h0 pc1 lv1 st1 h1 pc2 lv2 st2 h2) : Go mi d h0 pc lv st h pc2 lv2 st2 h2 := by
  obtain ⟨a1, a2, a3⟩ := A
  obtain ⟨b1, b2, b3⟩ := B
  refine ⟨Nat.le_trans a1 b1, Nat.le_trans a2 b2, fun G p e R s m args below meth c Q hF hX g1 g2 g3 g4 g5 g6 hQ => ?_⟩
  exact a3 G p e R s m args below meth c Q hF hX g1 g2 g3 g4 (Nat.le_trans (Nat.sub_le_sub_right b1 _) g5) (Nat.le_trans (Nat.sub_le_sub_right b2 _) g6)
    (b3 G p e R s m args below meth c Q hF hX (Nat.le_trans g1 a1) (Nat.le_trans g2 a2) g3 g4 g5 g6 hQ)
/-- more depth, more room -/
theorem Go.up {mi : MI} {d d' : Nat} {h0 : MH} {pc pc1 : Nat} {lv lv1 : List (Nat × Value)} {st st1 : List Value} {h h1 : MH} (hd : d ≤ d') (A : Go mi d h0 pc lv st h pc1 lv1 st1 h1) : Go mi d' h0 pc lv st h pc1 lv1 st1 h1 :=
  ⟨A.1, A.2.1, fun G p e R s m args below meth c Q hF hX g1 g2 g3 g4 g5 g6 hQ => A.2.2 G p e R s m args below meth c Q hF hX g1 g2 (Nat.le_trans hd g3) (Nat.le_trans (Nat.mul_le_mul_left 64 hd) g4) g5 g6 hQ⟩
/-- one instruction that leaves the heap alone -/
theorem Go.one {mi : MI} {d : Nat} {h0 : MH} {pc pc1 pc2 : Nat} {lv lv1 lv2 : List (Nat × Value)} {st st1 st2 : List Value} {h h2 : MH}
    (A : ∀ (G : CX) (p : Program) (e : Env) (R : Room) (s : State) (m : MethodId) (args : Array Value) (below : List Frame) (meth : Method) (c : Code) (Q : State → Prop) (cells slots : Nat) (H : Heap) (locs : List Loc) (ls : Array Slot),
      mj_Fr mi p s m args meth c → mj_Fx G s → d ≤ R.frames → 64 * d ≤ R.locals → mj_Rep G s h H locs → lv_has ls mi.2.2.1 (mj_l G.ad lv) →
      (∀ ls1 : Array Slot, lv_has ls1 mi.2.2.1 (mj_l G.ad lv1) → W p G.l e R s m args below meth c H locs cells slots Q (F0 m pc1 ls1 (st1.map (mj_v G.ad)))) →
      W p G.l e R s m args below meth c H locs cells slots Q (F0 m pc ls (st.map (mj_v G.ad))))
    (B : Go mi d h0 pc1 lv1 st1 h pc2 lv2 st2 h2) : Go mi d h0 pc lv st h pc2 lv2 st2 h2 := by
  obtain ⟨b1, b2, b3⟩ := B
  refine ⟨b1, b2, fun G p e R s m args below meth c Q hF hX g1 g2 g3 g4 g5 g6 hQ H locs ls hR hl => ?_⟩
  exact A G p e R s m args below meth c Q _ _ H locs ls hF hX g3 g4 hR hl (fun ls1 hl1 => b3 G p e R s m args below meth c Q hF hX g1 g2 g3 g4 g5 g6 hQ H locs ls1 hR hl1)
theorem mj_cat (ad : Nat → Nat) (v : Value) : (mj_v ad v).category = v.category := by cases v <;> rfl
theorem mj_lat {ad : Nat → Nat} {ls : Array Slot} {nL : Nat} {lv : List (Nat × Value)} (h : lv_has ls nL (mj_l ad lv)) {k i : Nat} {v : Value} (hk : lv[k]? = some (i, v)) : ls[i]? = some (.val (mj_v ad v)) :=
  lv_at h k (by simp [mj_l, hk])
def mj_s1 (i : Nat) (v : Value) (lv : List (Nat × Value)) : List (Nat × Value) := (i, v) :: lv.filter (fun q => !(q.1 == i) && !(q.1 + 1 == i && q.2.category == 2))
def mj_s2 (i : Nat) (v : Value) (lv : List (Nat × Value)) : List (Nat × Value) := (i, v) :: lv.filter (fun q => !(q.1 == i) && (!(q.1 == i + 1) && !(q.1 + 1 == i && q.2.category == 2)))
theorem mj_l1 (ad : Nat → Nat) (i : Nat) (v : Value) (lv : List (Nat × Value)) : mj_l ad (mj_s1 i v lv) = (i, mj_v ad v) :: (mj_l ad lv).filter (fun q => !(q.1 == i) && !(q.1 + 1 == i && q.2.category == 2)) := by
  unfold mj_l mj_s1
  rw [List.map_cons, List.filter_map]
  congr 2
  apply List.filter_congr
  intro q _
  simp only [Function.comp, mj_cat]
theorem mj_l2 (ad : Nat → Nat) (i : Nat) (v : Value) (lv : List (Nat × Value)) : mj_l ad (mj_s2 i v lv) = (i, mj_v ad v) :: (mj_l ad lv).filter (fun q => !(q.1 == i) && (!(q.1 == i + 1) && !(q.1 + 1 == i && q.2.category == 2))) := by
  unfold mj_l mj_s2
  rw [List.map_cons, List.filter_map]
  congr 2
  apply List.filter_congr
  intro q _
  simp only [Function.comp, mj_cat]
end
section
/-! ===== an instruction, a rule: those that leave the heap alone ===== -/
section GO1
variable {mi : MI} {d : Nat} {h0 : MH} {pc pc2 : Nat} {lv lv2 : List (Nat × Value)} {st st2 : List Value} {h h2 : MH}
theorem mj_vrf (ad : Nat → Nat) (o : Option Nat) : mj_v ad (va_rf o) = va_rf (o.map ad) := by cases o <;> rfl
theorem go_iconst {n : Int} {v : Int32} (hd : decode mi.2.1 pc = .ok (.iconst n, 1)) (hv : Int32.ofInt n = v) (B : Go mi d h0 (pc + 1) lv (.int v :: st) h pc2 lv2 st2 h2) : Go mi d h0 pc lv st h pc2 lv2 st2 h2 :=
  Go.one (fun G p e R s m args below meth c Q cells slots H locs ls hF hX g3 g4 hR hl K => lv_iconst hF.1 hF.2.1 hd hv (K ls hl)) B
theorem go_bipush {n : Int} {v : Int32} (hd : decode mi.2.1 pc = .ok (.bipush n, 2)) (hv : (Int8.ofInt n).toInt32 = v) (B : Go mi d h0 (pc + 2) lv (.int v :: st) h pc2 lv2 st2 h2) : Go mi d h0 pc lv st h pc2 lv2 st2 h2 :=
  Go.one (fun G p e R s m args below meth c Q cells slots H locs ls hF hX g3 g4 hR hl K => lv_bipush hF.1 hF.2.1 hd hv (K ls hl)) B
theorem go_sipush {n : Int} {v : Int32} (hd : decode mi.2.1 pc = .ok (.sipush n, 3)) (hv : (Int16.ofInt n).toInt32 = v) (B : Go mi d h0 (pc + 3) lv (.int v :: st) h pc2 lv2 st2 h2) : Go mi d h0 pc lv st h pc2 lv2 st2 h2 :=
  Go.one (fun G p e R s m args below meth c Q cells slots H locs ls hF hX g3 g4 hR hl K => lv_sipush hF.1 hF.2.1 hd hv (K ls hl)) B
theorem go_lconst {n : Fin 2} {v : Int64} (hd : decode mi.2.1 pc = .ok (.lconst n, 1)) (hv : Int64.ofNat (n : Nat) = v) (B : Go mi d h0 (pc + 1) lv (.long v :: st) h pc2 lv2 st2 h2) : Go mi d h0 pc lv st h pc2 lv2 st2 h2 :=
  Go.one (fun G p e R s m args below meth c Q cells slots H locs ls hF hX g3 g4 hR hl K => lv_lconst hF.1 hF.2.1 hd hv (K ls hl)) B
theorem go_null (hd : decode mi.2.1 pc = .ok (.aconst_null, 1)) (B : Go mi d h0 (pc + 1) lv (va_rf none :: st) h pc2 lv2 st2 h2) : Go mi d h0 pc lv st h pc2 lv2 st2 h2 :=
  Go.one (fun G p e R s m args below meth c Q cells slots H locs ls hF hX g3 g4 hR hl K => lv_null hF.1 hF.2.1 hd (K ls hl)) B
theorem go_ldc {idx : Nat} {v : Int32} (hd : decode mi.2.1 pc = .ok (.ldc idx, 2)) (hc : Cond.constant mi.1.cls idx v ∈ mj_tbl) (B : Go mi d h0 (pc + 2) lv (.int v :: st) h pc2 lv2 st2 h2) : Go mi d h0 pc lv st h pc2 lv2 st2 h2 :=
  Go.one (fun G p e R s m args below meth c Q cells slots H locs ls hF hX g3 g4 hR hl K => lv_ldc hF.1 hF.2.1 hF.2.2.2.1 (hF.2.2.2.2.1 _ hc) hd (K ls hl)) B
theorem go_ldcw {idx : Nat} {v : Int32} (hd : decode mi.2.1 pc = .ok (.ldc_w idx, 3)) (hc : Cond.constant mi.1.cls idx v ∈ mj_tbl) (B : Go mi d h0 (pc + 3) lv (.int v :: st) h pc2 lv2 st2 h2) : Go mi d h0 pc lv st h pc2 lv2 st2 h2 :=
  Go.one (fun G p e R s m args below meth c Q cells slots H locs ls hF hX g3 g4 hR hl K => lv_ldcw hF.1 hF.2.1 hF.2.2.2.1 (hF.2.2.2.2.1 _ hc) hd (K ls hl)) B
theorem go_ldc2 {idx : Nat} {v : Int64} (hd : decode mi.2.1 pc = .ok (.ldc2_w idx, 3)) (hc : Cond.constantLong mi.1.cls idx v ∈ mj_tbl) (B : Go mi d h0 (pc + 3) lv (.long v :: st) h pc2 lv2 st2 h2) : Go mi d h0 pc lv st h pc2 lv2 st2 h2 :=
  Go.one (fun G p e R s m args below meth c Q cells slots H locs ls hF hX g3 g4 hR hl K => lv_ldc2 hF.1 hF.2.1 hF.2.2.2.1 (hF.2.2.2.2.1 _ hc) hd (K ls hl)) B
theorem go_iload_n {k : Fin 4} {x : Int32} (q : Nat) (hd : decode mi.2.1 pc = .ok (.iload_n k, 1)) (hv : lv[q]? = some ((k : Nat), .int x)) (B : Go mi d h0 (pc + 1) lv (.int x :: st) h pc2 lv2 st2 h2) : Go mi d h0 pc lv st h pc2 lv2 st2 h2 :=
  Go.one (fun G p e R s m args below meth c Q cells slots H locs ls hF hX g3 g4 hR hl K => lv_iload_n hF.1 hF.2.1 hd rfl (mj_lat hl hv) (K ls hl)) B
theorem go_iload {i : Nat} {x : Int32} (q : Nat) (hd : decode mi.2.1 pc = .ok (.iload i, 2)) (hv : lv[q]? = some (i, .int x)) (B : Go mi d h0 (pc + 2) lv (.int x :: st) h pc2 lv2 st2 h2) : Go mi d h0 pc lv st h pc2 lv2 st2 h2 :=
  Go.one (fun G p e R s m args below meth c Q cells slots H locs ls hF hX g3 g4 hR hl K => lv_iload hF.1 hF.2.1 hd (mj_lat hl hv) (K ls hl)) B
theorem go_lload_n {k : Fin 4} {x : Int64} (q : Nat) (hd : decode mi.2.1 pc = .ok (.lload_n k, 1)) (hv : lv[q]? = some ((k : Nat), .long x)) (B : Go mi d h0 (pc + 1) lv (.long x :: st) h pc2 lv2 st2 h2) : Go mi d h0 pc lv st h pc2 lv2 st2 h2 :=
  Go.one (fun G p e R s m args below meth c Q cells slots H locs ls hF hX g3 g4 hR hl K => lv_lload_n hF.1 hF.2.1 hd rfl (mj_lat hl hv) (K ls hl)) B
theorem go_lload {i : Nat} {x : Int64} (q : Nat) (hd : decode mi.2.1 pc = .ok (.lload i, 2)) (hv : lv[q]? = some (i, .long x)) (B : Go mi d h0 (pc + 2) lv (.long x :: st) h pc2 lv2 st2 h2) : Go mi d h0 pc lv st h pc2 lv2 st2 h2 :=
  Go.one (fun G p e R s m args below meth c Q cells slots H locs ls hF hX g3 g4 hR hl K => lv_lload hF.1 hF.2.1 hd (mj_lat hl hv) (K ls hl)) B
theorem go_aload_n {k : Fin 4} {o : Option Nat} (q : Nat) (hd : decode mi.2.1 pc = .ok (.aload_n k, 1)) (hv : lv[q]? = some ((k : Nat), va_rf o)) (B : Go mi d h0 (pc + 1) lv (va_rf o :: st) h pc2 lv2 st2 h2) : Go mi d h0 pc lv st h pc2 lv2 st2 h2 :=
  Go.one (fun G p e R s m args below meth c Q cells slots H locs ls hF hX g3 g4 hR hl K => by
    cases o with
    | none => exact lv_aload_nN hF.1 hF.2.1 hd rfl (mj_lat hl hv) (K ls hl)
    | some a => exact lv_aload_n hF.1 hF.2.1 hd rfl (mj_lat hl hv) (K ls hl)) B
theorem go_aload {i : Nat} {o : Option Nat} (q : Nat) (hd : decode mi.2.1 pc = .ok (.aload i, 2)) (hv : lv[q]? = some (i, va_rf o)) (B : Go mi d h0 (pc + 2) lv (va_rf o :: st) h pc2 lv2 st2 h2) : Go mi d h0 pc lv st h pc2 lv2 st2 h2 :=
  Go.one (fun G p e R s m args below meth c Q cells slots H locs ls hF hX g3 g4 hR hl K => by
    cases o with
    | none => exact lv_aloadN hF.1 hF.2.1 hd (mj_lat hl hv) (K ls hl)
    | some a => exact lv_aload hF.1 hF.2.1 hd (mj_lat hl hv) (K ls hl)) B
theorem go_istore_n {k : Fin 4} {x : Int32} (hd : decode mi.2.1 pc = .ok (.istore_n k, 1)) (hn : (k : Nat) < mi.2.2.1) {lv1 : List (Nat × Value)} (hs : mj_s1 (k : Nat) (.int x) lv = lv1) (B : Go mi d h0 (pc + 1) lv1 st h pc2 lv2 st2 h2) : Go mi d h0 pc lv ((.int x) :: st) h pc2 lv2 st2 h2 := by
  subst hs
  exact Go.one (fun G p e R s m args below meth c Q cells slots H locs ls hF hX g3 g4 hR hl K => lv_istore_n hF.1 hF.2.1 hd rfl hl hn (mj_l1 G.ad (k : Nat) (.int x) lv).symm (fun ls1 h1 => K ls1 h1)) B
theorem go_istore {i : Nat} {x : Int32} (hd : decode mi.2.1 pc = .ok (.istore i, 2)) (hn : i < mi.2.2.1) {lv1 : List (Nat × Value)} (hs : mj_s1 i (.int x) lv = lv1) (B : Go mi d h0 (pc + 2) lv1 st h pc2 lv2 st2 h2) : Go mi d h0 pc lv ((.int x) :: st) h pc2 lv2 st2 h2 := by
  subst hs
  exact Go.one (fun G p e R s m args below meth c Q cells slots H locs ls hF hX g3 g4 hR hl K => lv_istore hF.1 hF.2.1 hd hl hn (mj_l1 G.ad i (.int x) lv).symm (fun ls1 h1 => K ls1 h1)) B
theorem go_lstore_n {k : Fin 4} {x : Int64} (hd : decode mi.2.1 pc = .ok (.lstore_n k, 1)) (hn : (k : Nat) + 1 < mi.2.2.1) {lv1 : List (Nat × Value)} (hs : mj_s2 (k : Nat) (.long x) lv = lv1) (B : Go mi d h0 (pc + 1) lv1 st h pc2 lv2 st2 h2) : Go mi d h0 pc lv ((.long x) :: st) h pc2 lv2 st2 h2 := by
  subst hs
  exact Go.one (fun G p e R s m args below meth c Q cells slots H locs ls hF hX g3 g4 hR hl K => lv_lstore_n hF.1 hF.2.1 hd rfl hl hn (mj_l2 G.ad (k : Nat) (.long x) lv).symm (fun ls1 h1 => K ls1 h1)) B
theorem go_lstore {i : Nat} {x : Int64} (hd : decode mi.2.1 pc = .ok (.lstore i, 2)) (hn : i + 1 < mi.2.2.1) {lv1 : List (Nat × Value)} (hs : mj_s2 i (.long x) lv = lv1) (B : Go mi d h0 (pc + 2) lv1 st h pc2 lv2 st2 h2) : Go mi d h0 pc lv ((.long x) :: st) h pc2 lv2 st2 h2 := by
  subst hs
  exact Go.one (fun G p e R s m args below meth c Q cells slots H locs ls hF hX g3 g4 hR hl K => lv_lstore hF.1 hF.2.1 hd hl hn (mj_l2 G.ad i (.long x) lv).symm (fun ls1 h1 => K ls1 h1)) B
theorem go_astore_n {k : Fin 4} {o : Option Nat} (hd : decode mi.2.1 pc = .ok (.astore_n k, 1)) (hn : (k : Nat) < mi.2.2.1) {lv1 : List (Nat × Value)} (hs : mj_s1 (k : Nat) (va_rf o) lv = lv1) (B : Go mi d h0 (pc + 1) lv1 st h pc2 lv2 st2 h2) : Go mi d h0 pc lv ((va_rf o) :: st) h pc2 lv2 st2 h2 := by
  subst hs
  exact Go.one (fun G p e R s m args below meth c Q cells slots H locs ls hF hX g3 g4 hR hl K => by
    cases o with
    | none => exact lv_astore_nN hF.1 hF.2.1 hd rfl hl hn (mj_l1 G.ad (k : Nat) (va_rf none) lv).symm (fun ls1 h1 => K ls1 h1)
    | some a => exact lv_astore_n hF.1 hF.2.1 hd rfl hl hn (mj_l1 G.ad (k : Nat) (va_rf (some a)) lv).symm (fun ls1 h1 => K ls1 h1)) B
theorem go_astore {i : Nat} {o : Option Nat} (hd : decode mi.2.1 pc = .ok (.astore i, 2)) (hn : i < mi.2.2.1) {lv1 : List (Nat × Value)} (hs : mj_s1 i (va_rf o) lv = lv1) (B : Go mi d h0 (pc + 2) lv1 st h pc2 lv2 st2 h2) : Go mi d h0 pc lv ((va_rf o) :: st) h pc2 lv2 st2 h2 := by
  subst hs
  exact Go.one (fun G p e R s m args below meth c Q cells slots H locs ls hF hX g3 g4 hR hl K => by
    cases o with
    | none => exact lv_astoreN hF.1 hF.2.1 hd hl hn (mj_l1 G.ad i (va_rf none) lv).symm (fun ls1 h1 => K ls1 h1)
    | some a => exact lv_astore hF.1 hF.2.1 hd hl hn (mj_l1 G.ad i (va_rf (some a)) lv).symm (fun ls1 h1 => K ls1 h1)) B
theorem go_iinc {i : Nat} {n : Int} {x v : Int32} (q : Nat) (hd : decode mi.2.1 pc = .ok (.iinc i n, 3)) (hv : lv[q]? = some (i, .int x)) (hx : x + Int32.ofInt n = v) (hn : i < mi.2.2.1) {lv1 : List (Nat × Value)} (hs : mj_s1 i (.int v) lv = lv1) (B : Go mi d h0 (pc + 3) lv1 st h pc2 lv2 st2 h2) : Go mi d h0 pc lv st h pc2 lv2 st2 h2 := by
  subst hs
  exact Go.one (fun G p e R s m args below meth c Q cells slots H locs ls hF hX g3 g4 hR hl K => lv_iinc (k := q) hF.1 hF.2.1 hd hl (by simp [mj_l, hv, mj_v]) hx hn (mj_l1 G.ad i (.int v) lv).symm (fun ls1 h1 => K ls1 h1)) B
theorem go_iadd {x y : Int32} (hd : decode mi.2.1 pc = .ok (.iadd, 1)) (B : Go mi d h0 (pc + 1) lv (.int (x + y) :: st) h pc2 lv2 st2 h2) : Go mi d h0 pc lv (.int y :: .int x :: st) h pc2 lv2 st2 h2 :=
  Go.one (fun G p e R s m args below meth c Q cells slots H locs ls hF hX g3 g4 hR hl K => lv_iadd hF.1 hF.2.1 hd (K ls hl)) B
theorem go_isub {x y : Int32} (hd : decode mi.2.1 pc = .ok (.isub, 1)) (B : Go mi d h0 (pc + 1) lv (.int (x - y) :: st) h pc2 lv2 st2 h2) : Go mi d h0 pc lv (.int y :: .int x :: st) h pc2 lv2 st2 h2 :=
  Go.one (fun G p e R s m args below meth c Q cells slots H locs ls hF hX g3 g4 hR hl K => lv_isub hF.1 hF.2.1 hd (K ls hl)) B
theorem go_imul {x y : Int32} (hd : decode mi.2.1 pc = .ok (.imul, 1)) (B : Go mi d h0 (pc + 1) lv (.int (x * y) :: st) h pc2 lv2 st2 h2) : Go mi d h0 pc lv (.int y :: .int x :: st) h pc2 lv2 st2 h2 :=
  Go.one (fun G p e R s m args below meth c Q cells slots H locs ls hF hX g3 g4 hR hl K => lv_imul hF.1 hF.2.1 hd (K ls hl)) B
theorem go_iand {x y : Int32} (hd : decode mi.2.1 pc = .ok (.iand, 1)) (B : Go mi d h0 (pc + 1) lv (.int (x &&& y) :: st) h pc2 lv2 st2 h2) : Go mi d h0 pc lv (.int y :: .int x :: st) h pc2 lv2 st2 h2 :=
  Go.one (fun G p e R s m args below meth c Q cells slots H locs ls hF hX g3 g4 hR hl K => lv_iand hF.1 hF.2.1 hd (K ls hl)) B
theorem go_ior {x y : Int32} (hd : decode mi.2.1 pc = .ok (.ior, 1)) (B : Go mi d h0 (pc + 1) lv (.int (x ||| y) :: st) h pc2 lv2 st2 h2) : Go mi d h0 pc lv (.int y :: .int x :: st) h pc2 lv2 st2 h2 :=
  Go.one (fun G p e R s m args below meth c Q cells slots H locs ls hF hX g3 g4 hR hl K => lv_ior hF.1 hF.2.1 hd (K ls hl)) B
theorem go_ixor {x y : Int32} (hd : decode mi.2.1 pc = .ok (.ixor, 1)) (B : Go mi d h0 (pc + 1) lv (.int (x ^^^ y) :: st) h pc2 lv2 st2 h2) : Go mi d h0 pc lv (.int y :: .int x :: st) h pc2 lv2 st2 h2 :=
  Go.one (fun G p e R s m args below meth c Q cells slots H locs ls hF hX g3 g4 hR hl K => lv_ixor hF.1 hF.2.1 hd (K ls hl)) B
def mj_irem (x y : Int32) : Int32 := x - x / y * y
def mj_lrem (x y : Int64) : Int64 := x - x / y * y
theorem go_idiv {x y : Int32} (hd : decode mi.2.1 pc = .ok (.idiv, 1)) (hne : ¬ y = 0) (B : Go mi d h0 (pc + 1) lv (.int (x / y) :: st) h pc2 lv2 st2 h2) : Go mi d h0 pc lv (.int y :: .int x :: st) h pc2 lv2 st2 h2 :=
  Go.one (fun G p e R s m args below meth c Q cells slots H locs ls hF hX g3 g4 hR hl K => lv_idiv hF.1 hF.2.1 hd hne (K ls hl)) B
theorem go_ldiv {x y : Int64} (hd : decode mi.2.1 pc = .ok (.ldiv, 1)) (hne : ¬ y = 0) (B : Go mi d h0 (pc + 1) lv (.long (x / y) :: st) h pc2 lv2 st2 h2) : Go mi d h0 pc lv (.long y :: .long x :: st) h pc2 lv2 st2 h2 :=
  Go.one (fun G p e R s m args below meth c Q cells slots H locs ls hF hX g3 g4 hR hl K => lv_ldiv hF.1 hF.2.1 hd hne (K ls hl)) B
theorem go_irem {x y : Int32} (hd : decode mi.2.1 pc = .ok (.irem, 1)) (hne : ¬ y = 0) (B : Go mi d h0 (pc + 1) lv (.int (mj_irem x y) :: st) h pc2 lv2 st2 h2) : Go mi d h0 pc lv (.int y :: .int x :: st) h pc2 lv2 st2 h2 :=
  Go.one (fun G p e R s m args below meth c Q cells slots H locs ls hF hX g3 g4 hR hl K => lv_irem hF.1 hF.2.1 hd hne (K ls hl)) B
theorem go_lrem {x y : Int64} (hd : decode mi.2.1 pc = .ok (.lrem, 1)) (hne : ¬ y = 0) (B : Go mi d h0 (pc + 1) lv (.long (mj_lrem x y) :: st) h pc2 lv2 st2 h2) : Go mi d h0 pc lv (.long y :: .long x :: st) h pc2 lv2 st2 h2 :=
  Go.one (fun G p e R s m args below meth c Q cells slots H locs ls hF hX g3 g4 hR hl K => lv_lrem hF.1 hF.2.1 hd hne (K ls hl)) B
theorem go_ineg {x : Int32} (hd : decode mi.2.1 pc = .ok (.ineg, 1)) (B : Go mi d h0 (pc + 1) lv (.int (-x) :: st) h pc2 lv2 st2 h2) : Go mi d h0 pc lv (.int x :: st) h pc2 lv2 st2 h2 :=
  Go.one (fun G p e R s m args below meth c Q cells slots H locs ls hF hX g3 g4 hR hl K => lv_ineg hF.1 hF.2.1 hd (K ls hl)) B
theorem go_ladd {x y : Int64} (hd : decode mi.2.1 pc = .ok (.ladd, 1)) (B : Go mi d h0 (pc + 1) lv (.long (x + y) :: st) h pc2 lv2 st2 h2) : Go mi d h0 pc lv (.long y :: .long x :: st) h pc2 lv2 st2 h2 :=
  Go.one (fun G p e R s m args below meth c Q cells slots H locs ls hF hX g3 g4 hR hl K => lv_ladd hF.1 hF.2.1 hd (K ls hl)) B
theorem go_lmul {x y : Int64} (hd : decode mi.2.1 pc = .ok (.lmul, 1)) (B : Go mi d h0 (pc + 1) lv (.long (x * y) :: st) h pc2 lv2 st2 h2) : Go mi d h0 pc lv (.long y :: .long x :: st) h pc2 lv2 st2 h2 :=
  Go.one (fun G p e R s m args below meth c Q cells slots H locs ls hF hX g3 g4 hR hl K => lv_lmul hF.1 hF.2.1 hd (K ls hl)) B
theorem go_ishl {x y : Int32} (hd : decode mi.2.1 pc = .ok (.ishl, 1)) (B : Go mi d h0 (pc + 1) lv (.int (x <<< (y &&& 31)) :: st) h pc2 lv2 st2 h2) : Go mi d h0 pc lv (.int y :: .int x :: st) h pc2 lv2 st2 h2 :=
  Go.one (fun G p e R s m args below meth c Q cells slots H locs ls hF hX g3 g4 hR hl K => lv_ishl hF.1 hF.2.1 hd (K ls hl)) B
theorem go_ishr {x y : Int32} (hd : decode mi.2.1 pc = .ok (.ishr, 1)) (B : Go mi d h0 (pc + 1) lv (.int (x >>> (y &&& 31)) :: st) h pc2 lv2 st2 h2) : Go mi d h0 pc lv (.int y :: .int x :: st) h pc2 lv2 st2 h2 :=
  Go.one (fun G p e R s m args below meth c Q cells slots H locs ls hF hX g3 g4 hR hl K => lv_ishr hF.1 hF.2.1 hd (K ls hl)) B
theorem go_iushr {x y : Int32} (hd : decode mi.2.1 pc = .ok (.iushr, 1)) (B : Go mi d h0 (pc + 1) lv (.int (x.toUInt32 >>> (y.toUInt32 &&& Int32.toUInt32 31)).toInt32 :: st) h pc2 lv2 st2 h2) : Go mi d h0 pc lv (.int y :: .int x :: st) h pc2 lv2 st2 h2 :=
  Go.one (fun G p e R s m args below meth c Q cells slots H locs ls hF hX g3 g4 hR hl K => lv_iushr hF.1 hF.2.1 hd rfl (K ls hl)) B
theorem go_i2l {x : Int32} (hd : decode mi.2.1 pc = .ok (.i2l, 1)) (B : Go mi d h0 (pc + 1) lv (.long x.toInt64 :: st) h pc2 lv2 st2 h2) : Go mi d h0 pc lv (.int x :: st) h pc2 lv2 st2 h2 :=
  Go.one (fun G p e R s m args below meth c Q cells slots H locs ls hF hX g3 g4 hR hl K => lv_i2l hF.1 hF.2.1 hd rfl (K ls hl)) B
theorem go_l2i {x : Int64} (hd : decode mi.2.1 pc = .ok (.l2i, 1)) (B : Go mi d h0 (pc + 1) lv (.int x.toInt32 :: st) h pc2 lv2 st2 h2) : Go mi d h0 pc lv (.long x :: st) h pc2 lv2 st2 h2 :=
  Go.one (fun G p e R s m args below meth c Q cells slots H locs ls hF hX g3 g4 hR hl K => lv_l2i hF.1 hF.2.1 hd rfl (K ls hl)) B
theorem go_i2b {x : Int32} (hd : decode mi.2.1 pc = .ok (.i2b, 1)) (B : Go mi d h0 (pc + 1) lv (.int x.toInt8.toInt32 :: st) h pc2 lv2 st2 h2) : Go mi d h0 pc lv (.int x :: st) h pc2 lv2 st2 h2 :=
  Go.one (fun G p e R s m args below meth c Q cells slots H locs ls hF hX g3 g4 hR hl K => lv_i2b hF.1 hF.2.1 hd rfl (K ls hl)) B
theorem go_i2s {x : Int32} (hd : decode mi.2.1 pc = .ok (.i2s, 1)) (B : Go mi d h0 (pc + 1) lv (.int x.toInt16.toInt32 :: st) h pc2 lv2 st2 h2) : Go mi d h0 pc lv (.int x :: st) h pc2 lv2 st2 h2 :=
  Go.one (fun G p e R s m args below meth c Q cells slots H locs ls hF hX g3 g4 hR hl K => lv_i2s hF.1 hF.2.1 hd rfl (K ls hl)) B
theorem go_lcmp {x y : Int64} (hd : decode mi.2.1 pc = .ok (.lcmp, 1)) (B : Go mi d h0 (pc + 1) lv (.int (lg_cmp x y) :: st) h pc2 lv2 st2 h2) : Go mi d h0 pc lv (.long y :: .long x :: st) h pc2 lv2 st2 h2 :=
  Go.one (fun G p e R s m args below meth c Q cells slots H locs ls hF hX g3 g4 hR hl K => W.lcmp hF.1 hF.2.1 hd (K ls hl)) B
theorem go_dup {v : Value} (hd : decode mi.2.1 pc = .ok (.dup, 1)) (hv : v.category = 1) (B : Go mi d h0 (pc + 1) lv (v :: v :: st) h pc2 lv2 st2 h2) : Go mi d h0 pc lv (v :: st) h pc2 lv2 st2 h2 :=
  Go.one (fun G p e R s m args below meth c Q cells slots H locs ls hF hX g3 g4 hR hl K => lv_dup hF.1 hF.2.1 hd ((mj_cat _ _).trans hv) (K ls hl)) B
theorem go_pop {v : Value} (hd : decode mi.2.1 pc = .ok (.pop, 1)) (hv : v.category = 1) (B : Go mi d h0 (pc + 1) lv st h pc2 lv2 st2 h2) : Go mi d h0 pc lv (v :: st) h pc2 lv2 st2 h2 :=
  Go.one (fun G p e R s m args below meth c Q cells slots H locs ls hF hX g3 g4 hR hl K => lv_pop hF.1 hF.2.1 hd ((mj_cat _ _).trans hv) (K ls hl)) B
theorem go_dup2 {v w : Value} (hd : decode mi.2.1 pc = .ok (.dup2, 1)) (hv : v.category = 1) (hw : w.category = 1) (B : Go mi d h0 (pc + 1) lv (v :: w :: v :: w :: st) h pc2 lv2 st2 h2) : Go mi d h0 pc lv (v :: w :: st) h pc2 lv2 st2 h2 :=
  Go.one (fun G p e R s m args below meth c Q cells slots H locs ls hF hX g3 g4 hR hl K => lv_dup2_11 hF.1 hF.2.1 hd ((mj_cat _ _).trans hv) ((mj_cat _ _).trans hw) (K ls hl)) B
theorem go_if_eq_t {x : Int32} {off : Int} (tgt : Nat) (hd : decode mi.2.1 pc = .ok (.ifCond .eq off, 3)) (ht : (pc : Int) + off = (tgt : Int)) (hc : x = 0) (B : Go mi d h0 tgt lv st h pc2 lv2 st2 h2) : Go mi d h0 pc lv (.int x :: st) h pc2 lv2 st2 h2 :=
  Go.one (fun G p e R s m args below meth c Q cells slots H locs ls hF hX g3 g4 hR hl K => lv_if_eq hF.1 hF.2.1 hd ht (fun _ => K ls hl) (fun z => absurd hc z)) B
theorem go_if_eq_f {x : Int32} {off : Int} {tgt : Nat} (hd : decode mi.2.1 pc = .ok (.ifCond .eq off, 3)) (ht : (pc : Int) + off = (tgt : Int)) (hc : ¬ x = 0) (B : Go mi d h0 (pc + 3) lv st h pc2 lv2 st2 h2) : Go mi d h0 pc lv (.int x :: st) h pc2 lv2 st2 h2 :=
  Go.one (fun G p e R s m args below meth c Q cells slots H locs ls hF hX g3 g4 hR hl K => lv_if_eq hF.1 hF.2.1 hd ht (fun z => absurd z hc) (fun _ => K ls hl)) B
theorem go_icmp_eq_t {x y : Int32} {off : Int} (tgt : Nat) (hd : decode mi.2.1 pc = .ok (.if_icmp .eq off, 3)) (ht : (pc : Int) + off = (tgt : Int)) (hc : x = y) (B : Go mi d h0 tgt lv st h pc2 lv2 st2 h2) : Go mi d h0 pc lv (.int y :: .int x :: st) h pc2 lv2 st2 h2 :=
  Go.one (fun G p e R s m args below meth c Q cells slots H locs ls hF hX g3 g4 hR hl K => lv_icmp_eq hF.1 hF.2.1 hd ht (fun _ => K ls hl) (fun z => absurd hc z)) B
theorem go_icmp_eq_f {x y : Int32} {off : Int} {tgt : Nat} (hd : decode mi.2.1 pc = .ok (.if_icmp .eq off, 3)) (ht : (pc : Int) + off = (tgt : Int)) (hc : ¬ x = y) (B : Go mi d h0 (pc + 3) lv st h pc2 lv2 st2 h2) : Go mi d h0 pc lv (.int y :: .int x :: st) h pc2 lv2 st2 h2 :=
  Go.one (fun G p e R s m args below meth c Q cells slots H locs ls hF hX g3 g4 hR hl K => lv_icmp_eq hF.1 hF.2.1 hd ht (fun z => absurd z hc) (fun _ => K ls hl)) B
theorem go_if_ne_t {x : Int32} {off : Int} (tgt : Nat) (hd : decode mi.2.1 pc = .ok (.ifCond .ne off, 3)) (ht : (pc : Int) + off = (tgt : Int)) (hc : ¬ x = 0) (B : Go mi d h0 tgt lv st h pc2 lv2 st2 h2) : Go mi d h0 pc lv (.int x :: st) h pc2 lv2 st2 h2 :=
  Go.one (fun G p e R s m args below meth c Q cells slots H locs ls hF hX g3 g4 hR hl K => lv_if_ne hF.1 hF.2.1 hd ht (fun _ => K ls hl) (fun z => absurd z hc)) B
theorem go_if_ne_f {x : Int32} {off : Int} {tgt : Nat} (hd : decode mi.2.1 pc = .ok (.ifCond .ne off, 3)) (ht : (pc : Int) + off = (tgt : Int)) (hc : x = 0) (B : Go mi d h0 (pc + 3) lv st h pc2 lv2 st2 h2) : Go mi d h0 pc lv (.int x :: st) h pc2 lv2 st2 h2 :=
  Go.one (fun G p e R s m args below meth c Q cells slots H locs ls hF hX g3 g4 hR hl K => lv_if_ne hF.1 hF.2.1 hd ht (fun z => absurd hc z) (fun _ => K ls hl)) B
theorem go_icmp_ne_t {x y : Int32} {off : Int} (tgt : Nat) (hd : decode mi.2.1 pc = .ok (.if_icmp .ne off, 3)) (ht : (pc : Int) + off = (tgt : Int)) (hc : ¬ x = y) (B : Go mi d h0 tgt lv st h pc2 lv2 st2 h2) : Go mi d h0 pc lv (.int y :: .int x :: st) h pc2 lv2 st2 h2 :=
  Go.one (fun G p e R s m args below meth c Q cells slots H locs ls hF hX g3 g4 hR hl K => lv_icmp_ne hF.1 hF.2.1 hd ht (fun _ => K ls hl) (fun z => absurd z hc)) B
theorem go_icmp_ne_f {x y : Int32} {off : Int} {tgt : Nat} (hd : decode mi.2.1 pc = .ok (.if_icmp .ne off, 3)) (ht : (pc : Int) + off = (tgt : Int)) (hc : x = y) (B : Go mi d h0 (pc + 3) lv st h pc2 lv2 st2 h2) : Go mi d h0 pc lv (.int y :: .int x :: st) h pc2 lv2 st2 h2 :=
  Go.one (fun G p e R s m args below meth c Q cells slots H locs ls hF hX g3 g4 hR hl K => lv_icmp_ne hF.1 hF.2.1 hd ht (fun z => absurd hc z) (fun _ => K ls hl)) B
theorem go_if_lt_t {x : Int32} {off : Int} (tgt : Nat) (hd : decode mi.2.1 pc = .ok (.ifCond .lt off, 3)) (ht : (pc : Int) + off = (tgt : Int)) (hc : x < 0) (B : Go mi d h0 tgt lv st h pc2 lv2 st2 h2) : Go mi d h0 pc lv (.int x :: st) h pc2 lv2 st2 h2 :=
  Go.one (fun G p e R s m args below meth c Q cells slots H locs ls hF hX g3 g4 hR hl K => lv_if_lt hF.1 hF.2.1 hd ht (fun _ => K ls hl) (fun z => absurd hc z)) B
theorem go_if_lt_f {x : Int32} {off : Int} {tgt : Nat} (hd : decode mi.2.1 pc = .ok (.ifCond .lt off, 3)) (ht : (pc : Int) + off = (tgt : Int)) (hc : ¬ x < 0) (B : Go mi d h0 (pc + 3) lv st h pc2 lv2 st2 h2) : Go mi d h0 pc lv (.int x :: st) h pc2 lv2 st2 h2 :=
  Go.one (fun G p e R s m args below meth c Q cells slots H locs ls hF hX g3 g4 hR hl K => lv_if_lt hF.1 hF.2.1 hd ht (fun z => absurd z hc) (fun _ => K ls hl)) B
theorem go_icmp_lt_t {x y : Int32} {off : Int} (tgt : Nat) (hd : decode mi.2.1 pc = .ok (.if_icmp .lt off, 3)) (ht : (pc : Int) + off = (tgt : Int)) (hc : x < y) (B : Go mi d h0 tgt lv st h pc2 lv2 st2 h2) : Go mi d h0 pc lv (.int y :: .int x :: st) h pc2 lv2 st2 h2 :=
  Go.one (fun G p e R s m args below meth c Q cells slots H locs ls hF hX g3 g4 hR hl K => lv_icmp_lt hF.1 hF.2.1 hd ht (fun _ => K ls hl) (fun z => absurd hc z)) B
theorem go_icmp_lt_f {x y : Int32} {off : Int} {tgt : Nat} (hd : decode mi.2.1 pc = .ok (.if_icmp .lt off, 3)) (ht : (pc : Int) + off = (tgt : Int)) (hc : ¬ x < y) (B : Go mi d h0 (pc + 3) lv st h pc2 lv2 st2 h2) : Go mi d h0 pc lv (.int y :: .int x :: st) h pc2 lv2 st2 h2 :=
  Go.one (fun G p e R s m args below meth c Q cells slots H locs ls hF hX g3 g4 hR hl K => lv_icmp_lt hF.1 hF.2.1 hd ht (fun z => absurd z hc) (fun _ => K ls hl)) B
theorem go_if_ge_t {x : Int32} {off : Int} (tgt : Nat) (hd : decode mi.2.1 pc = .ok (.ifCond .ge off, 3)) (ht : (pc : Int) + off = (tgt : Int)) (hc : 0 ≤ x) (B : Go mi d h0 tgt lv st h pc2 lv2 st2 h2) : Go mi d h0 pc lv (.int x :: st) h pc2 lv2 st2 h2 :=
  Go.one (fun G p e R s m args below meth c Q cells slots H locs ls hF hX g3 g4 hR hl K => lv_if_ge hF.1 hF.2.1 hd ht (fun _ => K ls hl) (fun z => absurd hc z)) B
theorem go_if_ge_f {x : Int32} {off : Int} {tgt : Nat} (hd : decode mi.2.1 pc = .ok (.ifCond .ge off, 3)) (ht : (pc : Int) + off = (tgt : Int)) (hc : ¬ 0 ≤ x) (B : Go mi d h0 (pc + 3) lv st h pc2 lv2 st2 h2) : Go mi d h0 pc lv (.int x :: st) h pc2 lv2 st2 h2 :=
  Go.one (fun G p e R s m args below meth c Q cells slots H locs ls hF hX g3 g4 hR hl K => lv_if_ge hF.1 hF.2.1 hd ht (fun z => absurd z hc) (fun _ => K ls hl)) B
theorem go_icmp_ge_t {x y : Int32} {off : Int} (tgt : Nat) (hd : decode mi.2.1 pc = .ok (.if_icmp .ge off, 3)) (ht : (pc : Int) + off = (tgt : Int)) (hc : y ≤ x) (B : Go mi d h0 tgt lv st h pc2 lv2 st2 h2) : Go mi d h0 pc lv (.int y :: .int x :: st) h pc2 lv2 st2 h2 :=
  Go.one (fun G p e R s m args below meth c Q cells slots H locs ls hF hX g3 g4 hR hl K => lv_icmp_ge hF.1 hF.2.1 hd ht (fun _ => K ls hl) (fun z => absurd hc z)) B
theorem go_icmp_ge_f {x y : Int32} {off : Int} {tgt : Nat} (hd : decode mi.2.1 pc = .ok (.if_icmp .ge off, 3)) (ht : (pc : Int) + off = (tgt : Int)) (hc : ¬ y ≤ x) (B : Go mi d h0 (pc + 3) lv st h pc2 lv2 st2 h2) : Go mi d h0 pc lv (.int y :: .int x :: st) h pc2 lv2 st2 h2 :=
  Go.one (fun G p e R s m args below meth c Q cells slots H locs ls hF hX g3 g4 hR hl K => lv_icmp_ge hF.1 hF.2.1 hd ht (fun z => absurd z hc) (fun _ => K ls hl)) B
theorem go_if_gt_t {x : Int32} {off : Int} (tgt : Nat) (hd : decode mi.2.1 pc = .ok (.ifCond .gt off, 3)) (ht : (pc : Int) + off = (tgt : Int)) (hc : 0 < x) (B : Go mi d h0 tgt lv st h pc2 lv2 st2 h2) : Go mi d h0 pc lv (.int x :: st) h pc2 lv2 st2 h2 :=
  Go.one (fun G p e R s m args below meth c Q cells slots H locs ls hF hX g3 g4 hR hl K => lv_if_gt hF.1 hF.2.1 hd ht (fun _ => K ls hl) (fun z => absurd hc z)) B
theorem go_if_gt_f {x : Int32} {off : Int} {tgt : Nat} (hd : decode mi.2.1 pc = .ok (.ifCond .gt off, 3)) (ht : (pc : Int) + off = (tgt : Int)) (hc : ¬ 0 < x) (B : Go mi d h0 (pc + 3) lv st h pc2 lv2 st2 h2) : Go mi d h0 pc lv (.int x :: st) h pc2 lv2 st2 h2 :=
  Go.one (fun G p e R s m args below meth c Q cells slots H locs ls hF hX g3 g4 hR hl K => lv_if_gt hF.1 hF.2.1 hd ht (fun z => absurd z hc) (fun _ => K ls hl)) B
theorem go_icmp_gt_t {x y : Int32} {off : Int} (tgt : Nat) (hd : decode mi.2.1 pc = .ok (.if_icmp .gt off, 3)) (ht : (pc : Int) + off = (tgt : Int)) (hc : y < x) (B : Go mi d h0 tgt lv st h pc2 lv2 st2 h2) : Go mi d h0 pc lv (.int y :: .int x :: st) h pc2 lv2 st2 h2 :=
  Go.one (fun G p e R s m args below meth c Q cells slots H locs ls hF hX g3 g4 hR hl K => lv_icmp_gt hF.1 hF.2.1 hd ht (fun _ => K ls hl) (fun z => absurd hc z)) B
theorem go_icmp_gt_f {x y : Int32} {off : Int} {tgt : Nat} (hd : decode mi.2.1 pc = .ok (.if_icmp .gt off, 3)) (ht : (pc : Int) + off = (tgt : Int)) (hc : ¬ y < x) (B : Go mi d h0 (pc + 3) lv st h pc2 lv2 st2 h2) : Go mi d h0 pc lv (.int y :: .int x :: st) h pc2 lv2 st2 h2 :=
  Go.one (fun G p e R s m args below meth c Q cells slots H locs ls hF hX g3 g4 hR hl K => lv_icmp_gt hF.1 hF.2.1 hd ht (fun z => absurd z hc) (fun _ => K ls hl)) B
theorem go_if_le_t {x : Int32} {off : Int} (tgt : Nat) (hd : decode mi.2.1 pc = .ok (.ifCond .le off, 3)) (ht : (pc : Int) + off = (tgt : Int)) (hc : x ≤ 0) (B : Go mi d h0 tgt lv st h pc2 lv2 st2 h2) : Go mi d h0 pc lv (.int x :: st) h pc2 lv2 st2 h2 :=
  Go.one (fun G p e R s m args below meth c Q cells slots H locs ls hF hX g3 g4 hR hl K => lv_if_le hF.1 hF.2.1 hd ht (fun _ => K ls hl) (fun z => absurd hc z)) B
theorem go_if_le_f {x : Int32} {off : Int} {tgt : Nat} (hd : decode mi.2.1 pc = .ok (.ifCond .le off, 3)) (ht : (pc : Int) + off = (tgt : Int)) (hc : ¬ x ≤ 0) (B : Go mi d h0 (pc + 3) lv st h pc2 lv2 st2 h2) : Go mi d h0 pc lv (.int x :: st) h pc2 lv2 st2 h2 :=
  Go.one (fun G p e R s m args below meth c Q cells slots H locs ls hF hX g3 g4 hR hl K => lv_if_le hF.1 hF.2.1 hd ht (fun z => absurd z hc) (fun _ => K ls hl)) B
theorem go_icmp_le_t {x y : Int32} {off : Int} (tgt : Nat) (hd : decode mi.2.1 pc = .ok (.if_icmp .le off, 3)) (ht : (pc : Int) + off = (tgt : Int)) (hc : x ≤ y) (B : Go mi d h0 tgt lv st h pc2 lv2 st2 h2) : Go mi d h0 pc lv (.int y :: .int x :: st) h pc2 lv2 st2 h2 :=
  Go.one (fun G p e R s m args below meth c Q cells slots H locs ls hF hX g3 g4 hR hl K => lv_icmp_le hF.1 hF.2.1 hd ht (fun _ => K ls hl) (fun z => absurd hc z)) B
theorem go_icmp_le_f {x y : Int32} {off : Int} {tgt : Nat} (hd : decode mi.2.1 pc = .ok (.if_icmp .le off, 3)) (ht : (pc : Int) + off = (tgt : Int)) (hc : ¬ x ≤ y) (B : Go mi d h0 (pc + 3) lv st h pc2 lv2 st2 h2) : Go mi d h0 pc lv (.int y :: .int x :: st) h pc2 lv2 st2 h2 :=
  Go.one (fun G p e R s m args below meth c Q cells slots H locs ls hF hX g3 g4 hR hl K => lv_icmp_le hF.1 hF.2.1 hd ht (fun z => absurd z hc) (fun _ => K ls hl)) B
theorem go_goto {off : Int} (tgt : Nat) (hd : decode mi.2.1 pc = .ok (.goto off, 3)) (ht : (pc : Int) + off = (tgt : Int)) (B : Go mi d h0 tgt lv st h pc2 lv2 st2 h2) : Go mi d h0 pc lv st h pc2 lv2 st2 h2 :=
  Go.one (fun G p e R s m args below meth c Q cells slots H locs ls hF hX g3 g4 hR hl K => lv_goto hF.1 hF.2.1 hd ht (K ls hl)) B
theorem go_ifnull_t {off : Int} (tgt : Nat) {o : Option Nat} (hd : decode mi.2.1 pc = .ok (.ifnull off, 3)) (ht : (pc : Int) + off = (tgt : Int)) (hc : o = none) (B : Go mi d h0 tgt lv st h pc2 lv2 st2 h2) : Go mi d h0 pc lv (va_rf o :: st) h pc2 lv2 st2 h2 := by
  subst hc
  exact Go.one (fun G p e R s m args below meth c Q cells slots H locs ls hF hX g3 g4 hR hl K => lv_ifnullN hF.1 hF.2.1 hd ht (K ls hl)) B
theorem go_ifnull_f {off : Int} {tgt : Nat} {o : Option Nat} (hd : decode mi.2.1 pc = .ok (.ifnull off, 3)) (ht : (pc : Int) + off = (tgt : Int)) (hc : ¬ o = none) (B : Go mi d h0 (pc + 3) lv st h pc2 lv2 st2 h2) : Go mi d h0 pc lv (va_rf o :: st) h pc2 lv2 st2 h2 := by
  cases o with
  | none => exact absurd rfl hc
  | some a => exact Go.one (fun G p e R s m args below meth c Q cells slots H locs ls hF hX g3 g4 hR hl K => lv_ifnull hF.1 hF.2.1 hd (K ls hl)) B
theorem go_ifnonnull_t {off : Int} (tgt : Nat) {o : Option Nat} (hd : decode mi.2.1 pc = .ok (.ifnonnull off, 3)) (ht : (pc : Int) + off = (tgt : Int)) (hc : ¬ o = none) (B : Go mi d h0 tgt lv st h pc2 lv2 st2 h2) : Go mi d h0 pc lv (va_rf o :: st) h pc2 lv2 st2 h2 := by
  cases o with
  | none => exact absurd rfl hc
  | some a => exact Go.one (fun G p e R s m args below meth c Q cells slots H locs ls hF hX g3 g4 hR hl K => lv_ifnonnull hF.1 hF.2.1 hd ht (K ls hl)) B
theorem go_ifnonnull_f {off : Int} {tgt : Nat} {o : Option Nat} (hd : decode mi.2.1 pc = .ok (.ifnonnull off, 3)) (ht : (pc : Int) + off = (tgt : Int)) (hc : o = none) (B : Go mi d h0 (pc + 3) lv st h pc2 lv2 st2 h2) : Go mi d h0 pc lv (va_rf o :: st) h pc2 lv2 st2 h2 := by
  subst hc
  exact Go.one (fun G p e R s m args below meth c Q cells slots H locs ls hF hX g3 g4 hR hl K => lv_ifnonnullN hF.1 hF.2.1 hd (K ls hl)) B
/-- switches: the offset that the table says for x -/
def mj_sw (dflt lo hi : Int) (offs : Array Int) (x : Int32) : Int := if x.toInt < lo ∨ hi < x.toInt then dflt else offs.getD (x.toInt - lo).toNat 0
theorem go_tsw {dflt lo hi : Int} {offs : Array Int} {len : Nat} {x : Int32} (tgt : Nat) (hd : decode mi.2.1 pc = .ok (.tableswitch dflt lo hi offs, len)) (hn : (hi - lo).toNat < offs.size) (ht : (pc : Int) + mj_sw dflt lo hi offs x = (tgt : Int)) (B : Go mi d h0 tgt lv st h pc2 lv2 st2 h2) : Go mi d h0 pc lv (.int x :: st) h pc2 lv2 st2 h2 := by
  refine Go.one (fun G p e R s m args below meth c Q cells slots H locs ls hF hX g3 g4 hR hl K => ?_) B
  unfold mj_sw at ht
  by_cases hx : x.toInt < lo ∨ hi < x.toInt
  · rw [if_pos hx] at ht
    exact lv_tableOut hF.1 hF.2.1 hd hx ht (K ls hl)
  · rw [if_neg hx] at ht
    refine lv_tableIn hF.1 hF.2.1 hd (fun z => hx (Or.inl z)) (fun z => hx (Or.inr z)) (off := offs.getD (x.toInt - lo).toNat 0) ?_ ht (K ls hl)
    have hlt : (x.toInt - lo).toNat < offs.size := by omega
    rw [Array.getD_eq_getD_getElem?, Array.getElem?_eq_getElem hlt]
    rfl
theorem go_lsw {dflt : Int} {ps : Array (Int × Int)} {len : Nat} {x : Int32} (tgt : Nat) (hd : decode mi.2.1 pc = .ok (.lookupswitch dflt ps, len)) (hp : (ps.toList.zip (ps.toList.drop 1)).all (fun (a, next) => a.1 < next.1) = true) (ht : (pc : Int) + Op.lookupswitch.offset ps.toList dflt x.toInt = (tgt : Int)) (B : Go mi d h0 tgt lv st h pc2 lv2 st2 h2) : Go mi d h0 pc lv (.int x :: st) h pc2 lv2 st2 h2 :=
  Go.one (fun G p e R s m args below meth c Q cells slots H locs ls hF hX g3 g4 hR hl K => lv_lookup hF.1 hF.2.1 hd hp rfl ht (K ls hl)) B
end GO1
end
