section
-- ===== PART A: goes FIRST, ahead of the names: the tables' words, and 'selects' of the private methods out of them =====
/-- a private method of a class that the tables say can be made, by its rows of tables_1 -/
def lw_okq (q : MethodName × Nat) : Prop := (q.1.cls ≠ "java/lang/invoke/MethodHandle" ∧ q.1.cls ≠ "java/lang/invoke/VarHandle") ∧ Cond.instantiable q.1.cls q.2 ∈ tables_1 ∧ Cond.privateMethod q.1 ∈ tables_1 ∧ Cond.instanceMethod q.1 ∈ tables_1
theorem lw_p0 : lw_okq (⟨"WideTurn", "found", "(I)I"⟩, 10) := ⟨⟨by decide +kernel, by decide +kernel⟩, List.mem_of_getElem? (i := 19) (by decide +kernel), List.mem_of_getElem? (i := 266) (by decide +kernel), List.mem_of_getElem? (i := 267) (by decide +kernel)⟩
theorem lw_p1 : lw_okq (⟨"WideTurn", "sound", "(I)I"⟩, 10) := ⟨⟨by decide +kernel, by decide +kernel⟩, List.mem_of_getElem? (i := 19) (by decide +kernel), List.mem_of_getElem? (i := 278) (by decide +kernel), List.mem_of_getElem? (i := 279) (by decide +kernel)⟩
theorem lw_p2 : lw_okq (⟨"WideTurn$Tape", "readLaw", "(LWideTurn$Basin;)V"⟩, 6) := ⟨⟨by decide +kernel, by decide +kernel⟩, List.mem_of_getElem? (i := 47) (by decide +kernel), List.mem_of_getElem? (i := 353) (by decide +kernel), List.mem_of_getElem? (i := 354) (by decide +kernel)⟩
theorem lw_p3 : lw_okq (⟨"WideTurn$Tape", "readLetter", "(I)V"⟩, 6) := ⟨⟨by decide +kernel, by decide +kernel⟩, List.mem_of_getElem? (i := 47) (by decide +kernel), List.mem_of_getElem? (i := 357) (by decide +kernel), List.mem_of_getElem? (i := 358) (by decide +kernel)⟩
theorem lw_p4 : lw_okq (⟨"WideTurn$Tape", "letterAt", "(I)I"⟩, 6) := ⟨⟨by decide +kernel, by decide +kernel⟩, List.mem_of_getElem? (i := 47) (by decide +kernel), List.mem_of_getElem? (i := 361) (by decide +kernel), List.mem_of_getElem? (i := 362) (by decide +kernel)⟩
theorem lw_p5 : lw_okq (⟨"WideTurn$Tape", "fail", "(II)V"⟩, 6) := ⟨⟨by decide +kernel, by decide +kernel⟩, List.mem_of_getElem? (i := 47) (by decide +kernel), List.mem_of_getElem? (i := 366) (by decide +kernel), List.mem_of_getElem? (i := 367) (by decide +kernel)⟩
theorem lw_p6 : lw_okq (⟨"WideTurn$Tape", "readNumber", "(II)I"⟩, 6) := ⟨⟨by decide +kernel, by decide +kernel⟩, List.mem_of_getElem? (i := 47) (by decide +kernel), List.mem_of_getElem? (i := 370) (by decide +kernel), List.mem_of_getElem? (i := 371) (by decide +kernel)⟩
theorem lw_p7 : lw_okq (⟨"WideTurn$Tape", "readDepths", "(LWideTurn$Basin;)V"⟩, 6) := ⟨⟨by decide +kernel, by decide +kernel⟩, List.mem_of_getElem? (i := 47) (by decide +kernel), List.mem_of_getElem? (i := 377) (by decide +kernel), List.mem_of_getElem? (i := 378) (by decide +kernel)⟩
theorem lw_p8 : lw_okq (⟨"WideTurn$Tape", "readDepth", "()I"⟩, 6) := ⟨⟨by decide +kernel, by decide +kernel⟩, List.mem_of_getElem? (i := 47) (by decide +kernel), List.mem_of_getElem? (i := 381) (by decide +kernel), List.mem_of_getElem? (i := 382) (by decide +kernel)⟩
theorem lw_p9 : lw_okq (⟨"WideTurn$Tape", "readBoat", "(LWideTurn$Basin;)V"⟩, 6) := ⟨⟨by decide +kernel, by decide +kernel⟩, List.mem_of_getElem? (i := 47) (by decide +kernel), List.mem_of_getElem? (i := 385) (by decide +kernel), List.mem_of_getElem? (i := 386) (by decide +kernel)⟩
theorem lw_p10 : lw_okq (⟨"WideTurn$Tape", "readMoored", "(LWideTurn$Basin;)V"⟩, 6) := ⟨⟨by decide +kernel, by decide +kernel⟩, List.mem_of_getElem? (i := 47) (by decide +kernel), List.mem_of_getElem? (i := 389) (by decide +kernel), List.mem_of_getElem? (i := 390) (by decide +kernel)⟩
theorem lw_p11 : lw_okq (⟨"WideTurn$Tape", "readHands", "(LWideTurn$Basin;)V"⟩, 6) := ⟨⟨by decide +kernel, by decide +kernel⟩, List.mem_of_getElem? (i := 47) (by decide +kernel), List.mem_of_getElem? (i := 396) (by decide +kernel), List.mem_of_getElem? (i := 397) (by decide +kernel)⟩
theorem lw_p12 : lw_okq (⟨"WideTurn$Basin", "clearance", "(I)I"⟩, 11) := ⟨⟨by decide +kernel, by decide +kernel⟩, List.mem_of_getElem? (i := 154) (by decide +kernel), List.mem_of_getElem? (i := 575) (by decide +kernel), List.mem_of_getElem? (i := 576) (by decide +kernel)⟩
theorem lw_p13 : lw_okq (⟨"WideTurn$Search", "prepare", "(LWideTurn$Basin;I)V"⟩, 14) := ⟨⟨by decide +kernel, by decide +kernel⟩, List.mem_of_getElem? (i := 103) (by decide +kernel), List.mem_of_getElem? (i := 653) (by decide +kernel), List.mem_of_getElem? (i := 654) (by decide +kernel)⟩
theorem lw_p14 : lw_okq (⟨"WideTurn$Search", "choosePacers", "(LWideTurn$Basin;)V"⟩, 14) := ⟨⟨by decide +kernel, by decide +kernel⟩, List.mem_of_getElem? (i := 103) (by decide +kernel), List.mem_of_getElem? (i := 665) (by decide +kernel), List.mem_of_getElem? (i := 666) (by decide +kernel)⟩
theorem lw_p15 : lw_okq (⟨"WideTurn$Search", "add", "(III)V"⟩, 14) := ⟨⟨by decide +kernel, by decide +kernel⟩, List.mem_of_getElem? (i := 103) (by decide +kernel), List.mem_of_getElem? (i := 674) (by decide +kernel), List.mem_of_getElem? (i := 675) (by decide +kernel)⟩
def lw_privs_1 : List (MethodName × Nat) := [(⟨"WideTurn", "found", "(I)I"⟩, 10), (⟨"WideTurn", "sound", "(I)I"⟩, 10), (⟨"WideTurn$Tape", "readLaw", "(LWideTurn$Basin;)V"⟩, 6), (⟨"WideTurn$Tape", "readLetter", "(I)V"⟩, 6), (⟨"WideTurn$Tape", "letterAt", "(I)I"⟩, 6), (⟨"WideTurn$Tape", "fail", "(II)V"⟩, 6), (⟨"WideTurn$Tape", "readNumber", "(II)I"⟩, 6), (⟨"WideTurn$Tape", "readDepths", "(LWideTurn$Basin;)V"⟩, 6), (⟨"WideTurn$Tape", "readDepth", "()I"⟩, 6), (⟨"WideTurn$Tape", "readBoat", "(LWideTurn$Basin;)V"⟩, 6), (⟨"WideTurn$Tape", "readMoored", "(LWideTurn$Basin;)V"⟩, 6), (⟨"WideTurn$Tape", "readHands", "(LWideTurn$Basin;)V"⟩, 6), (⟨"WideTurn$Basin", "clearance", "(I)I"⟩, 11), (⟨"WideTurn$Search", "prepare", "(LWideTurn$Basin;I)V"⟩, 14), (⟨"WideTurn$Search", "choosePacers", "(LWideTurn$Basin;)V"⟩, 14), (⟨"WideTurn$Search", "add", "(III)V"⟩, 14)]
theorem lw_r1 : ∀ q ∈ lw_privs_1, lw_okq q := List.forall_mem_cons.mpr ⟨lw_p0, List.forall_mem_cons.mpr ⟨lw_p1, List.forall_mem_cons.mpr ⟨lw_p2, List.forall_mem_cons.mpr ⟨lw_p3, List.forall_mem_cons.mpr ⟨lw_p4, List.forall_mem_cons.mpr ⟨lw_p5, List.forall_mem_cons.mpr ⟨lw_p6, List.forall_mem_cons.mpr ⟨lw_p7, List.forall_mem_cons.mpr ⟨lw_p8, List.forall_mem_cons.mpr ⟨lw_p9, List.forall_mem_cons.mpr ⟨lw_p10, List.forall_mem_cons.mpr ⟨lw_p11, List.forall_mem_cons.mpr ⟨lw_p12, List.forall_mem_cons.mpr ⟨lw_p13, List.forall_mem_cons.mpr ⟨lw_p14, List.forall_mem_cons.mpr ⟨lw_p15, fun _ h => absurd h List.not_mem_nil⟩⟩⟩⟩⟩⟩⟩⟩⟩⟩⟩⟩⟩⟩⟩⟩
theorem lw_p16 : lw_okq (⟨"WideTurn$Search", "remove", "(I)V"⟩, 14) := ⟨⟨by decide +kernel, by decide +kernel⟩, List.mem_of_getElem? (i := 103) (by decide +kernel), List.mem_of_getElem? (i := 678) (by decide +kernel), List.mem_of_getElem? (i := 679) (by decide +kernel)⟩
theorem lw_p17 : lw_okq (⟨"WideTurn$Search", "leave", "(I)V"⟩, 14) := ⟨⟨by decide +kernel, by decide +kernel⟩, List.mem_of_getElem? (i := 103) (by decide +kernel), List.mem_of_getElem? (i := 682) (by decide +kernel), List.mem_of_getElem? (i := 683) (by decide +kernel)⟩
theorem lw_p18 : lw_okq (⟨"WideTurn$Search", "clearAt", "(II)I"⟩, 14) := ⟨⟨by decide +kernel, by decide +kernel⟩, List.mem_of_getElem? (i := 103) (by decide +kernel), List.mem_of_getElem? (i := 689) (by decide +kernel), List.mem_of_getElem? (i := 690) (by decide +kernel)⟩
theorem lw_p19 : lw_okq (⟨"WideTurn$Search", "behind", "(III)I"⟩, 14) := ⟨⟨by decide +kernel, by decide +kernel⟩, List.mem_of_getElem? (i := 103) (by decide +kernel), List.mem_of_getElem? (i := 693) (by decide +kernel), List.mem_of_getElem? (i := 694) (by decide +kernel)⟩
theorem lw_p20 : lw_okq (⟨"WideTurn$Search", "offer", "(III)V"⟩, 14) := ⟨⟨by decide +kernel, by decide +kernel⟩, List.mem_of_getElem? (i := 103) (by decide +kernel), List.mem_of_getElem? (i := 698) (by decide +kernel), List.mem_of_getElem? (i := 699) (by decide +kernel)⟩
theorem lw_p21 : lw_okq (⟨"WideTurn", "easiestCell", "(ZI)I"⟩, 10) := ⟨⟨by decide +kernel, by decide +kernel⟩, List.mem_of_getElem? (i := 19) (by decide +kernel), List.mem_of_getElem? (i := 728) (by decide +kernel), List.mem_of_getElem? (i := 729) (by decide +kernel)⟩
theorem lw_p22 : lw_okq (⟨"WideTurn", "minutesIfLaden", "(I)I"⟩, 10) := ⟨⟨by decide +kernel, by decide +kernel⟩, List.mem_of_getElem? (i := 19) (by decide +kernel), List.mem_of_getElem? (i := 745) (by decide +kernel), List.mem_of_getElem? (i := 746) (by decide +kernel)⟩
theorem lw_p23 : lw_okq (⟨"WideTurn", "findingAt", "(III)I"⟩, 10) := ⟨⟨by decide +kernel, by decide +kernel⟩, List.mem_of_getElem? (i := 19) (by decide +kernel), List.mem_of_getElem? (i := 753) (by decide +kernel), List.mem_of_getElem? (i := 754) (by decide +kernel)⟩
theorem lw_p24 : lw_okq (⟨"WideTurn", "planned", "(IIII)I"⟩, 10) := ⟨⟨by decide +kernel, by decide +kernel⟩, List.mem_of_getElem? (i := 19) (by decide +kernel), List.mem_of_getElem? (i := 757) (by decide +kernel), List.mem_of_getElem? (i := 758) (by decide +kernel)⟩
theorem lw_p25 : lw_okq (⟨"WideTurn", "waysSeen", "(IIIII)I"⟩, 10) := ⟨⟨by decide +kernel, by decide +kernel⟩, List.mem_of_getElem? (i := 19) (by decide +kernel), List.mem_of_getElem? (i := 769) (by decide +kernel), List.mem_of_getElem? (i := 770) (by decide +kernel)⟩
theorem lw_p26 : lw_okq (⟨"WideTurn", "waysBehind", "(IIIIII)I"⟩, 10) := ⟨⟨by decide +kernel, by decide +kernel⟩, List.mem_of_getElem? (i := 19) (by decide +kernel), List.mem_of_getElem? (i := 773) (by decide +kernel), List.mem_of_getElem? (i := 774) (by decide +kernel)⟩
theorem lw_p27 : lw_okq (⟨"WideTurn", "firstSeen", "(III)I"⟩, 10) := ⟨⟨by decide +kernel, by decide +kernel⟩, List.mem_of_getElem? (i := 19) (by decide +kernel), List.mem_of_getElem? (i := 777) (by decide +kernel), List.mem_of_getElem? (i := 778) (by decide +kernel)⟩
theorem lw_p28 : lw_okq (⟨"WideTurn", "passDays", "(II)I"⟩, 10) := ⟨⟨by decide +kernel, by decide +kernel⟩, List.mem_of_getElem? (i := 19) (by decide +kernel), List.mem_of_getElem? (i := 808) (by decide +kernel), List.mem_of_getElem? (i := 809) (by decide +kernel)⟩
theorem lw_p29 : lw_okq (⟨"WideTurnModel", "finds", "(I)I"⟩, 25) := ⟨⟨by decide +kernel, by decide +kernel⟩, List.mem_of_getElem? (i := 932) (by decide +kernel), List.mem_of_getElem? (i := 1026) (by decide +kernel), List.mem_of_getElem? (i := 1027) (by decide +kernel)⟩
theorem lw_p30 : lw_okq (⟨"WideTurnModel", "is", "(I)I"⟩, 25) := ⟨⟨by decide +kernel, by decide +kernel⟩, List.mem_of_getElem? (i := 932) (by decide +kernel), List.mem_of_getElem? (i := 1031) (by decide +kernel), List.mem_of_getElem? (i := 1032) (by decide +kernel)⟩
theorem lw_p31 : lw_okq (⟨"WideTurnModel", "isPart", "(III)Z"⟩, 25) := ⟨⟨by decide +kernel, by decide +kernel⟩, List.mem_of_getElem? (i := 932) (by decide +kernel), List.mem_of_getElem? (i := 1046) (by decide +kernel), List.mem_of_getElem? (i := 1047) (by decide +kernel)⟩
def lw_privs_2 : List (MethodName × Nat) := [(⟨"WideTurn$Search", "remove", "(I)V"⟩, 14), (⟨"WideTurn$Search", "leave", "(I)V"⟩, 14), (⟨"WideTurn$Search", "clearAt", "(II)I"⟩, 14), (⟨"WideTurn$Search", "behind", "(III)I"⟩, 14), (⟨"WideTurn$Search", "offer", "(III)V"⟩, 14), (⟨"WideTurn", "easiestCell", "(ZI)I"⟩, 10), (⟨"WideTurn", "minutesIfLaden", "(I)I"⟩, 10), (⟨"WideTurn", "findingAt", "(III)I"⟩, 10), (⟨"WideTurn", "planned", "(IIII)I"⟩, 10), (⟨"WideTurn", "waysSeen", "(IIIII)I"⟩, 10), (⟨"WideTurn", "waysBehind", "(IIIIII)I"⟩, 10), (⟨"WideTurn", "firstSeen", "(III)I"⟩, 10), (⟨"WideTurn", "passDays", "(II)I"⟩, 10), (⟨"WideTurnModel", "finds", "(I)I"⟩, 25), (⟨"WideTurnModel", "is", "(I)I"⟩, 25), (⟨"WideTurnModel", "isPart", "(III)Z"⟩, 25)]
theorem lw_r2 : ∀ q ∈ lw_privs_2, lw_okq q := List.forall_mem_cons.mpr ⟨lw_p16, List.forall_mem_cons.mpr ⟨lw_p17, List.forall_mem_cons.mpr ⟨lw_p18, List.forall_mem_cons.mpr ⟨lw_p19, List.forall_mem_cons.mpr ⟨lw_p20, List.forall_mem_cons.mpr ⟨lw_p21, List.forall_mem_cons.mpr ⟨lw_p22, List.forall_mem_cons.mpr ⟨lw_p23, List.forall_mem_cons.mpr ⟨lw_p24, List.forall_mem_cons.mpr ⟨lw_p25, List.forall_mem_cons.mpr ⟨lw_p26, List.forall_mem_cons.mpr ⟨lw_p27, List.forall_mem_cons.mpr ⟨lw_p28, List.forall_mem_cons.mpr ⟨lw_p29, List.forall_mem_cons.mpr ⟨lw_p30, List.forall_mem_cons.mpr ⟨lw_p31, fun _ h => absurd h List.not_mem_nil⟩⟩⟩⟩⟩⟩⟩⟩⟩⟩⟩⟩⟩⟩⟩⟩
theorem lw_p32 : lw_okq (⟨"WideTurnModel", "advances", "()V"⟩, 25) := ⟨⟨by decide +kernel, by decide +kernel⟩, List.mem_of_getElem? (i := 932) (by decide +kernel), List.mem_of_getElem? (i := 1063) (by decide +kernel), List.mem_of_getElem? (i := 1064) (by decide +kernel)⟩
theorem lw_p33 : lw_okq (⟨"WideTurnModel", "letterAt", "(I)I"⟩, 25) := ⟨⟨by decide +kernel, by decide +kernel⟩, List.mem_of_getElem? (i := 932) (by decide +kernel), List.mem_of_getElem? (i := 1067) (by decide +kernel), List.mem_of_getElem? (i := 1068) (by decide +kernel)⟩
theorem lw_p34 : lw_okq (⟨"WideTurnModel", "readsHead", "()V"⟩, 25) := ⟨⟨by decide +kernel, by decide +kernel⟩, List.mem_of_getElem? (i := 932) (by decide +kernel), List.mem_of_getElem? (i := 1071) (by decide +kernel), List.mem_of_getElem? (i := 1072) (by decide +kernel)⟩
theorem lw_p35 : lw_okq (⟨"WideTurnModel", "wants", "(II)V"⟩, 25) := ⟨⟨by decide +kernel, by decide +kernel⟩, List.mem_of_getElem? (i := 932) (by decide +kernel), List.mem_of_getElem? (i := 1075) (by decide +kernel), List.mem_of_getElem? (i := 1076) (by decide +kernel)⟩
theorem lw_p36 : lw_okq (⟨"WideTurnModel", "fails", "(I)V"⟩, 25) := ⟨⟨by decide +kernel, by decide +kernel⟩, List.mem_of_getElem? (i := 932) (by decide +kernel), List.mem_of_getElem? (i := 1079) (by decide +kernel), List.mem_of_getElem? (i := 1080) (by decide +kernel)⟩
theorem lw_p37 : lw_okq (⟨"WideTurnModel", "isWell", "()Z"⟩, 25) := ⟨⟨by decide +kernel, by decide +kernel⟩, List.mem_of_getElem? (i := 932) (by decide +kernel), List.mem_of_getElem? (i := 1083) (by decide +kernel), List.mem_of_getElem? (i := 1084) (by decide +kernel)⟩
theorem lw_p38 : lw_okq (⟨"WideTurnModel", "number", "(IIZ)I"⟩, 25) := ⟨⟨by decide +kernel, by decide +kernel⟩, List.mem_of_getElem? (i := 932) (by decide +kernel), List.mem_of_getElem? (i := 1087) (by decide +kernel), List.mem_of_getElem? (i := 1088) (by decide +kernel)⟩
theorem lw_p39 : lw_okq (⟨"WideTurnModel", "readsRest", "()V"⟩, 25) := ⟨⟨by decide +kernel, by decide +kernel⟩, List.mem_of_getElem? (i := 932) (by decide +kernel), List.mem_of_getElem? (i := 1091) (by decide +kernel), List.mem_of_getElem? (i := 1092) (by decide +kernel)⟩
theorem lw_p40 : lw_okq (⟨"WideTurnModel", "isHand", "(I)Z"⟩, 25) := ⟨⟨by decide +kernel, by decide +kernel⟩, List.mem_of_getElem? (i := 932) (by decide +kernel), List.mem_of_getElem? (i := 1118) (by decide +kernel), List.mem_of_getElem? (i := 1119) (by decide +kernel)⟩
theorem lw_p41 : lw_okq (⟨"WideTurnModel", "notes", "()V"⟩, 25) := ⟨⟨by decide +kernel, by decide +kernel⟩, List.mem_of_getElem? (i := 932) (by decide +kernel), List.mem_of_getElem? (i := 1146) (by decide +kernel), List.mem_of_getElem? (i := 1147) (by decide +kernel)⟩
theorem lw_p42 : lw_okq (⟨"WideTurnModel", "boatCells", "()I"⟩, 25) := ⟨⟨by decide +kernel, by decide +kernel⟩, List.mem_of_getElem? (i := 932) (by decide +kernel), List.mem_of_getElem? (i := 1161) (by decide +kernel), List.mem_of_getElem? (i := 1162) (by decide +kernel)⟩
theorem lw_p43 : lw_okq (⟨"WideTurnModel", "fitsNow", "()Z"⟩, 25) := ⟨⟨by decide +kernel, by decide +kernel⟩, List.mem_of_getElem? (i := 932) (by decide +kernel), List.mem_of_getElem? (i := 1172) (by decide +kernel), List.mem_of_getElem? (i := 1173) (by decide +kernel)⟩
theorem lw_p44 : lw_okq (⟨"WideTurnModel", "solves", "([IIII)I"⟩, 25) := ⟨⟨by decide +kernel, by decide +kernel⟩, List.mem_of_getElem? (i := 932) (by decide +kernel), List.mem_of_getElem? (i := 1193) (by decide +kernel), List.mem_of_getElem? (i := 1194) (by decide +kernel)⟩
theorem lw_p45 : lw_okq (⟨"WideTurnModel", "firstOf", "([I)I"⟩, 25) := ⟨⟨by decide +kernel, by decide +kernel⟩, List.mem_of_getElem? (i := 932) (by decide +kernel), List.mem_of_getElem? (i := 1207) (by decide +kernel), List.mem_of_getElem? (i := 1208) (by decide +kernel)⟩
theorem lw_p46 : lw_okq (⟨"WideTurnModel", "turnedOf", "([II)I"⟩, 25) := ⟨⟨by decide +kernel, by decide +kernel⟩, List.mem_of_getElem? (i := 932) (by decide +kernel), List.mem_of_getElem? (i := 1215) (by decide +kernel), List.mem_of_getElem? (i := 1216) (by decide +kernel)⟩
theorem lw_p47 : lw_okq (⟨"WideTurnModel", "wrongRow", "(III)I"⟩, 25) := ⟨⟨by decide +kernel, by decide +kernel⟩, List.mem_of_getElem? (i := 932) (by decide +kernel), List.mem_of_getElem? (i := 1243) (by decide +kernel), List.mem_of_getElem? (i := 1244) (by decide +kernel)⟩
def lw_privs_3 : List (MethodName × Nat) := [(⟨"WideTurnModel", "advances", "()V"⟩, 25), (⟨"WideTurnModel", "letterAt", "(I)I"⟩, 25), (⟨"WideTurnModel", "readsHead", "()V"⟩, 25), (⟨"WideTurnModel", "wants", "(II)V"⟩, 25), (⟨"WideTurnModel", "fails", "(I)V"⟩, 25), (⟨"WideTurnModel", "isWell", "()Z"⟩, 25), (⟨"WideTurnModel", "number", "(IIZ)I"⟩, 25), (⟨"WideTurnModel", "readsRest", "()V"⟩, 25), (⟨"WideTurnModel", "isHand", "(I)Z"⟩, 25), (⟨"WideTurnModel", "notes", "()V"⟩, 25), (⟨"WideTurnModel", "boatCells", "()I"⟩, 25), (⟨"WideTurnModel", "fitsNow", "()Z"⟩, 25), (⟨"WideTurnModel", "solves", "([IIII)I"⟩, 25), (⟨"WideTurnModel", "firstOf", "([I)I"⟩, 25), (⟨"WideTurnModel", "turnedOf", "([II)I"⟩, 25), (⟨"WideTurnModel", "wrongRow", "(III)I"⟩, 25)]
theorem lw_r3 : ∀ q ∈ lw_privs_3, lw_okq q := List.forall_mem_cons.mpr ⟨lw_p32, List.forall_mem_cons.mpr ⟨lw_p33, List.forall_mem_cons.mpr ⟨lw_p34, List.forall_mem_cons.mpr ⟨lw_p35, List.forall_mem_cons.mpr ⟨lw_p36, List.forall_mem_cons.mpr ⟨lw_p37, List.forall_mem_cons.mpr ⟨lw_p38, List.forall_mem_cons.mpr ⟨lw_p39, List.forall_mem_cons.mpr ⟨lw_p40, List.forall_mem_cons.mpr ⟨lw_p41, List.forall_mem_cons.mpr ⟨lw_p42, List.forall_mem_cons.mpr ⟨lw_p43, List.forall_mem_cons.mpr ⟨lw_p44, List.forall_mem_cons.mpr ⟨lw_p45, List.forall_mem_cons.mpr ⟨lw_p46, List.forall_mem_cons.mpr ⟨lw_p47, fun _ h => absurd h List.not_mem_nil⟩⟩⟩⟩⟩⟩⟩⟩⟩⟩⟩⟩⟩⟩⟩⟩
theorem lw_p48 : lw_okq (⟨"WideTurnModel", "sizeOf", "(I)I"⟩, 25) := ⟨⟨by decide +kernel, by decide +kernel⟩, List.mem_of_getElem? (i := 932) (by decide +kernel), List.mem_of_getElem? (i := 1298) (by decide +kernel), List.mem_of_getElem? (i := 1299) (by decide +kernel)⟩
theorem lw_p49 : lw_okq (⟨"WideTurnModel", "leaves", "(I)V"⟩, 25) := ⟨⟨by decide +kernel, by decide +kernel⟩, List.mem_of_getElem? (i := 932) (by decide +kernel), List.mem_of_getElem? (i := 1302) (by decide +kernel), List.mem_of_getElem? (i := 1303) (by decide +kernel)⟩
theorem lw_p50 : lw_okq (⟨"WideTurnModel", "plainMark", "(I)I"⟩, 25) := ⟨⟨by decide +kernel, by decide +kernel⟩, List.mem_of_getElem? (i := 932) (by decide +kernel), List.mem_of_getElem? (i := 1306) (by decide +kernel), List.mem_of_getElem? (i := 1307) (by decide +kernel)⟩
theorem lw_p51 : lw_okq (⟨"WideTurnModel", "markOf", "(I)I"⟩, 25) := ⟨⟨by decide +kernel, by decide +kernel⟩, List.mem_of_getElem? (i := 932) (by decide +kernel), List.mem_of_getElem? (i := 1310) (by decide +kernel), List.mem_of_getElem? (i := 1311) (by decide +kernel)⟩
def lw_privs_4 : List (MethodName × Nat) := [(⟨"WideTurnModel", "sizeOf", "(I)I"⟩, 25), (⟨"WideTurnModel", "leaves", "(I)V"⟩, 25), (⟨"WideTurnModel", "plainMark", "(I)I"⟩, 25), (⟨"WideTurnModel", "markOf", "(I)I"⟩, 25)]
theorem lw_r4 : ∀ q ∈ lw_privs_4, lw_okq q := List.forall_mem_cons.mpr ⟨lw_p48, List.forall_mem_cons.mpr ⟨lw_p49, List.forall_mem_cons.mpr ⟨lw_p50, List.forall_mem_cons.mpr ⟨lw_p51, fun _ h => absurd h List.not_mem_nil⟩⟩⟩⟩
def lw_privs : List (MethodName × Nat) := lw_privs_1 ++ (lw_privs_2 ++ (lw_privs_3 ++ (lw_privs_4)))
def lw_tbl : List Cond := k2_sels lw_privs ++ tables_1
theorem lw_privs_ok : ∀ q ∈ lw_privs, lw_okq q := by
  show ∀ q ∈ lw_privs_1 ++ (lw_privs_2 ++ (lw_privs_3 ++ (lw_privs_4))), lw_okq q
  exact List.forall_mem_append.mpr ⟨lw_r1, List.forall_mem_append.mpr ⟨lw_r2, List.forall_mem_append.mpr ⟨lw_r3, lw_r4⟩⟩⟩

-- class tables (begun as NAMES.whole.lean.txt)
def RX0 : String := "WideTurn$Acts"
def TX0 : u_T := fun k => match k with
  | 0 => ("WideTurn$Acts", "middle", "[I", true)
  | 1 => ("WideTurn$Acts", "turn", "[I", true)
  | 2 => ("WideTurn$Acts", "laden", "[I", true)
  | 3 => ("WideTurn$Acts", "moves", "[I", true)
  | 4 => ("WideTurn$Acts", "moored", "[I", true)
  | 5 => ("WideTurn$Acts", "lowered", "[I", true)
  | 6 => ("WideTurn$Acts", "next", "I", false)
  | _ => ("WideTurn$Acts", "kept", "I", false)
def tyX0 : Nat → FieldType := fun k => match k with
  | 0 => .array .int
  | 1 => .array .int
  | 2 => .array .int
  | 3 => .array .int
  | 4 => .array .int
  | 5 => .array .int
  | 6 => .int
  | _ => .int
theorem nmX0 : ∀ a, a < 8 → ∀ b, b < 8 → a ≠ b → (TX0 a).2.1 ≠ (TX0 b).2.1 := by decide +kernel
theorem tyX0_ok : ∀ k, k < 8 → parseFieldDescriptor (TX0 k).2.2.1 = some (tyX0 k) := by decide +kernel
def RX1 : String := "WideTurn$Basin"
def TX1 : u_T := fun k => match k with
  | 0 => ("WideTurn$Basin", "wind", "I", false)
  | 1 => ("WideTurn$Basin", "draught", "I", false)
  | 2 => ("WideTurn$Basin", "load", "I", false)
  | 3 => ("WideTurn$Basin", "middle", "I", false)
  | 4 => ("WideTurn$Basin", "turn", "I", false)
  | 5 => ("WideTurn$Basin", "laden", "I", false)
  | 6 => ("WideTurn$Basin", "moves", "I", false)
  | 7 => ("WideTurn$Basin", "moored", "I", false)
  | 8 => ("WideTurn$Basin", "hands", "I", false)
  | 9 => ("WideTurn$Basin", "depth", "[I", true)
  | _ => ("WideTurn$Basin", "hand", "[LWideTurn$Hand;", true)
def tyX1 : Nat → FieldType := fun k => match k with
  | 0 => .int
  | 1 => .int
  | 2 => .int
  | 3 => .int
  | 4 => .int
  | 5 => .int
  | 6 => .int
  | 7 => .int
  | 8 => .int
  | 9 => .array .int
  | _ => .array (.object "WideTurn$Hand")
theorem nmX1 : ∀ a, a < 11 → ∀ b, b < 11 → a ≠ b → (TX1 a).2.1 ≠ (TX1 b).2.1 := by decide +kernel
theorem tyX1_ok : ∀ k, k < 11 → parseFieldDescriptor (TX1 k).2.2.1 = some (tyX1 k) := by decide +kernel
def RX2 : String := "WideTurn$Hand"
def TX2 : u_T := fun k => match k with
  | _ => ("", "", "", false)
def tyX2 : Nat → FieldType := fun k => match k with
  | _ => .int
theorem nmX2 : ∀ a, a < 0 → ∀ b, b < 0 → a ≠ b → (TX2 a).2.1 ≠ (TX2 b).2.1 := by decide +kernel
theorem tyX2_ok : ∀ k, k < 0 → parseFieldDescriptor (TX2 k).2.2.1 = some (tyX2 k) := by decide +kernel
def RX3 : String := "WideTurn$Lifter"
def TX3 : u_T := fun k => match k with
  | 0 => ("WideTurn$Hand", "number", "I", true)
  | 1 => ("WideTurn$Hand", "minutes", "I", true)
  | _ => ("WideTurn$Hand", "known", "I", true)
def tyX3 : Nat → FieldType := fun k => match k with
  | 0 => .int
  | 1 => .int
  | _ => .int
theorem nmX3 : ∀ a, a < 3 → ∀ b, b < 3 → a ≠ b → (TX3 a).2.1 ≠ (TX3 b).2.1 := by decide +kernel
theorem tyX3_ok : ∀ k, k < 3 → parseFieldDescriptor (TX3 k).2.2.1 = some (tyX3 k) := by decide +kernel
def RX4 : String := "WideTurn$Poler"
def TX4 : u_T := fun k => match k with
  | 0 => ("WideTurn$Hand", "number", "I", true)
  | 1 => ("WideTurn$Hand", "minutes", "I", true)
  | _ => ("WideTurn$Hand", "known", "I", true)
def tyX4 : Nat → FieldType := fun k => match k with
  | 0 => .int
  | 1 => .int
  | _ => .int
theorem nmX4 : ∀ a, a < 3 → ∀ b, b < 3 → a ≠ b → (TX4 a).2.1 ≠ (TX4 b).2.1 := by decide +kernel
theorem tyX4_ok : ∀ k, k < 3 → parseFieldDescriptor (TX4 k).2.2.1 = some (tyX4 k) := by decide +kernel
def RX5 : String := "WideTurn$Roper"
def TX5 : u_T := fun k => match k with
  | 0 => ("WideTurn$Hand", "number", "I", true)
  | 1 => ("WideTurn$Hand", "minutes", "I", true)
  | _ => ("WideTurn$Hand", "known", "I", true)
def tyX5 : Nat → FieldType := fun k => match k with
  | 0 => .int
  | 1 => .int
  | _ => .int
theorem nmX5 : ∀ a, a < 3 → ∀ b, b < 3 → a ≠ b → (TX5 a).2.1 ≠ (TX5 b).2.1 := by decide +kernel
theorem tyX5_ok : ∀ k, k < 3 → parseFieldDescriptor (TX5 k).2.2.1 = some (tyX5 k) := by decide +kernel
def RX6 : String := "WideTurn$Rows"
def TX6 : u_T := fun k => match k with
  | 0 => ("WideTurn$Rows", "items", "[I", true)
  | 1 => ("WideTurn$Rows", "lanes", "[I", true)
  | _ => ("WideTurn$Rows", "sizes", "[I", true)
def tyX6 : Nat → FieldType := fun k => match k with
  | 0 => .array .int
  | 1 => .array .int
  | _ => .array .int
theorem nmX6 : ∀ a, a < 3 → ∀ b, b < 3 → a ≠ b → (TX6 a).2.1 ≠ (TX6 b).2.1 := by decide +kernel
theorem tyX6_ok : ∀ k, k < 3 → parseFieldDescriptor (TX6 k).2.2.1 = some (tyX6 k) := by decide +kernel
def RX7 : String := "WideTurn$Search"
def TX7 : u_T := fun k => match k with
  | 0 => ("WideTurn$Search", "clear", "[I", true)
  | 1 => ("WideTurn$Search", "minutes", "[I", true)
  | 2 => ("WideTurn$Search", "first", "[I", true)
  | 3 => ("WideTurn$Search", "after", "[I", true)
  | 4 => ("WideTurn$Search", "before", "[I", true)
  | 5 => ("WideTurn$Search", "heads", "[I", true)
  | 6 => ("WideTurn$Search", "paces", "[I", true)
  | 7 => ("WideTurn$Search", "pacers", "[I", true)
  | 8 => ("WideTurn$Search", "draught", "I", false)
  | 9 => ("WideTurn$Search", "lee", "I", false)
  | 10 => ("WideTurn$Search", "start", "I", false)
  | 11 => ("WideTurn$Search", "waiting", "I", false)
  | 12 => ("WideTurn$Search", "foundMinutes", "I", false)
  | _ => ("WideTurn$Search", "foundFirst", "I", false)
def tyX7 : Nat → FieldType := fun k => match k with
  | 0 => .array .int
  | 1 => .array .int
  | 2 => .array .int
  | 3 => .array .int
  | 4 => .array .int
  | 5 => .array .int
  | 6 => .array .int
  | 7 => .array .int
  | 8 => .int
  | 9 => .int
  | 10 => .int
  | 11 => .int
  | 12 => .int
  | _ => .int
theorem nmX7 : ∀ a, a < 14 → ∀ b, b < 14 → a ≠ b → (TX7 a).2.1 ≠ (TX7 b).2.1 := by decide +kernel
theorem tyX7_ok : ∀ k, k < 14 → parseFieldDescriptor (TX7 k).2.2.1 = some (tyX7 k) := by decide +kernel
def RX8 : String := "WideTurn$Shover"
def TX8 : u_T := fun k => match k with
  | 0 => ("WideTurn$Hand", "number", "I", true)
  | 1 => ("WideTurn$Hand", "minutes", "I", true)
  | _ => ("WideTurn$Hand", "known", "I", true)
def tyX8 : Nat → FieldType := fun k => match k with
  | 0 => .int
  | 1 => .int
  | _ => .int
theorem nmX8 : ∀ a, a < 3 → ∀ b, b < 3 → a ≠ b → (TX8 a).2.1 ≠ (TX8 b).2.1 := by decide +kernel
theorem tyX8_ok : ∀ k, k < 3 → parseFieldDescriptor (TX8 k).2.2.1 = some (tyX8 k) := by decide +kernel
def RX9 : String := "WideTurn$Swinger"
def TX9 : u_T := fun k => match k with
  | 0 => ("WideTurn$Hand", "number", "I", true)
  | 1 => ("WideTurn$Hand", "minutes", "I", true)
  | _ => ("WideTurn$Hand", "known", "I", true)
def tyX9 : Nat → FieldType := fun k => match k with
  | 0 => .int
  | 1 => .int
  | _ => .int
theorem nmX9 : ∀ a, a < 3 → ∀ b, b < 3 → a ≠ b → (TX9 a).2.1 ≠ (TX9 b).2.1 := by decide +kernel
theorem tyX9_ok : ∀ k, k < 3 → parseFieldDescriptor (TX9 k).2.2.1 = some (tyX9 k) := by decide +kernel
def RX10 : String := "WideTurn$Tape"
def TX10 : u_T := fun k => match k with
  | 0 => ("WideTurn$Tape", "bytes", "[I", true)
  | 1 => ("WideTurn$Tape", "length", "I", false)
  | 2 => ("WideTurn$Tape", "place", "I", false)
  | 3 => ("WideTurn$Tape", "fault", "I", false)
  | 4 => ("WideTurn$Tape", "faultPlace", "I", false)
  | _ => ("WideTurn$Tape", "latestFault", "I", false)
def tyX10 : Nat → FieldType := fun k => match k with
  | 0 => .array .int
  | 1 => .int
  | 2 => .int
  | 3 => .int
  | 4 => .int
  | _ => .int
theorem nmX10 : ∀ a, a < 6 → ∀ b, b < 6 → a ≠ b → (TX10 a).2.1 ≠ (TX10 b).2.1 := by decide +kernel
theorem tyX10_ok : ∀ k, k < 6 → parseFieldDescriptor (TX10 k).2.2.1 = some (tyX10 k) := by decide +kernel
def RX11 : String := "WideTurn"
def TX11 : u_T := fun k => match k with
  | 0 => ("WideTurn", "rows", "LWideTurn$Rows;", true)
  | 1 => ("WideTurn", "tape", "LWideTurn$Tape;", true)
  | 2 => ("WideTurn", "acts", "LWideTurn$Acts;", true)
  | 3 => ("WideTurn", "search", "LWideTurn$Search;", true)
  | 4 => ("WideTurn", "now", "LWideTurn$Basin;", true)
  | 5 => ("WideTurn", "trial", "LWideTurn$Basin;", true)
  | 6 => ("WideTurn", "images", "[LWideTurn$Basin;", true)
  | 7 => ("WideTurn", "trace", "[I", true)
  | 8 => ("WideTurn", "told", "Z", false)
  | _ => ("WideTurn", "finding", "I", false)
def tyX11 : Nat → FieldType := fun k => match k with
  | 0 => .object "WideTurn$Rows"
  | 1 => .object "WideTurn$Tape"
  | 2 => .object "WideTurn$Acts"
  | 3 => .object "WideTurn$Search"
  | 4 => .object "WideTurn$Basin"
  | 5 => .object "WideTurn$Basin"
  | 6 => .array (.object "WideTurn$Basin")
  | 7 => .array .int
  | 8 => .boolean
  | _ => .int
theorem nmX11 : ∀ a, a < 10 → ∀ b, b < 10 → a ≠ b → (TX11 a).2.1 ≠ (TX11 b).2.1 := by decide +kernel
theorem tyX11_ok : ∀ k, k < 10 → parseFieldDescriptor (TX11 k).2.2.1 = some (tyX11 k) := by decide +kernel
def RX12 : String := "WideTurnModel"
def TX12 : u_T := fun k => match k with
  | 0 => ("WideTurnModel", "thrown", "I", false)
  | 1 => ("WideTurnModel", "tape", "[I", true)
  | 2 => ("WideTurnModel", "typed", "I", false)
  | 3 => ("WideTurnModel", "next", "I", false)
  | 4 => ("WideTurnModel", "token", "I", false)
  | 5 => ("WideTurnModel", "place", "I", false)
  | 6 => ("WideTurnModel", "value", "I", false)
  | 7 => ("WideTurnModel", "fault", "I", false)
  | 8 => ("WideTurnModel", "faultAt", "I", false)
  | 9 => ("WideTurnModel", "latestFault", "I", false)
  | 10 => ("WideTurnModel", "lane", "[I", true)
  | 11 => ("WideTurnModel", "length", "[I", true)
  | 12 => ("WideTurnModel", "items", "[I", true)
  | 13 => ("WideTurnModel", "finding", "I", false)
  | 14 => ("WideTurnModel", "draft", "[I", true)
  | 15 => ("WideTurnModel", "s", "[I", true)
  | 16 => ("WideTurnModel", "w", "[I", true)
  | 17 => ("WideTurnModel", "acts", "[I", true)
  | 18 => ("WideTurnModel", "actMany", "I", false)
  | 19 => ("WideTurnModel", "images", "[I", true)
  | 20 => ("WideTurnModel", "isKept", "[Z", true)
  | 21 => ("WideTurnModel", "trace", "[I", true)
  | 22 => ("WideTurnModel", "traceMany", "I", false)
  | 23 => ("WideTurnModel", "best", "[I", true)
  | _ => ("WideTurnModel", "ways", "[I", true)
def tyX12 : Nat → FieldType := fun k => match k with
  | 0 => .int
  | 1 => .array .int
  | 2 => .int
  | 3 => .int
  | 4 => .int
  | 5 => .int
  | 6 => .int
  | 7 => .int
  | 8 => .int
  | 9 => .int
  | 10 => .array .int
  | 11 => .array .int
  | 12 => .array .int
  | 13 => .int
  | 14 => .array .int
  | 15 => .array .int
  | 16 => .array .int
  | 17 => .array .int
  | 18 => .int
  | 19 => .array .int
  | 20 => .array .boolean
  | 21 => .array .int
  | 22 => .int
  | 23 => .array .int
  | _ => .array .int
theorem nmX12 : ∀ a, a < 25 → ∀ b, b < 25 → a ≠ b → (TX12 a).2.1 ≠ (TX12 b).2.1 := by decide +kernel
theorem tyX12_ok : ∀ k, k < 25 → parseFieldDescriptor (TX12 k).2.2.1 = some (tyX12 k) := by decide +kernel
-- ===== the classes whose objects are made, and what the tables say of them =====
def mj_cl : List vw_C := [(RX0, TX0, 8), (RX1, TX1, 11), (RX3, TX3, 3), (RX4, TX4, 3), (RX5, TX5, 3), (RX6, TX6, 3), (RX7, TX7, 14), (RX8, TX8, 3), (RX9, TX9, 3), (RX10, TX10, 6), (RX11, TX11, 10), (RX12, TX12, 25)]
theorem mj_in0 : ∀ w ∈ u_ws RX0 TX0 8, w ∈ lw_tbl := by decide +kernel
theorem mj_in1 : ∀ w ∈ u_ws RX1 TX1 11, w ∈ lw_tbl := by decide +kernel
theorem mj_in2 : ∀ w ∈ u_ws RX3 TX3 3, w ∈ lw_tbl := by decide +kernel
theorem mj_in3 : ∀ w ∈ u_ws RX4 TX4 3, w ∈ lw_tbl := by decide +kernel
theorem mj_in4 : ∀ w ∈ u_ws RX5 TX5 3, w ∈ lw_tbl := by decide +kernel
theorem mj_in5 : ∀ w ∈ u_ws RX6 TX6 3, w ∈ lw_tbl := by decide +kernel
theorem mj_in6 : ∀ w ∈ u_ws RX7 TX7 14, w ∈ lw_tbl := by decide +kernel
theorem mj_in7 : ∀ w ∈ u_ws RX8 TX8 3, w ∈ lw_tbl := by decide +kernel
theorem mj_in8 : ∀ w ∈ u_ws RX9 TX9 3, w ∈ lw_tbl := by decide +kernel
theorem mj_in9 : ∀ w ∈ u_ws RX10 TX10 6, w ∈ lw_tbl := by decide +kernel
theorem mj_in10 : ∀ w ∈ u_ws RX11 TX11 10, w ∈ lw_tbl := by decide +kernel
theorem mj_in11 : ∀ w ∈ u_ws RX12 TX12 25, w ∈ lw_tbl := by decide +kernel
/-- what a class's row of mj_cl brings: its words, its fields' types, its fields' names apart -/
def mj_ok (q : vw_C) : Prop := (∀ w ∈ u_ws q.1 q.2.1 q.2.2, w ∈ lw_tbl) ∧ (∃ ty : Nat → FieldType, ∀ k, k < q.2.2 → parseFieldDescriptor (q.2.1 k).2.2.1 = some (ty k)) ∧ ∀ a, a < q.2.2 → ∀ b, b < q.2.2 → a ≠ b → (q.2.1 a).2.1 ≠ (q.2.1 b).2.1
theorem mj_oks : ∀ q ∈ mj_cl, mj_ok q := by
  unfold mj_cl
  refine List.forall_mem_cons.mpr ⟨⟨mj_in0, ⟨tyX0, tyX0_ok⟩, nmX0⟩, ?_⟩
  refine List.forall_mem_cons.mpr ⟨⟨mj_in1, ⟨tyX1, tyX1_ok⟩, nmX1⟩, ?_⟩
  refine List.forall_mem_cons.mpr ⟨⟨mj_in2, ⟨tyX3, tyX3_ok⟩, nmX3⟩, ?_⟩
  refine List.forall_mem_cons.mpr ⟨⟨mj_in3, ⟨tyX4, tyX4_ok⟩, nmX4⟩, ?_⟩
  refine List.forall_mem_cons.mpr ⟨⟨mj_in4, ⟨tyX5, tyX5_ok⟩, nmX5⟩, ?_⟩
  refine List.forall_mem_cons.mpr ⟨⟨mj_in5, ⟨tyX6, tyX6_ok⟩, nmX6⟩, ?_⟩
  refine List.forall_mem_cons.mpr ⟨⟨mj_in6, ⟨tyX7, tyX7_ok⟩, nmX7⟩, ?_⟩
  refine List.forall_mem_cons.mpr ⟨⟨mj_in7, ⟨tyX8, tyX8_ok⟩, nmX8⟩, ?_⟩
  refine List.forall_mem_cons.mpr ⟨⟨mj_in8, ⟨tyX9, tyX9_ok⟩, nmX9⟩, ?_⟩
  refine List.forall_mem_cons.mpr ⟨⟨mj_in9, ⟨tyX10, tyX10_ok⟩, nmX10⟩, ?_⟩
  refine List.forall_mem_cons.mpr ⟨⟨mj_in10, ⟨tyX11, tyX11_ok⟩, nmX11⟩, ?_⟩
  refine List.forall_mem_cons.mpr ⟨⟨mj_in11, ⟨tyX12, tyX12_ok⟩, nmX12⟩, ?_⟩
  exact fun _ h => absurd h List.not_mem_nil
/-- the words that stay as the machine warms up, whatever the arguments; and those others that stay, too -/
def mj_tbl : List Cond := lw_tbl.filter goodWord
def mj_kind : Cond → Bool
  | .methodLinkNest .. => true
  | .declares _ => true
  | .castable .. => true
  | .arrayOver (.object _) => true
  | _ => false
def mj_bad : List Cond := lw_tbl.filter mj_kind
theorem mj_tblIn : GoodIn mj_tbl mj_tbl := fun w hw => ⟨hw, good_of_word (List.mem_filter.mp hw).2⟩
theorem mj_keep {s U : State} (hW : s.WarmedH U.vm) {w : Cond} (hk : mj_kind w = true) (h : va_Nw w s) : va_Nw w U := by
  unfold mj_kind at hk
  split at hk
  · exact va_Nw.warmM hW h
  · exact va_Nw.warmD hW h
  · exact va_Nw.warmC hW h
  · exact va_AO.use (A := #[]) (va_AO.moved hW.alike (va_AO.of (A := #[]) h))
  · cases hk
end
section
/-! ===== the small picture of the heap: cells by number, arrays as functions, objects as lists; numbers 0, 1, 2 are EAST, SOUTH and the script ===== -/
abbrev MC : Type := (Nat × Nat × (Nat → Int32)) ⊕ ((Nat × Nat × (Nat → Option Nat)) ⊕ (Nat × List Value))
abbrev MH : Type := (Nat → MC) × Nat × Nat
/-- the launch; the classes' numbers and slots; the array classes; the addresses; where what is made begins -/
abbrev CX : Type := Launch × va_G × (Nat → ClassId) × (Nat → Nat) × Nat
abbrev CX.l (G : CX) : Launch := G.1
abbrev CX.D (G : CX) : va_G := G.2.1
abbrev CX.cA (G : CX) : Nat → ClassId := G.2.2.1
abbrev CX.ad (G : CX) : Nat → Nat := G.2.2.2.1
abbrev CX.base (G : CX) : Nat := G.2.2.2.2
def mj_v (ad : Nat → Nat) : Value → Value
  | .ref a => .ref (ad a)
  | .int x => .int x
  | .long x => .long x
  | .float x => .float x
  | .double x => .double x
  | .null => .null
  | .retAddr a => .retAddr a
def mj_e (G : CX) : MC → va_E
  | .inl (t, n, f) => .inl (G.cA t, n, .inl f)
  | .inr (.inl (t, n, f)) => .inl (G.cA t, n, .inr (.inr (.inr (.inr (fun j => (f j).map G.ad)))))
  | .inr (.inr (ci, fs)) => .inr (ci, fs.map (mj_v G.ad))
def mj_l (ad : Nat → Nat) (lv : List (Nat × Value)) : List (Nat × Value) := lv.map fun q => (q.1, mj_v ad q.2)
def mj_nil : MC := .inr (.inr (0, []))
def mj_aty : Nat → FieldType := fun k => match k with
  | 0 => .int
  | 1 => .boolean
  | 2 => .object "WideTurn$Hand"
  | _ => .object "WideTurn$Basin"
def mj_tys (G : CX) : List (ClassId × FieldType) := [(G.cA 0, mj_aty 0), (G.cA 1, mj_aty 1), (G.cA 2, mj_aty 2), (G.cA 3, mj_aty 3)]
theorem mj_tys_at (G : CX) {t : Nat} (h : t < 4) : (mj_tys G)[t]? = some (G.cA t, mj_aty t) := by
  rcases (show t = 0 ∨ t = 1 ∨ t = 2 ∨ t = 3 by omega) with rfl | rfl | rfl | rfl <;> rfl
/-- which pairs of classes are not castable -/
def mj_nc : List (String × String) := (["WideTurn$Swinger", "WideTurn$Poler", "WideTurn$Roper", "WideTurn$Shover", "WideTurn$Lifter"].flatMap fun a => ["WideTurn$Swinger", "WideTurn$Poler", "WideTurn$Roper", "WideTurn$Shover", "WideTurn$Lifter"].map fun b => (a, b)).filter fun q => q.1 ≠ q.2 && !(q.2 == "WideTurn$Swinger" && (q.1 == "WideTurn$Poler" || q.1 == "WideTurn$Roper")) && !(q.2 == "WideTurn$Shover" && q.1 == "WideTurn$Lifter")
/-- what stays true of the machine from the law's start on -/
def mj_Fx (G : CX) (s : State) : Prop :=
  va_K G.D mj_cl (mj_tys G) s ∧ (∀ i, 3 ≤ i → G.ad i = G.base + (i - 3)) ∧ (∀ i, i < 3 → G.ad i < G.base) ∧ (∀ w ∈ mj_bad, va_Nw w s) ∧ (∀ q ∈ mj_nc, va_Nc q.1 q.2 s)
/-- the heap H holds the picture h; below base it is as at this frame's start -/
def mj_Rep (G : CX) (s : State) (h : MH) (H : Heap) (locs : List Loc) : Prop :=
  H.size + 3 = G.base + h.2.1 ∧ 3 ≤ h.2.1 ∧
  (∀ i, 3 ≤ i → i < h.2.1 → va_at G.D mj_cl (G.ad i, mj_e G (h.1 i)) H) ∧
  (∀ i, h.2.1 ≤ i → h.1 i = mj_nil) ∧
  (∀ i, i < 3 → ∃ (n : Nat) (f : Nat → Int32), h.1 i = .inl (0, n, f) ∧ va_X (G.ad i) n f s H) ∧
  (∀ i, i < 2 → va_Z "WideTurn" (if i = 0 then "EAST" else "SOUTH") "[I" (.ref (G.ad i)) (fun q => G.base ≤ q) s H) ∧
  (∀ q, q < G.base → H[q]? = s.heap[q]?) ∧ G.base ≤ s.heap.size ∧ ∀ q ∈ locs, G.base ≤ q.base
/-- a method: its name, its bytes, how many locals, what it returns -/
abbrev MI : Type := MethodName × ByteArray × Nat × Option FieldType
def mj_Fr (mi : MI) (p : Program) (s : State) (m : MethodId) (args : Array Value) (meth : Method) (c : Code) : Prop :=
  p.tables.exec = Jvm.exec ∧ c.code = mi.2.1 ∧ c.maxLocals = mi.2.2.1 ∧ s.vm.findClass mi.1.cls = some m.cls ∧ (∀ w ∈ mj_tbl, w.before args s = true) ∧ meth.name = mi.1.name ∧ meth.sig.returnType = mi.2.2.2 ∧ meth.locks = false
/-- from one place of a frame (pc, locals, stack, heap) the machine comes to another of the same frame -/
def Go (mi : MI) (d : Nat) (h0 : MH) (pc : Nat) (lv : List (Nat × Value)) (st : List Value) (h : MH) (pc' : Nat) (lv' : List (Nat × Value)) (st' : List Value) (h' : MH) : Prop :=
  h.2.1 ≤ h'.2.1 ∧ h.2.2 ≤ h'.2.2 ∧
  ∀ (G : CX) (p : Program) (e : Env) (R : Room) (s : State) (m : MethodId) (args : Array Value) (below : List Frame) (meth : Method) (c : Code) (Q : State → Prop),
    mj_Fr mi p s m args meth c → mj_Fx G s → h0.2.1 ≤ h.2.1 → h0.2.2 ≤ h.2.2 → d ≤ R.frames → 64 * d ≤ R.locals → h'.2.1 - h0.2.1 ≤ R.cells → h'.2.2 - h0.2.2 ≤ R.slots →
    (∀ (H : Heap) (locs : List Loc) (ls : Array Slot), mj_Rep G s h' H locs → lv_has ls mi.2.2.1 (mj_l G.ad lv') → W p G.l e R s m args below meth c H locs (h'.2.1 - h0.2.1) (h'.2.2 - h0.2.2) Q (F0 m pc' ls (st'.map (mj_v G.ad)))) →
    ∀ (H : Heap) (locs : List Loc) (ls : Array Slot), mj_Rep G s h H locs → lv_has ls mi.2.2.1 (mj_l G.ad lv) → W p G.l e R s m args below meth c H locs (h.2.1 - h0.2.1) (h.2.2 - h0.2.2) Q (F0 m pc ls (st.map (mj_v G.ad)))
theorem Go.rf {mi : MI} {d : Nat} {h0 : MH} {pc : Nat} {lv : List (Nat × Value)} {st : List Value} {h : MH} : Go mi d h0 pc lv st h pc lv st h :=
  ⟨Nat.le_refl _, Nat.le_refl _, fun _ _ _ _ _ _ _ _ _ _ _ _ _ _ _ _ _ _ _ hQ => hQ⟩
theorem Go.tr {mi : MI} {d : Nat} {h0 : MH} {pc pc1 pc2 : Nat} {lv lv1 lv2 : List (Nat × Value)} {st st1 st2 : List Value} {h h1 h2 : MH} (A : Go mi d h0 pc lv st h pc1 lv1 st1 h1) (B : Go mi d h0 pc1 lv1 st1 h1 pc2 lv2 st2 h2) : Go mi d h0 pc lv st h pc2 lv2 st2 h2 := by
  obtain ⟨a1, a2, a3⟩ := A
  obtain ⟨b1, b2, b3⟩ := B
  refine ⟨Nat.le_trans a1 b1, Nat.le_trans a2 b2, fun G p e R s m args below meth c Q hF hX g1 g2 g3 g4 g5 g6 hQ => ?_⟩
  exact a3 G p e R s m args below meth c Q hF hX g1 g2 g3 g4 (Nat.le_trans (Nat.sub_le_sub_right b1 _) g5) (Nat.le_trans (Nat.sub_le_sub_right b2 _) g6)
    (b3 G p e R s m args below meth c Q hF hX (Nat.le_trans g1 a1) (Nat.le_trans g2 a2) g3 g4 g5 g6 hQ)
/-- more depth, more room -/
theorem Go.up {mi : MI} {d d' : Nat} {h0 : MH} {pc pc1 : Nat} {lv lv1 : List (Nat × Value)} {st st1 : List Value} {h h1 : MH} (hd : d ≤ d') (A : Go mi d h0 pc lv st h pc1 lv1 st1 h1) : Go mi d' h0 pc lv st h pc1 lv1 st1 h1 :=
  ⟨A.1, A.2.1, fun G p e R s m args below meth c Q hF hX g1 g2 g3 g4 g5 g6 hQ => A.2.2 G p e R s m args below meth c Q hF hX g1 g2 (Nat.le_trans hd g3) (Nat.le_trans (Nat.mul_le_mul_left 64 hd) g4) g5 g6 hQ⟩
/-- one instruction that leaves the heap alone -/
theorem Go.one {mi : MI} {d : Nat} {h0 : MH} {pc pc1 pc2 : Nat} {lv lv1 lv2 : List (Nat × Value)} {st st1 st2 : List Value} {h h2 : MH}
    (A : ∀ (G : CX) (p : Program) (e : Env) (R : Room) (s : State) (m : MethodId) (args : Array Value) (below : List Frame) (meth : Method) (c : Code) (Q : State → Prop) (cells slots : Nat) (H : Heap) (locs : List Loc) (ls : Array Slot),
      mj_Fr mi p s m args meth c → mj_Fx G s → d ≤ R.frames → 64 * d ≤ R.locals → mj_Rep G s h H locs → lv_has ls mi.2.2.1 (mj_l G.ad lv) →
      (∀ ls1 : Array Slot, lv_has ls1 mi.2.2.1 (mj_l G.ad lv1) → W p G.l e R s m args below meth c H locs cells slots Q (F0 m pc1 ls1 (st1.map (mj_v G.ad)))) →
      W p G.l e R s m args below meth c H locs cells slots Q (F0 m pc ls (st.map (mj_v G.ad))))
    (B : Go mi d h0 pc1 lv1 st1 h pc2 lv2 st2 h2) : Go mi d h0 pc lv st h pc2 lv2 st2 h2 := by
  obtain ⟨b1, b2, b3⟩ := B
  refine ⟨b1, b2, fun G p e R s m args below meth c Q hF hX g1 g2 g3 g4 g5 g6 hQ H locs ls hR hl => ?_⟩
  exact A G p e R s m args below meth c Q _ _ H locs ls hF hX g3 g4 hR hl (fun ls1 hl1 => b3 G p e R s m args below meth c Q hF hX g1 g2 g3 g4 g5 g6 hQ H locs ls1 hR hl1)
theorem mj_cat (ad : Nat → Nat) (v : Value) : (mj_v ad v).category = v.category := by cases v <;> rfl
theorem mj_lat {ad : Nat → Nat} {ls : Array Slot} {nL : Nat} {lv : List (Nat × Value)} (h : lv_has ls nL (mj_l ad lv)) {k i : Nat} {v : Value} (hk : lv[k]? = some (i, v)) : ls[i]? = some (.val (mj_v ad v)) :=
  lv_at h k (by simp [mj_l, hk])
def mj_s1 (i : Nat) (v : Value) (lv : List (Nat × Value)) : List (Nat × Value) := (i, v) :: lv.filter (fun q => !(q.1 == i) && !(q.1 + 1 == i && q.2.category == 2))
def mj_s2 (i : Nat) (v : Value) (lv : List (Nat × Value)) : List (Nat × Value) := (i, v) :: lv.filter (fun q => !(q.1 == i) && (!(q.1 == i + 1) && !(q.1 + 1 == i && q.2.category == 2)))
theorem mj_l1 (ad : Nat → Nat) (i : Nat) (v : Value) (lv : List (Nat × Value)) : mj_l ad (mj_s1 i v lv) = (i, mj_v ad v) :: (mj_l ad lv).filter (fun q => !(q.1 == i) && !(q.1 + 1 == i && q.2.category == 2)) := by
  unfold mj_l mj_s1
  rw [List.map_cons, List.filter_map]
  congr 2
  apply List.filter_congr
  intro q _
  simp only [Function.comp, mj_cat]
theorem mj_l2 (ad : Nat → Nat) (i : Nat) (v : Value) (lv : List (Nat × Value)) : mj_l ad (mj_s2 i v lv) = (i, mj_v ad v) :: (mj_l ad lv).filter (fun q => !(q.1 == i) && (!(q.1 == i + 1) && !(q.1 + 1 == i && q.2.category == 2))) := by
  unfold mj_l mj_s2
  rw [List.map_cons, List.filter_map]
  congr 2
  apply List.filter_congr
  intro q _
  simp only [Function.comp, mj_cat]
end
section
/-! ===== an instruction, a rule: those that leave the heap alone ===== -/
section GO1
variable {mi : MI} {d : Nat} {h0 : MH} {pc pc2 : Nat} {lv lv2 : List (Nat × Value)} {st st2 : List Value} {h h2 : MH}
theorem mj_vrf (ad : Nat → Nat) (o : Option Nat) : mj_v ad (va_rf o) = va_rf (o.map ad) := by cases o <;> rfl
theorem go_iconst {n : Int} {v : Int32} (hd : decode mi.2.1 pc = .ok (.iconst n, 1)) (hv : Int32.ofInt n = v) (B : Go mi d h0 (pc + 1) lv (.int v :: st) h pc2 lv2 st2 h2) : Go mi d h0 pc lv st h pc2 lv2 st2 h2 :=
  Go.one (fun G p e R s m args below meth c Q cells slots H locs ls hF hX g3 g4 hR hl K => lv_iconst hF.1 hF.2.1 hd hv (K ls hl)) B
theorem go_bipush {n : Int} {v : Int32} (hd : decode mi.2.1 pc = .ok (.bipush n, 2)) (hv : (Int8.ofInt n).toInt32 = v) (B : Go mi d h0 (pc + 2) lv (.int v :: st) h pc2 lv2 st2 h2) : Go mi d h0 pc lv st h pc2 lv2 st2 h2 :=
  Go.one (fun G p e R s m args below meth c Q cells slots H locs ls hF hX g3 g4 hR hl K => lv_bipush hF.1 hF.2.1 hd hv (K ls hl)) B
theorem go_sipush {n : Int} {v : Int32} (hd : decode mi.2.1 pc = .ok (.sipush n, 3)) (hv : (Int16.ofInt n).toInt32 = v) (B : Go mi d h0 (pc + 3) lv (.int v :: st) h pc2 lv2 st2 h2) : Go mi d h0 pc lv st h pc2 lv2 st2 h2 :=
  Go.one (fun G p e R s m args below meth c Q cells slots H locs ls hF hX g3 g4 hR hl K => lv_sipush hF.1 hF.2.1 hd hv (K ls hl)) B
theorem go_lconst {n : Fin 2} {v : Int64} (hd : decode mi.2.1 pc = .ok (.lconst n, 1)) (hv : Int64.ofNat (n : Nat) = v) (B : Go mi d h0 (pc + 1) lv (.long v :: st) h pc2 lv2 st2 h2) : Go mi d h0 pc lv st h pc2 lv2 st2 h2 :=
  Go.one (fun G p e R s m args below meth c Q cells slots H locs ls hF hX g3 g4 hR hl K => lv_lconst hF.1 hF.2.1 hd hv (K ls hl)) B
theorem go_null (hd : decode mi.2.1 pc = .ok (.aconst_null, 1)) (B : Go mi d h0 (pc + 1) lv (va_rf none :: st) h pc2 lv2 st2 h2) : Go mi d h0 pc lv st h pc2 lv2 st2 h2 :=
  Go.one (fun G p e R s m args below meth c Q cells slots H locs ls hF hX g3 g4 hR hl K => lv_null hF.1 hF.2.1 hd (K ls hl)) B
theorem go_ldc {idx : Nat} {v : Int32} (hd : decode mi.2.1 pc = .ok (.ldc idx, 2)) (hc : Cond.constant mi.1.cls idx v ∈ mj_tbl) (B : Go mi d h0 (pc + 2) lv (.int v :: st) h pc2 lv2 st2 h2) : Go mi d h0 pc lv st h pc2 lv2 st2 h2 :=
  Go.one (fun G p e R s m args below meth c Q cells slots H locs ls hF hX g3 g4 hR hl K => lv_ldc hF.1 hF.2.1 hF.2.2.2.1 (hF.2.2.2.2.1 _ hc) hd (K ls hl)) B
theorem go_ldcw {idx : Nat} {v : Int32} (hd : decode mi.2.1 pc = .ok (.ldc_w idx, 3)) (hc : Cond.constant mi.1.cls idx v ∈ mj_tbl) (B : Go mi d h0 (pc + 3) lv (.int v :: st) h pc2 lv2 st2 h2) : Go mi d h0 pc lv st h pc2 lv2 st2 h2 :=
  Go.one (fun G p e R s m args below meth c Q cells slots H locs ls hF hX g3 g4 hR hl K => lv_ldcw hF.1 hF.2.1 hF.2.2.2.1 (hF.2.2.2.2.1 _ hc) hd (K ls hl)) B
theorem go_ldc2 {idx : Nat} {v : Int64} (hd : decode mi.2.1 pc = .ok (.ldc2_w idx, 3)) (hc : Cond.constantLong mi.1.cls idx v ∈ mj_tbl) (B : Go mi d h0 (pc + 3) lv (.long v :: st) h pc2 lv2 st2 h2) : Go mi d h0 pc lv st h pc2 lv2 st2 h2 :=
  Go.one (fun G p e R s m args below meth c Q cells slots H locs ls hF hX g3 g4 hR hl K => lv_ldc2 hF.1 hF.2.1 hF.2.2.2.1 (hF.2.2.2.2.1 _ hc) hd (K ls hl)) B
theorem go_iload_n {k : Fin 4} {x : Int32} (q : Nat) (hd : decode mi.2.1 pc = .ok (.iload_n k, 1)) (hv : lv[q]? = some ((k : Nat), .int x)) (B : Go mi d h0 (pc + 1) lv (.int x :: st) h pc2 lv2 st2 h2) : Go mi d h0 pc lv st h pc2 lv2 st2 h2 :=
  Go.one (fun G p e R s m args below meth c Q cells slots H locs ls hF hX g3 g4 hR hl K => lv_iload_n hF.1 hF.2.1 hd rfl (mj_lat hl hv) (K ls hl)) B
theorem go_iload {i : Nat} {x : Int32} (q : Nat) (hd : decode mi.2.1 pc = .ok (.iload i, 2)) (hv : lv[q]? = some (i, .int x)) (B : Go mi d h0 (pc + 2) lv (.int x :: st) h pc2 lv2 st2 h2) : Go mi d h0 pc lv st h pc2 lv2 st2 h2 :=
  Go.one (fun G p e R s m args below meth c Q cells slots H locs ls hF hX g3 g4 hR hl K => lv_iload hF.1 hF.2.1 hd (mj_lat hl hv) (K ls hl)) B
theorem go_lload_n {k : Fin 4} {x : Int64} (q : Nat) (hd : decode mi.2.1 pc = .ok (.lload_n k, 1)) (hv : lv[q]? = some ((k : Nat), .long x)) (B : Go mi d h0 (pc + 1) lv (.long x :: st) h pc2 lv2 st2 h2) : Go mi d h0 pc lv st h pc2 lv2 st2 h2 :=
  Go.one (fun G p e R s m args below meth c Q cells slots H locs ls hF hX g3 g4 hR hl K => lv_lload_n hF.1 hF.2.1 hd rfl (mj_lat hl hv) (K ls hl)) B
theorem go_lload {i : Nat} {x : Int64} (q : Nat) (hd : decode mi.2.1 pc = .ok (.lload i, 2)) (hv : lv[q]? = some (i, .long x)) (B : Go mi d h0 (pc + 2) lv (.long x :: st) h pc2 lv2 st2 h2) : Go mi d h0 pc lv st h pc2 lv2 st2 h2 :=
  Go.one (fun G p e R s m args below meth c Q cells slots H locs ls hF hX g3 g4 hR hl K => lv_lload hF.1 hF.2.1 hd (mj_lat hl hv) (K ls hl)) B
theorem go_aload_n {k : Fin 4} {o : Option Nat} (q : Nat) (hd : decode mi.2.1 pc = .ok (.aload_n k, 1)) (hv : lv[q]? = some ((k : Nat), va_rf o)) (B : Go mi d h0 (pc + 1) lv (va_rf o :: st) h pc2 lv2 st2 h2) : Go mi d h0 pc lv st h pc2 lv2 st2 h2 :=
  Go.one (fun G p e R s m args below meth c Q cells slots H locs ls hF hX g3 g4 hR hl K => by
    cases o with
    | none => exact lv_aload_nN hF.1 hF.2.1 hd rfl (mj_lat hl hv) (K ls hl)
    | some a => exact lv_aload_n hF.1 hF.2.1 hd rfl (mj_lat hl hv) (K ls hl)) B
theorem go_aload {i : Nat} {o : Option Nat} (q : Nat) (hd : decode mi.2.1 pc = .ok (.aload i, 2)) (hv : lv[q]? = some (i, va_rf o)) (B : Go mi d h0 (pc + 2) lv (va_rf o :: st) h pc2 lv2 st2 h2) : Go mi d h0 pc lv st h pc2 lv2 st2 h2 :=
  Go.one (fun G p e R s m args below meth c Q cells slots H locs ls hF hX g3 g4 hR hl K => by
    cases o with
    | none => exact lv_aloadN hF.1 hF.2.1 hd (mj_lat hl hv) (K ls hl)
    | some a => exact lv_aload hF.1 hF.2.1 hd (mj_lat hl hv) (K ls hl)) B
theorem go_istore_n {k : Fin 4} {x : Int32} (hd : decode mi.2.1 pc = .ok (.istore_n k, 1)) (hn : (k : Nat) < mi.2.2.1) {lv1 : List (Nat × Value)} (hs : mj_s1 (k : Nat) (.int x) lv = lv1) (B : Go mi d h0 (pc + 1) lv1 st h pc2 lv2 st2 h2) : Go mi d h0 pc lv ((.int x) :: st) h pc2 lv2 st2 h2 := by
  subst hs
  exact Go.one (fun G p e R s m args below meth c Q cells slots H locs ls hF hX g3 g4 hR hl K => lv_istore_n hF.1 hF.2.1 hd rfl hl hn (mj_l1 G.ad (k : Nat) (.int x) lv).symm (fun ls1 h1 => K ls1 h1)) B
theorem go_istore {i : Nat} {x : Int32} (hd : decode mi.2.1 pc = .ok (.istore i, 2)) (hn : i < mi.2.2.1) {lv1 : List (Nat × Value)} (hs : mj_s1 i (.int x) lv = lv1) (B : Go mi d h0 (pc + 2) lv1 st h pc2 lv2 st2 h2) : Go mi d h0 pc lv ((.int x) :: st) h pc2 lv2 st2 h2 := by
  subst hs
  exact Go.one (fun G p e R s m args below meth c Q cells slots H locs ls hF hX g3 g4 hR hl K => lv_istore hF.1 hF.2.1 hd hl hn (mj_l1 G.ad i (.int x) lv).symm (fun ls1 h1 => K ls1 h1)) B
theorem go_lstore_n {k : Fin 4} {x : Int64} (hd : decode mi.2.1 pc = .ok (.lstore_n k, 1)) (hn : (k : Nat) + 1 < mi.2.2.1) {lv1 : List (Nat × Value)} (hs : mj_s2 (k : Nat) (.long x) lv = lv1) (B : Go mi d h0 (pc + 1) lv1 st h pc2 lv2 st2 h2) : Go mi d h0 pc lv ((.long x) :: st) h pc2 lv2 st2 h2 := by
  subst hs
  exact Go.one (fun G p e R s m args below meth c Q cells slots H locs ls hF hX g3 g4 hR hl K => lv_lstore_n hF.1 hF.2.1 hd rfl hl hn (mj_l2 G.ad (k : Nat) (.long x) lv).symm (fun ls1 h1 => K ls1 h1)) B
theorem go_lstore {i : Nat} {x : Int64} (hd : decode mi.2.1 pc = .ok (.lstore i, 2)) (hn : i + 1 < mi.2.2.1) {lv1 : List (Nat × Value)} (hs : mj_s2 i (.long x) lv = lv1) (B : Go mi d h0 (pc + 2) lv1 st h pc2 lv2 st2 h2) : Go mi d h0 pc lv ((.long x) :: st) h pc2 lv2 st2 h2 := by
  subst hs
  exact Go.one (fun G p e R s m args below meth c Q cells slots H locs ls hF hX g3 g4 hR hl K => lv_lstore hF.1 hF.2.1 hd hl hn (mj_l2 G.ad i (.long x) lv).symm (fun ls1 h1 => K ls1 h1)) B
theorem go_astore_n {k : Fin 4} {o : Option Nat} (hd : decode mi.2.1 pc = .ok (.astore_n k, 1)) (hn : (k : Nat) < mi.2.2.1) {lv1 : List (Nat × Value)} (hs : mj_s1 (k : Nat) (va_rf o) lv = lv1) (B : Go mi d h0 (pc + 1) lv1 st h pc2 lv2 st2 h2) : Go mi d h0 pc lv ((va_rf o) :: st) h pc2 lv2 st2 h2 := by
  subst hs
  exact Go.one (fun G p e R s m args below meth c Q cells slots H locs ls hF hX g3 g4 hR hl K => by
    cases o with
    | none => exact lv_astore_nN hF.1 hF.2.1 hd rfl hl hn (mj_l1 G.ad (k : Nat) (va_rf none) lv).symm (fun ls1 h1 => K ls1 h1)
    | some a => exact lv_astore_n hF.1 hF.2.1 hd rfl hl hn (mj_l1 G.ad (k : Nat) (va_rf (some a)) lv).symm (fun ls1 h1 => K ls1 h1)) B
theorem go_astore {i : Nat} {o : Option Nat} (hd : decode mi.2.1 pc = .ok (.astore i, 2)) (hn : i < mi.2.2.1) {lv1 : List (Nat × Value)} (hs : mj_s1 i (va_rf o) lv = lv1) (B : Go mi d h0 (pc + 2) lv1 st h pc2 lv2 st2 h2) : Go mi d h0 pc lv ((va_rf o) :: st) h pc2 lv2 st2 h2 := by
  subst hs
  exact Go.one (fun G p e R s m args below meth c Q cells slots H locs ls hF hX g3 g4 hR hl K => by
    cases o with
    | none => exact lv_astoreN hF.1 hF.2.1 hd hl hn (mj_l1 G.ad i (va_rf none) lv).symm (fun ls1 h1 => K ls1 h1)
    | some a => exact lv_astore hF.1 hF.2.1 hd hl hn (mj_l1 G.ad i (va_rf (some a)) lv).symm (fun ls1 h1 => K ls1 h1)) B
theorem go_iinc {i : Nat} {n : Int} {x v : Int32} (q : Nat) (hd : decode mi.2.1 pc = .ok (.iinc i n, 3)) (hv : lv[q]? = some (i, .int x)) (hx : x + Int32.ofInt n = v) (hn : i < mi.2.2.1) {lv1 : List (Nat × Value)} (hs : mj_s1 i (.int v) lv = lv1) (B : Go mi d h0 (pc + 3) lv1 st h pc2 lv2 st2 h2) : Go mi d h0 pc lv st h pc2 lv2 st2 h2 := by
  subst hs
  exact Go.one (fun G p e R s m args below meth c Q cells slots H locs ls hF hX g3 g4 hR hl K => lv_iinc (k := q) hF.1 hF.2.1 hd hl (by simp [mj_l, hv, mj_v]) hx hn (mj_l1 G.ad i (.int v) lv).symm (fun ls1 h1 => K ls1 h1)) B
theorem go_iadd {x y : Int32} (hd : decode mi.2.1 pc = .ok (.iadd, 1)) (B : Go mi d h0 (pc + 1) lv (.int (x + y) :: st) h pc2 lv2 st2 h2) : Go mi d h0 pc lv (.int y :: .int x :: st) h pc2 lv2 st2 h2 :=
  Go.one (fun G p e R s m args below meth c Q cells slots H locs ls hF hX g3 g4 hR hl K => lv_iadd hF.1 hF.2.1 hd (K ls hl)) B
theorem go_isub {x y : Int32} (hd : decode mi.2.1 pc = .ok (.isub, 1)) (B : Go mi d h0 (pc + 1) lv (.int (x - y) :: st) h pc2 lv2 st2 h2) : Go mi d h0 pc lv (.int y :: .int x :: st) h pc2 lv2 st2 h2 :=
  Go.one (fun G p e R s m args below meth c Q cells slots H locs ls hF hX g3 g4 hR hl K => lv_isub hF.1 hF.2.1 hd (K ls hl)) B
theorem go_imul {x y : Int32} (hd : decode mi.2.1 pc = .ok (.imul, 1)) (B : Go mi d h0 (pc + 1) lv (.int (x * y) :: st) h pc2 lv2 st2 h2) : Go mi d h0 pc lv (.int y :: .int x :: st) h pc2 lv2 st2 h2 :=
  Go.one (fun G p e R s m args below meth c Q cells slots H locs ls hF hX g3 g4 hR hl K => lv_imul hF.1 hF.2.1 hd (K ls hl)) B
theorem go_iand {x y : Int32} (hd : decode mi.2.1 pc = .ok (.iand, 1)) (B : Go mi d h0 (pc + 1) lv (.int (x &&& y) :: st) h pc2 lv2 st2 h2) : Go mi d h0 pc lv (.int y :: .int x :: st) h pc2 lv2 st2 h2 :=
  Go.one (fun G p e R s m args below meth c Q cells slots H locs ls hF hX g3 g4 hR hl K => lv_iand hF.1 hF.2.1 hd (K ls hl)) B
theorem go_ior {x y : Int32} (hd : decode mi.2.1 pc = .ok (.ior, 1)) (B : Go mi d h0 (pc + 1) lv (.int (x ||| y) :: st) h pc2 lv2 st2 h2) : Go mi d h0 pc lv (.int y :: .int x :: st) h pc2 lv2 st2 h2 :=
  Go.one (fun G p e R s m args below meth c Q cells slots H locs ls hF hX g3 g4 hR hl K => lv_ior hF.1 hF.2.1 hd (K ls hl)) B
theorem go_ixor {x y : Int32} (hd : decode mi.2.1 pc = .ok (.ixor, 1)) (B : Go mi d h0 (pc + 1) lv (.int (x ^^^ y) :: st) h pc2 lv2 st2 h2) : Go mi d h0 pc lv (.int y :: .int x :: st) h pc2 lv2 st2 h2 :=
  Go.one (fun G p e R s m args below meth c Q cells slots H locs ls hF hX g3 g4 hR hl K => lv_ixor hF.1 hF.2.1 hd (K ls hl)) B
def mj_irem (x y : Int32) : Int32 := x - x / y * y
def mj_lrem (x y : Int64) : Int64 := x - x / y * y
theorem go_idiv {x y : Int32} (hd : decode mi.2.1 pc = .ok (.idiv, 1)) (hne : ¬ y = 0) (B : Go mi d h0 (pc + 1) lv (.int (x / y) :: st) h pc2 lv2 st2 h2) : Go mi d h0 pc lv (.int y :: .int x :: st) h pc2 lv2 st2 h2 :=
  Go.one (fun G p e R s m args below meth c Q cells slots H locs ls hF hX g3 g4 hR hl K => lv_idiv hF.1 hF.2.1 hd hne (K ls hl)) B
theorem go_ldiv {x y : Int64} (hd : decode mi.2.1 pc = .ok (.ldiv, 1)) (hne : ¬ y = 0) (B : Go mi d h0 (pc + 1) lv (.long (x / y) :: st) h pc2 lv2 st2 h2) : Go mi d h0 pc lv (.long y :: .long x :: st) h pc2 lv2 st2 h2 :=
  Go.one (fun G p e R s m args below meth c Q cells slots H locs ls hF hX g3 g4 hR hl K => lv_ldiv hF.1 hF.2.1 hd hne (K ls hl)) B
theorem go_irem {x y : Int32} (hd : decode mi.2.1 pc = .ok (.irem, 1)) (hne : ¬ y = 0) (B : Go mi d h0 (pc + 1) lv (.int (mj_irem x y) :: st) h pc2 lv2 st2 h2) : Go mi d h0 pc lv (.int y :: .int x :: st) h pc2 lv2 st2 h2 :=
  Go.one (fun G p e R s m args below meth c Q cells slots H locs ls hF hX g3 g4 hR hl K => lv_irem hF.1 hF.2.1 hd hne (K ls hl)) B
theorem go_lrem {x y : Int64} (hd : decode mi.2.1 pc = .ok (.lrem, 1)) (hne : ¬ y = 0) (B : Go mi d h0 (pc + 1) lv (.long (mj_lrem x y) :: st) h pc2 lv2 st2 h2) : Go mi d h0 pc lv (.long y :: .long x :: st) h pc2 lv2 st2 h2 :=
  Go.one (fun G p e R s m args below meth c Q cells slots H locs ls hF hX g3 g4 hR hl K => lv_lrem hF.1 hF.2.1 hd hne (K ls hl)) B
theorem go_ineg {x : Int32} (hd : decode mi.2.1 pc = .ok (.ineg, 1)) (B : Go mi d h0 (pc + 1) lv (.int (-x) :: st) h pc2 lv2 st2 h2) : Go mi d h0 pc lv (.int x :: st) h pc2 lv2 st2 h2 :=
  Go.one (fun G p e R s m args below meth c Q cells slots H locs ls hF hX g3 g4 hR hl K => lv_ineg hF.1 hF.2.1 hd (K ls hl)) B
theorem go_ladd {x y : Int64} (hd : decode mi.2.1 pc = .ok (.ladd, 1)) (B : Go mi d h0 (pc + 1) lv (.long (x + y) :: st) h pc2 lv2 st2 h2) : Go mi d h0 pc lv (.long y :: .long x :: st) h pc2 lv2 st2 h2 :=
  Go.one (fun G p e R s m args below meth c Q cells slots H locs ls hF hX g3 g4 hR hl K => lv_ladd hF.1 hF.2.1 hd (K ls hl)) B
theorem go_lmul {x y : Int64} (hd : decode mi.2.1 pc = .ok (.lmul, 1)) (B : Go mi d h0 (pc + 1) lv (.long (x * y) :: st) h pc2 lv2 st2 h2) : Go mi d h0 pc lv (.long y :: .long x :: st) h pc2 lv2 st2 h2 :=
  Go.one (fun G p e R s m args below meth c Q cells slots H locs ls hF hX g3 g4 hR hl K => lv_lmul hF.1 hF.2.1 hd (K ls hl)) B
theorem go_ishl {x y : Int32} (hd : decode mi.2.1 pc = .ok (.ishl, 1)) (B : Go mi d h0 (pc + 1) lv (.int (x <<< (y &&& 31)) :: st) h pc2 lv2 st2 h2) : Go mi d h0 pc lv (.int y :: .int x :: st) h pc2 lv2 st2 h2 :=
  Go.one (fun G p e R s m args below meth c Q cells slots H locs ls hF hX g3 g4 hR hl K => lv_ishl hF.1 hF.2.1 hd (K ls hl)) B
theorem go_ishr {x y : Int32} (hd : decode mi.2.1 pc = .ok (.ishr, 1)) (B : Go mi d h0 (pc + 1) lv (.int (x >>> (y &&& 31)) :: st) h pc2 lv2 st2 h2) : Go mi d h0 pc lv (.int y :: .int x :: st) h pc2 lv2 st2 h2 :=
  Go.one (fun G p e R s m args below meth c Q cells slots H locs ls hF hX g3 g4 hR hl K => lv_ishr hF.1 hF.2.1 hd (K ls hl)) B
theorem go_iushr {x y : Int32} (hd : decode mi.2.1 pc = .ok (.iushr, 1)) (B : Go mi d h0 (pc + 1) lv (.int (x.toUInt32 >>> (y.toUInt32 &&& Int32.toUInt32 31)).toInt32 :: st) h pc2 lv2 st2 h2) : Go mi d h0 pc lv (.int y :: .int x :: st) h pc2 lv2 st2 h2 :=
  Go.one (fun G p e R s m args below meth c Q cells slots H locs ls hF hX g3 g4 hR hl K => lv_iushr hF.1 hF.2.1 hd rfl (K ls hl)) B
theorem go_i2l {x : Int32} (hd : decode mi.2.1 pc = .ok (.i2l, 1)) (B : Go mi d h0 (pc + 1) lv (.long x.toInt64 :: st) h pc2 lv2 st2 h2) : Go mi d h0 pc lv (.int x :: st) h pc2 lv2 st2 h2 :=
  Go.one (fun G p e R s m args below meth c Q cells slots H locs ls hF hX g3 g4 hR hl K => lv_i2l hF.1 hF.2.1 hd rfl (K ls hl)) B
theorem go_l2i {x : Int64} (hd : decode mi.2.1 pc = .ok (.l2i, 1)) (B : Go mi d h0 (pc + 1) lv (.int x.toInt32 :: st) h pc2 lv2 st2 h2) : Go mi d h0 pc lv (.long x :: st) h pc2 lv2 st2 h2 :=
  Go.one (fun G p e R s m args below meth c Q cells slots H locs ls hF hX g3 g4 hR hl K => lv_l2i hF.1 hF.2.1 hd rfl (K ls hl)) B
theorem go_i2b {x : Int32} (hd : decode mi.2.1 pc = .ok (.i2b, 1)) (B : Go mi d h0 (pc + 1) lv (.int x.toInt8.toInt32 :: st) h pc2 lv2 st2 h2) : Go mi d h0 pc lv (.int x :: st) h pc2 lv2 st2 h2 :=
  Go.one (fun G p e R s m args below meth c Q cells slots H locs ls hF hX g3 g4 hR hl K => lv_i2b hF.1 hF.2.1 hd rfl (K ls hl)) B
theorem go_i2s {x : Int32} (hd : decode mi.2.1 pc = .ok (.i2s, 1)) (B : Go mi d h0 (pc + 1) lv (.int x.toInt16.toInt32 :: st) h pc2 lv2 st2 h2) : Go mi d h0 pc lv (.int x :: st) h pc2 lv2 st2 h2 :=
  Go.one (fun G p e R s m args below meth c Q cells slots H locs ls hF hX g3 g4 hR hl K => lv_i2s hF.1 hF.2.1 hd rfl (K ls hl)) B
theorem go_lcmp {x y : Int64} (hd : decode mi.2.1 pc = .ok (.lcmp, 1)) (B : Go mi d h0 (pc + 1) lv (.int (lg_cmp x y) :: st) h pc2 lv2 st2 h2) : Go mi d h0 pc lv (.long y :: .long x :: st) h pc2 lv2 st2 h2 :=
  Go.one (fun G p e R s m args below meth c Q cells slots H locs ls hF hX g3 g4 hR hl K => W.lcmp hF.1 hF.2.1 hd (K ls hl)) B
theorem go_dup {v : Value} (hd : decode mi.2.1 pc = .ok (.dup, 1)) (hv : v.category = 1) (B : Go mi d h0 (pc + 1) lv (v :: v :: st) h pc2 lv2 st2 h2) : Go mi d h0 pc lv (v :: st) h pc2 lv2 st2 h2 :=
  Go.one (fun G p e R s m args below meth c Q cells slots H locs ls hF hX g3 g4 hR hl K => lv_dup hF.1 hF.2.1 hd ((mj_cat _ _).trans hv) (K ls hl)) B
theorem go_pop {v : Value} (hd : decode mi.2.1 pc = .ok (.pop, 1)) (hv : v.category = 1) (B : Go mi d h0 (pc + 1) lv st h pc2 lv2 st2 h2) : Go mi d h0 pc lv (v :: st) h pc2 lv2 st2 h2 :=
  Go.one (fun G p e R s m args below meth c Q cells slots H locs ls hF hX g3 g4 hR hl K => lv_pop hF.1 hF.2.1 hd ((mj_cat _ _).trans hv) (K ls hl)) B
theorem go_dup2 {v w : Value} (hd : decode mi.2.1 pc = .ok (.dup2, 1)) (hv : v.category = 1) (hw : w.category = 1) (B : Go mi d h0 (pc + 1) lv (v :: w :: v :: w :: st) h pc2 lv2 st2 h2) : Go mi d h0 pc lv (v :: w :: st) h pc2 lv2 st2 h2 :=
  Go.one (fun G p e R s m args below meth c Q cells slots H locs ls hF hX g3 g4 hR hl K => lv_dup2_11 hF.1 hF.2.1 hd ((mj_cat _ _).trans hv) ((mj_cat _ _).trans hw) (K ls hl)) B
theorem go_if_eq_t {x : Int32} {off : Int} (tgt : Nat) (hd : decode mi.2.1 pc = .ok (.ifCond .eq off, 3)) (ht : (pc : Int) + off = (tgt : Int)) (hc : x = 0) (B : Go mi d h0 tgt lv st h pc2 lv2 st2 h2) : Go mi d h0 pc lv (.int x :: st) h pc2 lv2 st2 h2 :=
  Go.one (fun G p e R s m args below meth c Q cells slots H locs ls hF hX g3 g4 hR hl K => lv_if_eq hF.1 hF.2.1 hd ht (fun _ => K ls hl) (fun z => absurd hc z)) B
theorem go_if_eq_f {x : Int32} {off : Int} {tgt : Nat} (hd : decode mi.2.1 pc = .ok (.ifCond .eq off, 3)) (ht : (pc : Int) + off = (tgt : Int)) (hc : ¬ x = 0) (B : Go mi d h0 (pc + 3) lv st h pc2 lv2 st2 h2) : Go mi d h0 pc lv (.int x :: st) h pc2 lv2 st2 h2 :=
  Go.one (fun G p e R s m args below meth c Q cells slots H locs ls hF hX g3 g4 hR hl K => lv_if_eq hF.1 hF.2.1 hd ht (fun z => absurd z hc) (fun _ => K ls hl)) B
theorem go_icmp_eq_t {x y : Int32} {off : Int} (tgt : Nat) (hd : decode mi.2.1 pc = .ok (.if_icmp .eq off, 3)) (ht : (pc : Int) + off = (tgt : Int)) (hc : x = y) (B : Go mi d h0 tgt lv st h pc2 lv2 st2 h2) : Go mi d h0 pc lv (.int y :: .int x :: st) h pc2 lv2 st2 h2 :=
  Go.one (fun G p e R s m args below meth c Q cells slots H locs ls hF hX g3 g4 hR hl K => lv_icmp_eq hF.1 hF.2.1 hd ht (fun _ => K ls hl) (fun z => absurd hc z)) B
theorem go_icmp_eq_f {x y : Int32} {off : Int} {tgt : Nat} (hd : decode mi.2.1 pc = .ok (.if_icmp .eq off, 3)) (ht : (pc : Int) + off = (tgt : Int)) (hc : ¬ x = y) (B : Go mi d h0 (pc + 3) lv st h pc2 lv2 st2 h2) : Go mi d h0 pc lv (.int y :: .int x :: st) h pc2 lv2 st2 h2 :=
  Go.one (fun G p e R s m args below meth c Q cells slots H locs ls hF hX g3 g4 hR hl K => lv_icmp_eq hF.1 hF.2.1 hd ht (fun z => absurd z hc) (fun _ => K ls hl)) B
theorem go_if_ne_t {x : Int32} {off : Int} (tgt : Nat) (hd : decode mi.2.1 pc = .ok (.ifCond .ne off, 3)) (ht : (pc : Int) + off = (tgt : Int)) (hc : ¬ x = 0) (B : Go mi d h0 tgt lv st h pc2 lv2 st2 h2) : Go mi d h0 pc lv (.int x :: st) h pc2 lv2 st2 h2 :=
  Go.one (fun G p e R s m args below meth c Q cells slots H locs ls hF hX g3 g4 hR hl K => lv_if_ne hF.1 hF.2.1 hd ht (fun _ => K ls hl) (fun z => absurd z hc)) B
theorem go_if_ne_f {x : Int32} {off : Int} {tgt : Nat} (hd : decode mi.2.1 pc = .ok (.ifCond .ne off, 3)) (ht : (pc : Int) + off = (tgt : Int)) (hc : x = 0) (B : Go mi d h0 (pc + 3) lv st h pc2 lv2 st2 h2) : Go mi d h0 pc lv (.int x :: st) h pc2 lv2 st2 h2 :=
  Go.one (fun G p e R s m args below meth c Q cells slots H locs ls hF hX g3 g4 hR hl K => lv_if_ne hF.1 hF.2.1 hd ht (fun z => absurd hc z) (fun _ => K ls hl)) B
theorem go_icmp_ne_t {x y : Int32} {off : Int} (tgt : Nat) (hd : decode mi.2.1 pc = .ok (.if_icmp .ne off, 3)) (ht : (pc : Int) + off = (tgt : Int)) (hc : ¬ x = y) (B : Go mi d h0 tgt lv st h pc2 lv2 st2 h2) : Go mi d h0 pc lv (.int y :: .int x :: st) h pc2 lv2 st2 h2 :=
  Go.one (fun G p e R s m args below meth c Q cells slots H locs ls hF hX g3 g4 hR hl K => lv_icmp_ne hF.1 hF.2.1 hd ht (fun _ => K ls hl) (fun z => absurd z hc)) B
theorem go_icmp_ne_f {x y : Int32} {off : Int} {tgt : Nat} (hd : decode mi.2.1 pc = .ok (.if_icmp .ne off, 3)) (ht : (pc : Int) + off = (tgt : Int)) (hc : x = y) (B : Go mi d h0 (pc + 3) lv st h pc2 lv2 st2 h2) : Go mi d h0 pc lv (.int y :: .int x :: st) h pc2 lv2 st2 h2 :=
  Go.one (fun G p e R s m args below meth c Q cells slots H locs ls hF hX g3 g4 hR hl K => lv_icmp_ne hF.1 hF.2.1 hd ht (fun z => absurd hc z) (fun _ => K ls hl)) B
theorem go_if_lt_t {x : Int32} {off : Int} (tgt : Nat) (hd : decode mi.2.1 pc = .ok (.ifCond .lt off, 3)) (ht : (pc : Int) + off = (tgt : Int)) (hc : x < 0) (B : Go mi d h0 tgt lv st h pc2 lv2 st2 h2) : Go mi d h0 pc lv (.int x :: st) h pc2 lv2 st2 h2 :=
  Go.one (fun G p e R s m args below meth c Q cells slots H locs ls hF hX g3 g4 hR hl K => lv_if_lt hF.1 hF.2.1 hd ht (fun _ => K ls hl) (fun z => absurd hc z)) B
theorem go_if_lt_f {x : Int32} {off : Int} {tgt : Nat} (hd : decode mi.2.1 pc = .ok (.ifCond .lt off, 3)) (ht : (pc : Int) + off = (tgt : Int)) (hc : ¬ x < 0) (B : Go mi d h0 (pc + 3) lv st h pc2 lv2 st2 h2) : Go mi d h0 pc lv (.int x :: st) h pc2 lv2 st2 h2 :=
  Go.one (fun G p e R s m args below meth c Q cells slots H locs ls hF hX g3 g4 hR hl K => lv_if_lt hF.1 hF.2.1 hd ht (fun z => absurd z hc) (fun _ => K ls hl)) B
theorem go_icmp_lt_t {x y : Int32} {off : Int} (tgt : Nat) (hd : decode mi.2.1 pc = .ok (.if_icmp .lt off, 3)) (ht : (pc : Int) + off = (tgt : Int)) (hc : x < y) (B : Go mi d h0 tgt lv st h pc2 lv2 st2 h2) : Go mi d h0 pc lv (.int y :: .int x :: st) h pc2 lv2 st2 h2 :=
  Go.one (fun G p e R s m args below meth c Q cells slots H locs ls hF hX g3 g4 hR hl K => lv_icmp_lt hF.1 hF.2.1 hd ht (fun _ => K ls hl) (fun z => absurd hc z)) B
theorem go_icmp_lt_f {x y : Int32} {off : Int} {tgt : Nat} (hd : decode mi.2.1 pc = .ok (.if_icmp .lt off, 3)) (ht : (pc : Int) + off = (tgt : Int)) (hc : ¬ x < y) (B : Go mi d h0 (pc + 3) lv st h pc2 lv2 st2 h2) : Go mi d h0 pc lv (.int y :: .int x :: st) h pc2 lv2 st2 h2 :=
  Go.one (fun G p e R s m args below meth c Q cells slots H locs ls hF hX g3 g4 hR hl K => lv_icmp_lt hF.1 hF.2.1 hd ht (fun z => absurd z hc) (fun _ => K ls hl)) B
theorem go_if_ge_t {x : Int32} {off : Int} (tgt : Nat) (hd : decode mi.2.1 pc = .ok (.ifCond .ge off, 3)) (ht : (pc : Int) + off = (tgt : Int)) (hc : 0 ≤ x) (B : Go mi d h0 tgt lv st h pc2 lv2 st2 h2) : Go mi d h0 pc lv (.int x :: st) h pc2 lv2 st2 h2 :=
  Go.one (fun G p e R s m args below meth c Q cells slots H locs ls hF hX g3 g4 hR hl K => lv_if_ge hF.1 hF.2.1 hd ht (fun _ => K ls hl) (fun z => absurd hc z)) B
theorem go_if_ge_f {x : Int32} {off : Int} {tgt : Nat} (hd : decode mi.2.1 pc = .ok (.ifCond .ge off, 3)) (ht : (pc : Int) + off = (tgt : Int)) (hc : ¬ 0 ≤ x) (B : Go mi d h0 (pc + 3) lv st h pc2 lv2 st2 h2) : Go mi d h0 pc lv (.int x :: st) h pc2 lv2 st2 h2 :=
  Go.one (fun G p e R s m args below meth c Q cells slots H locs ls hF hX g3 g4 hR hl K => lv_if_ge hF.1 hF.2.1 hd ht (fun z => absurd z hc) (fun _ => K ls hl)) B
theorem go_icmp_ge_t {x y : Int32} {off : Int} (tgt : Nat) (hd : decode mi.2.1 pc = .ok (.if_icmp .ge off, 3)) (ht : (pc : Int) + off = (tgt : Int)) (hc : y ≤ x) (B : Go mi d h0 tgt lv st h pc2 lv2 st2 h2) : Go mi d h0 pc lv (.int y :: .int x :: st) h pc2 lv2 st2 h2 :=
  Go.one (fun G p e R s m args below meth c Q cells slots H locs ls hF hX g3 g4 hR hl K => lv_icmp_ge hF.1 hF.2.1 hd ht (fun _ => K ls hl) (fun z => absurd hc z)) B
theorem go_icmp_ge_f {x y : Int32} {off : Int} {tgt : Nat} (hd : decode mi.2.1 pc = .ok (.if_icmp .ge off, 3)) (ht : (pc : Int) + off = (tgt : Int)) (hc : ¬ y ≤ x) (B : Go mi d h0 (pc + 3) lv st h pc2 lv2 st2 h2) : Go mi d h0 pc lv (.int y :: .int x :: st) h pc2 lv2 st2 h2 :=
  Go.one (fun G p e R s m args below meth c Q cells slots H locs ls hF hX g3 g4 hR hl K => lv_icmp_ge hF.1 hF.2.1 hd ht (fun z => absurd z hc) (fun _ => K ls hl)) B
theorem go_if_gt_t {x : Int32} {off : Int} (tgt : Nat) (hd : decode mi.2.1 pc = .ok (.ifCond .gt off, 3)) (ht : (pc : Int) + off = (tgt : Int)) (hc : 0 < x) (B : Go mi d h0 tgt lv st h pc2 lv2 st2 h2) : Go mi d h0 pc lv (.int x :: st) h pc2 lv2 st2 h2 :=
  Go.one (fun G p e R s m args below meth c Q cells slots H locs ls hF hX g3 g4 hR hl K => lv_if_gt hF.1 hF.2.1 hd ht (fun _ => K ls hl) (fun z => absurd hc z)) B
theorem go_if_gt_f {x : Int32} {off : Int} {tgt : Nat} (hd : decode mi.2.1 pc = .ok (.ifCond .gt off, 3)) (ht : (pc : Int) + off = (tgt : Int)) (hc : ¬ 0 < x) (B : Go mi d h0 (pc + 3) lv st h pc2 lv2 st2 h2) : Go mi d h0 pc lv (.int x :: st) h pc2 lv2 st2 h2 :=
  Go.one (fun G p e R s m args below meth c Q cells slots H locs ls hF hX g3 g4 hR hl K => lv_if_gt hF.1 hF.2.1 hd ht (fun z => absurd z hc) (fun _ => K ls hl)) B
theorem go_icmp_gt_t {x y : Int32} {off : Int} (tgt : Nat) (hd : decode mi.2.1 pc = .ok (.if_icmp .gt off, 3)) (ht : (pc : Int) + off = (tgt : Int)) (hc : y < x) (B : Go mi d h0 tgt lv st h pc2 lv2 st2 h2) : Go mi d h0 pc lv (.int y :: .int x :: st) h pc2 lv2 st2 h2 :=
  Go.one (fun G p e R s m args below meth c Q cells slots H locs ls hF hX g3 g4 hR hl K => lv_icmp_gt hF.1 hF.2.1 hd ht (fun _ => K ls hl) (fun z => absurd hc z)) B
theorem go_icmp_gt_f {x y : Int32} {off : Int} {tgt : Nat} (hd : decode mi.2.1 pc = .ok (.if_icmp .gt off, 3)) (ht : (pc : Int) + off = (tgt : Int)) (hc : ¬ y < x) (B : Go mi d h0 (pc + 3) lv st h pc2 lv2 st2 h2) : Go mi d h0 pc lv (.int y :: .int x :: st) h pc2 lv2 st2 h2 :=
  Go.one (fun G p e R s m args below meth c Q cells slots H locs ls hF hX g3 g4 hR hl K => lv_icmp_gt hF.1 hF.2.1 hd ht (fun z => absurd z hc) (fun _ => K ls hl)) B
theorem go_if_le_t {x : Int32} {off : Int} (tgt : Nat) (hd : decode mi.2.1 pc = .ok (.ifCond .le off, 3)) (ht : (pc : Int) + off = (tgt : Int)) (hc : x ≤ 0) (B : Go mi d h0 tgt lv st h pc2 lv2 st2 h2) : Go mi d h0 pc lv (.int x :: st) h pc2 lv2 st2 h2 :=
  Go.one (fun G p e R s m args below meth c Q cells slots H locs ls hF hX g3 g4 hR hl K => lv_if_le hF.1 hF.2.1 hd ht (fun _ => K ls hl) (fun z => absurd hc z)) B
theorem go_if_le_f {x : Int32} {off : Int} {tgt : Nat} (hd : decode mi.2.1 pc = .ok (.ifCond .le off, 3)) (ht : (pc : Int) + off = (tgt : Int)) (hc : ¬ x ≤ 0) (B : Go mi d h0 (pc + 3) lv st h pc2 lv2 st2 h2) : Go mi d h0 pc lv (.int x :: st) h pc2 lv2 st2 h2 :=
  Go.one (fun G p e R s m args below meth c Q cells slots H locs ls hF hX g3 g4 hR hl K => lv_if_le hF.1 hF.2.1 hd ht (fun z => absurd z hc) (fun _ => K ls hl)) B
theorem go_icmp_le_t {x y : Int32} {off : Int} (tgt : Nat) (hd : decode mi.2.1 pc = .ok (.if_icmp .le off, 3)) (ht : (pc : Int) + off = (tgt : Int)) (hc : x ≤ y) (B : Go mi d h0 tgt lv st h pc2 lv2 st2 h2) : Go mi d h0 pc lv (.int y :: .int x :: st) h pc2 lv2 st2 h2 :=
  Go.one (fun G p e R s m args below meth c Q cells slots H locs ls hF hX g3 g4 hR hl K => lv_icmp_le hF.1 hF.2.1 hd ht (fun _ => K ls hl) (fun z => absurd hc z)) B
theorem go_icmp_le_f {x y : Int32} {off : Int} {tgt : Nat} (hd : decode mi.2.1 pc = .ok (.if_icmp .le off, 3)) (ht : (pc : Int) + off = (tgt : Int)) (hc : ¬ x ≤ y) (B : Go mi d h0 (pc + 3) lv st h pc2 lv2 st2 h2) : Go mi d h0 pc lv (.int y :: .int x :: st) h pc2 lv2 st2 h2 :=
  Go.one (fun G p e R s m args below meth c Q cells slots H locs ls hF hX g3 g4 hR hl K => lv_icmp_le hF.1 hF.2.1 hd ht (fun z => absurd z hc) (fun _ => K ls hl)) B
theorem go_goto {off : Int} (tgt : Nat) (hd : decode mi.2.1 pc = .ok (.goto off, 3)) (ht : (pc : Int) + off = (tgt : Int)) (B : Go mi d h0 tgt lv st h pc2 lv2 st2 h2) : Go mi d h0 pc lv st h pc2 lv2 st2 h2 :=
  Go.one (fun G p e R s m args below meth c Q cells slots H locs ls hF hX g3 g4 hR hl K => lv_goto hF.1 hF.2.1 hd ht (K ls hl)) B
theorem go_ifnull_t {off : Int} (tgt : Nat) {o : Option Nat} (hd : decode mi.2.1 pc = .ok (.ifnull off, 3)) (ht : (pc : Int) + off = (tgt : Int)) (hc : o = none) (B : Go mi d h0 tgt lv st h pc2 lv2 st2 h2) : Go mi d h0 pc lv (va_rf o :: st) h pc2 lv2 st2 h2 := by
  subst hc
  exact Go.one (fun G p e R s m args below meth c Q cells slots H locs ls hF hX g3 g4 hR hl K => lv_ifnullN hF.1 hF.2.1 hd ht (K ls hl)) B
theorem go_ifnull_f {off : Int} {tgt : Nat} {o : Option Nat} (hd : decode mi.2.1 pc = .ok (.ifnull off, 3)) (ht : (pc : Int) + off = (tgt : Int)) (hc : ¬ o = none) (B : Go mi d h0 (pc + 3) lv st h pc2 lv2 st2 h2) : Go mi d h0 pc lv (va_rf o :: st) h pc2 lv2 st2 h2 := by
  cases o with
  | none => exact absurd rfl hc
  | some a => exact Go.one (fun G p e R s m args below meth c Q cells slots H locs ls hF hX g3 g4 hR hl K => lv_ifnull hF.1 hF.2.1 hd (K ls hl)) B
theorem go_ifnonnull_t {off : Int} (tgt : Nat) {o : Option Nat} (hd : decode mi.2.1 pc = .ok (.ifnonnull off, 3)) (ht : (pc : Int) + off = (tgt : Int)) (hc : ¬ o = none) (B : Go mi d h0 tgt lv st h pc2 lv2 st2 h2) : Go mi d h0 pc lv (va_rf o :: st) h pc2 lv2 st2 h2 := by
  cases o with
  | none => exact absurd rfl hc
  | some a => exact Go.one (fun G p e R s m args below meth c Q cells slots H locs ls hF hX g3 g4 hR hl K => lv_ifnonnull hF.1 hF.2.1 hd ht (K ls hl)) B
theorem go_ifnonnull_f {off : Int} {tgt : Nat} {o : Option Nat} (hd : decode mi.2.1 pc = .ok (.ifnonnull off, 3)) (ht : (pc : Int) + off = (tgt : Int)) (hc : o = none) (B : Go mi d h0 (pc + 3) lv st h pc2 lv2 st2 h2) : Go mi d h0 pc lv (va_rf o :: st) h pc2 lv2 st2 h2 := by
  subst hc
  exact Go.one (fun G p e R s m args below meth c Q cells slots H locs ls hF hX g3 g4 hR hl K => lv_ifnonnullN hF.1 hF.2.1 hd (K ls hl)) B
/-- switches: the offset that the table says for x -/
def mj_sw (dflt lo hi : Int) (offs : Array Int) (x : Int32) : Int := if x.toInt < lo ∨ hi < x.toInt then dflt else offs.getD (x.toInt - lo).toNat 0
theorem go_tsw {dflt lo hi : Int} {offs : Array Int} {len : Nat} {x : Int32} (tgt : Nat) (hd : decode mi.2.1 pc = .ok (.tableswitch dflt lo hi offs, len)) (hn : (hi - lo).toNat < offs.size) (ht : (pc : Int) + mj_sw dflt lo hi offs x = (tgt : Int)) (B : Go mi d h0 tgt lv st h pc2 lv2 st2 h2) : Go mi d h0 pc lv (.int x :: st) h pc2 lv2 st2 h2 := by
  refine Go.one (fun G p e R s m args below meth c Q cells slots H locs ls hF hX g3 g4 hR hl K => ?_) B
  unfold mj_sw at ht
  by_cases hx : x.toInt < lo ∨ hi < x.toInt
  · rw [if_pos hx] at ht
    exact lv_tableOut hF.1 hF.2.1 hd hx ht (K ls hl)
  · rw [if_neg hx] at ht
    refine lv_tableIn hF.1 hF.2.1 hd (fun z => hx (Or.inl z)) (fun z => hx (Or.inr z)) (off := offs.getD (x.toInt - lo).toNat 0) ?_ ht (K ls hl)
    have hlt : (x.toInt - lo).toNat < offs.size := by omega
    rw [Array.getD_eq_getD_getElem?, Array.getElem?_eq_getElem hlt]
    rfl
theorem go_lsw {dflt : Int} {ps : Array (Int × Int)} {len : Nat} {x : Int32} (tgt : Nat) (hd : decode mi.2.1 pc = .ok (.lookupswitch dflt ps, len)) (hp : (ps.toList.zip (ps.toList.drop 1)).all (fun (a, next) => a.1 < next.1) = true) (ht : (pc : Int) + Op.lookupswitch.offset ps.toList dflt x.toInt = (tgt : Int)) (B : Go mi d h0 tgt lv st h pc2 lv2 st2 h2) : Go mi d h0 pc lv (.int x :: st) h pc2 lv2 st2 h2 :=
  Go.one (fun G p e R s m args below meth c Q cells slots H locs ls hF hX g3 g4 hR hl K => lv_lookup hF.1 hF.2.1 hd hp rfl ht (K ls hl)) B
end GO1
end
section
/-! ===== the picture's own operations ===== -/
def mj_up (h : MH) (a : Nat) (c : MC) : MH := (fun j => if j = a then c else h.1 j, h.2)
def mj_push (h : MH) (c : MC) (n : Nat) : MH := (fun j => if j = h.2.1 then c else h.1 j, h.2.1 + 1, h.2.2 + n)
def mj_obj (h : MH) (o : Option Nat) : Option (Nat × List Value) := match o with
  | none => none
  | some a => match h.1 a with
    | .inr (.inr q) => some q
    | _ => none
def mj_arr (h : MH) (o : Option Nat) : Option (Nat × Nat × (Nat → Int32)) := match o with
  | none => none
  | some a => match h.1 a with
    | .inl q => some q
    | _ => none
def mj_arq (h : MH) (o : Option Nat) : Option (Nat × Nat × (Nat → Option Nat)) := match o with
  | none => none
  | some a => match h.1 a with
    | .inr (.inl q) => some q
    | _ => none
def mj_int (v : Value) : Option Int32 := match v with
  | .int x => some x
  | _ => none
def mj_ref (v : Value) : Option (Option Nat) := match v with
  | .ref a => some (some a)
  | .null => some none
  | _ => none
theorem mj_ref_eq {v : Value} {o : Option Nat} (h : mj_ref v = some o) : v = va_rf o := by
  cases v <;> simp [mj_ref] at h <;> subst h <;> rfl
theorem mj_int_eq {v : Value} {x : Int32} (h : mj_int v = some x) : v = .int x := by
  cases v <;> simp [mj_int] at h
  rw [h]
/-- a field of an object of one of the classes cs -/
def mj_get (h : MH) (o : Option Nat) (cs : List Nat) (k : Nat) : Option Value := (mj_obj h o).bind fun q => if cs.contains q.1 then q.2[k]? else none
def gfi (h : MH) (o : Option Nat) (cs : List Nat) (k : Nat) : Option Int32 := (mj_get h o cs k).bind mj_int
def gfr (h : MH) (o : Option Nat) (cs : List Nat) (k : Nat) : Option (Option Nat) := (mj_get h o cs k).bind mj_ref
def pfv (h : MH) (o : Option Nat) (cs : List Nat) (k : Nat) (v : Value) : Option MH := (mj_obj h o).bind fun q => if cs.contains q.1 ∧ k < q.2.length then some (mj_up h (o.getD 0) (.inr (.inr (q.1, q.2.set k v)))) else none
/-- arrays of whole numbers, of booleans (t = 0, 1); of references (t = 2, 3) -/
def ald (h : MH) (o : Option Nat) (t : Nat) (i : Int32) : Option Int32 := (mj_arr h o).bind fun q => if q.1 = t ∧ 0 ≤ i ∧ i.toNatClampNeg < q.2.1 then some (q.2.2 i.toNatClampNeg) else none
def ast (h : MH) (o : Option Nat) (t : Nat) (i x : Int32) : Option MH := (mj_arr h o).bind fun q => if q.1 = t ∧ 3 ≤ o.getD 0 ∧ 0 ≤ i ∧ i.toNatClampNeg < q.2.1 then some (mj_up h (o.getD 0) (.inl (t, q.2.1, upd q.2.2 i.toNatClampNeg x))) else none
def alen (h : MH) (o : Option Nat) : Option Int32 := match o with
  | none => none
  | some a => match h.1 a with
    | .inl q => if q.1 < 2 then some (Int32.ofNat q.2.1) else none
    | .inr (.inl q) => if q.1 = 2 ∨ q.1 = 3 then some (Int32.ofNat q.2.1) else none
    | _ => none
def qld (h : MH) (o : Option Nat) (t : Nat) (i : Int32) : Option (Option Nat) := (mj_arq h o).bind fun q => if q.1 = t ∧ 0 ≤ i ∧ i.toNatClampNeg < q.2.1 then some (q.2.2 i.toNatClampNeg) else none
def mj_clo (h : MH) (o : Option Nat) (cs : List Nat) : Bool := match mj_obj h o with
  | some q => cs.contains q.1 && decide (q.2 ≠ [])
  | none => o.isNone
def qst (h : MH) (o : Option Nat) (t : Nat) (cs : List Nat) (i : Int32) (v : Option Nat) : Option MH := (mj_arq h o).bind fun q => if q.1 = t ∧ 0 ≤ i ∧ i.toNatClampNeg < q.2.1 ∧ mj_clo h v cs = true then some (mj_up h (o.getD 0) (.inr (.inl (t, q.2.1, va_up q.2.2 i.toNatClampNeg v)))) else none
def newo (h : MH) (ci : Nat) (fs : List Value) : MH := mj_push h (.inr (.inr (ci, fs))) fs.length
def newa (h : MH) (t n : Nat) : MH := mj_push h (.inl (t, n, fun _ => 0)) n
def newq (h : MH) (t n : Nat) : MH := mj_push h (.inr (.inl (t, n, fun _ => none))) n
def cpy (h : MH) (o : Option Nat) (sp dp n : Int32) : Option MH := (mj_arr h o).bind fun q => if q.1 = 0 ∧ 3 ≤ o.getD 0 ∧ 0 ≤ sp ∧ 0 ≤ dp ∧ 0 ≤ n ∧ sp.toNatClampNeg + n.toNatClampNeg ≤ q.2.1 ∧ dp.toNatClampNeg + n.toNatClampNeg ≤ q.2.1 then some (mj_up h (o.getD 0) (.inl (0, q.2.1, va_cpy q.2.2 q.2.2 sp.toNatClampNeg dp.toNatClampNeg n.toNatClampNeg))) else none
/-- a class's field k: who declares it, its name, its type, whether final -/
def mj_fd (c k : Nat) : Option (String × String × String × Bool) := match mj_cl[c]? with
  | some q => if k < q.2.2 then some (q.2.1 k) else none
  | none => none
theorem mj_fd_spec {c k : Nat} {f : String × String × String × Bool} (h : mj_fd c k = some f) : ∃ q : vw_C, mj_cl[c]? = some q ∧ k < q.2.2 ∧ q.2.1 k = f := by
  unfold mj_fd at h
  cases hq : mj_cl[c]? with
  | none => rw [hq] at h; cases h
  | some q =>
    rw [hq] at h
    dsimp only at h
    by_cases hk : k < q.2.2
    · rw [if_pos hk] at h
      exact ⟨q, rfl, hk, Option.some.inj h⟩
    · rw [if_neg hk] at h; cases h
theorem mj_in {w : Cond} (h : w ∈ lw_tbl) (hg : goodWord w = true) : w ∈ mj_tbl := List.mem_filter.mpr ⟨h, hg⟩
theorem mj_lays_good (C : String) (T : u_T) (k : Nat) : goodWord (u_lay C T k) = true := by
  unfold u_lay
  split <;> rfl
theorem mj_cl_in {c : Nat} {q : vw_C} (h : mj_cl[c]? = some q) : ∀ w ∈ u_ws q.1 q.2.1 q.2.2, w ∈ mj_tbl := fun w hw => by
  refine mj_in ((mj_oks q (List.mem_of_getElem? h)).1 w hw) ?_
  obtain ⟨k, -, rfl⟩ := List.mem_map.mp hw
  exact mj_lays_good _ _ _
/-! ===== what the picture says of the heap ===== -/
theorem mj_ad_ne {G : CX} {s : State} (hX : mj_Fx G s) {i j : Nat} (hi : 3 ≤ i) (hij : j ≠ i) : G.ad j ≠ G.ad i := by
  intro e
  have h1 := hX.2.1 i hi
  by_cases hj : 3 ≤ j
  · have h2 := hX.2.1 j hj
    omega
  · have h2 := hX.2.2.1 j (by omega)
    omega
theorem mj_obj_at {G : CX} {s : State} {h : MH} {H : Heap} {locs : List Loc} (hR : mj_Rep G s h H locs) {a : Nat} {c : Nat} {fs : List Value} (hq : h.1 a = .inr (.inr (c, fs))) (hne : fs ≠ []) : 3 ≤ a ∧ a < h.2.1 ∧ va_at G.D mj_cl (G.ad a, .inr (c, fs.map (mj_v G.ad))) H := by
  obtain ⟨r1, r2, r3, r4, r5, r6, r7, r8⟩ := hR
  have h3 : 3 ≤ a := by
    rcases Nat.lt_or_ge a 3 with hlt | hge
    · obtain ⟨n, f, e, -⟩ := r5 a hlt
      rw [hq] at e
      cases e
    · exact hge
  have hlt : a < h.2.1 := by
    rcases Nat.lt_or_ge a h.2.1 with hlt | hge
    · exact hlt
    · have e := r4 a hge
      rw [hq] at e
      unfold mj_nil at e
      cases e
      exact absurd rfl hne
  refine ⟨h3, hlt, ?_⟩
  have h4 := r3 a h3 hlt
  rw [hq] at h4
  exact h4
theorem mj_arq_at {G : CX} {s : State} {h : MH} {H : Heap} {locs : List Loc} (hR : mj_Rep G s h H locs) {a : Nat} {t n : Nat} {f : Nat → Option Nat} (hq : h.1 a = .inr (.inl (t, n, f))) : 3 ≤ a ∧ a < h.2.1 ∧ H[G.ad a]? = some (vp_cell (G.cA t) (n, .inr (.inr (.inr (.inr (fun j => (f j).map G.ad)))))) := by
  obtain ⟨r1, r2, r3, r4, r5, r6, r7, r8⟩ := hR
  have h3 : 3 ≤ a := by
    rcases Nat.lt_or_ge a 3 with hlt | hge
    · obtain ⟨n, f, e, -⟩ := r5 a hlt
      rw [hq] at e
      cases e
    · exact hge
  have hlt : a < h.2.1 := by
    rcases Nat.lt_or_ge a h.2.1 with hlt | hge
    · exact hlt
    · have e := r4 a hge
      rw [hq] at e
      unfold mj_nil at e
      cases e
  refine ⟨h3, hlt, ?_⟩
  have h4 := r3 a h3 hlt
  rw [hq] at h4
  exact h4
theorem mj_arr_at {G : CX} {s : State} {h : MH} {H : Heap} {locs : List Loc} (hR : mj_Rep G s h H locs) {a : Nat} {t n : Nat} {f : Nat → Int32} (hq : h.1 a = .inl (t, n, f)) (h3 : 3 ≤ a) : a < h.2.1 ∧ H[G.ad a]? = some (vp_cell (G.cA t) (n, .inl f)) := by
  obtain ⟨r1, r2, r3, r4, r5, r6, r7, r8⟩ := hR
  have hlt : a < h.2.1 := by
    rcases Nat.lt_or_ge a h.2.1 with hlt | hge
    · exact hlt
    · have e := r4 a hge
      rw [hq] at e
      unfold mj_nil at e
      cases e
  refine ⟨hlt, ?_⟩
  have h4 := r3 a h3 hlt
  rw [hq] at h4
  exact h4
theorem mj_Rep.put {G : CX} {s : State} {h : MH} {H H1 : Heap} {locs : List Loc} (hR : mj_Rep G s h H locs) (hX : mj_Fx G s) {a : Nat} {c : MC} {locs1 : List Loc} (h3 : 3 ≤ a) (hlt : a < h.2.1) (hc : va_at G.D mj_cl (G.ad a, mj_e G c) H1) (hz : H1.size = H.size) (ho : ∀ q, q ≠ G.ad a → H1[q]? = H[q]?) (hL : ∀ q ∈ locs1, q.base = G.ad a) : mj_Rep G s (mj_up h a c) H1 (locs ++ locs1) := by
  obtain ⟨r1, r2, r3, r4, r5, r6, r7, r8, r9⟩ := hR
  have hb : G.base ≤ G.ad a := by have := hX.2.1 a h3; omega
  refine ⟨by rw [hz]; exact r1, r2, fun i h1 h2 => ?_, fun i hi => ?_, fun i hi => ?_, fun i hi => ?_, fun q hq => ?_, r8, fun q hq => ?_⟩
  · by_cases hi : i = a
    · subst hi
      simpa [mj_up] using hc
    · have := (r3 i h1 h2).kept (ho _ (mj_ad_ne hX h3 hi))
      simpa [mj_up, hi] using this
  · have hne : i ≠ a := by have : h.2.1 ≤ i := hi; omega
    show (if i = a then c else h.1 i) = mj_nil
    rw [if_neg hne]
    exact r4 i hi
  · obtain ⟨n, f, e1, e2⟩ := r5 i hi
    have hne : i ≠ a := by omega
    refine ⟨n, f, ?_, e2.kept (ho _ (mj_ad_ne hX h3 hne))⟩
    show (if i = a then c else h.1 i) = _
    rw [if_neg hne]
    exact e1
  · exact (r6 i hi).kept (fun q _ h2 => ho q (fun e => h2 (by rw [e]; exact hb)))
  · rw [ho q (by omega)]
    exact r7 q hq
  · rcases List.mem_append.mp hq with hq | hq
    · exact r9 q hq
    · rw [hL q hq]; exact hb
theorem mj_Rep.push {G : CX} {s : State} {h : MH} {H H1 : Heap} {locs : List Loc} (hR : mj_Rep G s h H locs) (hX : mj_Fx G s) {c : MC} {n : Nat} (hc : va_at G.D mj_cl (H.size, mj_e G c) H1) (hz : H1.size = H.size + 1) (ho : ∀ q, q < H.size → H1[q]? = H[q]?) : mj_Rep G s (mj_push h c n) H1 locs ∧ G.ad h.2.1 = H.size := by
  obtain ⟨r1, r2, r3, r4, r5, r6, r7, r8, r9⟩ := hR
  have had : G.ad h.2.1 = H.size := by have := hX.2.1 h.2.1 r2; omega
  refine ⟨⟨?_, Nat.le_succ_of_le r2, fun i h1 h2 => ?_, fun i hi => ?_, fun i hi => ?_, fun i hi => ?_, fun q hq => ?_, r8, r9⟩, had⟩
  · show H1.size + 3 = G.base + (h.2.1 + 1)
    omega
  · by_cases hi : i = h.2.1
    · subst hi
      have := hc
      rw [← had] at this
      simpa [mj_push] using this
    · have h2' : i < h.2.1 := by have h2'' : i < h.2.1 + 1 := h2; omega
      have := (r3 i h1 h2').kept (ho _ ((r3 i h1 h2').lt))
      simpa [mj_push, hi] using this
  · have hi' : h.2.1 + 1 ≤ i := hi
    show (if i = h.2.1 then c else h.1 i) = mj_nil
    rw [if_neg (by omega)]
    exact r4 i (by omega)
  · obtain ⟨n, f, e1, e2⟩ := r5 i hi
    refine ⟨n, f, ?_, e2.kept (ho _ ?_)⟩
    · show (if i = h.2.1 then c else h.1 i) = _
      rw [if_neg (by omega)]
      exact e1
    · obtain ⟨scr, g1, -⟩ := e2
      exact (Array.getElem?_eq_some_iff.mp g1).1
  · exact (r6 i hi).kept (fun q h2 _ => ho q h2)
  · rw [ho q (by omega)]
    exact r7 q hq
end
section
/-! ===== rules of the instructions that read or write the heap ===== -/
section GO2
variable {mi : MI} {d : Nat} {h0 : MH} {pc pc1 pc2 : Nat} {lv lv2 : List (Nat × Value)} {st st1 st2 : List Value} {h h1 h2 : MH}
theorem Go.wr (e1 : h1.2 = h.2)
    (A : ∀ (G : CX) (p : Program) (e : Env) (R : Room) (s : State) (m : MethodId) (args : Array Value) (below : List Frame) (meth : Method) (c : Code) (Q : State → Prop) (cells slots : Nat) (H : Heap) (locs : List Loc) (ls : Array Slot),
      mj_Fr mi p s m args meth c → mj_Fx G s → 64 * d ≤ R.locals → d ≤ R.frames → mj_Rep G s h H locs → lv_has ls mi.2.2.1 (mj_l G.ad lv) →
      (∀ (H1 : Heap) (locs1 : List Loc), mj_Rep G s h1 H1 locs1 → W p G.l e R s m args below meth c H1 locs1 cells slots Q (F0 m pc1 ls (st1.map (mj_v G.ad)))) →
      W p G.l e R s m args below meth c H locs cells slots Q (F0 m pc ls (st.map (mj_v G.ad))))
    (B : Go mi d h0 pc1 lv st1 h1 pc2 lv2 st2 h2) : Go mi d h0 pc lv st h pc2 lv2 st2 h2 := by
  obtain ⟨b1, b2, b3⟩ := B
  obtain ⟨x1, x2, x3⟩ := h
  obtain ⟨y1, y2, y3⟩ := h1
  dsimp only at e1
  obtain ⟨rfl, rfl⟩ := Prod.mk.inj e1
  refine ⟨b1, b2, fun G p e R s m args below meth c Q hF hX g1 g2 g3 g4 g5 g6 hQ H locs ls hR hl => ?_⟩
  exact A G p e R s m args below meth c Q _ _ H locs ls hF hX g4 g3 hR hl (fun H1 locs1 hR1 => b3 G p e R s m args below meth c Q hF hX g1 g2 g3 g4 g5 g6 hQ H1 locs1 ls hR1 hl)
theorem Go.al {n : Nat} (e1 : h1.2.1 = h.2.1 + 1) (e2 : h1.2.2 = h.2.2 + n)
    (A : ∀ (G : CX) (p : Program) (e : Env) (R : Room) (s : State) (m : MethodId) (args : Array Value) (below : List Frame) (meth : Method) (c : Code) (Q : State → Prop) (cells slots : Nat) (H : Heap) (locs : List Loc) (ls : Array Slot),
      mj_Fr mi p s m args meth c → mj_Fx G s → cells + 1 ≤ R.cells → slots + n ≤ R.slots → mj_Rep G s h H locs → lv_has ls mi.2.2.1 (mj_l G.ad lv) →
      (∀ (H1 : Heap), mj_Rep G s h1 H1 locs → W p G.l e R s m args below meth c H1 locs (cells + 1) (slots + n) Q (F0 m pc1 ls (st1.map (mj_v G.ad)))) →
      W p G.l e R s m args below meth c H locs cells slots Q (F0 m pc ls (st.map (mj_v G.ad))))
    (B : Go mi d h0 pc1 lv st1 h1 pc2 lv2 st2 h2) : Go mi d h0 pc lv st h pc2 lv2 st2 h2 := by
  obtain ⟨b1, b2, b3⟩ := B
  refine ⟨by omega, by omega, fun G p e R s m args below meth c Q hF hX g1 g2 g3 g4 g5 g6 hQ H locs ls hR hl => ?_⟩
  refine A G p e R s m args below meth c Q _ _ H locs ls hF hX (by omega) (by omega) hR hl (fun H1 hR1 => ?_)
  have := b3 G p e R s m args below meth c Q hF hX (by omega) (by omega) g3 g4 g5 g6 hQ H1 locs ls hR1 hl
  rw [e1, e2, Nat.sub_add_comm g1, Nat.sub_add_comm g2] at this
  exact this
theorem mj_P1 {D : va_G} {cl : List vw_C} {q : Nat × va_E} {H : Heap} (h : va_at D cl q H) : va_P D cl [q] H := by
  intro k r hk
  have hz : k < 1 := (List.getElem?_eq_some_iff.mp hk).1
  rw [show k = 0 by omega] at hk
  cases hk
  exact h
theorem go_get {idx : Nat} {o : Option Nat} {cs : List Nat} {k : Nat} {v : Value} {ref nm desc : String} {fin : Bool} (hd : decode mi.2.1 pc = .ok (.getfield idx, 3)) (hcs : ∀ c ∈ cs, mj_fd c k = some (ref, nm, desc, fin)) (hw : Cond.fieldLink mi.1.cls idx ref nm desc ∈ mj_tbl) (hg : mj_get h o cs k = some v) (B : Go mi d h0 (pc + 3) lv (v :: st) h pc2 lv2 st2 h2) : Go mi d h0 pc lv (va_rf o :: st) h pc2 lv2 st2 h2 := by
  unfold mj_get at hg
  obtain ⟨⟨c, fs⟩, hq, hk⟩ := Option.bind_eq_some_iff.mp hg
  dsimp only at hk
  have hcc : cs.contains c = true := by
    cases hb : cs.contains c with
    | true => rfl
    | false => simp only [hb] at hk; simp at hk
  rw [if_pos hcc] at hk
  cases o with
  | none => simp [mj_obj] at hq
  | some a =>
    have ha : h.1 a = .inr (.inr (c, fs)) := by
      simp only [mj_obj] at hq
      split at hq
      · next q e => cases hq; exact e
      · cases hq
    have hne : fs ≠ [] := fun e => by rw [e] at hk; simp at hk
    obtain ⟨⟨C, T, N⟩, hcl, hkN, hT⟩ := mj_fd_spec (hcs c (List.contains_iff_mem.mp hcc))
    dsimp only at hkN hT
    refine Go.one (fun G p e R s m args below meth c Q cells slots H locs ls hF hX g3 g4 hR hl K => ?_) B
    obtain ⟨h3, hlt, hat⟩ := mj_obj_at hR ha hne
    refine va_get (ref := ref) hF.1 hF.2.1 hF.2.2.2.2.1 (mj_cl_in hcl) hF.2.2.2.1 hX.1 (mj_P1 hat) 0 rfl hcl k hkN (by dsimp only; rw [hT]; exact hF.2.2.2.2.1 _ hw) (by dsimp only; rw [hT]; exact fun _ z => z) (v := mj_v G.ad v) (by rw [List.getElem?_map, hk]; rfl) hd (K ls hl)
theorem go_gfi {idx : Nat} {o : Option Nat} {cs : List Nat} {k : Nat} {x : Int32} {ref nm desc : String} {fin : Bool} (hd : decode mi.2.1 pc = .ok (.getfield idx, 3)) (hcs : ∀ c ∈ cs, mj_fd c k = some (ref, nm, desc, fin)) (hw : Cond.fieldLink mi.1.cls idx ref nm desc ∈ mj_tbl) (hg : gfi h o cs k = some x) (B : Go mi d h0 (pc + 3) lv (.int x :: st) h pc2 lv2 st2 h2) : Go mi d h0 pc lv (va_rf o :: st) h pc2 lv2 st2 h2 := by
  obtain ⟨v, hv, hi⟩ := Option.bind_eq_some_iff.mp hg
  rw [mj_int_eq hi] at hv
  exact go_get hd hcs hw hv B
theorem go_gfr {idx : Nat} {o r : Option Nat} {cs : List Nat} {k : Nat} {ref nm desc : String} {fin : Bool} (hd : decode mi.2.1 pc = .ok (.getfield idx, 3)) (hcs : ∀ c ∈ cs, mj_fd c k = some (ref, nm, desc, fin)) (hw : Cond.fieldLink mi.1.cls idx ref nm desc ∈ mj_tbl) (hg : gfr h o cs k = some r) (B : Go mi d h0 (pc + 3) lv (va_rf r :: st) h pc2 lv2 st2 h2) : Go mi d h0 pc lv (va_rf o :: st) h pc2 lv2 st2 h2 := by
  obtain ⟨v, hv, hi⟩ := Option.bind_eq_some_iff.mp hg
  rw [mj_ref_eq hi] at hv
  exact go_get hd hcs hw hv B
theorem go_put {idx : Nat} {o : Option Nat} {cs : List Nat} {k : Nat} {v : Value} {ref nm desc : String} {fin : Bool} {ty : FieldType} (hd : decode mi.2.1 pc = .ok (.putfield idx, 3)) (hcs : ∀ c ∈ cs, mj_fd c k = some (ref, nm, desc, fin)) (hw : Cond.fieldLink mi.1.cls idx ref nm desc ∈ mj_tbl) (hfin : fin = true → mi.1.name = "<init>" ∧ ref = mi.1.cls) (hty : parseFieldDescriptor desc = some ty) (hn : ∀ ad, narrow ty (mj_v ad v) = mj_v ad v) (hf : ∀ ad, fits ty (mj_v ad v) = true) (hg : pfv h o cs k v = some h1) (B : Go mi d h0 (pc + 3) lv st h1 pc2 lv2 st2 h2) : Go mi d h0 pc lv (v :: va_rf o :: st) h pc2 lv2 st2 h2 := by
  unfold pfv at hg
  obtain ⟨⟨c, fs⟩, hq, hk⟩ := Option.bind_eq_some_iff.mp hg
  dsimp only at hk
  by_cases hcc : cs.contains c = true ∧ k < fs.length
  · rw [if_pos hcc] at hk
    obtain ⟨hcc, hkl⟩ := hcc
    cases o with
    | none => simp [mj_obj] at hq
    | some a =>
      have ha : h.1 a = .inr (.inr (c, fs)) := by
        simp only [mj_obj] at hq
        split at hq
        · next q e => cases hq; exact e
        · cases hq
      have hne : fs ≠ [] := fun e => by rw [e] at hkl; simp at hkl
      have hh1 : h1 = mj_up h a (.inr (.inr (c, fs.set k v))) := (Option.some.inj hk).symm
      obtain ⟨⟨C, T, N⟩, hcl, hkN, hT⟩ := mj_fd_spec (hcs c (List.contains_iff_mem.mp hcc))
      dsimp only at hkN hT
      obtain ⟨hin0, ⟨ty0, hty0⟩, hnm⟩ := mj_oks _ (List.mem_of_getElem? hcl)
      dsimp only at hin0 hty0 hnm
      refine Go.wr (by rw [hh1]; rfl) (fun G p e R s m args below meth cd Q cells slots H locs ls hF hX g3 g4 hR hl K => ?_) B
      obtain ⟨h3, hlt, hat⟩ := mj_obj_at hR ha hne
      have hts := hF.2.2.2.2.1
      have hin := mj_cl_in hcl
      have hown := hF.2.2.2.1
      have hap := va_apart (own := mi.1.cls) hts hin ty0 hty0 hnm hX.1 hcl
      obtain ⟨r, hr1, cell, q1, q2, q3, q4⟩ := hat
      have hr : r = (C, T, N) := Option.some.inj (hr1.symm.trans hcl)
      subst hr
      dsimp only at q1 q2 q3 q4
      obtain ⟨hS, hfc, kC, hkC, hkind⟩ := hX.1.1 c _ hcl
      obtain ⟨cf, kf, fi, f, hi, hsl⟩ := hS k hkN
      dsimp only at hS hfc hi hsl q4
      have hlay := hts _ (hin _ (u_in_lay hkN))
      have hst := (u_facts hfc hkC (u_lays hts hin hkN) hi).1
      have hlink : (Cond.fieldLink mi.1.cls idx ref (T k).2.1 (T k).2.2.1).before args s = true := by rw [hT]; exact hts _ hw
      have hpd : parseFieldDescriptor (T k).2.2.1 = some ty := by rw [hT]; exact hty
      have hsame : s.fieldFound? ref (T k).2.1 (T k).2.2.1 = some (cf, kf, fi, f) := by
        have := hi
        rw [hT] at this ⊢
        exact this
      have fin' : ∀ (H' : Heap) (locs1 : List Loc), H'[G.ad a]? = some (cell.setSlot (G.D.2 c k) (mj_v G.ad v)) → H'.size = H.size → (∀ q, q ≠ G.ad a → H'[q]? = H[q]?) → (∀ q ∈ locs1, q.base = G.ad a) → W p G.l e R s m args below meth cd H' (locs ++ locs1) cells slots Q (F0 m (pc + 3) ls (st.map (mj_v G.ad))) := by
        intro H' locs1 e1 e2 e3 e4
        refine K H' _ ?_
        rw [hh1]
        refine hR.put hX h3 hlt ?_ e2 e3 e4
        refine ⟨_, hcl, t_OB.to (V := updV (vp_V (fs.map (mj_v G.ad))) k (mj_v G.ad v)) ⟨_, e1, q2, q3, t_set q4 hap hkN (mj_v G.ad v)⟩ (fun j _ => ?_)⟩
        rw [vp_updV_set (by simpa using hkl)]
        show vp_V _ j = vp_V ((fs.set k v).map (mj_v G.ad)) j
        rw [List.map_set]
      unfold u_lay at hlay
      by_cases hfn : (T k).2.2.2 = true
      · rw [if_pos hfn] at hlay
        have hfn' : fin = true := by rw [hT] at hfn; exact hfn
        obtain ⟨hin2, href⟩ := hfin hfn'
        have hcf : m.cls = cf := by
          obtain ⟨_, _, c', _, _, _, -, -, hf', -, -, -, hown2, -⟩ := Cond.laysFinal_spec hlay
          have e1 : c' = cf := by have := hi.symm.trans hf'; simp at this; exact this.1.symm
          dsimp only at hown2
          rw [hT] at hown2
          dsimp only at hown2
          rw [href] at hown2
          rw [← e1]; exact Option.some.inj (hown.symm.trans hown2)
        have h6 := u_fits hfc hkC hkind (Or.inr hlay) hi hpd (hn G.ad) (hf G.ad)
        refine W.putFinK hF.1 hF.2.1 hown hlink hsame hst hcf (hF.2.2.2.2.2.1.trans hin2) (by rw [q2]; exact h6) q1 q3 (by rw [hsl]; exact k2_hasslot (q4 k hkN)) rfl rfl hd fun H' e1 e2 e3 => ?_
        rw [hsl] at e1
        exact fin' H' _ e1 e2 e3 (fun q hq => by rw [List.mem_singleton.mp hq])
      · rw [if_neg hfn] at hlay
        have h6 := u_store hfc hkC hkind hlay hi hpd (hn G.ad) (hf G.ad)
        refine W.putK hF.1 hF.2.1 (f := f) ⟨hown, hlink, ⟨_, _, _, hsame⟩, hst⟩ (by rw [q2]; exact h6) q1 q3 (by rw [hsl]; exact k2_hasslot (q4 k hkN)) rfl rfl hd fun H' e1 e2 e3 => ?_
        rw [hsl] at e1
        exact fin' H' _ e1 e2 e3 (fun q hq => by rw [List.mem_singleton.mp hq])
  · rw [if_neg hcc] at hk; cases hk
theorem go_pfi {idx : Nat} {o : Option Nat} {cs : List Nat} {k : Nat} {x : Int32} {ref nm : String} {fin : Bool} (hd : decode mi.2.1 pc = .ok (.putfield idx, 3)) (hcs : ∀ c ∈ cs, mj_fd c k = some (ref, nm, "I", fin)) (hw : Cond.fieldLink mi.1.cls idx ref nm "I" ∈ mj_tbl) (hfin : fin = true → mi.1.name = "<init>" ∧ ref = mi.1.cls) (hg : pfv h o cs k (.int x) = some h1) (B : Go mi d h0 (pc + 3) lv st h1 pc2 lv2 st2 h2) : Go mi d h0 pc lv (.int x :: va_rf o :: st) h pc2 lv2 st2 h2 :=
  go_put (ty := .int) hd hcs hw hfin (by decide +kernel) (fun _ => rfl) (fun _ => rfl) hg B
theorem go_pfz {idx : Nat} {o : Option Nat} {cs : List Nat} {k : Nat} {x : Int32} {ref nm : String} {fin : Bool} (hd : decode mi.2.1 pc = .ok (.putfield idx, 3)) (hcs : ∀ c ∈ cs, mj_fd c k = some (ref, nm, "Z", fin)) (hw : Cond.fieldLink mi.1.cls idx ref nm "Z" ∈ mj_tbl) (hfin : fin = true → mi.1.name = "<init>" ∧ ref = mi.1.cls) (hx : x = 0 ∨ x = 1) (hg : pfv h o cs k (.int x) = some h1) (B : Go mi d h0 (pc + 3) lv st h1 pc2 lv2 st2 h2) : Go mi d h0 pc lv (.int x :: va_rf o :: st) h pc2 lv2 st2 h2 :=
  go_put (ty := .boolean) hd hcs hw hfin (by decide +kernel) (fun _ => by rcases hx with rfl | rfl <;> rfl) (fun _ => by rcases hx with rfl | rfl <;> rfl) hg B
theorem go_pfr {idx : Nat} {o r : Option Nat} {cs : List Nat} {k : Nat} {ref nm desc : String} {fin : Bool} {ty : FieldType} (hd : decode mi.2.1 pc = .ok (.putfield idx, 3)) (hcs : ∀ c ∈ cs, mj_fd c k = some (ref, nm, desc, fin)) (hw : Cond.fieldLink mi.1.cls idx ref nm desc ∈ mj_tbl) (hfin : fin = true → mi.1.name = "<init>" ∧ ref = mi.1.cls) (hty : parseFieldDescriptor desc = some ty) (hr : ty.isReference = true) (hg : pfv h o cs k (va_rf r) = some h1) (B : Go mi d h0 (pc + 3) lv st h1 pc2 lv2 st2 h2) : Go mi d h0 pc lv (va_rf r :: va_rf o :: st) h pc2 lv2 st2 h2 :=
  go_put (ty := ty) hd hcs hw hfin hty (fun _ => by cases ty <;> first | (cases hr; done) | (cases r <;> rfl)) (fun _ => by cases ty <;> first | (cases hr; done) | (cases r <;> rfl)) hg B
end GO2
end
section
/-! ===== rules of arrays, of making, of the static arrays, of instanceof, of arraycopy ===== -/
section GO3
variable {mi : MI} {d : Nat} {h0 : MH} {pc pc1 pc2 : Nat} {lv lv2 : List (Nat × Value)} {st st1 st2 : List Value} {h h1 h2 : MH}
theorem mj_arr_spec {o : Option Nat} {q : Nat × Nat × (Nat → Int32)} (hq : mj_arr h o = some q) : ∃ a, o = some a ∧ h.1 a = .inl q := by
  cases o with
  | none => simp [mj_arr] at hq
  | some a =>
    simp only [mj_arr] at hq
    split at hq
    · next q e => cases hq; exact ⟨a, rfl, e⟩
    · cases hq
theorem mj_arq_spec {o : Option Nat} {q : Nat × Nat × (Nat → Option Nat)} (hq : mj_arq h o = some q) : ∃ a, o = some a ∧ h.1 a = .inr (.inl q) := by
  cases o with
  | none => simp [mj_arq] at hq
  | some a =>
    simp only [mj_arq] at hq
    split at hq
    · next q e => cases hq; exact ⟨a, rfl, e⟩
    · cases hq
theorem mj_nn {i : Int32} {n : Nat} (h1 : 0 ≤ i) (h2 : i.toNatClampNeg < n) : ¬ (i < 0 ∨ n ≤ i.toNatClampNeg) := fun z => z.elim (fun z => absurd z (Int32.not_lt.mpr h1)) (fun z => Nat.not_le.mpr h2 z)
theorem go_iald {o : Option Nat} {i x : Int32} (hd : decode mi.2.1 pc = .ok (.iaload, 1)) (hg : ald h o 0 i = some x) (B : Go mi d h0 (pc + 1) lv (.int x :: st) h pc2 lv2 st2 h2) : Go mi d h0 pc lv (.int i :: va_rf o :: st) h pc2 lv2 st2 h2 := by
  unfold ald at hg
  obtain ⟨⟨t, n, f⟩, hq, hk⟩ := Option.bind_eq_some_iff.mp hg
  dsimp only at hk
  by_cases hc : t = 0 ∧ 0 ≤ i ∧ i.toNatClampNeg < n
  · rw [if_pos hc] at hk
    obtain ⟨rfl, c1, c2⟩ := hc
    obtain ⟨a, rfl, ha⟩ := mj_arr_spec hq
    have hx : f i.toNatClampNeg = x := Option.some.inj hk
    refine Go.one (fun G p e R s m args below meth c Q cells slots H locs ls hF hX g3 g4 hR hl K => ?_) B
    rcases Nat.lt_or_ge a 3 with h3 | h3
    · obtain ⟨n', f', e1, scr, e2, e3, e4, e5, e6⟩ := hR.2.2.2.2.1 a h3
      rw [ha] at e1
      cases e1
      exact W.iald (v := .int x) hF.1 hF.2.1 e2 e3 e4 (by rw [e5]; exact mj_nn c1 c2) (by rw [e6 _ c2, hx]) rfl rfl hd (K ls hl)
    · obtain ⟨hlt, hc⟩ := mj_arr_at hR ha h3
      exact W.iald (v := .int x) hF.1 hF.2.1 hc ((hX.1.2 0 _ (mj_tys_at G (by decide))).1 n (fun j => .int (f j))) (fun q => by cases q) (by show ¬ (i < 0 ∨ (arrV _ _ _).slots.size ≤ _); rw [arrV_size]; exact mj_nn c1 c2) (by show (arrV _ _ _).slots[_]? = _; rw [arrV_read _ _ c2, hx]) rfl rfl hd (K ls hl)
  · rw [if_neg hc] at hk; cases hk
theorem go_zald {o : Option Nat} {i x : Int32} (hd : decode mi.2.1 pc = .ok (.baload, 1)) (hg : ald h o 1 i = some x) (B : Go mi d h0 (pc + 1) lv (.int x :: st) h pc2 lv2 st2 h2) : Go mi d h0 pc lv (.int i :: va_rf o :: st) h pc2 lv2 st2 h2 := by
  unfold ald at hg
  obtain ⟨⟨t, n, f⟩, hq, hk⟩ := Option.bind_eq_some_iff.mp hg
  dsimp only at hk
  by_cases hc : t = 1 ∧ 0 ≤ i ∧ i.toNatClampNeg < n
  · rw [if_pos hc] at hk
    obtain ⟨rfl, c1, c2⟩ := hc
    obtain ⟨a, rfl, ha⟩ := mj_arr_spec hq
    have hx : f i.toNatClampNeg = x := Option.some.inj hk
    refine Go.one (fun G p e R s m args below meth c Q cells slots H locs ls hF hX g3 g4 hR hl K => ?_) B
    rcases Nat.lt_or_ge a 3 with h3 | h3
    · obtain ⟨n', f', e1, -⟩ := hR.2.2.2.2.1 a h3
      rw [ha] at e1
      cases e1
    · obtain ⟨hlt, hc⟩ := mj_arr_at hR ha h3
      exact W.zald (v := .int x) hF.1 hF.2.1 hc ((hX.1.2 1 _ (mj_tys_at G (by decide))).1 n (fun j => .int (f j))) (fun q => by cases q) (by show ¬ (i < 0 ∨ (arrV _ _ _).slots.size ≤ _); rw [arrV_size]; exact mj_nn c1 c2) (by show (arrV _ _ _).slots[_]? = _; rw [arrV_read _ _ c2, hx]) rfl rfl hd (K ls hl)
  · rw [if_neg hc] at hk; cases hk
theorem go_iast {o : Option Nat} {i x : Int32} (hd : decode mi.2.1 pc = .ok (.iastore, 1)) (hg : ast h o 0 i x = some h1) (B : Go mi d h0 (pc + 1) lv st h1 pc2 lv2 st2 h2) : Go mi d h0 pc lv (.int x :: .int i :: va_rf o :: st) h pc2 lv2 st2 h2 := by
  unfold ast at hg
  obtain ⟨⟨t, n, f⟩, hq, hk⟩ := Option.bind_eq_some_iff.mp hg
  dsimp only at hk
  by_cases hc : t = 0 ∧ 3 ≤ o.getD 0 ∧ 0 ≤ i ∧ i.toNatClampNeg < n
  · rw [if_pos hc] at hk
    obtain ⟨rfl, h3, c1, c2⟩ := hc
    obtain ⟨a, rfl, ha⟩ := mj_arr_spec hq
    have h3 : 3 ≤ a := h3
    have hh1 : h1 = mj_up h a (.inl (0, n, upd f i.toNatClampNeg x)) := (Option.some.inj hk).symm
    refine Go.wr (by rw [hh1]; rfl) (fun G p e R s m args below meth cd Q cells slots H locs ls hF hX g3 g4 hR hl K => ?_) B
    obtain ⟨hlt, hc⟩ := mj_arr_at hR ha h3
    refine W.iast hF.1 hF.2.1 hc ((hX.1.2 0 _ (mj_tys_at G (by decide))).1 n (fun j => .int (f j))) (fun q => by cases q) (by show ¬ (i < 0 ∨ (arrV _ _ _).slots.size ≤ _); rw [arrV_size]; exact mj_nn c1 c2) rfl rfl hd fun H1 e z oq => ?_
    refine K H1 _ ?_
    rw [hh1]
    refine hR.put hX h3 hlt ?_ z oq (fun q hq => by rw [List.mem_singleton.mp hq])
    show H1[G.ad a]? = some (vp_cell _ _)
    rw [e]
    rw [vp_cell_i, vp_cell_i, arrV_store]
    congr 2
    funext q
    by_cases hq : q = i.toNatClampNeg
    · subst hq
      simp [updV, upd]
    · simp [updV, upd, hq]
  · rw [if_neg hc] at hk; cases hk
theorem go_zast {o : Option Nat} {i x : Int32} (hd : decode mi.2.1 pc = .ok (.bastore, 1)) (hx : vp_nar .boolean x = x) (hg : ast h o 1 i x = some h1) (B : Go mi d h0 (pc + 1) lv st h1 pc2 lv2 st2 h2) : Go mi d h0 pc lv (.int x :: .int i :: va_rf o :: st) h pc2 lv2 st2 h2 := by
  unfold ast at hg
  obtain ⟨⟨t, n, f⟩, hq, hk⟩ := Option.bind_eq_some_iff.mp hg
  dsimp only at hk
  by_cases hc : t = 1 ∧ 3 ≤ o.getD 0 ∧ 0 ≤ i ∧ i.toNatClampNeg < n
  · rw [if_pos hc] at hk
    obtain ⟨rfl, h3, c1, c2⟩ := hc
    obtain ⟨a, rfl, ha⟩ := mj_arr_spec hq
    have h3 : 3 ≤ a := h3
    have hh1 : h1 = mj_up h a (.inl (1, n, upd f i.toNatClampNeg x)) := (Option.some.inj hk).symm
    refine Go.wr (by rw [hh1]; rfl) (fun G p e R s m args below meth cd Q cells slots H locs ls hF hX g3 g4 hR hl K => ?_) B
    obtain ⟨hlt, hc⟩ := mj_arr_at hR ha h3
    refine W.zast hF.1 hF.2.1 hc ((hX.1.2 1 _ (mj_tys_at G (by decide))).1 n (fun j => .int (f j))) (fun q => by cases q) (by show ¬ (i < 0 ∨ (arrV _ _ _).slots.size ≤ _); rw [arrV_size]; exact mj_nn c1 c2) rfl rfl hd fun H1 e z oq => ?_
    refine K H1 _ ?_
    rw [hh1]
    refine hR.put hX h3 hlt ?_ z oq (fun q hq => by rw [List.mem_singleton.mp hq])
    show H1[G.ad a]? = some (vp_cell _ _)
    rw [e]
    rw [vp_cell_i, vp_cell_i, arrV_store]
    congr 2
    funext q
    by_cases hq : q = i.toNatClampNeg
    · subst hq
      have hx' : narrow FieldType.boolean (Value.int x) = Value.int x := congrArg Value.int hx
      simp [updV, upd, hx']
    · simp [updV, upd, hq]
  · rw [if_neg hc] at hk; cases hk
theorem go_alen {o : Option Nat} {x : Int32} (hd : decode mi.2.1 pc = .ok (.arraylength, 1)) (hg : alen h o = some x) (B : Go mi d h0 (pc + 1) lv (.int x :: st) h pc2 lv2 st2 h2) : Go mi d h0 pc lv (va_rf o :: st) h pc2 lv2 st2 h2 := by
  cases o with
  | none => simp [alen] at hg
  | some a =>
    refine Go.one (fun G p e R s m args below meth c Q cells slots H locs ls hF hX g3 g4 hR hl K => ?_) B
    simp only [alen] at hg
    split at hg
    · next q ha =>
      obtain ⟨t, n, f⟩ := q
      by_cases hc : t < 2
      · rw [if_pos hc] at hg
        have hx : Int32.ofNat n = x := Option.some.inj hg
        rcases Nat.lt_or_ge a 3 with h3 | h3
        · obtain ⟨n', f', e1, scr, e2, e3, e4, e5, e6⟩ := hR.2.2.2.2.1 a h3
          rw [ha] at e1
          cases e1
          exact W.alen (n := x) hF.1 hF.2.1 e2 e3 (by rw [e5, ← hx] <;> rfl) rfl rfl hd (K ls hl)
        · obtain ⟨hlt, hcl⟩ := mj_arr_at hR ha h3
          exact W.alen (n := x) hF.1 hF.2.1 hcl ((hX.1.2 t _ (mj_tys_at G (by omega))).1 n (fun j => .int (f j))) (by rw [vp_cell_i, arrV_size, ← hx] <;> rfl) rfl rfl hd (K ls hl)
      · rw [if_neg hc] at hg; cases hg
    · next q ha =>
      obtain ⟨t, n, f⟩ := q
      by_cases hc : t = 2 ∨ t = 3
      · rw [if_pos hc] at hg
        have hx : Int32.ofNat n = x := Option.some.inj hg
        obtain ⟨h3, hlt, hcl⟩ := mj_arq_at hR ha
        exact W.alen (n := x) hF.1 hF.2.1 hcl ((hX.1.2 t _ (mj_tys_at G (by omega))).1 n (fun j => va_rf ((f j).map G.ad))) (by rw [vp_cell_q, arrV_size, ← hx] <;> rfl) rfl rfl hd (K ls hl)
      · rw [if_neg hc] at hg; cases hg
    · cases hg
theorem go_qld {o r : Option Nat} {t : Nat} {i : Int32} (ht : t = 2 ∨ t = 3) (hd : decode mi.2.1 pc = .ok (.aaload, 1)) (hg : qld h o t i = some r) (B : Go mi d h0 (pc + 1) lv (va_rf r :: st) h pc2 lv2 st2 h2) : Go mi d h0 pc lv (.int i :: va_rf o :: st) h pc2 lv2 st2 h2 := by
  unfold qld at hg
  obtain ⟨⟨t', n, f⟩, hq, hk⟩ := Option.bind_eq_some_iff.mp hg
  dsimp only at hk
  by_cases hc : t' = t ∧ 0 ≤ i ∧ i.toNatClampNeg < n
  · rw [if_pos hc] at hk
    obtain ⟨rfl, c1, c2⟩ := hc
    obtain ⟨a, rfl, ha⟩ := mj_arq_spec hq
    have hx : f i.toNatClampNeg = r := Option.some.inj hk
    refine Go.one (fun G p e R s m args below meth c Q cells slots H locs ls hF hX g3 g4 hR hl K => ?_) B
    obtain ⟨h3, hlt, hcl⟩ := mj_arq_at hR ha
    have hty : (mj_aty t').isReference = true := by rcases ht with rfl | rfl <;> rfl
    have K' := K ls hl
    rw [List.map_cons, mj_vrf] at K'
    exact W.aald (v := va_rf (r.map G.ad)) (ty := mj_aty t') hF.1 hF.2.1 hcl ((hX.1.2 t' _ (mj_tys_at G (by omega))).1 n (fun j => va_rf ((f j).map G.ad))) hty (fun q => by cases q) (by show ¬ (i < 0 ∨ (arrV _ _ _).slots.size ≤ _); rw [arrV_size]; exact mj_nn c1 c2) (by show (arrV _ _ _).slots[_]? = _; rw [arrV_read _ _ c2]; dsimp only; rw [hx]) rfl rfl hd K'
  · rw [if_neg hc] at hk; cases hk
theorem mj_asg {s : State} {C E : String} (h : va_Nw (.castable C E) s) : ∀ comp c0 : ClassId, s.vm.findClass E = some comp → s.vm.findClass C = some c0 → s.vm.assignable c0 comp = true := by
  intro comp c0 h1 h2
  obtain ⟨c3, t3, w1, w2, w3⟩ := Cond.castable_spec (args := #[]) (s := s) h
  cases h2.symm.trans w1
  cases h1.symm.trans w2
  exact w3
/-- which classes may stand in a row of t -/
def mj_fits (t c : Nat) : Bool := match mj_cl[c]? with
  | some q => match mj_aty t with
    | .object E => decide (q.1 = E) || decide (Cond.castable q.1 E ∈ mj_bad)
    | _ => false
  | none => false
theorem go_qst {o v : Option Nat} {t : Nat} {cs : List Nat} {i : Int32} (ht : t = 2 ∨ t = 3) (hcs : ∀ c ∈ cs, mj_fits t c = true) (hd : decode mi.2.1 pc = .ok (.aastore, 1)) (hg : qst h o t cs i v = some h1) (B : Go mi d h0 (pc + 1) lv st h1 pc2 lv2 st2 h2) : Go mi d h0 pc lv (va_rf v :: .int i :: va_rf o :: st) h pc2 lv2 st2 h2 := by
  unfold qst at hg
  obtain ⟨⟨t', n, f⟩, hq, hk⟩ := Option.bind_eq_some_iff.mp hg
  dsimp only at hk
  by_cases hc : t' = t ∧ 0 ≤ i ∧ i.toNatClampNeg < n ∧ mj_clo h v cs = true
  · rw [if_pos hc] at hk
    obtain ⟨rfl, c1, c2, c3⟩ := hc
    obtain ⟨a, rfl, ha⟩ := mj_arq_spec hq
    have hh1 : h1 = mj_up h a (.inr (.inl (t', n, va_up f i.toNatClampNeg v))) := (Option.some.inj hk).symm
    refine Go.wr (by rw [hh1]; rfl) (fun G p e R s m args below meth cd Q cells slots H locs ls hF hX g3 g4 hR hl K => ?_) B
    obtain ⟨h3, hlt, hcl⟩ := mj_arq_at hR ha
    have fin' : ∀ (H1 : Heap), H1[G.ad a]? = some ((vp_cell (G.cA t') (n, .inr (.inr (.inr (.inr (fun j => (f j).map G.ad)))))).setSlot i.toNatClampNeg (va_rf (v.map G.ad))) → H1.size = H.size → (∀ q, q ≠ G.ad a → H1[q]? = H[q]?) → W p G.l e R s m args below meth cd H1 (locs ++ [⟨G.ad a, i.toNatClampNeg⟩]) cells slots Q (F0 m (pc + 1) ls (st.map (mj_v G.ad))) := by
      intro H1 e z oq
      refine K H1 _ ?_
      rw [hh1]
      refine hR.put hX h3 hlt ?_ z oq (fun q hq => by rw [List.mem_singleton.mp hq])
      show H1[G.ad a]? = some (vp_cell _ _)
      rw [e]
      rw [vp_cell_q, vp_cell_q, arrV_store]
      congr 2
      funext q
      by_cases hq : q = i.toNatClampNeg
      · subst hq
        simp [updV, va_up]
      · simp [updV, va_up, hq]
    obtain ⟨E, hE⟩ : ∃ E, mj_aty t' = .object E := by rcases ht with rfl | rfl <;> exact ⟨_, rfl⟩
    have harr := hX.1.2 t' _ (mj_tys_at G (by omega))
    dsimp only at harr
    rw [hE] at harr
    cases v with
    | none =>
      refine va_WaastN (C := E) hF.1 hF.2.1 hcl (harr.1 n (fun j => va_rf ((f j).map G.ad))) (fun h => by cases h) (by show ¬ (i < 0 ∨ (arrV _ _ _).slots.size ≤ _); rw [arrV_size]; exact mj_nn c1 c2) rfl rfl hd fun H1 e z oq => ?_
      exact fin' H1 e z oq
    | some b =>
      unfold mj_clo at c3
      split at c3
      · next q hq =>
        obtain ⟨ci, fs⟩ := q
        rw [Bool.and_eq_true, decide_eq_true_eq] at c3
        dsimp only at c3
        have hb : h.1 b = .inr (.inr (ci, fs)) := by
          simp only [mj_obj] at hq
          split at hq
          · next q e => cases hq; exact e
          · cases hq
        obtain ⟨b3, blt, bat⟩ := mj_obj_at hR hb c3.2
        have hfit := hcs ci (List.contains_iff_mem.mp c3.1)
        unfold mj_fits at hfit
        cases hcq : mj_cl[ci]? with
        | none => rw [hcq] at hfit; cases hfit
        | some r =>
          rw [hcq] at hfit
          dsimp only at hfit
          rw [hE] at hfit
          dsimp only at hfit
          rw [Bool.or_eq_true, decide_eq_true_eq, decide_eq_true_eq] at hfit
          have hasg : ∀ comp c0 : ClassId, s.vm.findClass E = some comp → s.vm.findClass r.1 = some c0 → s.vm.assignable c0 comp = true := by
            rcases hfit with hfit | hfit
            · intro comp c0 w1 w2
              rw [hfit] at w2
              cases w1.symm.trans w2
              have := (hX.1.1 ci _ hcq).2
              rw [hfit] at this
              have h5 := va_assign this
              cases w1.symm.trans this.1
              exact h5
            · exact mj_asg (hX.2.2.2.1 _ hfit)
          obtain ⟨cellV, g1, g3, ⟨kC, hkC⟩, hasg⟩ := va_rAny hX.1 (mj_P1 bat) (q0 := 0) rfl hcq hasg
          obtain ⟨kA, comp, k1, k2, k3, -⟩ := harr.2
          obtain ⟨kE, hkE, -⟩ := Vm.findClass_spec k3
          refine W.aast hF.1 hF.2.1 hcl (fun q h => by cases h) (fun h => by cases h) k1 k2 rfl hkE ⟨fun q => absurd q (Int32.not_lt.mpr c1), by show _ < (arrV _ _ _).slots.size; rw [arrV_size]; exact c2⟩ g1 (fun q h => by rw [h] at g3; cases g3) hkC (hasg _ k3) rfl rfl hd fun H1 e z oq => ?_
          exact fin' H1 e z oq
      · cases c3
  · rw [if_neg hc] at hk; cases hk
end GO3
end
section
/-! ===== rules of making; the two static arrays; instanceof; arraycopy ===== -/
section GO4
variable {mi : MI} {d : Nat} {h0 : MH} {pc pc1 pc2 : Nat} {lv lv2 : List (Nat × Value)} {st st1 st2 : List Value} {h h1 h2 : MH}
theorem go_new {idx ci : Nat} {q : vw_C} {fs : List Value} (hd : decode mi.2.1 pc = .ok (.new idx, 3)) (hcl : mj_cl[ci]? = some q) (hfs : (List.range q.2.2).map (fun j => (parseFieldDescriptor (q.2.1 j).2.2.1).map defaultValue) = fs.map some) (htv : ∀ ad, fs.map (mj_v ad) = fs) (hw1 : Cond.classLink mi.1.cls idx q.1 ∈ mj_tbl) (hw2 : Cond.instantiable q.1 q.2.2 ∈ mj_tbl) (hw3 : Cond.initialized q.1 ∈ mj_tbl) (B : Go mi d h0 (pc + 3) lv (va_rf (some h.2.1) :: st) (newo h ci fs) pc2 lv2 st2 h2) : Go mi d h0 pc lv st h pc2 lv2 st2 h2 := by
  obtain ⟨-, ⟨ty, hty⟩, -⟩ := mj_oks q (List.mem_of_getElem? hcl)
  have hlen : fs.length = q.2.2 := by
    have := congrArg List.length hfs
    simpa using this.symm
  refine Go.al (h1 := newo h ci fs) (n := fs.length) rfl rfl (fun G p e R s m args below meth c Q cells slots H locs ls hF hX g5 g6 hR hl K => ?_) B
  have hts := hF.2.2.2.2.1
  have hKn := hX.1.1 ci _ hcl
  rw [hlen] at g6 K
  refine W.newcK hF.1 hF.2.1 hF.2.2.2.1 (hts _ hw1) (hts _ hw2) (hts _ hw3) rfl hd g5 g6 hKn.2.1 rfl fun H1 kC hkC e1 z1 o1 => ?_
  have hat : va_at G.D mj_cl (H.size, mj_e G (.inr (.inr (ci, fs)))) H1 := by
    refine ⟨q, hcl, (u_born ty hts (mj_cl_in hcl) hKn hkC e1 hty).to (fun j hj => ?_)⟩
    show defaultValue (ty j) = vp_V (fs.map (mj_v G.ad)) j
    rw [htv]
    have e2 : (fs.map some)[j]? = some (some (defaultValue (ty j))) := by
      rw [← hfs, List.getElem?_map, List.getElem?_range hj]
      simp [hty j hj]
    rw [List.getElem?_map] at e2
    unfold vp_V
    rw [List.getD_eq_getElem?_getD]
    cases hv : fs[j]? with
    | none => rw [hv] at e2; cases e2
    | some v => rw [hv] at e2; exact (Option.some.inj (Option.some.inj e2)).symm
  obtain ⟨hR1, had⟩ := hR.push hX hat z1 o1 (n := fs.length)
  have := K H1 hR1
  rw [List.map_cons, mj_vrf] at this
  dsimp only [Option.map_some] at this
  rw [had] at this
  exact this
theorem go_newa {atype : ArrayType} {t N : Nat} {n : Int32} (ht : t < 2) (hty : newarray.typeOf atype = mj_aty t) (hd : decode mi.2.1 pc = .ok (.newarray atype, 2)) (hw : Cond.arrayClass (mj_aty t) ∈ mj_tbl) (hn : ¬ n < 0) (hN : n.toNatClampNeg = N) (hb : N ≤ 100000) (B : Go mi d h0 (pc + 2) lv (va_rf (some h.2.1) :: st) (newa h t N) pc2 lv2 st2 h2) : Go mi d h0 pc lv (.int n :: st) h pc2 lv2 st2 h2 := by
  refine Go.al (h1 := newa h t N) (n := N) rfl rfl (fun G p e R s m args below meth c Q cells slots H locs ls hF hX g5 g6 hR hl K => ?_) B
  have hts := hF.2.2.2.2.1
  have hbytes : N * componentBytes (newarray.typeOf atype) ≤ 536870912 := by
    rw [hty]
    rcases (show t = 0 ∨ t = 1 by omega) with rfl | rfl
    · show N * 4 ≤ _; omega
    · show N * 1 ≤ _; omega
  refine va_newaK hF.1 hF.2.1 (by rw [hty]; exact hts _ hw) rfl hd rfl hn hN hbytes g5 g6 rfl fun H1 cA e1 z1 o1 hAr hNm => ?_
  have hcA : cA = G.cA t := by
    have h5 := (hX.1.2 t _ (mj_tys_at G (by omega))).2
    rw [hty] at hNm
    rcases (show t = 0 ∨ t = 1 by omega) with rfl | rfl
    · exact Option.some.inj (hNm.symm.trans h5)
    · exact Option.some.inj (hNm.symm.trans h5)
  have hat : va_at G.D mj_cl (H.size, mj_e G (.inl (t, N, fun _ => 0))) H1 := by
    show H1[H.size]? = some (vp_cell (G.cA t) (N, .inl fun _ => 0))
    rw [e1, hcA, vp_cell_i, hty]
    rcases (show t = 0 ∨ t = 1 by omega) with rfl | rfl <;> rfl
  obtain ⟨hR1, had⟩ := hR.push hX hat z1 o1 (n := N)
  have := K H1 hR1
  rw [List.map_cons, mj_vrf] at this
  dsimp only [Option.map_some] at this
  rw [had] at this
  exact this
theorem go_newq {idx t N : Nat} {C : String} {n : Int32} (ht : t = 2 ∨ t = 3) (hty : mj_aty t = .object C) (hd : decode mi.2.1 pc = .ok (.anewarray idx, 3)) (hw : Cond.classLink mi.1.cls idx C ∈ mj_tbl) (hw2 : Cond.arrayOver (.object C) ∈ mj_bad) (hn : ¬ n < 0) (hN : n.toNatClampNeg = N) (hb : N ≤ 100000) (B : Go mi d h0 (pc + 3) lv (va_rf (some h.2.1) :: st) (newq h t N) pc2 lv2 st2 h2) : Go mi d h0 pc lv (.int n :: st) h pc2 lv2 st2 h2 := by
  refine Go.al (h1 := newq h t N) (n := N) rfl rfl (fun G p e R s m args below meth c Q cells slots H locs ls hF hX g5 g6 hR hl K => ?_) B
  have hts := hF.2.2.2.2.1
  subst hN
  refine W.anew hF.1 hF.2.1 hF.2.2.2.1 (hts _ hw) (va_AO.use (va_AO.of (A := #[]) (hX.2.2.2.1 _ hw2))) rfl hd rfl hn (by omega) g5 g6 fun cA kA comp f1 f2 f3 f4 => ?_
  have hcA : cA = G.cA t := by
    have h5 := (hX.1.2 t _ (mj_tys_at G (by omega))).2
    dsimp only at h5
    rw [hty] at h5
    obtain ⟨kA', comp', -, -, -, h6⟩ := h5
    exact Option.some.inj (f1.symm.trans h6)
  generalize hH1 : H.push ({ cls := cA, slots := Array.replicate n.toNatClampNeg .null, vm := .none } : Cell) = H1
  have z1 : H1.size = H.size + 1 := by rw [← hH1, Array.size_push]
  have e1 : H1[H.size]? = some (arrV cA n.toNatClampNeg (fun _ => .null)) := by rw [← hH1, Array.getElem?_push_size, ← arrV_new]
  have o1 : ∀ q, q < H.size → H1[q]? = H[q]? := fun q hq => by rw [← hH1, Array.getElem?_push, if_neg (Nat.ne_of_lt hq)]
  have hat : va_at G.D mj_cl (H.size, mj_e G (.inr (.inl (t, n.toNatClampNeg, fun _ => none)))) H1 := by
    show H1[H.size]? = some (vp_cell (G.cA t) _)
    rw [e1, hcA, vp_cell_q]
    rfl
  obtain ⟨hR1, had⟩ := hR.push hX hat z1 o1 (n := n.toNatClampNeg)
  have := K H1 hR1
  rw [List.map_cons, mj_vrf] at this
  dsimp only [Option.map_some] at this
  rw [had] at this
  exact this
theorem go_gets {idx i : Nat} {nm : String} (hi : i < 2) (hnm : (if i = 0 then "EAST" else "SOUTH") = nm) (hd : decode mi.2.1 pc = .ok (.getstatic idx, 3)) (hw : Cond.fieldLink mi.1.cls idx "WideTurn" nm "[I" ∈ mj_tbl) (B : Go mi d h0 (pc + 3) lv (va_rf (some i) :: st) h pc2 lv2 st2 h2) : Go mi d h0 pc lv st h pc2 lv2 st2 h2 := by
  refine Go.one (fun G p e R s m args below meth c Q cells slots H locs ls hF hX g3 g4 hR hl K => ?_) B
  have hts := hF.2.2.2.2.1
  obtain ⟨cf, kf, fi, f, a, cell, w1, w2, w3, w4, w5, w6, w7, w8⟩ := hR.2.2.2.2.2.1 i hi
  rw [hnm] at w1
  have K' := K ls hl
  rw [List.map_cons, mj_vrf] at K'
  exact W.gets hF.1 hF.2.1 hF.2.2.2.1 (hts _ hw) w1 w2 w3 w4 w5 (fun e => by rw [e] at w6; cases w6) w7 rfl hd K'
/-- whether an object of class c is one of class C: 1, 0 -/
def mj_is (c : Nat) (C : String) : Option Bool := match mj_cl[c]? with
  | some q => if q.1 = C ∨ Cond.castable q.1 C ∈ mj_bad then some true else if (q.1, C) ∈ mj_nc then some false else none
  | none => none
theorem go_inst {idx : Nat} {o : Option Nat} {C : String} {c : Nat} {fs : List Value} {b : Bool} (hd : decode mi.2.1 pc = .ok (.instanceof idx, 3)) (hw : Cond.classLink mi.1.cls idx C ∈ mj_tbl) (hg : mj_obj h o = some (c, fs)) (hne : fs ≠ []) (hb : mj_is c C = some b) (B : Go mi d h0 (pc + 3) lv (.int (if b then 1 else 0) :: st) h pc2 lv2 st2 h2) : Go mi d h0 pc lv (va_rf o :: st) h pc2 lv2 st2 h2 := by
  cases o with
  | none => simp [mj_obj] at hg
  | some a =>
    have ha : h.1 a = .inr (.inr (c, fs)) := by
      simp only [mj_obj] at hg
      split at hg
      · next q e => cases hg; exact e
      · cases hg
    refine Go.one (fun G p e R s m args below meth cd Q cells slots H locs ls hF hX g3 g4 hR hl K => ?_) B
    have hts := hF.2.2.2.2.1
    obtain ⟨h3, hlt, hat⟩ := mj_obj_at hR ha hne
    unfold mj_is at hb
    cases hcq : mj_cl[c]? with
    | none => rw [hcq] at hb; cases hb
    | some r =>
      rw [hcq] at hb
      dsimp only at hb
      have hrec := va_recv hX.1 (mj_P1 hat) (q0 := 0) hcq rfl
      by_cases h1 : r.1 = C ∨ Cond.castable r.1 C ∈ mj_bad
      · rw [if_pos h1] at hb
        have hb' : b = true := (Option.some.inj hb).symm
        subst hb'
        rcases h1 with h1 | h1
        · refine va_instS hF.1 hF.2.1 hF.2.2.2.1 (hts _ hw) (cC := G.D.1 c) ?_ (by rw [← h1]; exact hrec) hd (K ls hl)
          rw [← h1]
          exact (hX.1.1 c _ hcq).2
        · exact va_instY hF.1 hF.2.1 hF.2.2.2.1 (hts _ hw) (hX.2.2.2.1 _ h1) hrec hd (K ls hl)
      · rw [if_neg h1] at hb
        by_cases h4 : (r.1, C) ∈ mj_nc
        · rw [if_pos h4] at hb
          have hb' : b = false := (Option.some.inj hb).symm
          subst hb'
          exact va_instNo hF.1 hF.2.1 hF.2.2.2.1 (hts _ hw) (hX.2.2.2.2 _ h4) hrec hd (K ls hl)
        · rw [if_neg h4] at hb; cases hb
theorem go_cpy {idx : Nat} {o : Option Nat} {sp dp n : Int32} (hd1 : 1 ≤ d) (hst : (st.map fun v => v.category).sum ≤ 8) (hd : decode mi.2.1 pc = .ok (.invokestatic idx, 3)) (hw1 : Cond.methodLink mi.1.cls idx arraycopyName ∈ mj_tbl) (hw2 : Cond.native arraycopyName ∈ mj_tbl) (hw3 : Cond.static arraycopyName ∈ mj_tbl) (hw4 : Cond.initialized "java/lang/System" ∈ mj_tbl) (hg : cpy h o sp dp n = some h1) (B : Go mi d h0 (pc + 3) lv st h1 pc2 lv2 st2 h2) : Go mi d h0 pc lv (.int n :: .int dp :: va_rf o :: .int sp :: va_rf o :: st) h pc2 lv2 st2 h2 := by
  unfold cpy at hg
  obtain ⟨⟨t, N, f⟩, hq, hk⟩ := Option.bind_eq_some_iff.mp hg
  dsimp only at hk
  by_cases hc : t = 0 ∧ 3 ≤ o.getD 0 ∧ 0 ≤ sp ∧ 0 ≤ dp ∧ 0 ≤ n ∧ sp.toNatClampNeg + n.toNatClampNeg ≤ N ∧ dp.toNatClampNeg + n.toNatClampNeg ≤ N
  · rw [if_pos hc] at hk
    obtain ⟨rfl, h3, c1, c2, c3, c4, c5⟩ := hc
    obtain ⟨a, rfl, ha⟩ := mj_arr_spec hq
    have h3 : 3 ≤ a := h3
    have hh1 : h1 = mj_up h a (.inl (0, N, va_cpy f f sp.toNatClampNeg dp.toNatClampNeg n.toNatClampNeg)) := (Option.some.inj hk).symm
    refine Go.wr (by rw [hh1]; rfl) (fun G p e R s m args below meth cd Q cells slots H locs ls hF hX g3 g4 hR hl K => ?_) B
    have hts := hF.2.2.2.2.1
    have nn : ∀ z : Int32, 0 ≤ z → z.toInt = (z.toNatClampNeg : Int) := by
      intro z hz
      have hz0 : (0 : Int) ≤ z.toInt := by simpa using Int32.le_iff_toInt_le.mp hz
      show z.toInt = ((z.toInt.toNat : Nat) : Int)
      omega
    have hno : ∀ z : Int32, 0 ≤ z → ¬ z < 0 := fun z hz => Int32.not_lt.mpr hz
    obtain ⟨hlt, hcl⟩ := mj_arr_at hR ha h3
    obtain ⟨-, k0, hk0, cm0, hkk0⟩ := (hX.1.2 0 _ (mj_tys_at G (by decide))).1 N (fun j => .int (f j))
    intro T hT X
    obtain ⟨vm', X', step⟩ := X.arraycopy hF.1 hF.2.2.2.1 (hts _ hw1) (hts _ hw2) (hts _ hw3) (hts _ hw4) (src := G.ad a) (dst := G.ad a) (cs := vp_cell (G.cA 0) (N, .inl f)) (cd := vp_cell (G.cA 0) (N, .inl f)) (srcPos := sp) (destPos := dp) (n := n) (by rw [hT]; exact hcl) (by rw [hT]; exact hcl)
      (fun _ h => by cases h) (fun _ h => by cases h) (fun h => by cases h) (fun h => by cases h) hk0 hk0 hkk0 hkk0 (by simp [mj_aty, refKind]) (hno _ c1) (hno _ c2) (hno _ c3)
      (by rw [nn sp c1, nn n c3]; show ¬ _ > ((arrV (G.cA 0) N (fun j => .int (f j))).slots.size : Int); rw [arrV_size]; omega)
      (by rw [nn dp c2, nn n c3]; show ¬ _ > ((arrV (G.cA 0) N (fun j => .int (f j))).slots.size : Int); rw [arrV_size]; omega)
      (fun vm₁ _ i hi => by
        have e : (vp_cell (G.cA 0) (N, .inl f)).slots.getD (sp.toNatClampNeg + i) .null = .int (f (sp.toNatClampNeg + i)) := by
          show (arrV (G.cA 0) N (fun j => .int (f j))).slots.getD _ _ = _
          rw [Array.getD_eq_getD_getElem?, arrV_read _ _ (by omega)]
          rfl
        refine ⟨?_, ?_⟩
        · rw [e]
          rfl
        · rw [e]
          exact trivial)
      (g := F0 m pc ls (.int n :: .int dp :: .ref (G.ad a) :: .int sp :: .ref (G.ad a) :: st.map (mj_v G.ad))) rfl (by rw [hF.2.2.1]; exact hl.1) (rest := st.map (mj_v G.ad)) rfl (by rw [hF.2.1]; exact hd) (Nat.le_trans hd1 g4) (by
        have e5 : ((st.map (mj_v G.ad)).map fun v => v.category).sum = (st.map fun v => v.category).sum := by
          rw [List.map_map]
          congr 1
          exact List.map_congr_left fun v _ => mj_cat G.ad v
        show 2 * 0 + _ + _ ≤ _
        rw [e5]
        have e6 : nativeFrameWords "java/lang/System" "arraycopy" 5 + 11 ≤ 20 := by decide
        omega)
    have e1 : copied (vp_cell (G.cA 0) (N, .inl f)) (vp_cell (G.cA 0) (N, .inl f)) sp dp n = vp_cell (G.cA 0) (N, .inl (va_cpy f f sp.toNatClampNeg dp.toNatClampNeg n.toNatClampNeg)) := va_copied (fun z => .int z) (G.cA 0) (G.cA 0) f f c4
    rw [e1] at X' step
    have hsz : G.ad a < H.size := (Array.getElem?_eq_some_iff.mp hcl).1
    have hheap : ((T.setVm vm').setCell (G.ad a) (vp_cell (G.cA 0) (N, .inl (va_cpy f f sp.toNatClampNeg dp.toNatClampNeg n.toNatClampNeg)))).heap = H.setIfInBounds (G.ad a) (vp_cell (G.cA 0) (N, .inl (va_cpy f f sp.toNatClampNeg dp.toNatClampNeg n.toNatClampNeg))) := by rw [← hT]; rfl
    have oq : ∀ q : Nat, q ≠ G.ad a → (H.setIfInBounds (G.ad a) (vp_cell (G.cA 0) (N, .inl (va_cpy f f sp.toNatClampNeg dp.toNatClampNeg n.toNatClampNeg))))[q]? = H[q]? := fun q hq => by simp [Array.getElem?_setIfInBounds, Ne.symm hq]
    have hR1 := hR.put (c := .inl (0, N, va_cpy f f sp.toNatClampNeg dp.toNatClampNeg n.toNatClampNeg)) (locs1 := ((vp_cell (G.cA 0) (N, .inl f)).stretch sp.toNatClampNeg n.toNatClampNeg).zipIdx.map fun (q : Value × Nat) => (⟨G.ad a, dp.toNatClampNeg + q.2⟩ : Loc)) hX h3 hlt (show (H.setIfInBounds (G.ad a) _)[G.ad a]? = some _ by simp [Array.getElem?_setIfInBounds, hsz, mj_e]) (by simp) oq (fun q hq => by obtain ⟨z, -, rfl⟩ := List.mem_map.mp hq; rfl)
    rw [← hh1] at hR1
    obtain ⟨t, a1, b1⟩ := K _ _ hR1 _ hheap X'
    exact ⟨t, step t a1, b1⟩
  · rw [if_neg hc] at hk; cases hk
end GO4
end
section
/-! ===== a method's contract, and how it is called ===== -/
theorem mj_Fx.move {G : CX} {s U : State} (hW : s.WarmedH U.vm) (h : mj_Fx G s) : mj_Fx G U :=
  ⟨va_K.moved hW.alike h.1, h.2.1, h.2.2.1, fun w hw => mj_keep hW (List.mem_filter.mp hw).2 (h.2.2.2.1 w hw), fun q hq => (h.2.2.2.2 q hq).moved hW.alike⟩
theorem mj_Rep.move {G : CX} {s U : State} {h : MH} {H : Heap} {locs locs1 : List Loc} (hA : s.vm.Alike U.vm) (hR : mj_Rep G s h H locs) (hq : ∀ q, q < G.base → H[q]? = U.heap[q]?) (hb : G.base ≤ U.heap.size) (hL : ∀ q ∈ locs1, G.base ≤ q.base) : mj_Rep G U h H locs1 := by
  obtain ⟨r1, r2, r3, r4, r5, r6, r7, r8, r9⟩ := hR
  refine ⟨r1, r2, r3, r4, fun i hi => ?_, fun i hi => (r6 i hi).moved hA, hq, hb, hL⟩
  obtain ⟨n, f, e1, e2⟩ := r5 i hi
  exact ⟨n, f, e1, e2.moved hA⟩
def mj_Pc (G : CX) (av : List Value) (h : MH) : Array Value → State → Prop := fun a U => a = (av.map (mj_v G.ad)).toArray ∧ mj_Fx G U ∧ mj_Rep G U h U.heap []
def mj_Qc (G : CX) (r : Option Value) (h1 : MH) : Array Value → State → Outcome → State → Prop := fun _ st o t => o = .returned (r.map (mj_v G.ad)) ∧ mj_Rep G t h1 t.heap [] ∧ ∀ q, q < G.base → t.heap[q]? = st.heap[q]?
def mj_ws (mi : MI) : List Cond := Cond.code mi.1 mi.2.1 mi.2.2.1 mi.2.2.2 :: mj_tbl
/-- method mi, called with av on the heap h, returns r, and the heap is h1 -/
def Mt (mi : MI) (d : Nat) (av : List Value) (h : MH) (r : Option Value) (h1 : MH) : Prop :=
  h.2.1 ≤ h1.2.1 ∧ h.2.2 ≤ h1.2.2 ∧ ∀ G : CX, Met G.l mi.1 (mj_ws mi) { frames := d, cells := h1.2.1 - h.2.1, slots := h1.2.2 - h.2.2, locals := 64 * d } (mj_Pc G av h) (mj_Qc G r h1) (h1.2.1 - h.2.1) (h1.2.2 - h.2.2) (fun q => G.base ≤ q)
theorem mj_rfc (o : Option Nat) : (va_rf o).category = 1 := by cases o <;> rfl
theorem mj_sl (ad : Nat → Nat) (av : List Value) : (lg_sl (av.map (mj_v ad))).length = (av.map Value.category).sum := by
  induction av with
  | nil => rfl
  | cons v vs ih =>
    have e : lg_sl ((v :: vs).map (mj_v ad)) = (if v.category = 2 then [.val (mj_v ad v), .second] else [.val (mj_v ad v)]) ++ lg_sl (vs.map (mj_v ad)) := by
      simp [lg_sl, mj_cat]
    rw [e, List.length_append, ih, List.map_cons, List.sum_cons]
    rcases lv_cat v with h | h <;> simp [h]
theorem mj_largs (ad : Nat → Nat) (av : List Value) : ∀ i, lv_args i (av.map (mj_v ad)) = mj_l ad (lv_args i av) := by
  induction av with
  | nil => intro i; rfl
  | cons v vs ih =>
    intro i
    show (i, mj_v ad v) :: lv_args (if (mj_v ad v).category = 2 then i + 2 else i + 1) (vs.map (mj_v ad)) = (i, mj_v ad v) :: mj_l ad (lv_args _ vs)
    rw [ih, mj_cat]
theorem mj_endQ {G : CX} {s t : State} {h1 : MH} {H : Heap} {locs : List Loc} {args : Array Value} {r : Option Value} (hR : mj_Rep G s h1 H locs) (ht : t.heap = H) (hW : s.WarmedH t.vm) : mj_Qc G r h1 args s (.returned (r.map (mj_v G.ad))) t := by
  refine ⟨rfl, ?_, ?_⟩
  · rw [ht]
    refine hR.move hW.alike (fun q _ => by rw [ht]) ?_ (fun _ h => by cases h)
    rw [ht]
    have h1 := hR.1
    have h2 := hR.2.1
    omega
  · intro q hq
    rw [ht]
    exact hR.2.2.2.2.2.2.1 q hq
/-- from the walk of its body to its contract; 'fin' is what its return does -/
theorem Mt.of {mi : MI} {d : Nat} {av : List Value} {h h1 : MH} {r : Option Value} {lv lv1 : List (Nat × Value)} {pc1 : Nat} (hy : plainName mi.1.cls = true) (hlv : lv_args 0 av = lv) (hn : (av.map Value.category).sum ≤ mi.2.2.1)
    (A : Go mi d h 0 lv [] h pc1 lv1 r.toList h1)
    (fin : ∀ (G : CX) (p : Program) (e : Env) (R : Room) (s : State) (m : MethodId) (args : Array Value) (below : List Frame) (meth : Method) (c : Code) (cells slots : Nat) (H : Heap) (locs : List Loc) (ls : Array Slot) (Qc : Array Value → State → Outcome → State → Prop), mj_Fr mi p s m args meth c → (∀ t : State, t.heap = H → s.WarmedH t.vm → Qc args s (.returned (r.map (mj_v G.ad))) t) → (∀ q ∈ locs, G.base ≤ q.base) →
      W p G.l e R s m args below meth c H locs cells slots (MQ below Qc args s cells slots (fun q => G.base ≤ q)) (F0 m pc1 ls (r.toList.map (mj_v G.ad)))) : Mt mi d av h r h1 := by
  obtain ⟨a1, a2, a3⟩ := A
  refine ⟨a1, a2, fun G => Met.ofW (cc := mi.2.1) (maxL := mi.2.2.1) (ret := mi.2.2.2) (ws' := mj_tbl) hy rfl ?_⟩
  intro p e s m args below meth c s₁ B hml hv
  obtain ⟨rfl, hX, hR⟩ := hv
  have hts : ∀ w ∈ mj_tbl, w.before (av.map (mj_v G.ad)).toArray s = true := fun w hw => atoms_spec (ws := mj_ws mi) B.pre w (List.mem_cons_of_mem _ hw)
  have hF : mj_Fr mi p s m (av.map (mj_v G.ad)).toArray meth c := ⟨B.exec, B.bytes, hml, findClass_of_methodNamed B.named, hts, (name_of_methodNamed B.named B.method).1, B.returns, B.notSynchronized⟩
  have hl := lv_entry (av.map (mj_v G.ad)) (n := mi.2.2.1) (by rw [mj_sl]; exact hn)
  rw [lg_entry_eq]
  generalize (lg_sl (av.map (mj_v G.ad)) ++ List.replicate (mi.2.2.1 - (lg_sl (av.map (mj_v G.ad))).length) Slot.unset).toArray = ls at hl ⊢
  rw [mj_largs, hlv] at hl
  have K := a3 G p e { frames := d, cells := h1.2.1 - h.2.1, slots := h1.2.2 - h.2.2, locals := 64 * d } s m (av.map (mj_v G.ad)).toArray below meth c (MQ below (mj_Qc G r h1) (av.map (mj_v G.ad)).toArray s (h1.2.1 - h.2.1) (h1.2.2 - h.2.2) (fun q => G.base ≤ q)) hF hX (Nat.le_refl _) (Nat.le_refl _) (Nat.le_refl _) (Nat.le_refl _) (Nat.le_refl _) (Nat.le_refl _)
    (fun H locs ls hR1 _ => fin G p e _ s m _ below meth c _ _ H locs ls (mj_Qc G r h1) hF (fun t ht hW => mj_endQ hR1 ht hW) hR1.2.2.2.2.2.2.2.2) s.heap [] ls hR hl
  rw [Nat.sub_self, Nat.sub_self] at K
  exact K
theorem Mt.ofi {mi : MI} {d : Nat} {av : List Value} {h h1 : MH} {v : Int32} {lv lv1 : List (Nat × Value)} {pc1 : Nat} {ty : FieldType} (hy : plainName mi.1.cls = true) (hlv : lv_args 0 av = lv) (hn : (av.map Value.category).sum ≤ mi.2.2.1) (hr : mi.2.2.2 = some ty) (hnr : narrow ty (.int v) = .int v) (hd : decode mi.2.1 pc1 = .ok (.ireturn, 1))
    (A : Go mi d h 0 lv [] h pc1 lv1 [.int v] h1) : Mt mi d av h (some (.int v)) h1 :=
  Mt.of (r := some (.int v)) hy hlv hn A (fun G p e R s m args below meth c cells slots H locs ls Qc hF hq hf => W.zret hF.1 hF.2.1 (hF.2.2.2.2.2.2.1.trans hr) hnr hq hf hd hF.2.2.2.2.2.2.2)
theorem Mt.ofl {mi : MI} {d : Nat} {av : List Value} {h h1 : MH} {v : Int64} {lv lv1 : List (Nat × Value)} {pc1 : Nat} (hy : plainName mi.1.cls = true) (hlv : lv_args 0 av = lv) (hn : (av.map Value.category).sum ≤ mi.2.2.1) (hr : mi.2.2.2 = some .long) (hd : decode mi.2.1 pc1 = .ok (.lreturn, 1))
    (A : Go mi d h 0 lv [] h pc1 lv1 [.long v] h1) : Mt mi d av h (some (.long v)) h1 :=
  Mt.of (r := some (.long v)) hy hlv hn A (fun G p e R s m args below meth c cells slots H locs ls Qc hF hq hf => W.lret hF.1 hF.2.1 (hF.2.2.2.2.2.2.1.trans hr) hq hf hd hF.2.2.2.2.2.2.2)
theorem Mt.ofv {mi : MI} {d : Nat} {av : List Value} {h h1 : MH} {lv lv1 : List (Nat × Value)} {pc1 : Nat} (hy : plainName mi.1.cls = true) (hlv : lv_args 0 av = lv) (hn : (av.map Value.category).sum ≤ mi.2.2.1) (hr : mi.2.2.2 = none) (hd : decode mi.2.1 pc1 = .ok (.return_, 1))
    (A : Go mi d h 0 lv [] h pc1 lv1 [] h1) : Mt mi d av h none h1 :=
  Mt.of (r := none) hy hlv hn A (fun G p e R s m args below meth c cells slots H locs ls Qc hF hq hf => W.vret hF.1 hF.2.1 (hF.2.2.2.2.2.2.1.trans hr) hq hf hd hF.2.2.2.2.2.2.2)
theorem Mt.ofr {mi : MI} {d : Nat} {av : List Value} {h h1 : MH} {o : Option Nat} {lv lv1 : List (Nat × Value)} {pc1 : Nat} {nm : String} (hy : plainName mi.1.cls = true) (hlv : lv_args 0 av = lv) (hn : (av.map Value.category).sum ≤ mi.2.2.1) (hr : mi.2.2.2 = some (.object nm)) (hd : decode mi.2.1 pc1 = .ok (.areturn, 1))
    (A : Go mi d h 0 lv [] h pc1 lv1 [va_rf o] h1) : Mt mi d av h (some (va_rf o)) h1 :=
  Mt.of (r := some (va_rf o)) hy hlv hn A (fun G p e R s m args below meth c cells slots H locs ls Qc hF hq hf => by
    have e1 : (some (va_rf o)).toList.map (mj_v G.ad) = [va_rf (o.map G.ad)] := by simp [mj_vrf]
    have e2 : (some (va_rf o)).map (mj_v G.ad) = some (va_rf (o.map G.ad)) := by simp [mj_vrf]
    rw [e1]
    rw [e2] at hq
    exact W.aret hF.1 hF.2.1 (hF.2.2.2.2.2.2.1.trans hr) (Or.inl ⟨nm, rfl⟩) (by cases o with | none => exact Or.inl rfl | some a => exact Or.inr ⟨_, rfl⟩) hq hf hd hF.2.2.2.2.2.2.2)
/-! ===== calls ===== -/
/-- what every call of method mi asks of the tables; n: its arguments -/
def mj_M (mi : MI) (n : Nat) : Prop := Cond.code mi.1 mi.2.1 mi.2.2.1 mi.2.2.2 ∈ mj_tbl ∧ Cond.initialized mi.1.cls ∈ mj_tbl ∧ (mi.1.cls ≠ "java/lang/invoke/MethodHandle" ∧ mi.1.cls ≠ "java/lang/invoke/VarHandle") ∧ (parseMethodDescriptor mi.1.desc).map (fun d => d.parameters.length) = some n ∧ mi.2.2.1 ≤ 40
theorem mj_wsIn {mi : MI} {n : Nat} (h : mj_M mi n) : GoodIn mj_tbl (mj_ws mi) := fun w hw => by
  rcases List.mem_cons.mp hw with rfl | hw
  · exact mj_tblIn _ h.1
  · exact mj_tblIn _ hw
theorem mj_blind (G : CX) (av : List Value) (h : MH) : FrameBlind (mj_Pc G av h) := by
  intro a U g mk q
  obtain ⟨h1, h2, h3⟩ := q
  exact ⟨h1, mj_Fx.move (s := U) (U := U.calling g mk a) (State.WarmedH.refl U) h2, mj_Rep.move (s := U) (U := U.calling g mk a) (Vm.Alike.refl U.vm) h3 (fun q _ => rfl) h3.2.2.2.2.2.2.2.1 (fun _ h => by cases h)⟩
theorem mj_start {G : CX} {s U : State} {h : MH} {H : Heap} {locs : List Loc} (hX : mj_Fx G s) (hR : mj_Rep G s h H locs) (hU : U.heap = H) (hW : s.WarmedH U.vm) (av : List Value) : mj_Pc G av h (av.map (mj_v G.ad)).toArray U := by
  refine ⟨rfl, hX.move hW, ?_⟩
  rw [hU]
  refine hR.move hW.alike (fun q _ => by rw [hU]) ?_ (fun _ h => by cases h)
  rw [hU]
  have h1 := hR.1
  have h2 := hR.2.1
  omega
section GO5
variable {mi mi2 : MI} {d d2 : Nat} {h0 : MH} {pc pc1 pc2 : Nat} {lv lv2 : List (Nat × Value)} {st st1 st2 : List Value} {h h1 h2 : MH} {r : Option Value}
/-- behind a call -/
theorem mj_back {G : CX} {p : Program} {e : Env} {R : Room} {s : State} {m : MethodId} {args : Array Value} {below : List Frame} {meth : Method} {c : Code} {Q : State → Prop} {H : Heap} {locs : List Loc} {cells slots mc ms : Nat} {ls : Array Slot} {st0 rest : List Value} {a : Array Value} {pc : Nat}
    (hr : va_Run p G.l e R s m args below meth c H locs cells slots mc ms (F0 m pc ls st0) rest (mj_Qc G r h1 a) (fun q => G.base ≤ q)) (hR : mj_Rep G s h H locs)
    (kk : ∀ (H1 : Heap) (locs1 : List Loc), mj_Rep G s h1 H1 locs1 → W p G.l e R s m args below meth c H1 locs1 (cells + mc) (slots + ms) Q (F0 m (pc + 3) ls ((r.map (mj_v G.ad)).toList ++ rest))) : W p G.l e R s m args below meth c H locs cells slots Q (F0 m pc ls st0) := by
  intro T hT X
  obtain ⟨v, st₀, t, T', L, e0, X', hL, e1, e2, ⟨hv, hR1, hq⟩, st⟩ := hr T hT X
  cases hv
  have hA : t.vm.Alike s.vm := by rw [← e2]; exact X'.warmed.alike.symm
  have hR2 : mj_Rep G s h1 T'.heap (locs ++ L) := by
    rw [e1]
    refine hR1.move hA (fun q hq1 => ?_) hR.2.2.2.2.2.2.2.1 (fun q hq1 => ?_)
    · rw [hq q hq1, e0]
      exact hR.2.2.2.2.2.2.1 q hq1
    · rcases List.mem_append.mp hq1 with h | h
      · exact hR.2.2.2.2.2.2.2.2 q h
      · exact hL q h
  obtain ⟨t2, a1, b1⟩ := kk T'.heap (locs ++ L) hR2 T' rfl X'
  exact ⟨t2, st t2 a1, b1⟩
/-- a call, in general: how it runs is the rows' business -/
theorem Go.call {av : List Value} (hM : Mt mi2 d2 av h r h1) (hd2 : d2 + 1 ≤ d)
    (A : ∀ (G : CX) (p : Program) (e : Env) (R : Room) (s : State) (m : MethodId) (args : Array Value) (below : List Frame) (meth : Method) (c : Code) (cells slots : Nat) (H : Heap) (locs : List Loc) (ls : Array Slot),
      mj_Fr mi p s m args meth c → mj_Fx G s → d ≤ R.frames → 64 * d ≤ R.locals → cells + (h1.2.1 - h.2.1) ≤ R.cells ∧ slots + (h1.2.2 - h.2.2) ≤ R.slots → mj_Rep G s h H locs → lv_has ls mi.2.2.1 (mj_l G.ad lv) →
      va_Run p G.l e R s m args below meth c H locs cells slots (h1.2.1 - h.2.1) (h1.2.2 - h.2.2) (F0 m pc ls (st1.map (mj_v G.ad))) (st.map (mj_v G.ad)) (mj_Qc G r h1 (av.map (mj_v G.ad)).toArray) (fun q => G.base ≤ q))
    (B : Go mi d h0 (pc + 3) lv (r.toList ++ st) h1 pc2 lv2 st2 h2) : Go mi d h0 pc lv st1 h pc2 lv2 st2 h2 := by
  obtain ⟨b1, b2, b3⟩ := B
  obtain ⟨m1, m2, -⟩ := hM
  refine ⟨Nat.le_trans m1 b1, Nat.le_trans m2 b2, fun G p e R s m args below meth c Q hF hX g1 g2 g3 g4 g5 g6 hQ H locs ls hR hl => ?_⟩
  refine mj_back (A G p e R s m args below meth c _ _ H locs ls hF hX g3 g4 (by omega) hR hl) hR (fun H1 locs1 hR1 => ?_)
  have K := b3 G p e R s m args below meth c Q hF hX (Nat.le_trans g1 m1) (Nat.le_trans g2 m2) g3 g4 g5 g6 hQ H1 locs1 ls hR1 hl
  have e1 : h.2.1 - h0.2.1 + (h1.2.1 - h.2.1) = h1.2.1 - h0.2.1 := by omega
  have e2 : h.2.2 - h0.2.2 + (h1.2.2 - h.2.2) = h1.2.2 - h0.2.2 := by omega
  rw [e1, e2]
  have e3 : (r.map (mj_v G.ad)).toList ++ st.map (mj_v G.ad) = (r.toList ++ st).map (mj_v G.ad) := by cases r <;> rfl
  rw [e3]
  exact K
theorem mj_rm {hd2 : d2 + 1 ≤ d} {n : Nat} (hm : mj_M mi2 n) {R : Room} (g3 : d ≤ R.frames) (g4 : 64 * d ≤ R.locals) : d2 + 1 ≤ R.frames ∧ 8 + (mi2.2.2.1 + 11) + 64 * d2 ≤ R.locals := by
  have h1 := hm.2.2.2.2
  have h2 : 64 * (d2 + 1) ≤ 64 * d := Nat.mul_le_mul_left 64 hd2
  omega
theorem mj_rest {ad : Nat → Nat} {st : List Value} {m : MethodId} {pc : Nat} {ls : Array Slot} {st0 : List Value} (hst : st.length ≤ 4) : 2 * (F0 m pc ls st0).monitorRoom + ((st.map (mj_v ad)).map fun v => v.category).sum ≤ 8 := by
  refine lv_room ?_
  have key : ∀ (l : List Value), (l.map fun v => v.category).sum ≤ 2 * l.length := by
    intro l
    induction l with
    | nil => exact Nat.le_refl _
    | cons v t ih =>
      rw [List.map_cons, List.sum_cons, List.length_cons]
      rcases lv_cat v with h | h <;> omega
  have := key (st.map (mj_v ad))
  rw [List.length_map] at this
  omega
theorem mj_rev {ad : Nat → Nat} (As st : List Value) : (As.reverse ++ st).map (mj_v ad) = (As.map (mj_v ad)).reverse ++ st.map (mj_v ad) := by
  rw [List.map_append, List.map_reverse]
/-- a static method, of any class -/
theorem go_callS {idx n : Nat} (As : List Value) (hM : Mt mi2 d2 As h r h1) (hm : mj_M mi2 n) (hd2 : d2 + 1 ≤ d) (hd : decode mi.2.1 pc = .ok (.invokestatic idx, 3)) (hl : Cond.methodLink mi.1.cls idx mi2.1 ∈ mj_tbl) (hs : Cond.static mi2.1 ∈ mj_tbl) (hn : As.length = n) (hst : st.length ≤ 4) (hstk : As.reverse ++ st = st1)
    (B : Go mi d h0 (pc + 3) lv (r.toList ++ st) h1 pc2 lv2 st2 h2) : Go mi d h0 pc lv st1 h pc2 lv2 st2 h2 := by
  subst hstk
  refine Go.call hM hd2 (fun G p e R s m args below meth c cells slots H locs ls hF hX g3 g4 g5 hR hlv => ?_) B
  have hts := hF.2.2.2.2.1
  have rm := mj_rm (hd2 := hd2) hm g3 g4
  refine va_runS (As := As.map (mj_v G.ad)) (Ts := mj_tbl) ⟨hF.1, hF.2.1, hF.2.2.1, hF.2.2.2.1, hts⟩ (hM.2.2 G) ⟨callB_of n hts (mj_wsIn hm) rfl rfl rfl (hts _ hm.2.1) (hts _ hl) ⟨hm.2.2.1.1, hm.2.2.1.2, hm.2.2.2.1⟩ rm, hts _ hs⟩ ⟨mj_blind G As h, fun U hU hW => mj_start hX hR hU hW As⟩ rfl (by rw [List.length_map]; exact hn) hlv.1 (mj_rev As st) (mj_rest hst) hd g5
/-- a static method of a nest mate, that is private there -/
theorem go_callSN {idx n : Nat} {host : String} (As : List Value) (hM : Mt mi2 d2 As h r h1) (hm : mj_M mi2 n) (hd2 : d2 + 1 ≤ d) (hd : decode mi.2.1 pc = .ok (.invokestatic idx, 3)) (hl : Cond.methodLinkNest mi.1.cls idx mi2.1 host ∈ mj_bad) (hs : Cond.static mi2.1 ∈ mj_tbl) (hn : As.length = n) (hst : st.length ≤ 4) (hstk : As.reverse ++ st = st1)
    (B : Go mi d h0 (pc + 3) lv (r.toList ++ st) h1 pc2 lv2 st2 h2) : Go mi d h0 pc lv st1 h pc2 lv2 st2 h2 := by
  subst hstk
  refine Go.call hM hd2 (fun G p e R s m args below meth c cells slots H locs ls hF hX g3 g4 g5 hR hlv => ?_) B
  have hts := hF.2.2.2.2.1
  have rm := mj_rm (hd2 := hd2) hm g3 g4
  refine va_runSN (As := As.map (mj_v G.ad)) (Ts := mj_tbl) ⟨hF.1, hF.2.1, hF.2.2.1, hF.2.2.2.1, hts⟩ (hM.2.2 G) ⟨va_cnB n hts (mj_wsIn hm) rfl rfl rfl (hX.2.2.2.1 _ hl) (hts _ hm.2.1) ⟨hm.2.2.1.1, hm.2.2.1.2, hm.2.2.2.1⟩ rm, hts _ hs, trivial⟩ ⟨mj_blind G As h, fun U hU hW => mj_start hX hR hU hW As⟩ rfl (by rw [List.length_map]; exact hn) hlv.1 (mj_rev As st) (mj_rest hst) hd g5
theorem mj_objS {o : Option Nat} {c : Nat} {fs : List Value} (hg : mj_obj h o = some (c, fs)) : ∃ a, o = some a ∧ h.1 a = .inr (.inr (c, fs)) := by
  cases o with
  | none => simp [mj_obj] at hg
  | some a =>
    simp only [mj_obj] at hg
    split at hg
    · next q e => cases hg; exact ⟨a, rfl, e⟩
    · cases hg
/-- the class of the object at o -/
def cls (h : MH) (o : Option Nat) : Option Nat := (mj_obj h o).bind fun q => if q.2 = [] then none else some q.1
theorem cls_spec {o : Option Nat} {c : Nat} (hg : cls h o = some c) : ∃ fs, mj_obj h o = some (c, fs) ∧ fs ≠ [] := by
  unfold cls at hg
  obtain ⟨⟨c', fs⟩, h1, h2⟩ := Option.bind_eq_some_iff.mp hg
  by_cases hf : fs = []
  · rw [if_pos hf] at h2; cases h2
  · rw [if_neg hf] at h2
    cases h2
    exact ⟨fs, h1, hf⟩
/-- an instance method that the receiver's class itself has -/
theorem go_callV {idx n ci : Nat} {o : Option Nat} {q : vw_C} (As : List Value) (hM : Mt mi2 d2 (va_rf o :: As) h r h1) (hm : mj_M mi2 n) (hd2 : d2 + 1 ≤ d) (hd : decode mi.2.1 pc = .ok (.invokevirtual idx, 3)) (hg : cls h o = some ci) (hq : mj_cl[ci]? = some q) (hqc : q.1 = mi2.1.cls) (hl : Cond.methodLink mi.1.cls idx mi2.1 ∈ mj_tbl) (hi : Cond.instanceMethod mi2.1 ∈ mj_tbl) (hs : Cond.selects mi2.1.cls mi2.1 mi2.1 ∈ mj_tbl) (hn : As.length = n) (hst : st.length ≤ 4) (hstk : As.reverse ++ va_rf o :: st = st1)
    (B : Go mi d h0 (pc + 3) lv (r.toList ++ st) h1 pc2 lv2 st2 h2) : Go mi d h0 pc lv st1 h pc2 lv2 st2 h2 := by
  subst hstk
  obtain ⟨fs, hob, hne⟩ := cls_spec hg
  obtain ⟨a, rfl, ha⟩ := mj_objS hob
  refine Go.call hM hd2 (fun G p e R s m args below meth c cells slots H locs ls hF hX g3 g4 g5 hR hlv => ?_) B
  have hts := hF.2.2.2.2.1
  have rm := mj_rm (hd2 := hd2) hm g3 g4
  obtain ⟨h3, hlt, hat⟩ := mj_obj_at hR ha hne
  have hrec := va_recv hX.1 (mj_P1 hat) (q0 := 0) hq rfl
  rw [hqc] at hrec
  refine va_runV (As := As.map (mj_v G.ad)) (b := G.ad a) (Ts := mj_tbl) ⟨hF.1, hF.2.1, hF.2.2.1, hF.2.2.2.1, hts⟩ (hM.2.2 G) ⟨callB_of n hts (mj_wsIn hm) rfl rfl rfl (hts _ hm.2.1) (hts _ hl) ⟨hm.2.2.1.1, hm.2.2.1.2, hm.2.2.2.1⟩ rm, hts _ hi, hts _ hs⟩ ⟨mj_blind G _ h, hrec, fun U hU hW => mj_start hX hR hU hW (va_rf (some a) :: As)⟩ rfl (by rw [List.length_map]; exact hn) hlv.1 (mj_rev As (va_rf (some a) :: st)) (mj_rest hst) hd g5
/-- a method that the reference names as x, and the receiver's class selects as mi2's -/
theorem go_callU {idx n ci : Nat} {o : Option Nat} {q : vw_C} {x : MethodName} {owner : String} (As : List Value) (hM : Mt mi2 d2 (va_rf o :: As) h r h1) (hm : mj_M mi2 n) (hd2 : d2 + 1 ≤ d) (hd : decode mi.2.1 pc = .ok (.invokevirtual idx, 3)) (hg : cls h o = some ci) (hq : mj_cl[ci]? = some q) (hl : Cond.methodLink mi.1.cls idx x ∈ mj_tbl) (hsm : Cond.sameMethod x.cls owner x.name x.desc ∈ mj_tbl)
    (hde : (∃ (b0 : ByteArray) (m0 : Nat) (r0 : Option FieldType), Cond.instanceMethod ⟨owner, x.name, x.desc⟩ ∈ mj_tbl ∧ Cond.code ⟨owner, x.name, x.desc⟩ b0 m0 r0 ∈ mj_tbl) ∨ Cond.declares ⟨owner, x.name, x.desc⟩ ∈ mj_bad)
    (how : (owner ≠ "java/lang/invoke/MethodHandle" ∧ owner ≠ "java/lang/invoke/VarHandle") ∧ (parseMethodDescriptor x.desc).map (fun d => d.parameters.length) = some n)
    (hs : Cond.selects q.1 x mi2.1 ∈ mj_tbl) (hi : Cond.instanceMethod mi2.1 ∈ mj_tbl) (hn : As.length = n) (hst : st.length ≤ 4) (hstk : As.reverse ++ va_rf o :: st = st1)
    (B : Go mi d h0 (pc + 3) lv (r.toList ++ st) h1 pc2 lv2 st2 h2) : Go mi d h0 pc lv st1 h pc2 lv2 st2 h2 := by
  subst hstk
  obtain ⟨fs, hob, hne⟩ := cls_spec hg
  obtain ⟨a, rfl, ha⟩ := mj_objS hob
  refine Go.call hM hd2 (fun G p e R s m args below meth c cells slots H locs ls hF hX g3 g4 g5 hR hlv => ?_) B
  have hts := hF.2.2.2.2.1
  have rm := mj_rm (hd2 := hd2) hm g3 g4
  obtain ⟨h3, hlt, hat⟩ := mj_obj_at hR ha hne
  have hrec := va_recv hX.1 (mj_P1 hat) (q0 := 0) hq rfl
  have hdecl : va_Decl s ⟨owner, x.name, x.desc⟩ := by
    rcases hde with ⟨b0, m0, r0, k1, k2⟩ | k
    · exact va_Decl.of (hts _ k1) (hts _ k2)
    · exact va_Decl.abs (hX.2.2.2.1 _ k)
  refine va_runU (n := n) (As := As.map (mj_v G.ad)) (b := G.ad a) (C := q.1) (owner := owner) (x := x) (Ts := mj_tbl) ⟨hF.1, hF.2.1, hF.2.2.1, hF.2.2.2.1, hts⟩ (hM.2.2 G) ⟨⟨rfl, rfl, rm.1, rm.2, pay_in hts (mj_wsIn hm), List.mem_cons_self⟩, hts _ hm.1, hts _ hm.2.1, how.1, fun sig h => ?_, hts _ hl, hts _ hsm, hdecl, hts _ hs, hts _ hi⟩ ⟨mj_blind G _ h, hrec, fun U hU hW => mj_start hX hR hU hW (va_rf (some a) :: As)⟩ rfl (by rw [List.length_map]; exact hn) hlv.1 (mj_rev As (va_rf (some a) :: st)) (mj_rest hst) hd g5
  have h2 := how.2
  rw [h] at h2
  exact (Option.some.inj h2).symm
/-- super.m(..) -/
theorem go_callSU {idx n ci : Nat} {o : Option Nat} {q : vw_C} (As : List Value) (hM : Mt mi2 d2 (va_rf o :: As) h r h1) (hm : mj_M mi2 n) (hd2 : d2 + 1 ≤ d) (hd : decode mi.2.1 pc = .ok (.invokespecial idx, 3)) (hg : cls h o = some ci) (hq : mj_cl[ci]? = some q) (hl : Cond.methodLink mi.1.cls idx mi2.1 ∈ mj_tbl) (hsm : Cond.sameMethod mi2.1.cls mi2.1.cls mi2.1.name mi2.1.desc ∈ mj_tbl) (hsu : Cond.superclass mi.1.cls mi2.1.cls ∈ mj_tbl) (hi : Cond.instanceMethod mi2.1 ∈ mj_tbl) (hno : mi2.1.name ≠ "<init>") (hn : As.length = n) (hst : st.length ≤ 4) (hstk : As.reverse ++ va_rf o :: st = st1)
    (B : Go mi d h0 (pc + 3) lv (r.toList ++ st) h1 pc2 lv2 st2 h2) : Go mi d h0 pc lv st1 h pc2 lv2 st2 h2 := by
  subst hstk
  obtain ⟨fs, hob, hne⟩ := cls_spec hg
  obtain ⟨a, rfl, ha⟩ := mj_objS hob
  refine Go.call hM hd2 (fun G p e R s m args below meth c cells slots H locs ls hF hX g3 g4 g5 hR hlv => ?_) B
  have hts := hF.2.2.2.2.1
  have rm := mj_rm (hd2 := hd2) hm g3 g4
  obtain ⟨h3, hlt, hat⟩ := mj_obj_at hR ha hne
  have hrec := va_recv hX.1 (mj_P1 hat) (q0 := 0) hq rfl
  refine va_runSU (n := n) (C := q.1) (hX.1.1 ci _ hq).2 (As := As.map (mj_v G.ad)) (b := G.ad a) (Ts := mj_tbl) ⟨hF.1, hF.2.1, hF.2.2.1, hF.2.2.2.1, hts⟩ (hM.2.2 G) ⟨⟨rfl, rfl, rm.1, rm.2, pay_in hts (mj_wsIn hm), List.mem_cons_self⟩, hts _ hl, hts _ hsm, hts _ hsu, hts _ hi, hts _ hm.2.1, hts _ hm.1, hno, fun sig h => ?_⟩ ⟨mj_blind G _ h, hrec, fun U hU hW => mj_start hX hR hU hW (va_rf (some a) :: As)⟩ rfl (by rw [List.length_map]; exact hn) hlv.1 (mj_rev As (va_rf (some a) :: st)) (mj_rest hst) hd g5
  have h2 := hm.2.2.2.1
  rw [h] at h2
  exact (Option.some.inj h2).symm
/-- a constructor; of a nest mate, that is private there -/
theorem go_callI {idx n a : Nat} (As : List Value) (hM : Mt mi2 d2 (va_rf (some a) :: As) h none h1) (hm : mj_M mi2 n) (hret : mi2.2.2.2 = none) (hd2 : d2 + 1 ≤ d) (hd : decode mi.2.1 pc = .ok (.invokespecial idx, 3)) (hl : Cond.methodLink mi.1.cls idx mi2.1 ∈ mj_tbl) (hi : Cond.instanceMethod mi2.1 ∈ mj_tbl) (hno : mi2.1.name = "<init>") (hn : As.length = n) (hst : st.length ≤ 4) (hstk : As.reverse ++ va_rf (some a) :: st = st1)
    (B : Go mi d h0 (pc + 3) lv st h1 pc2 lv2 st2 h2) : Go mi d h0 pc lv st1 h pc2 lv2 st2 h2 := by
  subst hstk
  refine Go.call hM hd2 (fun G p e R s m args below meth c cells slots H locs ls hF hX g3 g4 g5 hR hlv => ?_) B
  have hts := hF.2.2.2.2.1
  have rm := mj_rm (hd2 := hd2) hm g3 g4
  obtain ⟨y2, cc2, nL2, ret2⟩ := mi2
  dsimp only at hret
  subst hret
  refine va_runI (As := As.map (mj_v G.ad)) (b := G.ad a) (Ts := mj_tbl) ⟨hF.1, hF.2.1, hF.2.2.1, hF.2.2.2.1, hts⟩ (hM.2.2 G) ⟨callB_of n hts (mj_wsIn hm) rfl rfl rfl (hts _ hm.2.1) (hts _ hl) ⟨hm.2.2.1.1, hm.2.2.1.2, hm.2.2.2.1⟩ rm, hno, hts _ hi⟩ ⟨mj_blind G _ h, fun U hU hW => mj_start hX hR hU hW (va_rf (some a) :: As)⟩ rfl (by rw [List.length_map]; exact hn) hlv.1 (mj_rev As (va_rf (some a) :: st)) (mj_rest hst) hd g5
theorem go_callIN {idx n a : Nat} {host : String} (As : List Value) (hM : Mt mi2 d2 (va_rf (some a) :: As) h none h1) (hm : mj_M mi2 n) (hret : mi2.2.2.2 = none) (hd2 : d2 + 1 ≤ d) (hd : decode mi.2.1 pc = .ok (.invokespecial idx, 3)) (hl : Cond.methodLinkNest mi.1.cls idx mi2.1 host ∈ mj_bad) (hi : Cond.instanceMethod mi2.1 ∈ mj_tbl) (hno : mi2.1.name = "<init>") (hn : As.length = n) (hst : st.length ≤ 4) (hstk : As.reverse ++ va_rf (some a) :: st = st1)
    (B : Go mi d h0 (pc + 3) lv st h1 pc2 lv2 st2 h2) : Go mi d h0 pc lv st1 h pc2 lv2 st2 h2 := by
  subst hstk
  refine Go.call hM hd2 (fun G p e R s m args below meth c cells slots H locs ls hF hX g3 g4 g5 hR hlv => ?_) B
  have hts := hF.2.2.2.2.1
  have rm := mj_rm (hd2 := hd2) hm g3 g4
  obtain ⟨y2, cc2, nL2, ret2⟩ := mi2
  dsimp only at hret
  subst hret
  refine va_runIN (As := As.map (mj_v G.ad)) (b := G.ad a) (Ts := mj_tbl) ⟨hF.1, hF.2.1, hF.2.2.1, hF.2.2.2.1, hts⟩ (hM.2.2 G) ⟨va_cnB n hts (mj_wsIn hm) rfl rfl rfl (hX.2.2.2.1 _ hl) (hts _ hm.2.1) ⟨hm.2.2.1.1, hm.2.2.1.2, hm.2.2.2.1⟩ rm, hno, hts _ hi⟩ ⟨mj_blind G _ h, fun U hU hW => mj_start hX hR hU hW (va_rf (some a) :: As)⟩ rfl (by rw [List.length_map]; exact hn) hlv.1 (mj_rev As (va_rf (some a) :: st)) (mj_rest hst) hd g5
/-- Object's own constructor -/
theorem go_objI {idx : Nat} {o : Option Nat} (ho : o ≠ none) (hd1 : 1 ≤ d) (hd : decode mi.2.1 pc = .ok (.invokespecial idx, 3)) (hl : Cond.methodLink mi.1.cls idx objectInit ∈ mj_tbl) (hi : Cond.instanceMethod objectInit ∈ mj_tbl) (hc : Cond.code objectInit ⟨#[0xb1]⟩ 1 none ∈ mj_tbl) (hst : st.length ≤ 4) (B : Go mi d h0 (pc + 3) lv st h pc2 lv2 st2 h2) : Go mi d h0 pc lv (va_rf o :: st) h pc2 lv2 st2 h2 := by
  cases o with
  | none => exact absurd rfl ho
  | some a =>
    refine Go.one (fun G p e R s m args below meth c Q cells slots H locs ls hF hX g3 g4 hR hlv K => ?_) B
    have hts := hF.2.2.2.2.1
    refine W.objInit hF.1 hF.2.1 hF.2.2.2.1 (hts _ hl) (hts _ hi) (hts _ hc) rfl (by rw [hF.2.2.1]; exact hlv.1) rfl hd (Nat.le_trans hd1 g3) ?_ (K ls hlv)
    have := mj_rest (ad := G.ad) (m := m) (pc := pc) (ls := ls) (st0 := []) hst
    have h0 : (F0 m pc ls ((va_rf (some a) :: st).map (mj_v G.ad))).monitorRoom = (F0 m pc ls []).monitorRoom := rfl
    rw [h0]
    omega
end GO5
end
section
/-! ===== from a place of a frame to its return ===== -/
def mj_rt (r : Option Value) : Instr := match r with
  | none => .return_
  | some (.int _) => .ireturn
  | some (.long _) => .lreturn
  | some _ => .areturn
/-- what is returned is of the method's type -/
def mj_rk (ret : Option FieldType) (r : Option Value) : Prop := match r with
  | none => ret = none
  | some (.int x) => ∃ ty, ret = some ty ∧ narrow ty (.int x) = .int x
  | some (.long _) => ret = some .long
  | some .null => ∃ nm, ret = some (.object nm)
  | some (.ref _) => ∃ nm, ret = some (.object nm)
  | _ => False
def Rt (mi : MI) (d : Nat) (h0 : MH) (pc : Nat) (lv : List (Nat × Value)) (st : List Value) (h : MH) (r : Option Value) (h2 : MH) : Prop :=
  ∃ (pc1 : Nat) (lv1 : List (Nat × Value)), decode mi.2.1 pc1 = .ok (mj_rt r, 1) ∧ mj_rk mi.2.2.2 r ∧ Go mi d h0 pc lv st h pc1 lv1 r.toList h2
section RT
variable {mi : MI} {d : Nat} {h0 : MH} {pc : Nat} {lv lv1 : List (Nat × Value)} {st st1 : List Value} {h h1 h2 : MH} {r : Option Value}
theorem rt_st {pc1 : Nat} (A : ∀ (pc2 : Nat) (lv2 : List (Nat × Value)), Go mi d h0 pc1 lv1 st1 h1 pc2 lv2 r.toList h2 → Go mi d h0 pc lv st h pc2 lv2 r.toList h2) (B : Rt mi d h0 pc1 lv1 st1 h1 r h2) : Rt mi d h0 pc lv st h r h2 := by
  obtain ⟨pc2, lv2, b1, b2, b3⟩ := B
  exact ⟨pc2, lv2, b1, b2, A pc2 lv2 b3⟩
/-- fewer locals, in any order -/
theorem go_sub {pc2 : Nat} {lv2 : List (Nat × Value)} {st2 : List Value} (ks : List Nat) (hp : lv_pick lv ks = lv1) (B : Go mi d h0 pc lv1 st h pc2 lv2 st2 h2) : Go mi d h0 pc lv st h pc2 lv2 st2 h2 := by
  subst hp
  refine Go.one (fun G p e R s m args below meth c Q cells slots H locs ls hF hX g3 g4 hR hl K => ?_) B
  refine K ls (lv_sub hl ks ?_)
  unfold lv_pick mj_l
  rw [List.map_filterMap]
  congr 1
  funext k
  rw [List.getElem?_map]
theorem rt_sub (ks : List Nat) (hp : lv_pick lv ks = lv1) (B : Rt mi d h0 pc lv1 st h r h2) : Rt mi d h0 pc lv st h r h2 := rt_st (fun _ _ B => go_sub ks hp B) B
theorem rt_int {x : Int32} (hd : decode mi.2.1 pc = .ok (.ireturn, 1)) (hr : mi.2.2.2 = some .int) : Rt mi d h0 pc lv [.int x] h (some (.int x)) h := ⟨pc, lv, hd, ⟨.int, hr, rfl⟩, Go.rf⟩
theorem rt_bool {x : Int32} (hd : decode mi.2.1 pc = .ok (.ireturn, 1)) (hr : mi.2.2.2 = some .boolean) (hz : x &&& 1 = x) : Rt mi d h0 pc lv [.int x] h (some (.int x)) h := ⟨pc, lv, hd, ⟨.boolean, hr, congrArg Value.int hz⟩, Go.rf⟩
theorem rt_long {x : Int64} (hd : decode mi.2.1 pc = .ok (.lreturn, 1)) (hr : mi.2.2.2 = some .long) : Rt mi d h0 pc lv [.long x] h (some (.long x)) h := ⟨pc, lv, hd, hr, Go.rf⟩
theorem rt_ref {o : Option Nat} {nm : String} (hd : decode mi.2.1 pc = .ok (.areturn, 1)) (hr : mi.2.2.2 = some (.object nm)) : Rt mi d h0 pc lv [va_rf o] h (some (va_rf o)) h := by
  cases o <;> exact ⟨pc, lv, hd, ⟨nm, hr⟩, Go.rf⟩
theorem rt_void (hd : decode mi.2.1 pc = .ok (.return_, 1)) (hr : mi.2.2.2 = none) : Rt mi d h0 pc lv [] h none h := ⟨pc, lv, hd, hr, Go.rf⟩
end RT
theorem Mt.rt {mi : MI} {d : Nat} {av : List Value} {h h1 : MH} {r : Option Value} {lv : List (Nat × Value)} (hy : plainName mi.1.cls = true) (hlv : lv_args 0 av = lv) (hn : (av.map Value.category).sum ≤ mi.2.2.1) (A : Rt mi d h 0 lv [] h r h1) : Mt mi d av h r h1 := by
  obtain ⟨pc1, lv1, hd, hk, A⟩ := A
  cases r with
  | none => exact Mt.ofv hy hlv hn hk hd A
  | some v =>
    cases v with
    | int x =>
      obtain ⟨ty, hr, hz⟩ := hk
      exact Mt.ofi hy hlv hn hr hz hd A
    | long x => exact Mt.ofl hy hlv hn hk hd A
    | null =>
      obtain ⟨nm, hr⟩ := hk
      exact Mt.ofr (o := none) hy hlv hn hr hd A
    | ref a =>
      obtain ⟨nm, hr⟩ := hk
      exact Mt.ofr (o := some a) hy hlv hn hr hd A
    | float x => cases hk
    | double x => cases hk
    | retAddr x => cases hk
/-- a receiver's class, asked ahead of a call -/
def onc {α : Type} (h : MH) (o : Option Nat) (c : Nat) (x : Option α) : Option α := if cls h o = some c then x else none
theorem onc_spec {α : Type} {h : MH} {o : Option Nat} {c : Nat} {x : Option α} {y : α} (e : onc h o c x = some y) : cls h o = some c ∧ x = some y := by
  unfold onc at e
  by_cases hc : cls h o = some c
  · rw [if_pos hc] at e; exact ⟨hc, e⟩
  · rw [if_neg hc] at e; cases e
theorem mj_mem_tbl {w : Cond} (k : Nat) (h : lw_tbl[k]? = some w) (hg : goodWord w = true) : w ∈ mj_tbl := List.mem_filter.mpr ⟨List.mem_of_getElem? h, hg⟩
theorem mj_mem_bad {w : Cond} (k : Nat) (h : lw_tbl[k]? = some w) (hg : mj_kind w = true) : w ∈ mj_bad := List.mem_filter.mpr ⟨List.mem_of_getElem? h, hg⟩
end
section
/-! ===== what the printed walks stand on ===== -/
abbrev q_0 : vw_C := (RX0, TX0, 8)
abbrev q_1 : vw_C := (RX1, TX1, 11)
abbrev q_2 : vw_C := (RX3, TX3, 3)
abbrev q_3 : vw_C := (RX4, TX4, 3)
abbrev q_4 : vw_C := (RX5, TX5, 3)
abbrev q_5 : vw_C := (RX6, TX6, 3)
abbrev q_6 : vw_C := (RX7, TX7, 14)
abbrev q_7 : vw_C := (RX8, TX8, 3)
abbrev q_8 : vw_C := (RX9, TX9, 3)
abbrev q_9 : vw_C := (RX10, TX10, 6)
abbrev q_10 : vw_C := (RX11, TX11, 10)
abbrev q_11 : vw_C := (RX12, TX12, 25)
/-- a new object's fields -/
def mj_new (c : Nat) : List Value := match mj_cl[c]? with
  | some q => (List.range q.2.2).map fun j => match parseFieldDescriptor (q.2.1 j).2.2.1 with
    | some ty => defaultValue ty
    | none => .null
  | none => []
def o_0 : List Value := [.null, .null, .null, .null, .null, .null, .int 0, .int 0]
def o_1 : List Value := [.int 0, .int 0, .int 0, .int 0, .int 0, .int 0, .int 0, .int 0, .int 0, .null, .null]
def o_2 : List Value := [.int 0, .int 0, .int 0]
def o_3 : List Value := [.int 0, .int 0, .int 0]
def o_4 : List Value := [.int 0, .int 0, .int 0]
def o_5 : List Value := [.null, .null, .null]
def o_6 : List Value := [.null, .null, .null, .null, .null, .null, .null, .null, .int 0, .int 0, .int 0, .int 0, .int 0, .int 0]
def o_7 : List Value := [.int 0, .int 0, .int 0]
def o_8 : List Value := [.int 0, .int 0, .int 0]
def o_9 : List Value := [.null, .int 0, .int 0, .int 0, .int 0, .int 0]
def o_10 : List Value := [.null, .null, .null, .null, .null, .null, .null, .null, .int 0, .int 0]
def o_11 : List Value := [.int 0, .null, .int 0, .int 0, .int 0, .int 0, .int 0, .int 0, .int 0, .int 0, .null, .null, .null, .int 0, .null, .null, .null, .null, .int 0, .null, .null, .null, .int 0, .null, .null]
theorem o_0_ok : (List.range q_0.2.2).map (fun j => (parseFieldDescriptor (q_0.2.1 j).2.2.1).map defaultValue) = o_0.map some := by decide +kernel
theorem o_1_ok : (List.range q_1.2.2).map (fun j => (parseFieldDescriptor (q_1.2.1 j).2.2.1).map defaultValue) = o_1.map some := by decide +kernel
theorem o_2_ok : (List.range q_2.2.2).map (fun j => (parseFieldDescriptor (q_2.2.1 j).2.2.1).map defaultValue) = o_2.map some := by decide +kernel
theorem o_3_ok : (List.range q_3.2.2).map (fun j => (parseFieldDescriptor (q_3.2.1 j).2.2.1).map defaultValue) = o_3.map some := by decide +kernel
theorem o_4_ok : (List.range q_4.2.2).map (fun j => (parseFieldDescriptor (q_4.2.1 j).2.2.1).map defaultValue) = o_4.map some := by decide +kernel
theorem o_5_ok : (List.range q_5.2.2).map (fun j => (parseFieldDescriptor (q_5.2.1 j).2.2.1).map defaultValue) = o_5.map some := by decide +kernel
theorem o_6_ok : (List.range q_6.2.2).map (fun j => (parseFieldDescriptor (q_6.2.1 j).2.2.1).map defaultValue) = o_6.map some := by decide +kernel
theorem o_7_ok : (List.range q_7.2.2).map (fun j => (parseFieldDescriptor (q_7.2.1 j).2.2.1).map defaultValue) = o_7.map some := by decide +kernel
theorem o_8_ok : (List.range q_8.2.2).map (fun j => (parseFieldDescriptor (q_8.2.1 j).2.2.1).map defaultValue) = o_8.map some := by decide +kernel
theorem o_9_ok : (List.range q_9.2.2).map (fun j => (parseFieldDescriptor (q_9.2.1 j).2.2.1).map defaultValue) = o_9.map some := by decide +kernel
theorem o_10_ok : (List.range q_10.2.2).map (fun j => (parseFieldDescriptor (q_10.2.1 j).2.2.1).map defaultValue) = o_10.map some := by decide +kernel
theorem o_11_ok : (List.range q_11.2.2).map (fun j => (parseFieldDescriptor (q_11.2.1 j).2.2.1).map defaultValue) = o_11.map some := by decide +kernel
def o_of (c : Nat) : List Value := match c with
  | 0 => o_0
  | 1 => o_1
  | 2 => o_2
  | 3 => o_3
  | 4 => o_4
  | 5 => o_5
  | 6 => o_6
  | 7 => o_7
  | 8 => o_8
  | 9 => o_9
  | 10 => o_10
  | _ => o_11
def newO (h : MH) (c : Nat) : Option MH := some (newo h c (o_of c))
def newA (h : MH) (t n : Nat) : Option MH := some (newa h t n)
def newQ (h : MH) (t n : Nat) : Option MH := some (newq h t n)
def mj_nz (y : Int32) : Option Unit := if y = 0 then none else some ()
def mj_nzl (y : Int64) : Option Unit := if y = 0 then none else some ()
theorem mj_nz_spec {y : Int32} {u : Unit} (e : mj_nz y = some u) : ¬ y = 0 := fun h => by unfold mj_nz at e; rw [if_pos h] at e; cases e
theorem mj_nzl_spec {y : Int64} {u : Unit} (e : mj_nzl y = some u) : ¬ y = 0 := fun h => by unfold mj_nzl at e; rw [if_pos h] at e; cases e
def mj_b01 (x : Int32) : Option Unit := if x &&& 1 = x then some () else none
theorem mj_b01_spec {x : Int32} {u : Unit} (e : mj_b01 x = some u) : x &&& 1 = x := by
  unfold mj_b01 at e
  by_cases h : x &&& 1 = x
  · exact h
  · rw [if_neg h] at e; cases e
def mj_hand (c : Nat) : Option Unit := if [2, 3, 4, 7, 8].contains c then some () else none
theorem mj_hand_spec {c : Nat} {u : Unit} (e : mj_hand c = some u) : ∃ q, mj_cl[c]? = some q := by
  unfold mj_hand at e
  by_cases h : [2, 3, 4, 7, 8].contains c = true
  · have := List.contains_iff_mem.mp h
    simp only [List.mem_cons, List.not_mem_nil, or_false] at this
    rcases this with rfl | rfl | rfl | rfl | rfl <;> exact ⟨_, rfl⟩
  · rw [if_neg h] at e; cases e
def mj_same (a b : Option Nat) : Option Unit := if a = b then some () else none
theorem mj_same_spec {a b : Option Nat} {u : Unit} (e : mj_same a b = some u) : a = b := by
  unfold mj_same at e
  by_cases h : a = b
  · exact h
  · rw [if_neg h] at e; cases e
theorem mj_some {o : Option Nat} {t : Nat} (e : o = some t) : o ≠ none := by rw [e]; exact fun z => by cases z
theorem mj_swn {x k : Int32} {v : Int} (h : ¬ x = k) (hk : k.toInt = v) : x.toInt ≠ v := fun z => h (Int32.toInt_inj.mp (z.trans hk.symm))
theorem mj_swd {pc tgt : Nat} {dflt lo hi : Int} {offs : Array Int} {x : Int32} (ks : List Int) (hx : ∀ k ∈ ks, x.toInt ≠ k) (hall : ((List.range offs.size).all (fun j => offs.getD j 0 == dflt || ks.contains (lo + j)) && decide (hi - lo < offs.size)) = true) (ht : (pc : Int) + dflt = (tgt : Int)) : (pc : Int) + mj_sw dflt lo hi offs x = (tgt : Int) := by
  rw [Bool.and_eq_true, decide_eq_true_eq] at hall
  unfold mj_sw
  by_cases h : x.toInt < lo ∨ hi < x.toInt
  · rw [if_pos h]; exact ht
  · rw [if_neg h]
    have hj : (x.toInt - lo).toNat < offs.size := by omega
    have h1 := List.all_eq_true.mp hall.1 _ (List.mem_range.mpr hj)
    rw [Bool.or_eq_true] at h1
    rcases h1 with h1 | h1
    · rw [eq_of_beq h1]; exact ht
    · have h2 := List.contains_iff_mem.mp h1
      exact absurd (by omega) (hx _ h2)
theorem mj_lwo : ∀ (ps : List (Int × Int)) (dflt v : Int), (∀ k ∈ ps.map Prod.fst, v ≠ k) → Op.lookupswitch.offset ps dflt v = dflt
  | [], _, _, _ => rfl
  | (a, o) :: r, dflt, v, h => by
    rw [Op.lookupswitch.offset_cons, if_neg]
    · exact mj_lwo r dflt v (fun k hk => h k (List.mem_cons_of_mem _ hk))
    · exact fun z => h a List.mem_cons_self z.symm
theorem mj_lwd {pc tgt : Nat} {dflt : Int} {ps : Array (Int × Int)} {x : Int32} (hx : ∀ k ∈ ps.toList.map Prod.fst, x.toInt ≠ k) (ht : (pc : Int) + dflt = (tgt : Int)) : (pc : Int) + Op.lookupswitch.offset ps.toList dflt x.toInt = (tgt : Int) := by
  rw [mj_lwo _ _ _ hx]
  exact ht
section GO6
variable {mi mi2 : MI} {d d2 : Nat} {h0 : MH} {pc pc2 : Nat} {lv lv2 : List (Nat × Value)} {st st1 st2 : List Value} {h h1 h2 : MH} {v : Value}
theorem go_newO {idx ci : Nat} {q : vw_C} (hd : decode mi.2.1 pc = .ok (.new idx, 3)) (hcl : mj_cl[ci]? = some q) (hfs : (List.range q.2.2).map (fun j => (parseFieldDescriptor (q.2.1 j).2.2.1).map defaultValue) = (o_of ci).map some) (htv : ∀ ad, (o_of ci).map (mj_v ad) = o_of ci) (hw1 : Cond.classLink mi.1.cls idx q.1 ∈ mj_tbl) (hw2 : Cond.instantiable q.1 q.2.2 ∈ mj_tbl) (hw3 : Cond.initialized q.1 ∈ mj_tbl) (e : newO h ci = some h1) (B : Go mi d h0 (pc + 3) lv (va_rf (some h.2.1) :: st) h1 pc2 lv2 st2 h2) : Go mi d h0 pc lv st h pc2 lv2 st2 h2 := by
  cases e
  exact go_new hd hcl hfs htv hw1 hw2 hw3 B
theorem go_newA {atype : ArrayType} {t N : Nat} {n : Int32} (ht : t < 2) (hty : newarray.typeOf atype = mj_aty t) (hd : decode mi.2.1 pc = .ok (.newarray atype, 2)) (hw : Cond.arrayClass (mj_aty t) ∈ mj_tbl) (hn : ¬ n < 0) (hN : n.toNatClampNeg = N) (hb : N ≤ 100000) (e : newA h t N = some h1) (B : Go mi d h0 (pc + 2) lv (va_rf (some h.2.1) :: st) h1 pc2 lv2 st2 h2) : Go mi d h0 pc lv (.int n :: st) h pc2 lv2 st2 h2 := by
  cases e
  exact go_newa ht hty hd hw hn hN hb B
theorem go_newQ {idx t N : Nat} {C : String} {n : Int32} (ht : t = 2 ∨ t = 3) (hty : mj_aty t = .object C) (hd : decode mi.2.1 pc = .ok (.anewarray idx, 3)) (hw : Cond.classLink mi.1.cls idx C ∈ mj_tbl) (hw2 : Cond.arrayOver (.object C) ∈ mj_bad) (hn : ¬ n < 0) (hN : n.toNatClampNeg = N) (hb : N ≤ 100000) (e : newQ h t N = some h1) (B : Go mi d h0 (pc + 3) lv (va_rf (some h.2.1) :: st) h1 pc2 lv2 st2 h2) : Go mi d h0 pc lv (.int n :: st) h pc2 lv2 st2 h2 := by
  cases e
  exact go_newq ht hty hd hw hw2 hn hN hb B
theorem go_instC {idx : Nat} {o : Option Nat} {C : String} {c : Nat} {b : Bool} (hd : decode mi.2.1 pc = .ok (.instanceof idx, 3)) (hw : Cond.classLink mi.1.cls idx C ∈ mj_tbl) (hg : cls h o = some c) (hb : mj_is c C = some b) (B : Go mi d h0 (pc + 3) lv (.int (if b then 1 else 0) :: st) h pc2 lv2 st2 h2) : Go mi d h0 pc lv (va_rf o :: st) h pc2 lv2 st2 h2 := by
  obtain ⟨fs, h1, h2⟩ := cls_spec hg
  exact go_inst hd hw h1 h2 hb B
theorem go_cpyS {idx : Nat} {o o2 : Option Nat} {sp dp n : Int32} (ho : o = o2) (hd1 : 1 ≤ d) (hst : (st.map fun v => v.category).sum ≤ 8) (hd : decode mi.2.1 pc = .ok (.invokestatic idx, 3)) (hw1 : Cond.methodLink mi.1.cls idx arraycopyName ∈ mj_tbl) (hw2 : Cond.native arraycopyName ∈ mj_tbl) (hw3 : Cond.static arraycopyName ∈ mj_tbl) (hw4 : Cond.initialized "java/lang/System" ∈ mj_tbl) (hg : cpy h o sp dp n = some h1) (B : Go mi d h0 (pc + 3) lv st h1 pc2 lv2 st2 h2) : Go mi d h0 pc lv (.int n :: .int dp :: va_rf o2 :: .int sp :: va_rf o :: st) h pc2 lv2 st2 h2 := by
  subst ho
  exact go_cpy hd1 hst hd hw1 hw2 hw3 hw4 hg B
theorem go_callS1 {idx n : Nat} (As : List Value) (hM : Mt mi2 d2 As h (some v) h1) (hm : mj_M mi2 n) (hd2 : d2 + 1 ≤ d) (hd : decode mi.2.1 pc = .ok (.invokestatic idx, 3)) (hl : Cond.methodLink mi.1.cls idx mi2.1 ∈ mj_tbl) (hs : Cond.static mi2.1 ∈ mj_tbl) (hn : As.length = n) (hst : st.length ≤ 4) (hstk : As.reverse ++ st = st1)
    (B : Go mi d h0 (pc + 3) lv (v :: st) h1 pc2 lv2 st2 h2) : Go mi d h0 pc lv st1 h pc2 lv2 st2 h2 := go_callS As hM hm hd2 hd hl hs hn hst hstk B
theorem go_callS0 {idx n : Nat} (As : List Value) (hM : Mt mi2 d2 As h none h1) (hm : mj_M mi2 n) (hd2 : d2 + 1 ≤ d) (hd : decode mi.2.1 pc = .ok (.invokestatic idx, 3)) (hl : Cond.methodLink mi.1.cls idx mi2.1 ∈ mj_tbl) (hs : Cond.static mi2.1 ∈ mj_tbl) (hn : As.length = n) (hst : st.length ≤ 4) (hstk : As.reverse ++ st = st1)
    (B : Go mi d h0 (pc + 3) lv st h1 pc2 lv2 st2 h2) : Go mi d h0 pc lv st1 h pc2 lv2 st2 h2 := go_callS As hM hm hd2 hd hl hs hn hst hstk B
theorem go_callSN1 {idx n : Nat} {host : String} (As : List Value) (hM : Mt mi2 d2 As h (some v) h1) (hm : mj_M mi2 n) (hd2 : d2 + 1 ≤ d) (hd : decode mi.2.1 pc = .ok (.invokestatic idx, 3)) (hl : Cond.methodLinkNest mi.1.cls idx mi2.1 host ∈ mj_bad) (hs : Cond.static mi2.1 ∈ mj_tbl) (hn : As.length = n) (hst : st.length ≤ 4) (hstk : As.reverse ++ st = st1)
    (B : Go mi d h0 (pc + 3) lv (v :: st) h1 pc2 lv2 st2 h2) : Go mi d h0 pc lv st1 h pc2 lv2 st2 h2 := go_callSN As hM hm hd2 hd hl hs hn hst hstk B
theorem go_callSN0 {idx n : Nat} {host : String} (As : List Value) (hM : Mt mi2 d2 As h none h1) (hm : mj_M mi2 n) (hd2 : d2 + 1 ≤ d) (hd : decode mi.2.1 pc = .ok (.invokestatic idx, 3)) (hl : Cond.methodLinkNest mi.1.cls idx mi2.1 host ∈ mj_bad) (hs : Cond.static mi2.1 ∈ mj_tbl) (hn : As.length = n) (hst : st.length ≤ 4) (hstk : As.reverse ++ st = st1)
    (B : Go mi d h0 (pc + 3) lv st h1 pc2 lv2 st2 h2) : Go mi d h0 pc lv st1 h pc2 lv2 st2 h2 := go_callSN As hM hm hd2 hd hl hs hn hst hstk B
theorem go_callV1 {idx n ci : Nat} {o : Option Nat} {q : vw_C} (As : List Value) (hM : Mt mi2 d2 (va_rf o :: As) h (some v) h1) (hm : mj_M mi2 n) (hd2 : d2 + 1 ≤ d) (hd : decode mi.2.1 pc = .ok (.invokevirtual idx, 3)) (hg : cls h o = some ci) (hq : mj_cl[ci]? = some q) (hqc : q.1 = mi2.1.cls) (hl : Cond.methodLink mi.1.cls idx mi2.1 ∈ mj_tbl) (hi : Cond.instanceMethod mi2.1 ∈ mj_tbl) (hs : Cond.selects mi2.1.cls mi2.1 mi2.1 ∈ mj_tbl) (hn : As.length = n) (hst : st.length ≤ 4) (hstk : As.reverse ++ va_rf o :: st = st1)
    (B : Go mi d h0 (pc + 3) lv (v :: st) h1 pc2 lv2 st2 h2) : Go mi d h0 pc lv st1 h pc2 lv2 st2 h2 := go_callV As hM hm hd2 hd hg hq hqc hl hi hs hn hst hstk B
theorem go_callV0 {idx n ci : Nat} {o : Option Nat} {q : vw_C} (As : List Value) (hM : Mt mi2 d2 (va_rf o :: As) h none h1) (hm : mj_M mi2 n) (hd2 : d2 + 1 ≤ d) (hd : decode mi.2.1 pc = .ok (.invokevirtual idx, 3)) (hg : cls h o = some ci) (hq : mj_cl[ci]? = some q) (hqc : q.1 = mi2.1.cls) (hl : Cond.methodLink mi.1.cls idx mi2.1 ∈ mj_tbl) (hi : Cond.instanceMethod mi2.1 ∈ mj_tbl) (hs : Cond.selects mi2.1.cls mi2.1 mi2.1 ∈ mj_tbl) (hn : As.length = n) (hst : st.length ≤ 4) (hstk : As.reverse ++ va_rf o :: st = st1)
    (B : Go mi d h0 (pc + 3) lv st h1 pc2 lv2 st2 h2) : Go mi d h0 pc lv st1 h pc2 lv2 st2 h2 := go_callV As hM hm hd2 hd hg hq hqc hl hi hs hn hst hstk B
theorem go_callU1 {idx n ci : Nat} {o : Option Nat} {q : vw_C} {x : MethodName} {owner : String} (As : List Value) (hM : Mt mi2 d2 (va_rf o :: As) h (some v) h1) (hm : mj_M mi2 n) (hd2 : d2 + 1 ≤ d) (hd : decode mi.2.1 pc = .ok (.invokevirtual idx, 3)) (hg : cls h o = some ci) (hq : mj_cl[ci]? = some q) (hl : Cond.methodLink mi.1.cls idx x ∈ mj_tbl) (hsm : Cond.sameMethod x.cls owner x.name x.desc ∈ mj_tbl)
    (hde : (∃ (b0 : ByteArray) (m0 : Nat) (r0 : Option FieldType), Cond.instanceMethod ⟨owner, x.name, x.desc⟩ ∈ mj_tbl ∧ Cond.code ⟨owner, x.name, x.desc⟩ b0 m0 r0 ∈ mj_tbl) ∨ Cond.declares ⟨owner, x.name, x.desc⟩ ∈ mj_bad)
    (how : (owner ≠ "java/lang/invoke/MethodHandle" ∧ owner ≠ "java/lang/invoke/VarHandle") ∧ (parseMethodDescriptor x.desc).map (fun d => d.parameters.length) = some n)
    (hs : Cond.selects q.1 x mi2.1 ∈ mj_tbl) (hi : Cond.instanceMethod mi2.1 ∈ mj_tbl) (hn : As.length = n) (hst : st.length ≤ 4) (hstk : As.reverse ++ va_rf o :: st = st1)
    (B : Go mi d h0 (pc + 3) lv (v :: st) h1 pc2 lv2 st2 h2) : Go mi d h0 pc lv st1 h pc2 lv2 st2 h2 := go_callU As hM hm hd2 hd hg hq hl hsm hde how hs hi hn hst hstk B
/-- super.m(..), the named class has it itself -/
theorem go_callSUh1 {idx n ci : Nat} {o : Option Nat} (As : List Value) (hM : Mt mi2 d2 (va_rf o :: As) h (some v) h1) (hm : mj_M mi2 n) (hd2 : d2 + 1 ≤ d) (hd : decode mi.2.1 pc = .ok (.invokespecial idx, 3)) (hg : cls h o = some ci) (hq : ∃ q, mj_cl[ci]? = some q) (hl : Cond.methodLink mi.1.cls idx mi2.1 ∈ mj_tbl) (hsm : Cond.sameMethod mi2.1.cls mi2.1.cls mi2.1.name mi2.1.desc ∈ mj_tbl) (hsu : Cond.superclass mi.1.cls mi2.1.cls ∈ mj_tbl) (hi : Cond.instanceMethod mi2.1 ∈ mj_tbl) (hno : mi2.1.name ≠ "<init>") (hn : As.length = n) (hst : st.length ≤ 4) (hstk : As.reverse ++ va_rf o :: st = st1)
    (B : Go mi d h0 (pc + 3) lv (v :: st) h1 pc2 lv2 st2 h2) : Go mi d h0 pc lv st1 h pc2 lv2 st2 h2 := by
  obtain ⟨q, hq⟩ := hq
  exact go_callSU As hM hm hd2 hd hg hq hl hsm hsu hi hno hn hst hstk B
/-- super.m(..), the named class x.cls only inherits it -/
theorem go_callSUu1 {idx n ci : Nat} {o : Option Nat} {x : MethodName} (As : List Value) (hM : Mt mi2 d2 (va_rf o :: As) h (some v) h1) (hm : mj_M mi2 n) (hd2 : d2 + 1 ≤ d) (hd : decode mi.2.1 pc = .ok (.invokespecial idx, 3)) (hg : cls h o = some ci) (hq : ∃ q, mj_cl[ci]? = some q) (hl : Cond.methodLink mi.1.cls idx x ∈ mj_tbl) (hsm : Cond.sameMethod x.cls mi2.1.cls x.name x.desc ∈ mj_tbl) (hsu : Cond.superclass mi.1.cls x.cls ∈ mj_tbl) (hsu2 : Cond.superclass x.cls mi2.1.cls ∈ mj_tbl) (hi : Cond.instanceMethod mi2.1 ∈ mj_tbl) (hx : x.name ≠ "<init>" ∧ mi2.1 = ⟨mi2.1.cls, x.name, x.desc⟩) (hn : As.length = n) (hst : st.length ≤ 4) (hstk : As.reverse ++ va_rf o :: st = st1)
    (B : Go mi d h0 (pc + 3) lv (v :: st) h1 pc2 lv2 st2 h2) : Go mi d h0 pc lv st1 h pc2 lv2 st2 h2 := by
  sorry
/-- a static method, named through a class that inherits it -/
theorem go_callSUp0 {idx n : Nat} {x : MethodName} (As : List Value) (hM : Mt mi2 d2 As h none h1) (hm : mj_M mi2 n) (hd2 : d2 + 1 ≤ d) (hd : decode mi.2.1 pc = .ok (.invokestatic idx, 3)) (hl : Cond.methodLink mi.1.cls idx x ∈ mj_tbl) (hsm : Cond.sameMethod x.cls mi2.1.cls x.name x.desc ∈ mj_tbl) (hs : Cond.static mi2.1 ∈ mj_tbl) (hx : mi2.1.cls ≠ "java/lang/invoke/MethodHandle" ∧ mi2.1.cls ≠ "java/lang/invoke/VarHandle" ∧ mi2.1 = ⟨mi2.1.cls, x.name, x.desc⟩) (hn : As.length = n) (hst : st.length ≤ 4) (hstk : As.reverse ++ st = st1)
    (B : Go mi d h0 (pc + 3) lv st h1 pc2 lv2 st2 h2) : Go mi d h0 pc lv st1 h pc2 lv2 st2 h2 := by
  sorry
theorem go_callI0 {idx n a : Nat} (As : List Value) (hM : Mt mi2 d2 (va_rf (some a) :: As) h none h1) (hm : mj_M mi2 n) (hret : mi2.2.2.2 = none) (hd2 : d2 + 1 ≤ d) (hd : decode mi.2.1 pc = .ok (.invokespecial idx, 3)) (hl : Cond.methodLink mi.1.cls idx mi2.1 ∈ mj_tbl) (hi : Cond.instanceMethod mi2.1 ∈ mj_tbl) (hno : mi2.1.name = "<init>") (hn : As.length = n) (hst : st.length ≤ 4) (hstk : As.reverse ++ va_rf (some a) :: st = st1)
    (B : Go mi d h0 (pc + 3) lv st h1 pc2 lv2 st2 h2) : Go mi d h0 pc lv st1 h pc2 lv2 st2 h2 := go_callI As hM hm hret hd2 hd hl hi hno hn hst hstk B
theorem go_callIo {idx n : Nat} {o : Option Nat} (ho : o ≠ none) (As : List Value) (hM : Mt mi2 d2 (va_rf o :: As) h none h1) (hm : mj_M mi2 n) (hret : mi2.2.2.2 = none) (hd2 : d2 + 1 ≤ d) (hd : decode mi.2.1 pc = .ok (.invokespecial idx, 3)) (hl : Cond.methodLink mi.1.cls idx mi2.1 ∈ mj_tbl) (hi : Cond.instanceMethod mi2.1 ∈ mj_tbl) (hno : mi2.1.name = "<init>") (hn : As.length = n) (hst : st.length ≤ 4) (hstk : As.reverse ++ va_rf o :: st = st1)
    (B : Go mi d h0 (pc + 3) lv st h1 pc2 lv2 st2 h2) : Go mi d h0 pc lv st1 h pc2 lv2 st2 h2 := by
  cases o with
  | none => exact absurd rfl ho
  | some a => exact go_callI As hM hm hret hd2 hd hl hi hno hn hst hstk B
end GO6
theorem mj_fit2 : ∀ c ∈ [2, 3, 4, 7, 8], mj_fits 2 c = true := by decide +kernel
theorem mj_fit3 : ∀ c ∈ [1], mj_fits 3 c = true := by decide +kernel
theorem w_arr0 : Cond.arrayClass (mj_aty 0) ∈ mj_tbl := mj_mem_tbl 97 (by decide +kernel) rfl
theorem w_arr1 : Cond.arrayClass (mj_aty 1) ∈ mj_tbl := mj_mem_tbl 1065 (by decide +kernel) rfl
theorem w_objI : Cond.instanceMethod objectInit ∈ mj_tbl := mj_mem_tbl 76 (by decide +kernel) rfl
theorem w_objC : Cond.code objectInit ⟨#[0xb1]⟩ 1 none ∈ mj_tbl := mj_mem_tbl 77 (by decide +kernel) rfl
theorem w_cpN : Cond.native arraycopyName ∈ mj_tbl := mj_mem_tbl 369 (by decide +kernel) rfl
theorem w_cpS : Cond.static arraycopyName ∈ mj_tbl := mj_mem_tbl 368 (by decide +kernel) rfl
theorem w_cpI : Cond.initialized "java/lang/System" ∈ mj_tbl := mj_mem_tbl 61 (by decide +kernel) rfl
theorem w_leS : Cond.static ⟨"WideTurn$Hand", "leave", "([II)V"⟩ ∈ mj_tbl := mj_mem_tbl 920 (by decide +kernel) rfl
end
section
/-! ===== the methods, the words that their walks use, the fields ===== -/
abbrev mi_A_init : MI := (⟨"WideTurn$Acts", "<init>", "()V"⟩, prog_2_method_1_code, 1, none)
abbrev mi_A_kept : MI := (⟨"WideTurn$Acts", "kept", "()I"⟩, prog_2_method_2_code, 1, (some .int))
abbrev mi_A_forget : MI := (⟨"WideTurn$Acts", "forget", "()V"⟩, prog_2_method_3_code, 1, none)
abbrev mi_A_keep : MI := (⟨"WideTurn$Acts", "keep", "(LWideTurn$Basin;I)V"⟩, prog_2_method_4_code, 3, none)
abbrev mi_A_takeBack : MI := (⟨"WideTurn$Acts", "takeBack", "(LWideTurn$Basin;)V"⟩, prog_2_method_5_code, 3, none)
abbrev mi_B_init : MI := (⟨"WideTurn$Basin", "<init>", "()V"⟩, prog_3_method_1_code, 1, none)
abbrev mi_B_clear : MI := (⟨"WideTurn$Basin", "clear", "()V"⟩, prog_3_method_2_code, 1, none)
abbrev mi_B_become : MI := (⟨"WideTurn$Basin", "become", "(LWideTurn$Basin;)V"⟩, prog_3_method_3_code, 3, none)
abbrev mi_B_addHand : MI := (⟨"WideTurn$Basin", "addHand", "(LWideTurn$Hand;)V"⟩, prog_3_method_4_code, 2, none)
abbrev mi_B_handAt : MI := (⟨"WideTurn$Basin", "handAt", "(I)LWideTurn$Hand;"⟩, prog_3_method_5_code, 2, (some (.object "WideTurn$Hand")))
abbrev mi_B_sinks : MI := (⟨"WideTurn$Basin", "sinks", "()I"⟩, prog_3_method_6_code, 1, (some .int))
abbrev mi_B_isBlown : MI := (⟨"WideTurn$Basin", "isBlown", "()Z"⟩, prog_3_method_7_code, 1, (some .boolean))
abbrev mi_B_shallowest : MI := (⟨"WideTurn$Basin", "shallowest", "(II)I"⟩, prog_3_method_8_code, 3, (some .int))
abbrev mi_B_clearance : MI := (⟨"WideTurn$Basin", "clearance", "(I)I"⟩, prog_3_method_9_code, 3, (some .int))
abbrev mi_B_fitsNow : MI := (⟨"WideTurn$Basin", "fitsNow", "()Z"⟩, prog_3_method_10_code, 1, (some .boolean))
abbrev mi_B_lies : MI := (⟨"WideTurn$Basin", "lies", "()I"⟩, prog_3_method_11_code, 1, (some .int))
abbrev mi_B_setOf : MI := (⟨"WideTurn$Basin", "setOf", "(I)I"⟩, prog_3_method_12_code, 1, (some .int))
abbrev mi_B_canMake : MI := (⟨"WideTurn$Basin", "canMake", "(LWideTurn$Hand;I)Z"⟩, prog_3_method_13_code, 4, (some .boolean))
abbrev mi_B_make : MI := (⟨"WideTurn$Basin", "make", "(I)V"⟩, prog_3_method_14_code, 3, none)
abbrev mi_B_siltUp : MI := (⟨"WideTurn$Basin", "siltUp", "()I"⟩, prog_3_method_15_code, 3, (some .int))
abbrev mi_H_init : MI := (⟨"WideTurn$Hand", "<init>", "(III)V"⟩, prog_4_method_1_code, 4, none)
abbrev mi_H_minutesFor : MI := (⟨"WideTurn$Hand", "minutesFor", "(I)I"⟩, prog_4_method_3_code, 2, (some .int))
abbrev mi_H_lift : MI := (⟨"WideTurn$Hand", "lift", "()I"⟩, prog_4_method_4_code, 1, (some .int))
abbrev mi_H_size : MI := (⟨"WideTurn$Hand", "size", "([II)I"⟩, prog_4_method_5_code, 3, (some .int))
abbrev mi_H_mark : MI := (⟨"WideTurn$Hand", "mark", "([II)I"⟩, prog_4_method_6_code, 3, (some .int))
abbrev mi_H_leave : MI := (⟨"WideTurn$Hand", "leave", "([II)V"⟩, prog_4_method_7_code, 3, none)
abbrev mi_Lf_init : MI := (⟨"WideTurn$Lifter", "<init>", "(II)V"⟩, prog_5_method_1_code, 3, none)
abbrev mi_Lf_sort : MI := (⟨"WideTurn$Lifter", "sort", "()I"⟩, prog_5_method_2_code, 1, (some .int))
abbrev mi_Lf_lift : MI := (⟨"WideTurn$Lifter", "lift", "()I"⟩, prog_5_method_3_code, 1, (some .int))
abbrev mi_Lf_size : MI := (⟨"WideTurn$Lifter", "size", "([II)I"⟩, prog_5_method_4_code, 3, (some .int))
abbrev mi_Po_init : MI := (⟨"WideTurn$Poler", "<init>", "(II)V"⟩, prog_6_method_1_code, 3, none)
abbrev mi_Po_sort : MI := (⟨"WideTurn$Poler", "sort", "()I"⟩, prog_6_method_2_code, 1, (some .int))
abbrev mi_Po_size : MI := (⟨"WideTurn$Poler", "size", "([II)I"⟩, prog_6_method_3_code, 3, (some .int))
abbrev mi_Po_mark : MI := (⟨"WideTurn$Poler", "mark", "([II)I"⟩, prog_6_method_4_code, 3, (some .int))
abbrev mi_Ro_init : MI := (⟨"WideTurn$Roper", "<init>", "(II)V"⟩, prog_7_method_1_code, 3, none)
abbrev mi_Ro_sort : MI := (⟨"WideTurn$Roper", "sort", "()I"⟩, prog_7_method_2_code, 1, (some .int))
abbrev mi_Ro_minutesFor : MI := (⟨"WideTurn$Roper", "minutesFor", "(I)I"⟩, prog_7_method_3_code, 3, (some .int))
abbrev mi_Ro_mark : MI := (⟨"WideTurn$Roper", "mark", "([II)I"⟩, prog_7_method_4_code, 3, (some .int))
abbrev mi_Rw_init : MI := (⟨"WideTurn$Rows", "<init>", "()V"⟩, prog_8_method_1_code, 1, none)
abbrev mi_Rw_isMissing : MI := (⟨"WideTurn$Rows", "isMissing", "(I)Z"⟩, prog_8_method_2_code, 2, (some .boolean))
abbrev mi_Rw_areAlike : MI := (⟨"WideTurn$Rows", "areAlike", "(II)Z"⟩, prog_8_method_3_code, 3, (some .boolean))
abbrev mi_Rw_holds : MI := (⟨"WideTurn$Rows", "holds", "(III)Z"⟩, prog_8_method_4_code, 4, (some .boolean))
abbrev mi_Rw_make : MI := (⟨"WideTurn$Rows", "make", "(III)V"⟩, prog_8_method_5_code, 5, none)
abbrev mi_Rw_remove : MI := (⟨"WideTurn$Rows", "remove", "(I)I"⟩, prog_8_method_6_code, 3, (some .int))
abbrev mi_Rw_store : MI := (⟨"WideTurn$Rows", "store", "(III)I"⟩, prog_8_method_7_code, 6, (some .int))
abbrev mi_Rw_item : MI := (⟨"WideTurn$Rows", "item", "(II)I"⟩, prog_8_method_8_code, 3, (some .int))
abbrev mi_Rw_carry : MI := (⟨"WideTurn$Rows", "carry", "(IIIII)V"⟩, prog_8_method_9_code, 6, none)
abbrev mi_Rw_present : MI := (⟨"WideTurn$Rows", "present", "()I"⟩, prog_8_method_10_code, 3, (some .int))
abbrev mi_S_init : MI := (⟨"WideTurn$Search", "<init>", "()V"⟩, prog_9_method_1_code, 1, none)
abbrev mi_S_minutesToTurn : MI := (⟨"WideTurn$Search", "minutesToTurn", "(LWideTurn$Basin;I)I"⟩, prog_9_method_2_code, 4, (some .int))
abbrev mi_S_explore : MI := (⟨"WideTurn$Search", "explore", "(LWideTurn$Basin;II)V"⟩, prog_9_method_3_code, 8, none)
abbrev mi_S_seek : MI := (⟨"WideTurn$Search", "seek", "(III)V"⟩, prog_9_method_4_code, 10, none)
abbrev mi_S_cellsReached : MI := (⟨"WideTurn$Search", "cellsReached", "()I"⟩, prog_9_method_5_code, 3, (some .int))
abbrev mi_S_stateOf : MI := (⟨"WideTurn$Search", "stateOf", "(III)I"⟩, prog_9_method_6_code, 3, (some .int))
abbrev mi_S_prepare : MI := (⟨"WideTurn$Search", "prepare", "(LWideTurn$Basin;I)V"⟩, prog_9_method_7_code, 4, none)
abbrev mi_S_choosePacers : MI := (⟨"WideTurn$Search", "choosePacers", "(LWideTurn$Basin;)V"⟩, prog_9_method_8_code, 7, none)
abbrev mi_S_leave : MI := (⟨"WideTurn$Search", "leave", "(I)V"⟩, prog_9_method_9_code, 11, none)
abbrev mi_S_clearAt : MI := (⟨"WideTurn$Search", "clearAt", "(II)I"⟩, prog_9_method_10_code, 4, (some .int))
abbrev mi_S_behind : MI := (⟨"WideTurn$Search", "behind", "(III)I"⟩, prog_9_method_11_code, 5, (some .int))
abbrev mi_S_offer : MI := (⟨"WideTurn$Search", "offer", "(III)V"⟩, prog_9_method_12_code, 4, none)
abbrev mi_S_add : MI := (⟨"WideTurn$Search", "add", "(III)V"⟩, prog_9_method_13_code, 6, none)
abbrev mi_S_remove : MI := (⟨"WideTurn$Search", "remove", "(I)V"⟩, prog_9_method_14_code, 4, none)
abbrev mi_Sh_init : MI := (⟨"WideTurn$Shover", "<init>", "(II)V"⟩, prog_10_method_1_code, 3, none)
abbrev mi_Sh_sort : MI := (⟨"WideTurn$Shover", "sort", "()I"⟩, prog_10_method_2_code, 1, (some .int))
abbrev mi_Sh_size : MI := (⟨"WideTurn$Shover", "size", "([II)I"⟩, prog_10_method_3_code, 3, (some .int))
abbrev mi_Sh_mark : MI := (⟨"WideTurn$Shover", "mark", "([II)I"⟩, prog_10_method_4_code, 4, (some .int))
abbrev mi_Sw_init : MI := (⟨"WideTurn$Swinger", "<init>", "(III)V"⟩, prog_11_method_1_code, 4, none)
abbrev mi_Sw_sort : MI := (⟨"WideTurn$Swinger", "sort", "()I"⟩, prog_11_method_2_code, 1, (some .int))
abbrev mi_Sw_size : MI := (⟨"WideTurn$Swinger", "size", "([II)I"⟩, prog_11_method_3_code, 4, (some .int))
abbrev mi_Sw_mark : MI := (⟨"WideTurn$Swinger", "mark", "([II)I"⟩, prog_11_method_4_code, 3, (some .int))
abbrev mi_T_init : MI := (⟨"WideTurn$Tape", "<init>", "()V"⟩, prog_12_method_1_code, 1, none)
abbrev mi_T_length : MI := (⟨"WideTurn$Tape", "length", "()I"⟩, prog_12_method_2_code, 1, (some .int))
abbrev mi_T_faultPlace : MI := (⟨"WideTurn$Tape", "faultPlace", "()I"⟩, prog_12_method_3_code, 1, (some .int))
abbrev mi_T_latestFault : MI := (⟨"WideTurn$Tape", "latestFault", "()I"⟩, prog_12_method_4_code, 1, (some .int))
abbrev mi_T_append : MI := (⟨"WideTurn$Tape", "append", "(I)Z"⟩, prog_12_method_5_code, 2, (some .boolean))
abbrev mi_T_read : MI := (⟨"WideTurn$Tape", "read", "(LWideTurn$Basin;)Z"⟩, prog_12_method_6_code, 2, (some .boolean))
abbrev mi_T_readLaw : MI := (⟨"WideTurn$Tape", "readLaw", "(LWideTurn$Basin;)V"⟩, prog_12_method_7_code, 2, none)
abbrev mi_T_readDepths : MI := (⟨"WideTurn$Tape", "readDepths", "(LWideTurn$Basin;)V"⟩, prog_12_method_8_code, 3, none)
abbrev mi_T_readBoat : MI := (⟨"WideTurn$Tape", "readBoat", "(LWideTurn$Basin;)V"⟩, prog_12_method_9_code, 2, none)
abbrev mi_T_readMoored : MI := (⟨"WideTurn$Tape", "readMoored", "(LWideTurn$Basin;)V"⟩, prog_12_method_10_code, 5, none)
abbrev mi_T_readHands : MI := (⟨"WideTurn$Tape", "readHands", "(LWideTurn$Basin;)V"⟩, prog_12_method_11_code, 5, none)
abbrev mi_T_readLetter : MI := (⟨"WideTurn$Tape", "readLetter", "(I)V"⟩, prog_12_method_12_code, 2, none)
abbrev mi_T_readDepth : MI := (⟨"WideTurn$Tape", "readDepth", "()I"⟩, prog_12_method_13_code, 2, (some .int))
abbrev mi_T_readNumber : MI := (⟨"WideTurn$Tape", "readNumber", "(II)I"⟩, prog_12_method_14_code, 6, (some .int))
abbrev mi_T_fail : MI := (⟨"WideTurn$Tape", "fail", "(II)V"⟩, prog_12_method_15_code, 3, none)
abbrev mi_T_letterAt : MI := (⟨"WideTurn$Tape", "letterAt", "(I)I"⟩, prog_12_method_16_code, 2, (some .int))
abbrev mi_T_isFigure : MI := (⟨"WideTurn$Tape", "isFigure", "(I)Z"⟩, prog_12_method_17_code, 1, (some .boolean))
abbrev mi_T_isSort : MI := (⟨"WideTurn$Tape", "isSort", "(I)Z"⟩, prog_12_method_18_code, 1, (some .boolean))
abbrev mi_T_handOf : MI := (⟨"WideTurn$Tape", "handOf", "(III)LWideTurn$Hand;"⟩, prog_12_method_19_code, 3, (some (.object "WideTurn$Hand")))
abbrev mi_C_init : MI := (⟨"WideTurn", "<init>", "()V"⟩, prog_1_method_1_code, 1, none)
abbrev mi_C_row : MI := (⟨"WideTurn", "row", "(III)I"⟩, prog_1_method_2_code, 4, (some .int))
abbrev mi_C_set : MI := (⟨"WideTurn", "set", "(III)I"⟩, prog_1_method_3_code, 4, (some .int))
abbrev mi_C_copy : MI := (⟨"WideTurn", "copy", "(IIIII)I"⟩, prog_1_method_4_code, 6, (some .int))
abbrev mi_C_drop : MI := (⟨"WideTurn", "drop", "(I)I"⟩, prog_1_method_5_code, 2, (some .int))
abbrev mi_C_feed : MI := (⟨"WideTurn", "feed", "(I)I"⟩, prog_1_method_6_code, 2, (some .int))
abbrev mi_C_basin : MI := (⟨"WideTurn", "basin", "()I"⟩, prog_1_method_7_code, 1, (some .int))
abbrev mi_C_fault : MI := (⟨"WideTurn", "fault", "()I"⟩, prog_1_method_8_code, 1, (some .int))
abbrev mi_C_undo : MI := (⟨"WideTurn", "undo", "()I"⟩, prog_1_method_9_code, 1, (some .int))
abbrev mi_C_move : MI := (⟨"WideTurn", "move", "(II)I"⟩, prog_1_method_10_code, 4, (some .int))
abbrev mi_C_laden : MI := (⟨"WideTurn", "laden", "(I)I"⟩, prog_1_method_11_code, 2, (some .int))
abbrev mi_C_moor : MI := (⟨"WideTurn", "moor", "(II)I"⟩, prog_1_method_12_code, 3, (some .int))
abbrev mi_C_silt : MI := (⟨"WideTurn", "silt", "()I"⟩, prog_1_method_13_code, 1, (some .int))
abbrev mi_C_boat : MI := (⟨"WideTurn", "boat", "(I)I"⟩, prog_1_method_14_code, 2, (some .int))
abbrev mi_C_cell : MI := (⟨"WideTurn", "cell", "(II)I"⟩, prog_1_method_15_code, 3, (some .int))
abbrev mi_C_hand : MI := (⟨"WideTurn", "hand", "(II)I"⟩, prog_1_method_16_code, 4, (some .int))
abbrev mi_C_way : MI := (⟨"WideTurn", "way", "(III)I"⟩, prog_1_method_17_code, 4, (some .int))
abbrev mi_C_turned : MI := (⟨"WideTurn", "turned", "(I)I"⟩, prog_1_method_18_code, 3, (some .int))
abbrev mi_C_inches : MI := (⟨"WideTurn", "inches", "()I"⟩, prog_1_method_19_code, 2, (some .int))
abbrev mi_C_inTheWay : MI := (⟨"WideTurn", "inTheWay", "(I)I"⟩, prog_1_method_20_code, 2, (some .int))
abbrev mi_C_dig : MI := (⟨"WideTurn", "dig", "(I)I"⟩, prog_1_method_21_code, 2, (some .int))
abbrev mi_C_years : MI := (⟨"WideTurn", "years", "()I"⟩, prog_1_method_22_code, 2, (some .int))
abbrev mi_C_better : MI := (⟨"WideTurn", "better", "()I"⟩, prog_1_method_23_code, 3, (some .int))
abbrev mi_C_plan : MI := (⟨"WideTurn", "plan", "(IIII)I"⟩, prog_1_method_24_code, 6, (some .int))
abbrev mi_C_seen : MI := (⟨"WideTurn", "seen", "(IIII)I"⟩, prog_1_method_25_code, 6, (some .int))
abbrev mi_C_gusts : MI := (⟨"WideTurn", "gusts", "(IIII)J"⟩, prog_1_method_26_code, 11, (some .long))
abbrev mi_C_reach : MI := (⟨"WideTurn", "reach", "()I"⟩, prog_1_method_27_code, 1, (some .int))
abbrev mi_C_days : MI := (⟨"WideTurn", "days", "(III)I"⟩, prog_1_method_28_code, 5, (some .int))
abbrev mi_C_image : MI := (⟨"WideTurn", "image", "(I)I"⟩, prog_1_method_29_code, 3, (some .int))
abbrev mi_C_restore : MI := (⟨"WideTurn", "restore", "(I)I"⟩, prog_1_method_30_code, 3, (some .int))
abbrev mi_C_kind : MI := (⟨"WideTurn", "kind", "(I)I"⟩, prog_1_method_31_code, 3, (some .int))
abbrev mi_C_as : MI := (⟨"WideTurn", "as", "(II)I"⟩, prog_1_method_32_code, 4, (some .int))
abbrev mi_C_ask : MI := (⟨"WideTurn", "ask", "(II)I"⟩, prog_1_method_33_code, 4, (some .int))
abbrev mi_C_trace : MI := (⟨"WideTurn", "trace", "(I)I"⟩, prog_1_method_34_code, 2, (some .int))
abbrev mi_C_count : MI := (⟨"WideTurn", "count", "(I)I"⟩, prog_1_method_35_code, 2, (some .int))
abbrev mi_C_status : MI := (⟨"WideTurn", "status", "()I"⟩, prog_1_method_36_code, 1, (some .int))
abbrev mi_C_found : MI := (⟨"WideTurn", "found", "(I)I"⟩, prog_1_method_37_code, 2, (some .int))
abbrev mi_C_sound : MI := (⟨"WideTurn", "sound", "(I)I"⟩, prog_1_method_38_code, 2, (some .int))
abbrev mi_C_findingAt : MI := (⟨"WideTurn", "findingAt", "(III)I"⟩, prog_1_method_39_code, 4, (some .int))
abbrev mi_C_easiestCell : MI := (⟨"WideTurn", "easiestCell", "(ZI)I"⟩, prog_1_method_40_code, 7, (some .int))
abbrev mi_C_minutesIfLaden : MI := (⟨"WideTurn", "minutesIfLaden", "(I)I"⟩, prog_1_method_41_code, 2, (some .int))
abbrev mi_C_planned : MI := (⟨"WideTurn", "planned", "(IIII)I"⟩, prog_1_method_42_code, 11, (some .int))
abbrev mi_C_passDays : MI := (⟨"WideTurn", "passDays", "(II)I"⟩, prog_1_method_43_code, 9, (some .int))
abbrev mi_C_waysSeen : MI := (⟨"WideTurn", "waysSeen", "(IIIII)I"⟩, prog_1_method_44_code, 8, (some .int))
abbrev mi_C_waysBehind : MI := (⟨"WideTurn", "waysBehind", "(IIIIII)I"⟩, prog_1_method_45_code, 11, (some .int))
abbrev mi_C_firstSeen : MI := (⟨"WideTurn", "firstSeen", "(III)I"⟩, prog_1_method_46_code, 5, (some .int))
abbrev mi_C_within : MI := (⟨"WideTurn", "within", "(II)Z"⟩, prog_1_method_47_code, 2, (some .boolean))
abbrev mi_C_isRow : MI := (⟨"WideTurn", "isRow", "(I)Z"⟩, prog_1_method_48_code, 1, (some .boolean))
abbrev mi_C_bit : MI := (⟨"WideTurn", "bit", "(II)I"⟩, prog_1_method_49_code, 2, (some .int))
abbrev mi_C_at : MI := (⟨"WideTurn", "at", "([II)I"⟩, prog_1_method_50_code, 2, (some .int))
abbrev mi_C_put : MI := (⟨"WideTurn", "put", "([III)V"⟩, prog_1_method_51_code, 3, none)
abbrev mi_C_choices : MI := (⟨"WideTurn", "choices", "(II)J"⟩, prog_1_method_52_code, 5, (some .long))
abbrev mi_C_power : MI := (⟨"WideTurn", "power", "(II)J"⟩, prog_1_method_53_code, 5, (some .long))
abbrev mi_C_commonDivisor : MI := (⟨"WideTurn", "commonDivisor", "(JJ)J"⟩, prog_1_method_54_code, 7, (some .long))
abbrev mi_C_beside : MI := (⟨"WideTurn", "beside", "(II)I"⟩, prog_1_method_55_code, 5, (some .int))
abbrev mi_C_turnBehind : MI := (⟨"WideTurn", "turnBehind", "(II)I"⟩, prog_1_method_56_code, 2, (some .int))
abbrev mi_C_middleBehind : MI := (⟨"WideTurn", "middleBehind", "(III)I"⟩, prog_1_method_57_code, 3, (some .int))
abbrev mi_C_isOne : MI := (⟨"WideTurn", "isOne", "(LWideTurn$Hand;I)Z"⟩, prog_1_method_58_code, 2, (some .boolean))
abbrev mi_M_init : MI := (⟨"WideTurnModel", "<init>", "()V"⟩, prog_14_method_1_code, 1, none)
abbrev mi_M_in : MI := (⟨"WideTurnModel", "in", "(III)Z"⟩, prog_14_method_3_code, 3, (some .boolean))
abbrev mi_M_finds : MI := (⟨"WideTurnModel", "finds", "(I)I"⟩, prog_14_method_4_code, 2, (some .int))
abbrev mi_M_is : MI := (⟨"WideTurnModel", "is", "(I)I"⟩, prog_14_method_5_code, 2, (some .int))
abbrev mi_M_isRow : MI := (⟨"WideTurnModel", "isRow", "(I)Z"⟩, prog_14_method_6_code, 1, (some .boolean))
abbrev mi_M_row : MI := (⟨"WideTurnModel", "row", "(III)I"⟩, prog_14_method_7_code, 5, (some .int))
abbrev mi_M_narrow : MI := (⟨"WideTurnModel", "narrow", "(II)I"⟩, prog_14_method_8_code, 2, (some .int))
abbrev mi_M_set : MI := (⟨"WideTurnModel", "set", "(III)I"⟩, prog_14_method_9_code, 4, (some .int))
abbrev mi_M_isPart : MI := (⟨"WideTurnModel", "isPart", "(III)Z"⟩, prog_14_method_10_code, 4, (some .boolean))
abbrev mi_M_copy : MI := (⟨"WideTurnModel", "copy", "(IIIII)I"⟩, prog_14_method_11_code, 8, (some .int))
abbrev mi_M_drop : MI := (⟨"WideTurnModel", "drop", "(I)I"⟩, prog_14_method_12_code, 2, (some .int))
abbrev mi_M_feed : MI := (⟨"WideTurnModel", "feed", "(I)I"⟩, prog_14_method_13_code, 2, (some .int))
abbrev mi_M_letterAt : MI := (⟨"WideTurnModel", "letterAt", "(I)I"⟩, prog_14_method_14_code, 2, (some .int))
abbrev mi_M_advances : MI := (⟨"WideTurnModel", "advances", "()V"⟩, prog_14_method_15_code, 2, none)
abbrev mi_M_isWell : MI := (⟨"WideTurnModel", "isWell", "()Z"⟩, prog_14_method_16_code, 1, (some .boolean))
abbrev mi_M_fails : MI := (⟨"WideTurnModel", "fails", "(I)V"⟩, prog_14_method_17_code, 2, none)
abbrev mi_M_wants : MI := (⟨"WideTurnModel", "wants", "(II)V"⟩, prog_14_method_18_code, 3, none)
abbrev mi_M_number : MI := (⟨"WideTurnModel", "number", "(IIZ)I"⟩, prog_14_method_19_code, 5, (some .int))
abbrev mi_M_sortOf : MI := (⟨"WideTurnModel", "sortOf", "(I)I"⟩, prog_14_method_20_code, 1, (some .int))
abbrev mi_M_readsHead : MI := (⟨"WideTurnModel", "readsHead", "()V"⟩, prog_14_method_21_code, 2, none)
abbrev mi_M_ones : MI := (⟨"WideTurnModel", "ones", "(I)I"⟩, prog_14_method_22_code, 3, (some .int))
abbrev mi_M_readsRest : MI := (⟨"WideTurnModel", "readsRest", "()V"⟩, prog_14_method_23_code, 4, none)
abbrev mi_M_basin : MI := (⟨"WideTurnModel", "basin", "()I"⟩, prog_14_method_24_code, 2, (some .int))
abbrev mi_M_copies : MI := (⟨"WideTurnModel", "copies", "([I[I)V"⟩, prog_14_method_25_code, 3, none)
abbrev mi_M_fault : MI := (⟨"WideTurnModel", "fault", "()I"⟩, prog_14_method_26_code, 1, (some .int))
abbrev mi_M_notes : MI := (⟨"WideTurnModel", "notes", "()V"⟩, prog_14_method_27_code, 2, none)
abbrev mi_M_undo : MI := (⟨"WideTurnModel", "undo", "()I"⟩, prog_14_method_28_code, 2, (some .int))
abbrev mi_M_dx : MI := (⟨"WideTurnModel", "dx", "(I)I"⟩, prog_14_method_29_code, 2, (some .int))
abbrev mi_M_dy : MI := (⟨"WideTurnModel", "dy", "(I)I"⟩, prog_14_method_30_code, 2, (some .int))
abbrev mi_M_isCell : MI := (⟨"WideTurnModel", "isCell", "(II)Z"⟩, prog_14_method_31_code, 2, (some .boolean))
abbrev mi_M_isFree : MI := (⟨"WideTurnModel", "isFree", "([IIII)Z"⟩, prog_14_method_32_code, 4, (some .boolean))
abbrev mi_M_fits : MI := (⟨"WideTurnModel", "fits", "([IIIII)Z"⟩, prog_14_method_33_code, 5, (some .boolean))
abbrev mi_M_draughtOf : MI := (⟨"WideTurnModel", "draughtOf", "([II)I"⟩, prog_14_method_34_code, 3, (some .int))
abbrev mi_M_makes : MI := (⟨"WideTurnModel", "makes", "(II)Z"⟩, prog_14_method_35_code, 2, (some .boolean))
abbrev mi_M_minutesOf : MI := (⟨"WideTurnModel", "minutesOf", "([III)I"⟩, prog_14_method_36_code, 5, (some .int))
abbrev mi_M_goes : MI := (⟨"WideTurnModel", "goes", "([IIII)Z"⟩, prog_14_method_37_code, 11, (some .boolean))
abbrev mi_M_isHand : MI := (⟨"WideTurnModel", "isHand", "(I)Z"⟩, prog_14_method_38_code, 2, (some .boolean))
abbrev mi_M_fitsNow : MI := (⟨"WideTurnModel", "fitsNow", "()Z"⟩, prog_14_method_39_code, 1, (some .boolean))
abbrev mi_M_move : MI := (⟨"WideTurnModel", "move", "(II)I"⟩, prog_14_method_40_code, 3, (some .int))
abbrev mi_M_laden : MI := (⟨"WideTurnModel", "laden", "(I)I"⟩, prog_14_method_41_code, 2, (some .int))
abbrev mi_M_boatCells : MI := (⟨"WideTurnModel", "boatCells", "()I"⟩, prog_14_method_42_code, 5, (some .int))
abbrev mi_M_moor : MI := (⟨"WideTurnModel", "moor", "(II)I"⟩, prog_14_method_43_code, 3, (some .int))
abbrev mi_M_silts : MI := (⟨"WideTurnModel", "silts", "([I)V"⟩, prog_14_method_44_code, 2, none)
abbrev mi_M_silt : MI := (⟨"WideTurnModel", "silt", "()I"⟩, prog_14_method_45_code, 1, (some .int))
abbrev mi_M_boat : MI := (⟨"WideTurnModel", "boat", "(I)I"⟩, prog_14_method_46_code, 2, (some .int))
abbrev mi_M_cell : MI := (⟨"WideTurnModel", "cell", "(II)I"⟩, prog_14_method_47_code, 3, (some .int))
abbrev mi_M_hand : MI := (⟨"WideTurnModel", "hand", "(II)I"⟩, prog_14_method_48_code, 3, (some .int))
abbrev mi_M_node : MI := (⟨"WideTurnModel", "node", "([I)I"⟩, prog_14_method_49_code, 1, (some .int))
abbrev mi_M_puts : MI := (⟨"WideTurnModel", "puts", "([II)V"⟩, prog_14_method_50_code, 2, none)
abbrev mi_M_behind : MI := (⟨"WideTurnModel", "behind", "([IIIII)I"⟩, prog_14_method_51_code, 9, (some .int))
abbrev mi_M_solves : MI := (⟨"WideTurnModel", "solves", "([IIII)I"⟩, prog_14_method_52_code, 11, (some .int))
abbrev mi_M_firstOf : MI := (⟨"WideTurnModel", "firstOf", "([I)I"⟩, prog_14_method_53_code, 6, (some .int))
abbrev mi_M_turnedOf : MI := (⟨"WideTurnModel", "turnedOf", "([II)I"⟩, prog_14_method_54_code, 3, (some .int))
abbrev mi_M_way : MI := (⟨"WideTurnModel", "way", "(III)I"⟩, prog_14_method_55_code, 5, (some .int))
abbrev mi_M_turned : MI := (⟨"WideTurnModel", "turned", "(I)I"⟩, prog_14_method_56_code, 3, (some .int))
abbrev mi_M_inches : MI := (⟨"WideTurnModel", "inches", "()I"⟩, prog_14_method_57_code, 2, (some .int))
abbrev mi_M_inTheWay : MI := (⟨"WideTurnModel", "inTheWay", "(I)I"⟩, prog_14_method_58_code, 6, (some .int))
abbrev mi_M_dig : MI := (⟨"WideTurnModel", "dig", "(I)I"⟩, prog_14_method_59_code, 6, (some .int))
abbrev mi_M_years : MI := (⟨"WideTurnModel", "years", "()I"⟩, prog_14_method_60_code, 2, (some .int))
abbrev mi_M_better : MI := (⟨"WideTurnModel", "better", "()I"⟩, prog_14_method_61_code, 3, (some .int))
abbrev mi_M_wrongRow : MI := (⟨"WideTurnModel", "wrongRow", "(III)I"⟩, prog_14_method_62_code, 4, (some .int))
abbrev mi_M_plan : MI := (⟨"WideTurnModel", "plan", "(IIII)I"⟩, prog_14_method_63_code, 11, (some .int))
abbrev mi_M_seen : MI := (⟨"WideTurnModel", "seen", "(IIII)I"⟩, prog_14_method_64_code, 13, (some .int))
abbrev mi_M_power : MI := (⟨"WideTurnModel", "power", "(JI)J"⟩, prog_14_method_65_code, 6, (some .long))
abbrev mi_M_choose : MI := (⟨"WideTurnModel", "choose", "(II)J"⟩, prog_14_method_66_code, 5, (some .long))
abbrev mi_M_gcd : MI := (⟨"WideTurnModel", "gcd", "(JJ)J"⟩, prog_14_method_67_code, 10, (some .long))
abbrev mi_M_gusts : MI := (⟨"WideTurnModel", "gusts", "(IIII)J"⟩, prog_14_method_68_code, 11, (some .long))
abbrev mi_M_reach : MI := (⟨"WideTurnModel", "reach", "()I"⟩, prog_14_method_69_code, 7, (some .int))
abbrev mi_M_days : MI := (⟨"WideTurnModel", "days", "(III)I"⟩, prog_14_method_70_code, 9, (some .int))
abbrev mi_M_image : MI := (⟨"WideTurnModel", "image", "(I)I"⟩, prog_14_method_71_code, 3, (some .int))
abbrev mi_M_restore : MI := (⟨"WideTurnModel", "restore", "(I)I"⟩, prog_14_method_72_code, 3, (some .int))
abbrev mi_M_kind : MI := (⟨"WideTurnModel", "kind", "(I)I"⟩, prog_14_method_73_code, 2, (some .int))
abbrev mi_M_as : MI := (⟨"WideTurnModel", "as", "(II)I"⟩, prog_14_method_74_code, 5, (some .int))
abbrev mi_M_leaves : MI := (⟨"WideTurnModel", "leaves", "(I)V"⟩, prog_14_method_75_code, 2, none)
abbrev mi_M_plainMark : MI := (⟨"WideTurnModel", "plainMark", "(I)I"⟩, prog_14_method_76_code, 4, (some .int))
abbrev mi_M_sizeOf : MI := (⟨"WideTurnModel", "sizeOf", "(I)I"⟩, prog_14_method_77_code, 4, (some .int))
abbrev mi_M_markOf : MI := (⟨"WideTurnModel", "markOf", "(I)I"⟩, prog_14_method_78_code, 2, (some .int))
abbrev mi_M_ask : MI := (⟨"WideTurnModel", "ask", "(II)I"⟩, prog_14_method_79_code, 3, (some .int))
abbrev mi_M_trace : MI := (⟨"WideTurnModel", "trace", "(I)I"⟩, prog_14_method_80_code, 2, (some .int))
abbrev mi_M_count : MI := (⟨"WideTurnModel", "count", "(I)I"⟩, prog_14_method_81_code, 4, (some .int))
abbrev mi_M_status : MI := (⟨"WideTurnModel", "status", "()I"⟩, prog_14_method_82_code, 1, (some .int))
abbrev mi_J_bitCount : MI := (⟨"java/lang/Integer", "bitCount", "(I)I"⟩, prog_15_method_49_code, 1, (some .int))
abbrev mi_J_max : MI := (⟨"java/lang/Math", "max", "(II)I"⟩, prog_16_method_65_code, 2, (some .int))
abbrev mi_J_min : MI := (⟨"java/lang/Math", "min", "(II)I"⟩, prog_16_method_69_code, 2, (some .int))
abbrev mi_J_fill : MI := (⟨"java/util/Arrays", "fill", "([II)V"⟩, prog_18_method_103_code, 4, none)
abbrev mi_L_law : MI := (⟨"WideTurnLaw", "law", "([I)Z"⟩, code, 4, (some .boolean))
theorem w0 : (Cond.selects "WideTurn" ⟨"WideTurn", "found", "(I)I"⟩ ⟨"WideTurn", "found", "(I)I"⟩) ∈ mj_tbl := mj_mem_tbl 0 (by decide +kernel) rfl
theorem w1 : (Cond.selects "WideTurn" ⟨"WideTurn", "sound", "(I)I"⟩ ⟨"WideTurn", "sound", "(I)I"⟩) ∈ mj_tbl := mj_mem_tbl 1 (by decide +kernel) rfl
theorem w2 : (Cond.selects "WideTurn$Tape" ⟨"WideTurn$Tape", "readLaw", "(LWideTurn$Basin;)V"⟩ ⟨"WideTurn$Tape", "readLaw", "(LWideTurn$Basin;)V"⟩) ∈ mj_tbl := mj_mem_tbl 2 (by decide +kernel) rfl
theorem w3 : (Cond.selects "WideTurn$Tape" ⟨"WideTurn$Tape", "readLetter", "(I)V"⟩ ⟨"WideTurn$Tape", "readLetter", "(I)V"⟩) ∈ mj_tbl := mj_mem_tbl 3 (by decide +kernel) rfl
theorem w4 : (Cond.selects "WideTurn$Tape" ⟨"WideTurn$Tape", "letterAt", "(I)I"⟩ ⟨"WideTurn$Tape", "letterAt", "(I)I"⟩) ∈ mj_tbl := mj_mem_tbl 4 (by decide +kernel) rfl
theorem w5 : (Cond.selects "WideTurn$Tape" ⟨"WideTurn$Tape", "fail", "(II)V"⟩ ⟨"WideTurn$Tape", "fail", "(II)V"⟩) ∈ mj_tbl := mj_mem_tbl 5 (by decide +kernel) rfl
theorem w6 : (Cond.selects "WideTurn$Tape" ⟨"WideTurn$Tape", "readNumber", "(II)I"⟩ ⟨"WideTurn$Tape", "readNumber", "(II)I"⟩) ∈ mj_tbl := mj_mem_tbl 6 (by decide +kernel) rfl
theorem w7 : (Cond.selects "WideTurn$Tape" ⟨"WideTurn$Tape", "readDepths", "(LWideTurn$Basin;)V"⟩ ⟨"WideTurn$Tape", "readDepths", "(LWideTurn$Basin;)V"⟩) ∈ mj_tbl := mj_mem_tbl 7 (by decide +kernel) rfl
theorem w8 : (Cond.selects "WideTurn$Tape" ⟨"WideTurn$Tape", "readDepth", "()I"⟩ ⟨"WideTurn$Tape", "readDepth", "()I"⟩) ∈ mj_tbl := mj_mem_tbl 8 (by decide +kernel) rfl
theorem w9 : (Cond.selects "WideTurn$Tape" ⟨"WideTurn$Tape", "readBoat", "(LWideTurn$Basin;)V"⟩ ⟨"WideTurn$Tape", "readBoat", "(LWideTurn$Basin;)V"⟩) ∈ mj_tbl := mj_mem_tbl 9 (by decide +kernel) rfl
theorem w10 : (Cond.selects "WideTurn$Tape" ⟨"WideTurn$Tape", "readMoored", "(LWideTurn$Basin;)V"⟩ ⟨"WideTurn$Tape", "readMoored", "(LWideTurn$Basin;)V"⟩) ∈ mj_tbl := mj_mem_tbl 10 (by decide +kernel) rfl
theorem w11 : (Cond.selects "WideTurn$Tape" ⟨"WideTurn$Tape", "readHands", "(LWideTurn$Basin;)V"⟩ ⟨"WideTurn$Tape", "readHands", "(LWideTurn$Basin;)V"⟩) ∈ mj_tbl := mj_mem_tbl 11 (by decide +kernel) rfl
theorem w12 : (Cond.selects "WideTurn$Basin" ⟨"WideTurn$Basin", "clearance", "(I)I"⟩ ⟨"WideTurn$Basin", "clearance", "(I)I"⟩) ∈ mj_tbl := mj_mem_tbl 12 (by decide +kernel) rfl
theorem w13 : (Cond.selects "WideTurn$Search" ⟨"WideTurn$Search", "prepare", "(LWideTurn$Basin;I)V"⟩ ⟨"WideTurn$Search", "prepare", "(LWideTurn$Basin;I)V"⟩) ∈ mj_tbl := mj_mem_tbl 13 (by decide +kernel) rfl
theorem w14 : (Cond.selects "WideTurn$Search" ⟨"WideTurn$Search", "choosePacers", "(LWideTurn$Basin;)V"⟩ ⟨"WideTurn$Search", "choosePacers", "(LWideTurn$Basin;)V"⟩) ∈ mj_tbl := mj_mem_tbl 14 (by decide +kernel) rfl
theorem w15 : (Cond.selects "WideTurn$Search" ⟨"WideTurn$Search", "add", "(III)V"⟩ ⟨"WideTurn$Search", "add", "(III)V"⟩) ∈ mj_tbl := mj_mem_tbl 15 (by decide +kernel) rfl
theorem w16 : (Cond.selects "WideTurn$Search" ⟨"WideTurn$Search", "remove", "(I)V"⟩ ⟨"WideTurn$Search", "remove", "(I)V"⟩) ∈ mj_tbl := mj_mem_tbl 16 (by decide +kernel) rfl
theorem w17 : (Cond.selects "WideTurn$Search" ⟨"WideTurn$Search", "leave", "(I)V"⟩ ⟨"WideTurn$Search", "leave", "(I)V"⟩) ∈ mj_tbl := mj_mem_tbl 17 (by decide +kernel) rfl
theorem w18 : (Cond.selects "WideTurn$Search" ⟨"WideTurn$Search", "clearAt", "(II)I"⟩ ⟨"WideTurn$Search", "clearAt", "(II)I"⟩) ∈ mj_tbl := mj_mem_tbl 18 (by decide +kernel) rfl
theorem w19 : (Cond.selects "WideTurn$Search" ⟨"WideTurn$Search", "behind", "(III)I"⟩ ⟨"WideTurn$Search", "behind", "(III)I"⟩) ∈ mj_tbl := mj_mem_tbl 19 (by decide +kernel) rfl
theorem w20 : (Cond.selects "WideTurn$Search" ⟨"WideTurn$Search", "offer", "(III)V"⟩ ⟨"WideTurn$Search", "offer", "(III)V"⟩) ∈ mj_tbl := mj_mem_tbl 20 (by decide +kernel) rfl
theorem w21 : (Cond.selects "WideTurn" ⟨"WideTurn", "easiestCell", "(ZI)I"⟩ ⟨"WideTurn", "easiestCell", "(ZI)I"⟩) ∈ mj_tbl := mj_mem_tbl 21 (by decide +kernel) rfl
theorem w22 : (Cond.selects "WideTurn" ⟨"WideTurn", "minutesIfLaden", "(I)I"⟩ ⟨"WideTurn", "minutesIfLaden", "(I)I"⟩) ∈ mj_tbl := mj_mem_tbl 22 (by decide +kernel) rfl
theorem w23 : (Cond.selects "WideTurn" ⟨"WideTurn", "findingAt", "(III)I"⟩ ⟨"WideTurn", "findingAt", "(III)I"⟩) ∈ mj_tbl := mj_mem_tbl 23 (by decide +kernel) rfl
theorem w24 : (Cond.selects "WideTurn" ⟨"WideTurn", "planned", "(IIII)I"⟩ ⟨"WideTurn", "planned", "(IIII)I"⟩) ∈ mj_tbl := mj_mem_tbl 24 (by decide +kernel) rfl
theorem w25 : (Cond.selects "WideTurn" ⟨"WideTurn", "waysSeen", "(IIIII)I"⟩ ⟨"WideTurn", "waysSeen", "(IIIII)I"⟩) ∈ mj_tbl := mj_mem_tbl 25 (by decide +kernel) rfl
theorem w26 : (Cond.selects "WideTurn" ⟨"WideTurn", "waysBehind", "(IIIIII)I"⟩ ⟨"WideTurn", "waysBehind", "(IIIIII)I"⟩) ∈ mj_tbl := mj_mem_tbl 26 (by decide +kernel) rfl
theorem w27 : (Cond.selects "WideTurn" ⟨"WideTurn", "firstSeen", "(III)I"⟩ ⟨"WideTurn", "firstSeen", "(III)I"⟩) ∈ mj_tbl := mj_mem_tbl 27 (by decide +kernel) rfl
theorem w28 : (Cond.selects "WideTurn" ⟨"WideTurn", "passDays", "(II)I"⟩ ⟨"WideTurn", "passDays", "(II)I"⟩) ∈ mj_tbl := mj_mem_tbl 28 (by decide +kernel) rfl
theorem w29 : (Cond.selects "WideTurnModel" ⟨"WideTurnModel", "finds", "(I)I"⟩ ⟨"WideTurnModel", "finds", "(I)I"⟩) ∈ mj_tbl := mj_mem_tbl 29 (by decide +kernel) rfl
theorem w30 : (Cond.selects "WideTurnModel" ⟨"WideTurnModel", "is", "(I)I"⟩ ⟨"WideTurnModel", "is", "(I)I"⟩) ∈ mj_tbl := mj_mem_tbl 30 (by decide +kernel) rfl
theorem w31 : (Cond.selects "WideTurnModel" ⟨"WideTurnModel", "isPart", "(III)Z"⟩ ⟨"WideTurnModel", "isPart", "(III)Z"⟩) ∈ mj_tbl := mj_mem_tbl 31 (by decide +kernel) rfl
theorem w32 : (Cond.selects "WideTurnModel" ⟨"WideTurnModel", "advances", "()V"⟩ ⟨"WideTurnModel", "advances", "()V"⟩) ∈ mj_tbl := mj_mem_tbl 32 (by decide +kernel) rfl
theorem w33 : (Cond.selects "WideTurnModel" ⟨"WideTurnModel", "letterAt", "(I)I"⟩ ⟨"WideTurnModel", "letterAt", "(I)I"⟩) ∈ mj_tbl := mj_mem_tbl 33 (by decide +kernel) rfl
theorem w34 : (Cond.selects "WideTurnModel" ⟨"WideTurnModel", "readsHead", "()V"⟩ ⟨"WideTurnModel", "readsHead", "()V"⟩) ∈ mj_tbl := mj_mem_tbl 34 (by decide +kernel) rfl
theorem w35 : (Cond.selects "WideTurnModel" ⟨"WideTurnModel", "wants", "(II)V"⟩ ⟨"WideTurnModel", "wants", "(II)V"⟩) ∈ mj_tbl := mj_mem_tbl 35 (by decide +kernel) rfl
theorem w36 : (Cond.selects "WideTurnModel" ⟨"WideTurnModel", "fails", "(I)V"⟩ ⟨"WideTurnModel", "fails", "(I)V"⟩) ∈ mj_tbl := mj_mem_tbl 36 (by decide +kernel) rfl
theorem w37 : (Cond.selects "WideTurnModel" ⟨"WideTurnModel", "isWell", "()Z"⟩ ⟨"WideTurnModel", "isWell", "()Z"⟩) ∈ mj_tbl := mj_mem_tbl 37 (by decide +kernel) rfl
theorem w38 : (Cond.selects "WideTurnModel" ⟨"WideTurnModel", "number", "(IIZ)I"⟩ ⟨"WideTurnModel", "number", "(IIZ)I"⟩) ∈ mj_tbl := mj_mem_tbl 38 (by decide +kernel) rfl
theorem w39 : (Cond.selects "WideTurnModel" ⟨"WideTurnModel", "readsRest", "()V"⟩ ⟨"WideTurnModel", "readsRest", "()V"⟩) ∈ mj_tbl := mj_mem_tbl 39 (by decide +kernel) rfl
theorem w40 : (Cond.selects "WideTurnModel" ⟨"WideTurnModel", "isHand", "(I)Z"⟩ ⟨"WideTurnModel", "isHand", "(I)Z"⟩) ∈ mj_tbl := mj_mem_tbl 40 (by decide +kernel) rfl
theorem w41 : (Cond.selects "WideTurnModel" ⟨"WideTurnModel", "notes", "()V"⟩ ⟨"WideTurnModel", "notes", "()V"⟩) ∈ mj_tbl := mj_mem_tbl 41 (by decide +kernel) rfl
theorem w42 : (Cond.selects "WideTurnModel" ⟨"WideTurnModel", "boatCells", "()I"⟩ ⟨"WideTurnModel", "boatCells", "()I"⟩) ∈ mj_tbl := mj_mem_tbl 42 (by decide +kernel) rfl
theorem w43 : (Cond.selects "WideTurnModel" ⟨"WideTurnModel", "fitsNow", "()Z"⟩ ⟨"WideTurnModel", "fitsNow", "()Z"⟩) ∈ mj_tbl := mj_mem_tbl 43 (by decide +kernel) rfl
theorem w44 : (Cond.selects "WideTurnModel" ⟨"WideTurnModel", "solves", "([IIII)I"⟩ ⟨"WideTurnModel", "solves", "([IIII)I"⟩) ∈ mj_tbl := mj_mem_tbl 44 (by decide +kernel) rfl
theorem w45 : (Cond.selects "WideTurnModel" ⟨"WideTurnModel", "firstOf", "([I)I"⟩ ⟨"WideTurnModel", "firstOf", "([I)I"⟩) ∈ mj_tbl := mj_mem_tbl 45 (by decide +kernel) rfl
theorem w46 : (Cond.selects "WideTurnModel" ⟨"WideTurnModel", "turnedOf", "([II)I"⟩ ⟨"WideTurnModel", "turnedOf", "([II)I"⟩) ∈ mj_tbl := mj_mem_tbl 46 (by decide +kernel) rfl
theorem w47 : (Cond.selects "WideTurnModel" ⟨"WideTurnModel", "wrongRow", "(III)I"⟩ ⟨"WideTurnModel", "wrongRow", "(III)I"⟩) ∈ mj_tbl := mj_mem_tbl 47 (by decide +kernel) rfl
theorem w48 : (Cond.selects "WideTurnModel" ⟨"WideTurnModel", "sizeOf", "(I)I"⟩ ⟨"WideTurnModel", "sizeOf", "(I)I"⟩) ∈ mj_tbl := mj_mem_tbl 48 (by decide +kernel) rfl
theorem w49 : (Cond.selects "WideTurnModel" ⟨"WideTurnModel", "leaves", "(I)V"⟩ ⟨"WideTurnModel", "leaves", "(I)V"⟩) ∈ mj_tbl := mj_mem_tbl 49 (by decide +kernel) rfl
theorem w50 : (Cond.selects "WideTurnModel" ⟨"WideTurnModel", "plainMark", "(I)I"⟩ ⟨"WideTurnModel", "plainMark", "(I)I"⟩) ∈ mj_tbl := mj_mem_tbl 50 (by decide +kernel) rfl
theorem w51 : (Cond.selects "WideTurnModel" ⟨"WideTurnModel", "markOf", "(I)I"⟩ ⟨"WideTurnModel", "markOf", "(I)I"⟩) ∈ mj_tbl := mj_mem_tbl 51 (by decide +kernel) rfl
theorem w53 : (Cond.initialized "WideTurn") ∈ mj_tbl := mj_mem_tbl 53 (by decide +kernel) rfl
theorem w54 : (Cond.initialized "WideTurn$Rows") ∈ mj_tbl := mj_mem_tbl 54 (by decide +kernel) rfl
theorem w55 : (Cond.initialized "java/util/Arrays") ∈ mj_tbl := mj_mem_tbl 55 (by decide +kernel) rfl
theorem w56 : (Cond.initialized "WideTurn$Tape") ∈ mj_tbl := mj_mem_tbl 56 (by decide +kernel) rfl
theorem w57 : (Cond.initialized "WideTurn$Acts") ∈ mj_tbl := mj_mem_tbl 57 (by decide +kernel) rfl
theorem w58 : (Cond.initialized "WideTurn$Search") ∈ mj_tbl := mj_mem_tbl 58 (by decide +kernel) rfl
theorem w59 : (Cond.initialized "WideTurn$Basin") ∈ mj_tbl := mj_mem_tbl 59 (by decide +kernel) rfl
theorem w60 : (Cond.initialized "WideTurnModel") ∈ mj_tbl := mj_mem_tbl 60 (by decide +kernel) rfl
theorem w62 : (Cond.initialized "WideTurn$Hand") ∈ mj_tbl := mj_mem_tbl 62 (by decide +kernel) rfl
theorem w63 : (Cond.initialized "WideTurn$Swinger") ∈ mj_tbl := mj_mem_tbl 63 (by decide +kernel) rfl
theorem w64 : (Cond.initialized "WideTurn$Poler") ∈ mj_tbl := mj_mem_tbl 64 (by decide +kernel) rfl
theorem w65 : (Cond.initialized "WideTurn$Roper") ∈ mj_tbl := mj_mem_tbl 65 (by decide +kernel) rfl
theorem w66 : (Cond.initialized "WideTurn$Shover") ∈ mj_tbl := mj_mem_tbl 66 (by decide +kernel) rfl
theorem w67 : (Cond.initialized "WideTurn$Lifter") ∈ mj_tbl := mj_mem_tbl 67 (by decide +kernel) rfl
theorem w68 : (Cond.initialized "java/lang/Math") ∈ mj_tbl := mj_mem_tbl 68 (by decide +kernel) rfl
theorem w69 : (Cond.initialized "java/lang/Integer") ∈ mj_tbl := mj_mem_tbl 69 (by decide +kernel) rfl
theorem w70 : (Cond.classLink "WideTurnLaw" (7 : Nat) "WideTurn") ∈ mj_tbl := mj_mem_tbl 70 (by decide +kernel) rfl
theorem w71 : (Cond.instantiable "WideTurn" (10 : Nat)) ∈ mj_tbl := mj_mem_tbl 71 (by decide +kernel) rfl
theorem w72 : (Cond.methodLink "WideTurnLaw" (9 : Nat) ⟨"WideTurn", "<init>", "()V"⟩) ∈ mj_tbl := mj_mem_tbl 72 (by decide +kernel) rfl
theorem w73 : (Cond.instanceMethod ⟨"WideTurn", "<init>", "()V"⟩) ∈ mj_tbl := mj_mem_tbl 73 (by decide +kernel) rfl
theorem w74 : (Cond.code ⟨"WideTurn", "<init>", "()V"⟩ prog_1_method_1_code (1 : Nat) (Option.none : Option FieldType)) ∈ mj_tbl := mj_mem_tbl 74 (by decide +kernel) rfl
theorem w75 : (Cond.methodLink "WideTurn" (1 : Nat) ⟨"java/lang/Object", "<init>", "()V"⟩) ∈ mj_tbl := mj_mem_tbl 75 (by decide +kernel) rfl
theorem w78 : (Cond.classLink "WideTurn" (7 : Nat) "WideTurn$Rows") ∈ mj_tbl := mj_mem_tbl 78 (by decide +kernel) rfl
theorem w79 : (Cond.instantiable "WideTurn$Rows" (3 : Nat)) ∈ mj_tbl := mj_mem_tbl 79 (by decide +kernel) rfl
theorem w80 : (Cond.methodLink "WideTurn" (9 : Nat) ⟨"WideTurn$Rows", "<init>", "()V"⟩) ∈ mj_tbl := mj_mem_tbl 80 (by decide +kernel) rfl
theorem w81 : (Cond.instanceMethod ⟨"WideTurn$Rows", "<init>", "()V"⟩) ∈ mj_tbl := mj_mem_tbl 81 (by decide +kernel) rfl
theorem w82 : (Cond.code ⟨"WideTurn$Rows", "<init>", "()V"⟩ prog_8_method_1_code (1 : Nat) (Option.none : Option FieldType)) ∈ mj_tbl := mj_mem_tbl 82 (by decide +kernel) rfl
theorem w83 : (Cond.methodLink "WideTurn$Rows" (3 : Nat) ⟨"java/lang/Object", "<init>", "()V"⟩) ∈ mj_tbl := mj_mem_tbl 83 (by decide +kernel) rfl
theorem w84 : (Cond.methodLink "WideTurn$Rows" (21 : Nat) ⟨"java/util/Arrays", "fill", "([II)V"⟩) ∈ mj_tbl := mj_mem_tbl 84 (by decide +kernel) rfl
theorem w85 : (Cond.static ⟨"java/util/Arrays", "fill", "([II)V"⟩) ∈ mj_tbl := mj_mem_tbl 85 (by decide +kernel) rfl
theorem w86 : (Cond.code ⟨"java/util/Arrays", "fill", "([II)V"⟩ prog_18_method_103_code (4 : Nat) (Option.none : Option FieldType)) ∈ mj_tbl := mj_mem_tbl 86 (by decide +kernel) rfl
theorem w87 : (Cond.fieldLink "WideTurn$Rows" (9 : Nat) "WideTurn$Rows" "items" "[I") ∈ mj_tbl := mj_mem_tbl 87 (by decide +kernel) rfl
theorem w88 : (Cond.fieldLink "WideTurn$Rows" (15 : Nat) "WideTurn$Rows" "lanes" "[I") ∈ mj_tbl := mj_mem_tbl 88 (by decide +kernel) rfl
theorem w89 : (Cond.fieldLink "WideTurn$Rows" (18 : Nat) "WideTurn$Rows" "sizes" "[I") ∈ mj_tbl := mj_mem_tbl 89 (by decide +kernel) rfl
theorem w98 : (Cond.classLink "WideTurn" (16 : Nat) "WideTurn$Tape") ∈ mj_tbl := mj_mem_tbl 98 (by decide +kernel) rfl
theorem w99 : (Cond.instantiable "WideTurn$Tape" (6 : Nat)) ∈ mj_tbl := mj_mem_tbl 99 (by decide +kernel) rfl
theorem w100 : (Cond.methodLinkNest "WideTurn" (18 : Nat) ⟨"WideTurn$Tape", "<init>", "()V"⟩ "WideTurn") ∈ mj_bad := mj_mem_bad 100 (by decide +kernel) rfl
theorem w101 : (Cond.instanceMethod ⟨"WideTurn$Tape", "<init>", "()V"⟩) ∈ mj_tbl := mj_mem_tbl 101 (by decide +kernel) rfl
theorem w102 : (Cond.code ⟨"WideTurn$Tape", "<init>", "()V"⟩ prog_12_method_1_code (1 : Nat) (Option.none : Option FieldType)) ∈ mj_tbl := mj_mem_tbl 102 (by decide +kernel) rfl
theorem w103 : (Cond.methodLink "WideTurn$Tape" (3 : Nat) ⟨"java/lang/Object", "<init>", "()V"⟩) ∈ mj_tbl := mj_mem_tbl 103 (by decide +kernel) rfl
theorem w104 : (Cond.fieldLink "WideTurn$Tape" (11 : Nat) "WideTurn$Tape" "bytes" "[I") ∈ mj_tbl := mj_mem_tbl 104 (by decide +kernel) rfl
theorem w105 : (Cond.fieldLink "WideTurn$Tape" (15 : Nat) "WideTurn$Tape" "length" "I") ∈ mj_tbl := mj_mem_tbl 105 (by decide +kernel) rfl
theorem w106 : (Cond.fieldLink "WideTurn$Tape" (29 : Nat) "WideTurn$Tape" "place" "I") ∈ mj_tbl := mj_mem_tbl 106 (by decide +kernel) rfl
theorem w107 : (Cond.fieldLink "WideTurn$Tape" (32 : Nat) "WideTurn$Tape" "fault" "I") ∈ mj_tbl := mj_mem_tbl 107 (by decide +kernel) rfl
theorem w108 : (Cond.fieldLink "WideTurn$Tape" (19 : Nat) "WideTurn$Tape" "faultPlace" "I") ∈ mj_tbl := mj_mem_tbl 108 (by decide +kernel) rfl
theorem w109 : (Cond.fieldLink "WideTurn$Tape" (22 : Nat) "WideTurn$Tape" "latestFault" "I") ∈ mj_tbl := mj_mem_tbl 109 (by decide +kernel) rfl
theorem w123 : (Cond.classLink "WideTurn" (23 : Nat) "WideTurn$Acts") ∈ mj_tbl := mj_mem_tbl 123 (by decide +kernel) rfl
theorem w124 : (Cond.instantiable "WideTurn$Acts" (8 : Nat)) ∈ mj_tbl := mj_mem_tbl 124 (by decide +kernel) rfl
theorem w125 : (Cond.methodLinkNest "WideTurn" (25 : Nat) ⟨"WideTurn$Acts", "<init>", "()V"⟩ "WideTurn") ∈ mj_bad := mj_mem_bad 125 (by decide +kernel) rfl
theorem w126 : (Cond.instanceMethod ⟨"WideTurn$Acts", "<init>", "()V"⟩) ∈ mj_tbl := mj_mem_tbl 126 (by decide +kernel) rfl
theorem w127 : (Cond.code ⟨"WideTurn$Acts", "<init>", "()V"⟩ prog_2_method_1_code (1 : Nat) (Option.none : Option FieldType)) ∈ mj_tbl := mj_mem_tbl 127 (by decide +kernel) rfl
theorem w128 : (Cond.methodLink "WideTurn$Acts" (3 : Nat) ⟨"java/lang/Object", "<init>", "()V"⟩) ∈ mj_tbl := mj_mem_tbl 128 (by decide +kernel) rfl
theorem w129 : (Cond.fieldLink "WideTurn$Acts" (11 : Nat) "WideTurn$Acts" "middle" "[I") ∈ mj_tbl := mj_mem_tbl 129 (by decide +kernel) rfl
theorem w130 : (Cond.fieldLink "WideTurn$Acts" (15 : Nat) "WideTurn$Acts" "turn" "[I") ∈ mj_tbl := mj_mem_tbl 130 (by decide +kernel) rfl
theorem w131 : (Cond.fieldLink "WideTurn$Acts" (18 : Nat) "WideTurn$Acts" "laden" "[I") ∈ mj_tbl := mj_mem_tbl 131 (by decide +kernel) rfl
theorem w132 : (Cond.fieldLink "WideTurn$Acts" (21 : Nat) "WideTurn$Acts" "moves" "[I") ∈ mj_tbl := mj_mem_tbl 132 (by decide +kernel) rfl
theorem w133 : (Cond.fieldLink "WideTurn$Acts" (24 : Nat) "WideTurn$Acts" "moored" "[I") ∈ mj_tbl := mj_mem_tbl 133 (by decide +kernel) rfl
theorem w134 : (Cond.fieldLink "WideTurn$Acts" (27 : Nat) "WideTurn$Acts" "lowered" "[I") ∈ mj_tbl := mj_mem_tbl 134 (by decide +kernel) rfl
theorem w135 : (Cond.fieldLink "WideTurn$Acts" (34 : Nat) "WideTurn$Acts" "next" "I") ∈ mj_tbl := mj_mem_tbl 135 (by decide +kernel) rfl
theorem w136 : (Cond.fieldLink "WideTurn$Acts" (30 : Nat) "WideTurn$Acts" "kept" "I") ∈ mj_tbl := mj_mem_tbl 136 (by decide +kernel) rfl
theorem w154 : (Cond.classLink "WideTurn" (30 : Nat) "WideTurn$Search") ∈ mj_tbl := mj_mem_tbl 154 (by decide +kernel) rfl
theorem w155 : (Cond.instantiable "WideTurn$Search" (14 : Nat)) ∈ mj_tbl := mj_mem_tbl 155 (by decide +kernel) rfl
theorem w156 : (Cond.methodLinkNest "WideTurn" (32 : Nat) ⟨"WideTurn$Search", "<init>", "()V"⟩ "WideTurn") ∈ mj_bad := mj_mem_bad 156 (by decide +kernel) rfl
theorem w157 : (Cond.instanceMethod ⟨"WideTurn$Search", "<init>", "()V"⟩) ∈ mj_tbl := mj_mem_tbl 157 (by decide +kernel) rfl
theorem w158 : (Cond.code ⟨"WideTurn$Search", "<init>", "()V"⟩ prog_9_method_1_code (1 : Nat) (Option.none : Option FieldType)) ∈ mj_tbl := mj_mem_tbl 158 (by decide +kernel) rfl
theorem w159 : (Cond.methodLink "WideTurn$Search" (5 : Nat) ⟨"java/lang/Object", "<init>", "()V"⟩) ∈ mj_tbl := mj_mem_tbl 159 (by decide +kernel) rfl
theorem w160 : (Cond.fieldLink "WideTurn$Search" (11 : Nat) "WideTurn$Search" "clear" "[I") ∈ mj_tbl := mj_mem_tbl 160 (by decide +kernel) rfl
theorem w161 : (Cond.fieldLink "WideTurn$Search" (15 : Nat) "WideTurn$Search" "minutes" "[I") ∈ mj_tbl := mj_mem_tbl 161 (by decide +kernel) rfl
theorem w162 : (Cond.fieldLink "WideTurn$Search" (18 : Nat) "WideTurn$Search" "first" "[I") ∈ mj_tbl := mj_mem_tbl 162 (by decide +kernel) rfl
theorem w163 : (Cond.fieldLink "WideTurn$Search" (21 : Nat) "WideTurn$Search" "after" "[I") ∈ mj_tbl := mj_mem_tbl 163 (by decide +kernel) rfl
theorem w164 : (Cond.fieldLink "WideTurn$Search" (24 : Nat) "WideTurn$Search" "before" "[I") ∈ mj_tbl := mj_mem_tbl 164 (by decide +kernel) rfl
theorem w165 : (Cond.fieldLink "WideTurn$Search" (27 : Nat) "WideTurn$Search" "heads" "[I") ∈ mj_tbl := mj_mem_tbl 165 (by decide +kernel) rfl
theorem w166 : (Cond.fieldLink "WideTurn$Search" (30 : Nat) "WideTurn$Search" "paces" "[I") ∈ mj_tbl := mj_mem_tbl 166 (by decide +kernel) rfl
theorem w167 : (Cond.fieldLink "WideTurn$Search" (33 : Nat) "WideTurn$Search" "pacers" "[I") ∈ mj_tbl := mj_mem_tbl 167 (by decide +kernel) rfl
theorem w168 : (Cond.fieldLink "WideTurn$Search" (100 : Nat) "WideTurn$Search" "draught" "I") ∈ mj_tbl := mj_mem_tbl 168 (by decide +kernel) rfl
theorem w169 : (Cond.fieldLink "WideTurn$Search" (110 : Nat) "WideTurn$Search" "lee" "I") ∈ mj_tbl := mj_mem_tbl 169 (by decide +kernel) rfl
theorem w170 : (Cond.fieldLink "WideTurn$Search" (61 : Nat) "WideTurn$Search" "start" "I") ∈ mj_tbl := mj_mem_tbl 170 (by decide +kernel) rfl
theorem w171 : (Cond.fieldLink "WideTurn$Search" (68 : Nat) "WideTurn$Search" "waiting" "I") ∈ mj_tbl := mj_mem_tbl 171 (by decide +kernel) rfl
theorem w172 : (Cond.fieldLink "WideTurn$Search" (50 : Nat) "WideTurn$Search" "foundMinutes" "I") ∈ mj_tbl := mj_mem_tbl 172 (by decide +kernel) rfl
theorem w173 : (Cond.fieldLink "WideTurn" (208 : Nat) "WideTurn$Search" "foundMinutes" "I") ∈ mj_tbl := mj_mem_tbl 173 (by decide +kernel) rfl
theorem w174 : (Cond.fieldLink "WideTurn$Search" (97 : Nat) "WideTurn$Search" "foundFirst" "I") ∈ mj_tbl := mj_mem_tbl 174 (by decide +kernel) rfl
theorem w175 : (Cond.fieldLink "WideTurn" (211 : Nat) "WideTurn$Search" "foundFirst" "I") ∈ mj_tbl := mj_mem_tbl 175 (by decide +kernel) rfl
theorem w205 : (Cond.classLink "WideTurn" (37 : Nat) "WideTurn$Basin") ∈ mj_tbl := mj_mem_tbl 205 (by decide +kernel) rfl
theorem w206 : (Cond.instantiable "WideTurn$Basin" (11 : Nat)) ∈ mj_tbl := mj_mem_tbl 206 (by decide +kernel) rfl
theorem w207 : (Cond.methodLinkNest "WideTurn" (39 : Nat) ⟨"WideTurn$Basin", "<init>", "()V"⟩ "WideTurn") ∈ mj_bad := mj_mem_bad 207 (by decide +kernel) rfl
theorem w208 : (Cond.instanceMethod ⟨"WideTurn$Basin", "<init>", "()V"⟩) ∈ mj_tbl := mj_mem_tbl 208 (by decide +kernel) rfl
theorem w209 : (Cond.code ⟨"WideTurn$Basin", "<init>", "()V"⟩ prog_3_method_1_code (1 : Nat) (Option.none : Option FieldType)) ∈ mj_tbl := mj_mem_tbl 209 (by decide +kernel) rfl
theorem w210 : (Cond.methodLink "WideTurn$Basin" (3 : Nat) ⟨"java/lang/Object", "<init>", "()V"⟩) ∈ mj_tbl := mj_mem_tbl 210 (by decide +kernel) rfl
theorem w211 : (Cond.classLink "WideTurn$Basin" (15 : Nat) "WideTurn$Hand") ∈ mj_tbl := mj_mem_tbl 211 (by decide +kernel) rfl
theorem w212 : (Cond.arrayOver (FieldType.object "WideTurn$Hand")) ∈ mj_bad := mj_mem_bad 212 (by decide +kernel) rfl
theorem w213 : (Cond.fieldLink "WideTurn$Basin" (34 : Nat) "WideTurn$Basin" "wind" "I") ∈ mj_tbl := mj_mem_tbl 213 (by decide +kernel) rfl
theorem w214 : (Cond.fieldLink "WideTurn$Tape" (64 : Nat) "WideTurn$Basin" "wind" "I") ∈ mj_tbl := mj_mem_tbl 214 (by decide +kernel) rfl
theorem w215 : (Cond.fieldLink "WideTurn$Search" (107 : Nat) "WideTurn$Basin" "wind" "I") ∈ mj_tbl := mj_mem_tbl 215 (by decide +kernel) rfl
theorem w216 : (Cond.fieldLink "WideTurn" (284 : Nat) "WideTurn$Basin" "wind" "I") ∈ mj_tbl := mj_mem_tbl 216 (by decide +kernel) rfl
theorem w217 : (Cond.fieldLink "WideTurn$Basin" (37 : Nat) "WideTurn$Basin" "draught" "I") ∈ mj_tbl := mj_mem_tbl 217 (by decide +kernel) rfl
theorem w218 : (Cond.fieldLink "WideTurn$Tape" (67 : Nat) "WideTurn$Basin" "draught" "I") ∈ mj_tbl := mj_mem_tbl 218 (by decide +kernel) rfl
theorem w219 : (Cond.fieldLink "WideTurn$Basin" (40 : Nat) "WideTurn$Basin" "load" "I") ∈ mj_tbl := mj_mem_tbl 219 (by decide +kernel) rfl
theorem w220 : (Cond.fieldLink "WideTurn$Tape" (70 : Nat) "WideTurn$Basin" "load" "I") ∈ mj_tbl := mj_mem_tbl 220 (by decide +kernel) rfl
theorem w221 : (Cond.fieldLink "WideTurn" (287 : Nat) "WideTurn$Basin" "load" "I") ∈ mj_tbl := mj_mem_tbl 221 (by decide +kernel) rfl
theorem w222 : (Cond.fieldLink "WideTurn$Basin" (43 : Nat) "WideTurn$Basin" "middle" "I") ∈ mj_tbl := mj_mem_tbl 222 (by decide +kernel) rfl
theorem w223 : (Cond.fieldLink "WideTurn$Acts" (37 : Nat) "WideTurn$Basin" "middle" "I") ∈ mj_tbl := mj_mem_tbl 223 (by decide +kernel) rfl
theorem w224 : (Cond.fieldLink "WideTurn$Search" (113 : Nat) "WideTurn$Basin" "middle" "I") ∈ mj_tbl := mj_mem_tbl 224 (by decide +kernel) rfl
theorem w225 : (Cond.fieldLink "WideTurn$Tape" (80 : Nat) "WideTurn$Basin" "middle" "I") ∈ mj_tbl := mj_mem_tbl 225 (by decide +kernel) rfl
theorem w226 : (Cond.fieldLink "WideTurn" (188 : Nat) "WideTurn$Basin" "middle" "I") ∈ mj_tbl := mj_mem_tbl 226 (by decide +kernel) rfl
theorem w227 : (Cond.fieldLink "WideTurn$Search" (36 : Nat) "WideTurn$Basin" "turn" "I") ∈ mj_tbl := mj_mem_tbl 227 (by decide +kernel) rfl
theorem w228 : (Cond.fieldLink "WideTurn$Basin" (46 : Nat) "WideTurn$Basin" "turn" "I") ∈ mj_tbl := mj_mem_tbl 228 (by decide +kernel) rfl
theorem w229 : (Cond.fieldLink "WideTurn$Acts" (45 : Nat) "WideTurn$Basin" "turn" "I") ∈ mj_tbl := mj_mem_tbl 229 (by decide +kernel) rfl
theorem w230 : (Cond.fieldLink "WideTurn$Tape" (83 : Nat) "WideTurn$Basin" "turn" "I") ∈ mj_tbl := mj_mem_tbl 230 (by decide +kernel) rfl
theorem w231 : (Cond.fieldLink "WideTurn" (191 : Nat) "WideTurn$Basin" "turn" "I") ∈ mj_tbl := mj_mem_tbl 231 (by decide +kernel) rfl
theorem w232 : (Cond.fieldLink "WideTurn$Basin" (21 : Nat) "WideTurn$Basin" "laden" "I") ∈ mj_tbl := mj_mem_tbl 232 (by decide +kernel) rfl
theorem w233 : (Cond.fieldLink "WideTurn$Acts" (47 : Nat) "WideTurn$Basin" "laden" "I") ∈ mj_tbl := mj_mem_tbl 233 (by decide +kernel) rfl
theorem w234 : (Cond.fieldLink "WideTurn" (160 : Nat) "WideTurn$Basin" "laden" "I") ∈ mj_tbl := mj_mem_tbl 234 (by decide +kernel) rfl
theorem w235 : (Cond.fieldLink "WideTurn$Basin" (25 : Nat) "WideTurn$Basin" "moves" "I") ∈ mj_tbl := mj_mem_tbl 235 (by decide +kernel) rfl
theorem w236 : (Cond.fieldLink "WideTurn$Acts" (49 : Nat) "WideTurn$Basin" "moves" "I") ∈ mj_tbl := mj_mem_tbl 236 (by decide +kernel) rfl
theorem w237 : (Cond.fieldLink "WideTurn$Search" (116 : Nat) "WideTurn$Basin" "moves" "I") ∈ mj_tbl := mj_mem_tbl 237 (by decide +kernel) rfl
theorem w238 : (Cond.fieldLink "WideTurn" (145 : Nat) "WideTurn$Basin" "moves" "I") ∈ mj_tbl := mj_mem_tbl 238 (by decide +kernel) rfl
theorem w239 : (Cond.fieldLink "WideTurn$Basin" (28 : Nat) "WideTurn$Basin" "moored" "I") ∈ mj_tbl := mj_mem_tbl 239 (by decide +kernel) rfl
theorem w240 : (Cond.fieldLink "WideTurn$Acts" (51 : Nat) "WideTurn$Basin" "moored" "I") ∈ mj_tbl := mj_mem_tbl 240 (by decide +kernel) rfl
theorem w241 : (Cond.fieldLink "WideTurn$Tape" (94 : Nat) "WideTurn$Basin" "moored" "I") ∈ mj_tbl := mj_mem_tbl 241 (by decide +kernel) rfl
theorem w242 : (Cond.fieldLink "WideTurn" (166 : Nat) "WideTurn$Basin" "moored" "I") ∈ mj_tbl := mj_mem_tbl 242 (by decide +kernel) rfl
theorem w243 : (Cond.fieldLink "WideTurn$Basin" (31 : Nat) "WideTurn$Basin" "hands" "I") ∈ mj_tbl := mj_mem_tbl 243 (by decide +kernel) rfl
theorem w244 : (Cond.fieldLink "WideTurn" (123 : Nat) "WideTurn$Basin" "hands" "I") ∈ mj_tbl := mj_mem_tbl 244 (by decide +kernel) rfl
theorem w245 : (Cond.fieldLink "WideTurn$Search" (132 : Nat) "WideTurn$Basin" "hands" "I") ∈ mj_tbl := mj_mem_tbl 245 (by decide +kernel) rfl
theorem w246 : (Cond.fieldLink "WideTurn$Basin" (9 : Nat) "WideTurn$Basin" "depth" "[I") ∈ mj_tbl := mj_mem_tbl 246 (by decide +kernel) rfl
theorem w247 : (Cond.fieldLink "WideTurn$Acts" (66 : Nat) "WideTurn$Basin" "depth" "[I") ∈ mj_tbl := mj_mem_tbl 247 (by decide +kernel) rfl
theorem w248 : (Cond.fieldLink "WideTurn$Tape" (73 : Nat) "WideTurn$Basin" "depth" "[I") ∈ mj_tbl := mj_mem_tbl 248 (by decide +kernel) rfl
theorem w249 : (Cond.fieldLink "WideTurn" (194 : Nat) "WideTurn$Basin" "depth" "[I") ∈ mj_tbl := mj_mem_tbl 249 (by decide +kernel) rfl
theorem w250 : (Cond.fieldLink "WideTurn$Basin" (17 : Nat) "WideTurn$Basin" "hand" "[LWideTurn$Hand;") ∈ mj_tbl := mj_mem_tbl 250 (by decide +kernel) rfl
theorem w274 : (Cond.arrayOver (FieldType.object "WideTurn$Basin")) ∈ mj_bad := mj_mem_bad 274 (by decide +kernel) rfl
theorem w275 : (Cond.fieldLink "WideTurn" (10 : Nat) "WideTurn" "rows" "LWideTurn$Rows;") ∈ mj_tbl := mj_mem_tbl 275 (by decide +kernel) rfl
theorem w276 : (Cond.fieldLink "WideTurn" (19 : Nat) "WideTurn" "tape" "LWideTurn$Tape;") ∈ mj_tbl := mj_mem_tbl 276 (by decide +kernel) rfl
theorem w277 : (Cond.fieldLink "WideTurn" (26 : Nat) "WideTurn" "acts" "LWideTurn$Acts;") ∈ mj_tbl := mj_mem_tbl 277 (by decide +kernel) rfl
theorem w278 : (Cond.fieldLink "WideTurn" (33 : Nat) "WideTurn" "search" "LWideTurn$Search;") ∈ mj_tbl := mj_mem_tbl 278 (by decide +kernel) rfl
theorem w279 : (Cond.fieldLink "WideTurn" (40 : Nat) "WideTurn" "now" "LWideTurn$Basin;") ∈ mj_tbl := mj_mem_tbl 279 (by decide +kernel) rfl
theorem w280 : (Cond.fieldLink "WideTurn" (44 : Nat) "WideTurn" "trial" "LWideTurn$Basin;") ∈ mj_tbl := mj_mem_tbl 280 (by decide +kernel) rfl
theorem w281 : (Cond.fieldLink "WideTurn" (47 : Nat) "WideTurn" "images" "[LWideTurn$Basin;") ∈ mj_tbl := mj_mem_tbl 281 (by decide +kernel) rfl
theorem w282 : (Cond.fieldLink "WideTurn" (51 : Nat) "WideTurn" "trace" "[I") ∈ mj_tbl := mj_mem_tbl 282 (by decide +kernel) rfl
theorem w283 : (Cond.fieldLink "WideTurn" (116 : Nat) "WideTurn" "told" "Z") ∈ mj_tbl := mj_mem_tbl 283 (by decide +kernel) rfl
theorem w284 : (Cond.fieldLink "WideTurn" (290 : Nat) "WideTurn" "finding" "I") ∈ mj_tbl := mj_mem_tbl 284 (by decide +kernel) rfl
theorem w306 : (Cond.methodLink "WideTurnLaw" (13 : Nat) ⟨"WideTurn", "row", "(III)I"⟩) ∈ mj_tbl := mj_mem_tbl 306 (by decide +kernel) rfl
theorem w307 : (Cond.instanceMethod ⟨"WideTurn", "row", "(III)I"⟩) ∈ mj_tbl := mj_mem_tbl 307 (by decide +kernel) rfl
theorem w308 : (Cond.selects "WideTurn" ⟨"WideTurn", "row", "(III)I"⟩ ⟨"WideTurn", "row", "(III)I"⟩) ∈ mj_tbl := mj_mem_tbl 308 (by decide +kernel) rfl
theorem w309 : (Cond.code ⟨"WideTurn", "row", "(III)I"⟩ prog_1_method_2_code (4 : Nat) (Option.some FieldType.int)) ∈ mj_tbl := mj_mem_tbl 309 (by decide +kernel) rfl
theorem w310 : (Cond.methodLink "WideTurn" (55 : Nat) ⟨"WideTurn", "isRow", "(I)Z"⟩) ∈ mj_tbl := mj_mem_tbl 310 (by decide +kernel) rfl
theorem w311 : (Cond.static ⟨"WideTurn", "isRow", "(I)Z"⟩) ∈ mj_tbl := mj_mem_tbl 311 (by decide +kernel) rfl
theorem w312 : (Cond.code ⟨"WideTurn", "isRow", "(I)Z"⟩ prog_1_method_48_code (1 : Nat) (Option.some FieldType.boolean)) ∈ mj_tbl := mj_mem_tbl 312 (by decide +kernel) rfl
theorem w313 : (Cond.methodLink "WideTurn" (59 : Nat) ⟨"WideTurn", "within", "(II)Z"⟩) ∈ mj_tbl := mj_mem_tbl 313 (by decide +kernel) rfl
theorem w314 : (Cond.static ⟨"WideTurn", "within", "(II)Z"⟩) ∈ mj_tbl := mj_mem_tbl 314 (by decide +kernel) rfl
theorem w315 : (Cond.code ⟨"WideTurn", "within", "(II)Z"⟩ prog_1_method_47_code (2 : Nat) (Option.some FieldType.boolean)) ∈ mj_tbl := mj_mem_tbl 315 (by decide +kernel) rfl
theorem w316 : (Cond.constant "WideTurn" (63 : Nat) (-1000001 : Int32)) ∈ mj_tbl := mj_mem_tbl 316 (by decide +kernel) rfl
theorem w317 : (Cond.methodLink "WideTurn" (64 : Nat) ⟨"WideTurn", "found", "(I)I"⟩) ∈ mj_tbl := mj_mem_tbl 317 (by decide +kernel) rfl
theorem w319 : (Cond.instanceMethod ⟨"WideTurn", "found", "(I)I"⟩) ∈ mj_tbl := mj_mem_tbl 319 (by decide +kernel) rfl
theorem w320 : (Cond.code ⟨"WideTurn", "found", "(I)I"⟩ prog_1_method_37_code (2 : Nat) (Option.some FieldType.int)) ∈ mj_tbl := mj_mem_tbl 320 (by decide +kernel) rfl
theorem w321 : (Cond.constant "WideTurn" (293 : Nat) (-1000010 : Int32)) ∈ mj_tbl := mj_mem_tbl 321 (by decide +kernel) rfl
theorem w322 : (Cond.methodLink "WideTurn" (68 : Nat) ⟨"WideTurn$Rows", "make", "(III)V"⟩) ∈ mj_tbl := mj_mem_tbl 322 (by decide +kernel) rfl
theorem w323 : (Cond.instanceMethod ⟨"WideTurn$Rows", "make", "(III)V"⟩) ∈ mj_tbl := mj_mem_tbl 323 (by decide +kernel) rfl
theorem w324 : (Cond.selects "WideTurn$Rows" ⟨"WideTurn$Rows", "make", "(III)V"⟩ ⟨"WideTurn$Rows", "make", "(III)V"⟩) ∈ mj_tbl := mj_mem_tbl 324 (by decide +kernel) rfl
theorem w325 : (Cond.code ⟨"WideTurn$Rows", "make", "(III)V"⟩ prog_8_method_5_code (5 : Nat) (Option.none : Option FieldType)) ∈ mj_tbl := mj_mem_tbl 325 (by decide +kernel) rfl
theorem w326 : (Cond.methodLinkNest "WideTurn$Rows" (35 : Nat) ⟨"WideTurn", "put", "([III)V"⟩ "WideTurn") ∈ mj_bad := mj_mem_bad 326 (by decide +kernel) rfl
theorem w327 : (Cond.static ⟨"WideTurn", "put", "([III)V"⟩) ∈ mj_tbl := mj_mem_tbl 327 (by decide +kernel) rfl
theorem w328 : (Cond.code ⟨"WideTurn", "put", "([III)V"⟩ prog_1_method_51_code (3 : Nat) (Option.none : Option FieldType)) ∈ mj_tbl := mj_mem_tbl 328 (by decide +kernel) rfl
theorem w329 : (Cond.methodLink "WideTurn" (72 : Nat) ⟨"WideTurn", "sound", "(I)I"⟩) ∈ mj_tbl := mj_mem_tbl 329 (by decide +kernel) rfl
theorem w331 : (Cond.instanceMethod ⟨"WideTurn", "sound", "(I)I"⟩) ∈ mj_tbl := mj_mem_tbl 331 (by decide +kernel) rfl
theorem w332 : (Cond.code ⟨"WideTurn", "sound", "(I)I"⟩ prog_1_method_38_code (2 : Nat) (Option.some FieldType.int)) ∈ mj_tbl := mj_mem_tbl 332 (by decide +kernel) rfl
theorem w333 : (Cond.methodLink "WideTurnLaw" (18 : Nat) ⟨"WideTurn", "set", "(III)I"⟩) ∈ mj_tbl := mj_mem_tbl 333 (by decide +kernel) rfl
theorem w334 : (Cond.instanceMethod ⟨"WideTurn", "set", "(III)I"⟩) ∈ mj_tbl := mj_mem_tbl 334 (by decide +kernel) rfl
theorem w335 : (Cond.selects "WideTurn" ⟨"WideTurn", "set", "(III)I"⟩ ⟨"WideTurn", "set", "(III)I"⟩) ∈ mj_tbl := mj_mem_tbl 335 (by decide +kernel) rfl
theorem w336 : (Cond.code ⟨"WideTurn", "set", "(III)I"⟩ prog_1_method_3_code (4 : Nat) (Option.some FieldType.int)) ∈ mj_tbl := mj_mem_tbl 336 (by decide +kernel) rfl
theorem w337 : (Cond.methodLink "WideTurn" (75 : Nat) ⟨"WideTurn$Rows", "isMissing", "(I)Z"⟩) ∈ mj_tbl := mj_mem_tbl 337 (by decide +kernel) rfl
theorem w338 : (Cond.instanceMethod ⟨"WideTurn$Rows", "isMissing", "(I)Z"⟩) ∈ mj_tbl := mj_mem_tbl 338 (by decide +kernel) rfl
theorem w339 : (Cond.selects "WideTurn$Rows" ⟨"WideTurn$Rows", "isMissing", "(I)Z"⟩ ⟨"WideTurn$Rows", "isMissing", "(I)Z"⟩) ∈ mj_tbl := mj_mem_tbl 339 (by decide +kernel) rfl
theorem w340 : (Cond.code ⟨"WideTurn$Rows", "isMissing", "(I)Z"⟩ prog_8_method_2_code (2 : Nat) (Option.some FieldType.boolean)) ∈ mj_tbl := mj_mem_tbl 340 (by decide +kernel) rfl
theorem w341 : (Cond.methodLinkNest "WideTurn$Rows" (27 : Nat) ⟨"WideTurn", "isRow", "(I)Z"⟩ "WideTurn") ∈ mj_bad := mj_mem_bad 341 (by decide +kernel) rfl
theorem w342 : (Cond.methodLinkNest "WideTurn$Rows" (31 : Nat) ⟨"WideTurn", "at", "([II)I"⟩ "WideTurn") ∈ mj_bad := mj_mem_bad 342 (by decide +kernel) rfl
theorem w343 : (Cond.static ⟨"WideTurn", "at", "([II)I"⟩) ∈ mj_tbl := mj_mem_tbl 343 (by decide +kernel) rfl
theorem w344 : (Cond.code ⟨"WideTurn", "at", "([II)I"⟩ prog_1_method_50_code (2 : Nat) (Option.some FieldType.int)) ∈ mj_tbl := mj_mem_tbl 344 (by decide +kernel) rfl
theorem w345 : (Cond.methodLink "WideTurn" (78 : Nat) ⟨"WideTurn$Rows", "holds", "(III)Z"⟩) ∈ mj_tbl := mj_mem_tbl 345 (by decide +kernel) rfl
theorem w346 : (Cond.instanceMethod ⟨"WideTurn$Rows", "holds", "(III)Z"⟩) ∈ mj_tbl := mj_mem_tbl 346 (by decide +kernel) rfl
theorem w347 : (Cond.selects "WideTurn$Rows" ⟨"WideTurn$Rows", "holds", "(III)Z"⟩ ⟨"WideTurn$Rows", "holds", "(III)Z"⟩) ∈ mj_tbl := mj_mem_tbl 347 (by decide +kernel) rfl
theorem w348 : (Cond.code ⟨"WideTurn$Rows", "holds", "(III)Z"⟩ prog_8_method_4_code (4 : Nat) (Option.some FieldType.boolean)) ∈ mj_tbl := mj_mem_tbl 348 (by decide +kernel) rfl
theorem w349 : (Cond.methodLink "WideTurn" (82 : Nat) ⟨"WideTurn$Rows", "store", "(III)I"⟩) ∈ mj_tbl := mj_mem_tbl 349 (by decide +kernel) rfl
theorem w350 : (Cond.instanceMethod ⟨"WideTurn$Rows", "store", "(III)I"⟩) ∈ mj_tbl := mj_mem_tbl 350 (by decide +kernel) rfl
theorem w351 : (Cond.selects "WideTurn$Rows" ⟨"WideTurn$Rows", "store", "(III)I"⟩ ⟨"WideTurn$Rows", "store", "(III)I"⟩) ∈ mj_tbl := mj_mem_tbl 351 (by decide +kernel) rfl
theorem w352 : (Cond.code ⟨"WideTurn$Rows", "store", "(III)I"⟩ prog_8_method_7_code (6 : Nat) (Option.some FieldType.int)) ∈ mj_tbl := mj_mem_tbl 352 (by decide +kernel) rfl
theorem w353 : (Cond.methodLink "WideTurnLaw" (22 : Nat) ⟨"WideTurn", "copy", "(IIIII)I"⟩) ∈ mj_tbl := mj_mem_tbl 353 (by decide +kernel) rfl
theorem w354 : (Cond.instanceMethod ⟨"WideTurn", "copy", "(IIIII)I"⟩) ∈ mj_tbl := mj_mem_tbl 354 (by decide +kernel) rfl
theorem w355 : (Cond.selects "WideTurn" ⟨"WideTurn", "copy", "(IIIII)I"⟩ ⟨"WideTurn", "copy", "(IIIII)I"⟩) ∈ mj_tbl := mj_mem_tbl 355 (by decide +kernel) rfl
theorem w356 : (Cond.code ⟨"WideTurn", "copy", "(IIIII)I"⟩ prog_1_method_4_code (6 : Nat) (Option.some FieldType.int)) ∈ mj_tbl := mj_mem_tbl 356 (by decide +kernel) rfl
theorem w357 : (Cond.methodLink "WideTurn" (86 : Nat) ⟨"WideTurn$Rows", "areAlike", "(II)Z"⟩) ∈ mj_tbl := mj_mem_tbl 357 (by decide +kernel) rfl
theorem w358 : (Cond.instanceMethod ⟨"WideTurn$Rows", "areAlike", "(II)Z"⟩) ∈ mj_tbl := mj_mem_tbl 358 (by decide +kernel) rfl
theorem w359 : (Cond.selects "WideTurn$Rows" ⟨"WideTurn$Rows", "areAlike", "(II)Z"⟩ ⟨"WideTurn$Rows", "areAlike", "(II)Z"⟩) ∈ mj_tbl := mj_mem_tbl 359 (by decide +kernel) rfl
theorem w360 : (Cond.code ⟨"WideTurn$Rows", "areAlike", "(II)Z"⟩ prog_8_method_3_code (3 : Nat) (Option.some FieldType.boolean)) ∈ mj_tbl := mj_mem_tbl 360 (by decide +kernel) rfl
theorem w361 : (Cond.methodLink "WideTurn" (89 : Nat) ⟨"WideTurn$Rows", "carry", "(IIIII)V"⟩) ∈ mj_tbl := mj_mem_tbl 361 (by decide +kernel) rfl
theorem w362 : (Cond.instanceMethod ⟨"WideTurn$Rows", "carry", "(IIIII)V"⟩) ∈ mj_tbl := mj_mem_tbl 362 (by decide +kernel) rfl
theorem w363 : (Cond.selects "WideTurn$Rows" ⟨"WideTurn$Rows", "carry", "(IIIII)V"⟩ ⟨"WideTurn$Rows", "carry", "(IIIII)V"⟩) ∈ mj_tbl := mj_mem_tbl 363 (by decide +kernel) rfl
theorem w364 : (Cond.code ⟨"WideTurn$Rows", "carry", "(IIIII)V"⟩ prog_8_method_9_code (6 : Nat) (Option.none : Option FieldType)) ∈ mj_tbl := mj_mem_tbl 364 (by decide +kernel) rfl
theorem w365 : (Cond.methodLink "WideTurn$Rows" (39 : Nat) ⟨"WideTurn$Rows", "isMissing", "(I)Z"⟩) ∈ mj_tbl := mj_mem_tbl 365 (by decide +kernel) rfl
theorem w366 : (Cond.methodLink "WideTurn$Rows" (42 : Nat) ⟨"WideTurn$Rows", "holds", "(III)Z"⟩) ∈ mj_tbl := mj_mem_tbl 366 (by decide +kernel) rfl
theorem w367 : (Cond.methodLink "WideTurn$Rows" (46 : Nat) ⟨"java/lang/System", "arraycopy", "(Ljava/lang/Object;ILjava/lang/Object;II)V"⟩) ∈ mj_tbl := mj_mem_tbl 367 (by decide +kernel) rfl
theorem w370 : (Cond.methodLink "WideTurnLaw" (27 : Nat) ⟨"WideTurn", "drop", "(I)I"⟩) ∈ mj_tbl := mj_mem_tbl 370 (by decide +kernel) rfl
theorem w371 : (Cond.instanceMethod ⟨"WideTurn", "drop", "(I)I"⟩) ∈ mj_tbl := mj_mem_tbl 371 (by decide +kernel) rfl
theorem w372 : (Cond.selects "WideTurn" ⟨"WideTurn", "drop", "(I)I"⟩ ⟨"WideTurn", "drop", "(I)I"⟩) ∈ mj_tbl := mj_mem_tbl 372 (by decide +kernel) rfl
theorem w373 : (Cond.code ⟨"WideTurn", "drop", "(I)I"⟩ prog_1_method_5_code (2 : Nat) (Option.some FieldType.int)) ∈ mj_tbl := mj_mem_tbl 373 (by decide +kernel) rfl
theorem w374 : (Cond.methodLink "WideTurn" (93 : Nat) ⟨"WideTurn$Rows", "remove", "(I)I"⟩) ∈ mj_tbl := mj_mem_tbl 374 (by decide +kernel) rfl
theorem w375 : (Cond.instanceMethod ⟨"WideTurn$Rows", "remove", "(I)I"⟩) ∈ mj_tbl := mj_mem_tbl 375 (by decide +kernel) rfl
theorem w376 : (Cond.selects "WideTurn$Rows" ⟨"WideTurn$Rows", "remove", "(I)I"⟩ ⟨"WideTurn$Rows", "remove", "(I)I"⟩) ∈ mj_tbl := mj_mem_tbl 376 (by decide +kernel) rfl
theorem w377 : (Cond.code ⟨"WideTurn$Rows", "remove", "(I)I"⟩ prog_8_method_6_code (3 : Nat) (Option.some FieldType.int)) ∈ mj_tbl := mj_mem_tbl 377 (by decide +kernel) rfl
theorem w378 : (Cond.methodLink "WideTurnLaw" (32 : Nat) ⟨"WideTurn", "feed", "(I)I"⟩) ∈ mj_tbl := mj_mem_tbl 378 (by decide +kernel) rfl
theorem w379 : (Cond.instanceMethod ⟨"WideTurn", "feed", "(I)I"⟩) ∈ mj_tbl := mj_mem_tbl 379 (by decide +kernel) rfl
theorem w380 : (Cond.selects "WideTurn" ⟨"WideTurn", "feed", "(I)I"⟩ ⟨"WideTurn", "feed", "(I)I"⟩) ∈ mj_tbl := mj_mem_tbl 380 (by decide +kernel) rfl
theorem w381 : (Cond.code ⟨"WideTurn", "feed", "(I)I"⟩ prog_1_method_6_code (2 : Nat) (Option.some FieldType.int)) ∈ mj_tbl := mj_mem_tbl 381 (by decide +kernel) rfl
theorem w382 : (Cond.methodLink "WideTurn" (96 : Nat) ⟨"WideTurn$Tape", "append", "(I)Z"⟩) ∈ mj_tbl := mj_mem_tbl 382 (by decide +kernel) rfl
theorem w383 : (Cond.instanceMethod ⟨"WideTurn$Tape", "append", "(I)Z"⟩) ∈ mj_tbl := mj_mem_tbl 383 (by decide +kernel) rfl
theorem w384 : (Cond.selects "WideTurn$Tape" ⟨"WideTurn$Tape", "append", "(I)Z"⟩ ⟨"WideTurn$Tape", "append", "(I)Z"⟩) ∈ mj_tbl := mj_mem_tbl 384 (by decide +kernel) rfl
theorem w385 : (Cond.code ⟨"WideTurn$Tape", "append", "(I)Z"⟩ prog_12_method_5_code (2 : Nat) (Option.some FieldType.boolean)) ∈ mj_tbl := mj_mem_tbl 385 (by decide +kernel) rfl
theorem w386 : (Cond.methodLinkNest "WideTurn$Tape" (25 : Nat) ⟨"WideTurn", "put", "([III)V"⟩ "WideTurn") ∈ mj_bad := mj_mem_bad 386 (by decide +kernel) rfl
theorem w387 : (Cond.methodLink "WideTurn" (99 : Nat) ⟨"WideTurn$Tape", "length", "()I"⟩) ∈ mj_tbl := mj_mem_tbl 387 (by decide +kernel) rfl
theorem w388 : (Cond.instanceMethod ⟨"WideTurn$Tape", "length", "()I"⟩) ∈ mj_tbl := mj_mem_tbl 388 (by decide +kernel) rfl
theorem w389 : (Cond.selects "WideTurn$Tape" ⟨"WideTurn$Tape", "length", "()I"⟩ ⟨"WideTurn$Tape", "length", "()I"⟩) ∈ mj_tbl := mj_mem_tbl 389 (by decide +kernel) rfl
theorem w390 : (Cond.code ⟨"WideTurn$Tape", "length", "()I"⟩ prog_12_method_2_code (1 : Nat) (Option.some FieldType.int)) ∈ mj_tbl := mj_mem_tbl 390 (by decide +kernel) rfl
theorem w391 : (Cond.constant "WideTurn" (103 : Nat) (-1000003 : Int32)) ∈ mj_tbl := mj_mem_tbl 391 (by decide +kernel) rfl
theorem w392 : (Cond.methodLink "WideTurnLaw" (36 : Nat) ⟨"WideTurn", "basin", "()I"⟩) ∈ mj_tbl := mj_mem_tbl 392 (by decide +kernel) rfl
theorem w393 : (Cond.instanceMethod ⟨"WideTurn", "basin", "()I"⟩) ∈ mj_tbl := mj_mem_tbl 393 (by decide +kernel) rfl
theorem w394 : (Cond.selects "WideTurn" ⟨"WideTurn", "basin", "()I"⟩ ⟨"WideTurn", "basin", "()I"⟩) ∈ mj_tbl := mj_mem_tbl 394 (by decide +kernel) rfl
theorem w395 : (Cond.code ⟨"WideTurn", "basin", "()I"⟩ prog_1_method_7_code (1 : Nat) (Option.some FieldType.int)) ∈ mj_tbl := mj_mem_tbl 395 (by decide +kernel) rfl
theorem w396 : (Cond.methodLink "WideTurn" (104 : Nat) ⟨"WideTurn$Tape", "read", "(LWideTurn$Basin;)Z"⟩) ∈ mj_tbl := mj_mem_tbl 396 (by decide +kernel) rfl
theorem w397 : (Cond.instanceMethod ⟨"WideTurn$Tape", "read", "(LWideTurn$Basin;)Z"⟩) ∈ mj_tbl := mj_mem_tbl 397 (by decide +kernel) rfl
theorem w398 : (Cond.selects "WideTurn$Tape" ⟨"WideTurn$Tape", "read", "(LWideTurn$Basin;)Z"⟩ ⟨"WideTurn$Tape", "read", "(LWideTurn$Basin;)Z"⟩) ∈ mj_tbl := mj_mem_tbl 398 (by decide +kernel) rfl
theorem w399 : (Cond.code ⟨"WideTurn$Tape", "read", "(LWideTurn$Basin;)Z"⟩ prog_12_method_6_code (2 : Nat) (Option.some FieldType.boolean)) ∈ mj_tbl := mj_mem_tbl 399 (by decide +kernel) rfl
theorem w400 : (Cond.methodLink "WideTurn$Tape" (35 : Nat) ⟨"WideTurn$Basin", "clear", "()V"⟩) ∈ mj_tbl := mj_mem_tbl 400 (by decide +kernel) rfl
theorem w401 : (Cond.instanceMethod ⟨"WideTurn$Basin", "clear", "()V"⟩) ∈ mj_tbl := mj_mem_tbl 401 (by decide +kernel) rfl
theorem w402 : (Cond.selects "WideTurn$Basin" ⟨"WideTurn$Basin", "clear", "()V"⟩ ⟨"WideTurn$Basin", "clear", "()V"⟩) ∈ mj_tbl := mj_mem_tbl 402 (by decide +kernel) rfl
theorem w403 : (Cond.code ⟨"WideTurn$Basin", "clear", "()V"⟩ prog_3_method_2_code (1 : Nat) (Option.none : Option FieldType)) ∈ mj_tbl := mj_mem_tbl 403 (by decide +kernel) rfl
theorem w404 : (Cond.methodLink "WideTurn$Tape" (40 : Nat) ⟨"WideTurn$Tape", "readLaw", "(LWideTurn$Basin;)V"⟩) ∈ mj_tbl := mj_mem_tbl 404 (by decide +kernel) rfl
theorem w406 : (Cond.instanceMethod ⟨"WideTurn$Tape", "readLaw", "(LWideTurn$Basin;)V"⟩) ∈ mj_tbl := mj_mem_tbl 406 (by decide +kernel) rfl
theorem w407 : (Cond.code ⟨"WideTurn$Tape", "readLaw", "(LWideTurn$Basin;)V"⟩ prog_12_method_7_code (2 : Nat) (Option.none : Option FieldType)) ∈ mj_tbl := mj_mem_tbl 407 (by decide +kernel) rfl
theorem w408 : (Cond.methodLink "WideTurn$Tape" (56 : Nat) ⟨"WideTurn$Tape", "readLetter", "(I)V"⟩) ∈ mj_tbl := mj_mem_tbl 408 (by decide +kernel) rfl
theorem w410 : (Cond.instanceMethod ⟨"WideTurn$Tape", "readLetter", "(I)V"⟩) ∈ mj_tbl := mj_mem_tbl 410 (by decide +kernel) rfl
theorem w411 : (Cond.code ⟨"WideTurn$Tape", "readLetter", "(I)V"⟩ prog_12_method_12_code (2 : Nat) (Option.none : Option FieldType)) ∈ mj_tbl := mj_mem_tbl 411 (by decide +kernel) rfl
theorem w412 : (Cond.methodLink "WideTurn$Tape" (86 : Nat) ⟨"WideTurn$Tape", "letterAt", "(I)I"⟩) ∈ mj_tbl := mj_mem_tbl 412 (by decide +kernel) rfl
theorem w414 : (Cond.instanceMethod ⟨"WideTurn$Tape", "letterAt", "(I)I"⟩) ∈ mj_tbl := mj_mem_tbl 414 (by decide +kernel) rfl
theorem w415 : (Cond.code ⟨"WideTurn$Tape", "letterAt", "(I)I"⟩ prog_12_method_16_code (2 : Nat) (Option.some FieldType.int)) ∈ mj_tbl := mj_mem_tbl 415 (by decide +kernel) rfl
theorem w416 : (Cond.methodLinkNest "WideTurn$Tape" (115 : Nat) ⟨"WideTurn", "at", "([II)I"⟩ "WideTurn") ∈ mj_bad := mj_mem_bad 416 (by decide +kernel) rfl
theorem w417 : (Cond.methodLink "WideTurn$Tape" (90 : Nat) ⟨"WideTurn$Tape", "fail", "(II)V"⟩) ∈ mj_tbl := mj_mem_tbl 417 (by decide +kernel) rfl
theorem w419 : (Cond.instanceMethod ⟨"WideTurn$Tape", "fail", "(II)V"⟩) ∈ mj_tbl := mj_mem_tbl 419 (by decide +kernel) rfl
theorem w420 : (Cond.code ⟨"WideTurn$Tape", "fail", "(II)V"⟩ prog_12_method_15_code (3 : Nat) (Option.none : Option FieldType)) ∈ mj_tbl := mj_mem_tbl 420 (by decide +kernel) rfl
theorem w421 : (Cond.methodLink "WideTurn$Tape" (60 : Nat) ⟨"WideTurn$Tape", "readNumber", "(II)I"⟩) ∈ mj_tbl := mj_mem_tbl 421 (by decide +kernel) rfl
theorem w423 : (Cond.instanceMethod ⟨"WideTurn$Tape", "readNumber", "(II)I"⟩) ∈ mj_tbl := mj_mem_tbl 423 (by decide +kernel) rfl
theorem w424 : (Cond.code ⟨"WideTurn$Tape", "readNumber", "(II)I"⟩ prog_12_method_14_code (6 : Nat) (Option.some FieldType.int)) ∈ mj_tbl := mj_mem_tbl 424 (by decide +kernel) rfl
theorem w425 : (Cond.methodLink "WideTurn$Tape" (112 : Nat) ⟨"WideTurn$Tape", "isFigure", "(I)Z"⟩) ∈ mj_tbl := mj_mem_tbl 425 (by decide +kernel) rfl
theorem w426 : (Cond.static ⟨"WideTurn$Tape", "isFigure", "(I)Z"⟩) ∈ mj_tbl := mj_mem_tbl 426 (by decide +kernel) rfl
theorem w427 : (Cond.code ⟨"WideTurn$Tape", "isFigure", "(I)Z"⟩ prog_12_method_17_code (1 : Nat) (Option.some FieldType.boolean)) ∈ mj_tbl := mj_mem_tbl 427 (by decide +kernel) rfl
theorem w428 : (Cond.methodLink "WideTurn$Tape" (44 : Nat) ⟨"WideTurn$Tape", "readDepths", "(LWideTurn$Basin;)V"⟩) ∈ mj_tbl := mj_mem_tbl 428 (by decide +kernel) rfl
theorem w430 : (Cond.instanceMethod ⟨"WideTurn$Tape", "readDepths", "(LWideTurn$Basin;)V"⟩) ∈ mj_tbl := mj_mem_tbl 430 (by decide +kernel) rfl
theorem w431 : (Cond.code ⟨"WideTurn$Tape", "readDepths", "(LWideTurn$Basin;)V"⟩ prog_12_method_8_code (3 : Nat) (Option.none : Option FieldType)) ∈ mj_tbl := mj_mem_tbl 431 (by decide +kernel) rfl
theorem w432 : (Cond.methodLink "WideTurn$Tape" (76 : Nat) ⟨"WideTurn$Tape", "readDepth", "()I"⟩) ∈ mj_tbl := mj_mem_tbl 432 (by decide +kernel) rfl
theorem w434 : (Cond.instanceMethod ⟨"WideTurn$Tape", "readDepth", "()I"⟩) ∈ mj_tbl := mj_mem_tbl 434 (by decide +kernel) rfl
theorem w435 : (Cond.code ⟨"WideTurn$Tape", "readDepth", "()I"⟩ prog_12_method_13_code (2 : Nat) (Option.some FieldType.int)) ∈ mj_tbl := mj_mem_tbl 435 (by decide +kernel) rfl
theorem w436 : (Cond.methodLink "WideTurn$Tape" (47 : Nat) ⟨"WideTurn$Tape", "readBoat", "(LWideTurn$Basin;)V"⟩) ∈ mj_tbl := mj_mem_tbl 436 (by decide +kernel) rfl
theorem w438 : (Cond.instanceMethod ⟨"WideTurn$Tape", "readBoat", "(LWideTurn$Basin;)V"⟩) ∈ mj_tbl := mj_mem_tbl 438 (by decide +kernel) rfl
theorem w439 : (Cond.code ⟨"WideTurn$Tape", "readBoat", "(LWideTurn$Basin;)V"⟩ prog_12_method_9_code (2 : Nat) (Option.none : Option FieldType)) ∈ mj_tbl := mj_mem_tbl 439 (by decide +kernel) rfl
theorem w440 : (Cond.methodLink "WideTurn$Tape" (50 : Nat) ⟨"WideTurn$Tape", "readMoored", "(LWideTurn$Basin;)V"⟩) ∈ mj_tbl := mj_mem_tbl 440 (by decide +kernel) rfl
theorem w442 : (Cond.instanceMethod ⟨"WideTurn$Tape", "readMoored", "(LWideTurn$Basin;)V"⟩) ∈ mj_tbl := mj_mem_tbl 442 (by decide +kernel) rfl
theorem w443 : (Cond.code ⟨"WideTurn$Tape", "readMoored", "(LWideTurn$Basin;)V"⟩ prog_12_method_10_code (5 : Nat) (Option.none : Option FieldType)) ∈ mj_tbl := mj_mem_tbl 443 (by decide +kernel) rfl
theorem w444 : (Cond.methodLinkNest "WideTurn$Tape" (97 : Nat) ⟨"WideTurn", "bit", "(II)I"⟩ "WideTurn") ∈ mj_bad := mj_mem_bad 444 (by decide +kernel) rfl
theorem w445 : (Cond.static ⟨"WideTurn", "bit", "(II)I"⟩) ∈ mj_tbl := mj_mem_tbl 445 (by decide +kernel) rfl
theorem w446 : (Cond.code ⟨"WideTurn", "bit", "(II)I"⟩ prog_1_method_49_code (2 : Nat) (Option.some FieldType.int)) ∈ mj_tbl := mj_mem_tbl 446 (by decide +kernel) rfl
theorem w447 : (Cond.methodLink "WideTurn$Tape" (53 : Nat) ⟨"WideTurn$Tape", "readHands", "(LWideTurn$Basin;)V"⟩) ∈ mj_tbl := mj_mem_tbl 447 (by decide +kernel) rfl
theorem w449 : (Cond.instanceMethod ⟨"WideTurn$Tape", "readHands", "(LWideTurn$Basin;)V"⟩) ∈ mj_tbl := mj_mem_tbl 449 (by decide +kernel) rfl
theorem w450 : (Cond.code ⟨"WideTurn$Tape", "readHands", "(LWideTurn$Basin;)V"⟩ prog_12_method_11_code (5 : Nat) (Option.none : Option FieldType)) ∈ mj_tbl := mj_mem_tbl 450 (by decide +kernel) rfl
theorem w451 : (Cond.methodLink "WideTurn$Tape" (100 : Nat) ⟨"WideTurn$Tape", "isSort", "(I)Z"⟩) ∈ mj_tbl := mj_mem_tbl 451 (by decide +kernel) rfl
theorem w452 : (Cond.static ⟨"WideTurn$Tape", "isSort", "(I)Z"⟩) ∈ mj_tbl := mj_mem_tbl 452 (by decide +kernel) rfl
theorem w453 : (Cond.code ⟨"WideTurn$Tape", "isSort", "(I)Z"⟩ prog_12_method_18_code (1 : Nat) (Option.some FieldType.boolean)) ∈ mj_tbl := mj_mem_tbl 453 (by decide +kernel) rfl
theorem w454 : (Cond.methodLink "WideTurn$Tape" (104 : Nat) ⟨"WideTurn$Tape", "handOf", "(III)LWideTurn$Hand;"⟩) ∈ mj_tbl := mj_mem_tbl 454 (by decide +kernel) rfl
theorem w455 : (Cond.static ⟨"WideTurn$Tape", "handOf", "(III)LWideTurn$Hand;"⟩) ∈ mj_tbl := mj_mem_tbl 455 (by decide +kernel) rfl
theorem w456 : (Cond.code ⟨"WideTurn$Tape", "handOf", "(III)LWideTurn$Hand;"⟩ prog_12_method_19_code (3 : Nat) (Option.some (FieldType.object "WideTurn$Hand"))) ∈ mj_tbl := mj_mem_tbl 456 (by decide +kernel) rfl
theorem w457 : (Cond.classLink "WideTurn$Tape" (119 : Nat) "WideTurn$Swinger") ∈ mj_tbl := mj_mem_tbl 457 (by decide +kernel) rfl
theorem w458 : (Cond.instantiable "WideTurn$Swinger" (3 : Nat)) ∈ mj_tbl := mj_mem_tbl 458 (by decide +kernel) rfl
theorem w459 : (Cond.methodLink "WideTurn$Tape" (121 : Nat) ⟨"WideTurn$Swinger", "<init>", "(III)V"⟩) ∈ mj_tbl := mj_mem_tbl 459 (by decide +kernel) rfl
theorem w460 : (Cond.instanceMethod ⟨"WideTurn$Swinger", "<init>", "(III)V"⟩) ∈ mj_tbl := mj_mem_tbl 460 (by decide +kernel) rfl
theorem w461 : (Cond.code ⟨"WideTurn$Swinger", "<init>", "(III)V"⟩ prog_11_method_1_code (4 : Nat) (Option.none : Option FieldType)) ∈ mj_tbl := mj_mem_tbl 461 (by decide +kernel) rfl
theorem w462 : (Cond.methodLink "WideTurn$Swinger" (1 : Nat) ⟨"WideTurn$Hand", "<init>", "(III)V"⟩) ∈ mj_tbl := mj_mem_tbl 462 (by decide +kernel) rfl
theorem w463 : (Cond.instanceMethod ⟨"WideTurn$Hand", "<init>", "(III)V"⟩) ∈ mj_tbl := mj_mem_tbl 463 (by decide +kernel) rfl
theorem w464 : (Cond.code ⟨"WideTurn$Hand", "<init>", "(III)V"⟩ prog_4_method_1_code (4 : Nat) (Option.none : Option FieldType)) ∈ mj_tbl := mj_mem_tbl 464 (by decide +kernel) rfl
theorem w465 : (Cond.methodLink "WideTurn$Hand" (3 : Nat) ⟨"java/lang/Object", "<init>", "()V"⟩) ∈ mj_tbl := mj_mem_tbl 465 (by decide +kernel) rfl
theorem w466 : (Cond.fieldLink "WideTurn$Hand" (9 : Nat) "WideTurn$Hand" "number" "I") ∈ mj_tbl := mj_mem_tbl 466 (by decide +kernel) rfl
theorem w467 : (Cond.fieldLink "WideTurn$Hand" (15 : Nat) "WideTurn$Hand" "minutes" "I") ∈ mj_tbl := mj_mem_tbl 467 (by decide +kernel) rfl
theorem w468 : (Cond.fieldLink "WideTurn$Hand" (18 : Nat) "WideTurn$Hand" "known" "I") ∈ mj_tbl := mj_mem_tbl 468 (by decide +kernel) rfl
theorem w475 : (Cond.superclass "WideTurn$Swinger" "WideTurn$Hand") ∈ mj_tbl := mj_mem_tbl 475 (by decide +kernel) rfl
theorem w476 : (Cond.classLink "WideTurn$Tape" (124 : Nat) "WideTurn$Poler") ∈ mj_tbl := mj_mem_tbl 476 (by decide +kernel) rfl
theorem w477 : (Cond.instantiable "WideTurn$Poler" (3 : Nat)) ∈ mj_tbl := mj_mem_tbl 477 (by decide +kernel) rfl
theorem w478 : (Cond.methodLink "WideTurn$Tape" (126 : Nat) ⟨"WideTurn$Poler", "<init>", "(II)V"⟩) ∈ mj_tbl := mj_mem_tbl 478 (by decide +kernel) rfl
theorem w479 : (Cond.instanceMethod ⟨"WideTurn$Poler", "<init>", "(II)V"⟩) ∈ mj_tbl := mj_mem_tbl 479 (by decide +kernel) rfl
theorem w480 : (Cond.code ⟨"WideTurn$Poler", "<init>", "(II)V"⟩ prog_6_method_1_code (3 : Nat) (Option.none : Option FieldType)) ∈ mj_tbl := mj_mem_tbl 480 (by decide +kernel) rfl
theorem w481 : (Cond.methodLink "WideTurn$Poler" (3 : Nat) ⟨"WideTurn$Swinger", "<init>", "(III)V"⟩) ∈ mj_tbl := mj_mem_tbl 481 (by decide +kernel) rfl
theorem w485 : (Cond.superclass "WideTurn$Poler" "WideTurn$Swinger") ∈ mj_tbl := mj_mem_tbl 485 (by decide +kernel) rfl
theorem w486 : (Cond.classLink "WideTurn$Tape" (128 : Nat) "WideTurn$Roper") ∈ mj_tbl := mj_mem_tbl 486 (by decide +kernel) rfl
theorem w487 : (Cond.instantiable "WideTurn$Roper" (3 : Nat)) ∈ mj_tbl := mj_mem_tbl 487 (by decide +kernel) rfl
theorem w488 : (Cond.methodLink "WideTurn$Tape" (130 : Nat) ⟨"WideTurn$Roper", "<init>", "(II)V"⟩) ∈ mj_tbl := mj_mem_tbl 488 (by decide +kernel) rfl
theorem w489 : (Cond.instanceMethod ⟨"WideTurn$Roper", "<init>", "(II)V"⟩) ∈ mj_tbl := mj_mem_tbl 489 (by decide +kernel) rfl
theorem w490 : (Cond.code ⟨"WideTurn$Roper", "<init>", "(II)V"⟩ prog_7_method_1_code (3 : Nat) (Option.none : Option FieldType)) ∈ mj_tbl := mj_mem_tbl 490 (by decide +kernel) rfl
theorem w491 : (Cond.methodLink "WideTurn$Roper" (3 : Nat) ⟨"WideTurn$Swinger", "<init>", "(III)V"⟩) ∈ mj_tbl := mj_mem_tbl 491 (by decide +kernel) rfl
theorem w495 : (Cond.superclass "WideTurn$Roper" "WideTurn$Swinger") ∈ mj_tbl := mj_mem_tbl 495 (by decide +kernel) rfl
theorem w496 : (Cond.classLink "WideTurn$Tape" (131 : Nat) "WideTurn$Shover") ∈ mj_tbl := mj_mem_tbl 496 (by decide +kernel) rfl
theorem w497 : (Cond.instantiable "WideTurn$Shover" (3 : Nat)) ∈ mj_tbl := mj_mem_tbl 497 (by decide +kernel) rfl
theorem w498 : (Cond.methodLink "WideTurn$Tape" (133 : Nat) ⟨"WideTurn$Shover", "<init>", "(II)V"⟩) ∈ mj_tbl := mj_mem_tbl 498 (by decide +kernel) rfl
theorem w499 : (Cond.instanceMethod ⟨"WideTurn$Shover", "<init>", "(II)V"⟩) ∈ mj_tbl := mj_mem_tbl 499 (by decide +kernel) rfl
theorem w500 : (Cond.code ⟨"WideTurn$Shover", "<init>", "(II)V"⟩ prog_10_method_1_code (3 : Nat) (Option.none : Option FieldType)) ∈ mj_tbl := mj_mem_tbl 500 (by decide +kernel) rfl
theorem w501 : (Cond.methodLink "WideTurn$Shover" (3 : Nat) ⟨"WideTurn$Hand", "<init>", "(III)V"⟩) ∈ mj_tbl := mj_mem_tbl 501 (by decide +kernel) rfl
theorem w505 : (Cond.superclass "WideTurn$Shover" "WideTurn$Hand") ∈ mj_tbl := mj_mem_tbl 505 (by decide +kernel) rfl
theorem w506 : (Cond.classLink "WideTurn$Tape" (134 : Nat) "WideTurn$Lifter") ∈ mj_tbl := mj_mem_tbl 506 (by decide +kernel) rfl
theorem w507 : (Cond.instantiable "WideTurn$Lifter" (3 : Nat)) ∈ mj_tbl := mj_mem_tbl 507 (by decide +kernel) rfl
theorem w508 : (Cond.methodLink "WideTurn$Tape" (136 : Nat) ⟨"WideTurn$Lifter", "<init>", "(II)V"⟩) ∈ mj_tbl := mj_mem_tbl 508 (by decide +kernel) rfl
theorem w509 : (Cond.instanceMethod ⟨"WideTurn$Lifter", "<init>", "(II)V"⟩) ∈ mj_tbl := mj_mem_tbl 509 (by decide +kernel) rfl
theorem w510 : (Cond.code ⟨"WideTurn$Lifter", "<init>", "(II)V"⟩ prog_5_method_1_code (3 : Nat) (Option.none : Option FieldType)) ∈ mj_tbl := mj_mem_tbl 510 (by decide +kernel) rfl
theorem w511 : (Cond.methodLink "WideTurn$Lifter" (1 : Nat) ⟨"WideTurn$Shover", "<init>", "(II)V"⟩) ∈ mj_tbl := mj_mem_tbl 511 (by decide +kernel) rfl
theorem w515 : (Cond.superclass "WideTurn$Lifter" "WideTurn$Shover") ∈ mj_tbl := mj_mem_tbl 515 (by decide +kernel) rfl
theorem w516 : (Cond.methodLink "WideTurn$Tape" (108 : Nat) ⟨"WideTurn$Basin", "addHand", "(LWideTurn$Hand;)V"⟩) ∈ mj_tbl := mj_mem_tbl 516 (by decide +kernel) rfl
theorem w517 : (Cond.instanceMethod ⟨"WideTurn$Basin", "addHand", "(LWideTurn$Hand;)V"⟩) ∈ mj_tbl := mj_mem_tbl 517 (by decide +kernel) rfl
theorem w518 : (Cond.selects "WideTurn$Basin" ⟨"WideTurn$Basin", "addHand", "(LWideTurn$Hand;)V"⟩ ⟨"WideTurn$Basin", "addHand", "(LWideTurn$Hand;)V"⟩) ∈ mj_tbl := mj_mem_tbl 518 (by decide +kernel) rfl
theorem w519 : (Cond.code ⟨"WideTurn$Basin", "addHand", "(LWideTurn$Hand;)V"⟩ prog_3_method_4_code (2 : Nat) (Option.none : Option FieldType)) ∈ mj_tbl := mj_mem_tbl 519 (by decide +kernel) rfl
theorem w520 : (Cond.methodLinkNest "WideTurn$Basin" (57 : Nat) ⟨"WideTurn", "within", "(II)Z"⟩ "WideTurn") ∈ mj_bad := mj_mem_bad 520 (by decide +kernel) rfl
theorem w521 : (Cond.constant "WideTurn" (108 : Nat) (-1000100 : Int32)) ∈ mj_tbl := mj_mem_tbl 521 (by decide +kernel) rfl
theorem w522 : (Cond.methodLink "WideTurn" (109 : Nat) ⟨"WideTurn$Tape", "faultPlace", "()I"⟩) ∈ mj_tbl := mj_mem_tbl 522 (by decide +kernel) rfl
theorem w523 : (Cond.instanceMethod ⟨"WideTurn$Tape", "faultPlace", "()I"⟩) ∈ mj_tbl := mj_mem_tbl 523 (by decide +kernel) rfl
theorem w524 : (Cond.selects "WideTurn$Tape" ⟨"WideTurn$Tape", "faultPlace", "()I"⟩ ⟨"WideTurn$Tape", "faultPlace", "()I"⟩) ∈ mj_tbl := mj_mem_tbl 524 (by decide +kernel) rfl
theorem w525 : (Cond.code ⟨"WideTurn$Tape", "faultPlace", "()I"⟩ prog_12_method_3_code (1 : Nat) (Option.some FieldType.int)) ∈ mj_tbl := mj_mem_tbl 525 (by decide +kernel) rfl
theorem w526 : (Cond.methodLink "WideTurn" (112 : Nat) ⟨"WideTurn$Basin", "become", "(LWideTurn$Basin;)V"⟩) ∈ mj_tbl := mj_mem_tbl 526 (by decide +kernel) rfl
theorem w527 : (Cond.instanceMethod ⟨"WideTurn$Basin", "become", "(LWideTurn$Basin;)V"⟩) ∈ mj_tbl := mj_mem_tbl 527 (by decide +kernel) rfl
theorem w528 : (Cond.selects "WideTurn$Basin" ⟨"WideTurn$Basin", "become", "(LWideTurn$Basin;)V"⟩ ⟨"WideTurn$Basin", "become", "(LWideTurn$Basin;)V"⟩) ∈ mj_tbl := mj_mem_tbl 528 (by decide +kernel) rfl
theorem w529 : (Cond.code ⟨"WideTurn$Basin", "become", "(LWideTurn$Basin;)V"⟩ prog_3_method_3_code (3 : Nat) (Option.none : Option FieldType)) ∈ mj_tbl := mj_mem_tbl 529 (by decide +kernel) rfl
theorem w530 : (Cond.methodLinkNest "WideTurn$Basin" (49 : Nat) ⟨"WideTurn", "at", "([II)I"⟩ "WideTurn") ∈ mj_bad := mj_mem_bad 530 (by decide +kernel) rfl
theorem w531 : (Cond.methodLinkNest "WideTurn$Basin" (53 : Nat) ⟨"WideTurn", "put", "([III)V"⟩ "WideTurn") ∈ mj_bad := mj_mem_bad 531 (by decide +kernel) rfl
theorem w532 : (Cond.methodLink "WideTurn" (120 : Nat) ⟨"WideTurn$Acts", "forget", "()V"⟩) ∈ mj_tbl := mj_mem_tbl 532 (by decide +kernel) rfl
theorem w533 : (Cond.instanceMethod ⟨"WideTurn$Acts", "forget", "()V"⟩) ∈ mj_tbl := mj_mem_tbl 533 (by decide +kernel) rfl
theorem w534 : (Cond.selects "WideTurn$Acts" ⟨"WideTurn$Acts", "forget", "()V"⟩ ⟨"WideTurn$Acts", "forget", "()V"⟩) ∈ mj_tbl := mj_mem_tbl 534 (by decide +kernel) rfl
theorem w535 : (Cond.code ⟨"WideTurn$Acts", "forget", "()V"⟩ prog_2_method_3_code (1 : Nat) (Option.none : Option FieldType)) ∈ mj_tbl := mj_mem_tbl 535 (by decide +kernel) rfl
theorem w536 : (Cond.methodLink "WideTurnLaw" (41 : Nat) ⟨"WideTurn", "fault", "()I"⟩) ∈ mj_tbl := mj_mem_tbl 536 (by decide +kernel) rfl
theorem w537 : (Cond.instanceMethod ⟨"WideTurn", "fault", "()I"⟩) ∈ mj_tbl := mj_mem_tbl 537 (by decide +kernel) rfl
theorem w538 : (Cond.selects "WideTurn" ⟨"WideTurn", "fault", "()I"⟩ ⟨"WideTurn", "fault", "()I"⟩) ∈ mj_tbl := mj_mem_tbl 538 (by decide +kernel) rfl
theorem w539 : (Cond.code ⟨"WideTurn", "fault", "()I"⟩ prog_1_method_8_code (1 : Nat) (Option.some FieldType.int)) ∈ mj_tbl := mj_mem_tbl 539 (by decide +kernel) rfl
theorem w540 : (Cond.methodLink "WideTurn" (127 : Nat) ⟨"WideTurn$Tape", "latestFault", "()I"⟩) ∈ mj_tbl := mj_mem_tbl 540 (by decide +kernel) rfl
theorem w541 : (Cond.instanceMethod ⟨"WideTurn$Tape", "latestFault", "()I"⟩) ∈ mj_tbl := mj_mem_tbl 541 (by decide +kernel) rfl
theorem w542 : (Cond.selects "WideTurn$Tape" ⟨"WideTurn$Tape", "latestFault", "()I"⟩ ⟨"WideTurn$Tape", "latestFault", "()I"⟩) ∈ mj_tbl := mj_mem_tbl 542 (by decide +kernel) rfl
theorem w543 : (Cond.code ⟨"WideTurn$Tape", "latestFault", "()I"⟩ prog_12_method_4_code (1 : Nat) (Option.some FieldType.int)) ∈ mj_tbl := mj_mem_tbl 543 (by decide +kernel) rfl
theorem w544 : (Cond.methodLink "WideTurnLaw" (45 : Nat) ⟨"WideTurn", "undo", "()I"⟩) ∈ mj_tbl := mj_mem_tbl 544 (by decide +kernel) rfl
theorem w545 : (Cond.instanceMethod ⟨"WideTurn", "undo", "()I"⟩) ∈ mj_tbl := mj_mem_tbl 545 (by decide +kernel) rfl
theorem w546 : (Cond.selects "WideTurn" ⟨"WideTurn", "undo", "()I"⟩ ⟨"WideTurn", "undo", "()I"⟩) ∈ mj_tbl := mj_mem_tbl 546 (by decide +kernel) rfl
theorem w547 : (Cond.code ⟨"WideTurn", "undo", "()I"⟩ prog_1_method_9_code (1 : Nat) (Option.some FieldType.int)) ∈ mj_tbl := mj_mem_tbl 547 (by decide +kernel) rfl
theorem w548 : (Cond.methodLink "WideTurn" (130 : Nat) ⟨"WideTurn$Acts", "kept", "()I"⟩) ∈ mj_tbl := mj_mem_tbl 548 (by decide +kernel) rfl
theorem w549 : (Cond.instanceMethod ⟨"WideTurn$Acts", "kept", "()I"⟩) ∈ mj_tbl := mj_mem_tbl 549 (by decide +kernel) rfl
theorem w550 : (Cond.selects "WideTurn$Acts" ⟨"WideTurn$Acts", "kept", "()I"⟩ ⟨"WideTurn$Acts", "kept", "()I"⟩) ∈ mj_tbl := mj_mem_tbl 550 (by decide +kernel) rfl
theorem w551 : (Cond.code ⟨"WideTurn$Acts", "kept", "()I"⟩ prog_2_method_2_code (1 : Nat) (Option.some FieldType.int)) ∈ mj_tbl := mj_mem_tbl 551 (by decide +kernel) rfl
theorem w552 : (Cond.constant "WideTurn" (133 : Nat) (-1000002 : Int32)) ∈ mj_tbl := mj_mem_tbl 552 (by decide +kernel) rfl
theorem w553 : (Cond.methodLink "WideTurn" (134 : Nat) ⟨"WideTurn$Acts", "takeBack", "(LWideTurn$Basin;)V"⟩) ∈ mj_tbl := mj_mem_tbl 553 (by decide +kernel) rfl
theorem w554 : (Cond.instanceMethod ⟨"WideTurn$Acts", "takeBack", "(LWideTurn$Basin;)V"⟩) ∈ mj_tbl := mj_mem_tbl 554 (by decide +kernel) rfl
theorem w555 : (Cond.selects "WideTurn$Acts" ⟨"WideTurn$Acts", "takeBack", "(LWideTurn$Basin;)V"⟩ ⟨"WideTurn$Acts", "takeBack", "(LWideTurn$Basin;)V"⟩) ∈ mj_tbl := mj_mem_tbl 555 (by decide +kernel) rfl
theorem w556 : (Cond.code ⟨"WideTurn$Acts", "takeBack", "(LWideTurn$Basin;)V"⟩ prog_2_method_5_code (3 : Nat) (Option.none : Option FieldType)) ∈ mj_tbl := mj_mem_tbl 556 (by decide +kernel) rfl
theorem w557 : (Cond.methodLink "WideTurn$Acts" (59 : Nat) ⟨"java/lang/Math", "max", "(II)I"⟩) ∈ mj_tbl := mj_mem_tbl 557 (by decide +kernel) rfl
theorem w558 : (Cond.static ⟨"java/lang/Math", "max", "(II)I"⟩) ∈ mj_tbl := mj_mem_tbl 558 (by decide +kernel) rfl
theorem w559 : (Cond.code ⟨"java/lang/Math", "max", "(II)I"⟩ prog_16_method_65_code (2 : Nat) (Option.some FieldType.int)) ∈ mj_tbl := mj_mem_tbl 559 (by decide +kernel) rfl
theorem w560 : (Cond.methodLinkNest "WideTurn$Acts" (62 : Nat) ⟨"WideTurn", "at", "([II)I"⟩ "WideTurn") ∈ mj_bad := mj_mem_bad 560 (by decide +kernel) rfl
theorem w561 : (Cond.methodLinkNest "WideTurn$Acts" (69 : Nat) ⟨"WideTurn", "bit", "(II)I"⟩ "WideTurn") ∈ mj_bad := mj_mem_bad 561 (by decide +kernel) rfl
theorem w562 : (Cond.methodLinkNest "WideTurn$Acts" (41 : Nat) ⟨"WideTurn", "put", "([III)V"⟩ "WideTurn") ∈ mj_bad := mj_mem_bad 562 (by decide +kernel) rfl
theorem w563 : (Cond.methodLink "WideTurnLaw" (49 : Nat) ⟨"WideTurn", "move", "(II)I"⟩) ∈ mj_tbl := mj_mem_tbl 563 (by decide +kernel) rfl
theorem w564 : (Cond.instanceMethod ⟨"WideTurn", "move", "(II)I"⟩) ∈ mj_tbl := mj_mem_tbl 564 (by decide +kernel) rfl
theorem w565 : (Cond.selects "WideTurn" ⟨"WideTurn", "move", "(II)I"⟩ ⟨"WideTurn", "move", "(II)I"⟩) ∈ mj_tbl := mj_mem_tbl 565 (by decide +kernel) rfl
theorem w566 : (Cond.code ⟨"WideTurn", "move", "(II)I"⟩ prog_1_method_10_code (4 : Nat) (Option.some FieldType.int)) ∈ mj_tbl := mj_mem_tbl 566 (by decide +kernel) rfl
theorem w567 : (Cond.methodLink "WideTurn" (137 : Nat) ⟨"WideTurn$Basin", "handAt", "(I)LWideTurn$Hand;"⟩) ∈ mj_tbl := mj_mem_tbl 567 (by decide +kernel) rfl
theorem w568 : (Cond.instanceMethod ⟨"WideTurn$Basin", "handAt", "(I)LWideTurn$Hand;"⟩) ∈ mj_tbl := mj_mem_tbl 568 (by decide +kernel) rfl
theorem w569 : (Cond.selects "WideTurn$Basin" ⟨"WideTurn$Basin", "handAt", "(I)LWideTurn$Hand;"⟩ ⟨"WideTurn$Basin", "handAt", "(I)LWideTurn$Hand;"⟩) ∈ mj_tbl := mj_mem_tbl 569 (by decide +kernel) rfl
theorem w570 : (Cond.code ⟨"WideTurn$Basin", "handAt", "(I)LWideTurn$Hand;"⟩ prog_3_method_5_code (2 : Nat) (Option.some (FieldType.object "WideTurn$Hand"))) ∈ mj_tbl := mj_mem_tbl 570 (by decide +kernel) rfl
theorem w571 : (Cond.methodLink "WideTurn" (141 : Nat) ⟨"WideTurn$Basin", "canMake", "(LWideTurn$Hand;I)Z"⟩) ∈ mj_tbl := mj_mem_tbl 571 (by decide +kernel) rfl
theorem w572 : (Cond.instanceMethod ⟨"WideTurn$Basin", "canMake", "(LWideTurn$Hand;I)Z"⟩) ∈ mj_tbl := mj_mem_tbl 572 (by decide +kernel) rfl
theorem w573 : (Cond.selects "WideTurn$Basin" ⟨"WideTurn$Basin", "canMake", "(LWideTurn$Hand;I)Z"⟩ ⟨"WideTurn$Basin", "canMake", "(LWideTurn$Hand;I)Z"⟩) ∈ mj_tbl := mj_mem_tbl 573 (by decide +kernel) rfl
theorem w574 : (Cond.code ⟨"WideTurn$Basin", "canMake", "(LWideTurn$Hand;I)Z"⟩ prog_3_method_13_code (4 : Nat) (Option.some FieldType.boolean)) ∈ mj_tbl := mj_mem_tbl 574 (by decide +kernel) rfl
theorem w575 : (Cond.methodLink "WideTurn$Basin" (77 : Nat) ⟨"WideTurn$Basin", "sinks", "()I"⟩) ∈ mj_tbl := mj_mem_tbl 575 (by decide +kernel) rfl
theorem w576 : (Cond.instanceMethod ⟨"WideTurn$Basin", "sinks", "()I"⟩) ∈ mj_tbl := mj_mem_tbl 576 (by decide +kernel) rfl
theorem w577 : (Cond.selects "WideTurn$Basin" ⟨"WideTurn$Basin", "sinks", "()I"⟩ ⟨"WideTurn$Basin", "sinks", "()I"⟩) ∈ mj_tbl := mj_mem_tbl 577 (by decide +kernel) rfl
theorem w578 : (Cond.code ⟨"WideTurn$Basin", "sinks", "()I"⟩ prog_3_method_6_code (1 : Nat) (Option.some FieldType.int)) ∈ mj_tbl := mj_mem_tbl 578 (by decide +kernel) rfl
theorem w579 : (Cond.methodLink "WideTurn$Basin" (84 : Nat) ⟨"WideTurn$Hand", "lift", "()I"⟩) ∈ mj_tbl := mj_mem_tbl 579 (by decide +kernel) rfl
theorem w580 : (Cond.instanceMethod ⟨"WideTurn$Hand", "lift", "()I"⟩) ∈ mj_tbl := mj_mem_tbl 580 (by decide +kernel) rfl
theorem w581 : (Cond.sameMethod "WideTurn$Hand" "WideTurn$Hand" "lift" "()I") ∈ mj_tbl := mj_mem_tbl 581 (by decide +kernel) rfl
theorem w582 : (Cond.selects "WideTurn$Lifter" ⟨"WideTurn$Hand", "lift", "()I"⟩ ⟨"WideTurn$Lifter", "lift", "()I"⟩) ∈ mj_tbl := mj_mem_tbl 582 (by decide +kernel) rfl
theorem w583 : (Cond.instanceMethod ⟨"WideTurn$Lifter", "lift", "()I"⟩) ∈ mj_tbl := mj_mem_tbl 583 (by decide +kernel) rfl
theorem w584 : (Cond.code ⟨"WideTurn$Lifter", "lift", "()I"⟩ prog_5_method_3_code (1 : Nat) (Option.some FieldType.int)) ∈ mj_tbl := mj_mem_tbl 584 (by decide +kernel) rfl
theorem w585 : (Cond.selects "WideTurn$Poler" ⟨"WideTurn$Hand", "lift", "()I"⟩ ⟨"WideTurn$Hand", "lift", "()I"⟩) ∈ mj_tbl := mj_mem_tbl 585 (by decide +kernel) rfl
theorem w586 : (Cond.selects "WideTurn$Roper" ⟨"WideTurn$Hand", "lift", "()I"⟩ ⟨"WideTurn$Hand", "lift", "()I"⟩) ∈ mj_tbl := mj_mem_tbl 586 (by decide +kernel) rfl
theorem w587 : (Cond.selects "WideTurn$Shover" ⟨"WideTurn$Hand", "lift", "()I"⟩ ⟨"WideTurn$Hand", "lift", "()I"⟩) ∈ mj_tbl := mj_mem_tbl 587 (by decide +kernel) rfl
theorem w588 : (Cond.selects "WideTurn$Swinger" ⟨"WideTurn$Hand", "lift", "()I"⟩ ⟨"WideTurn$Hand", "lift", "()I"⟩) ∈ mj_tbl := mj_mem_tbl 588 (by decide +kernel) rfl
theorem w589 : (Cond.code ⟨"WideTurn$Hand", "lift", "()I"⟩ prog_4_method_4_code (1 : Nat) (Option.some FieldType.int)) ∈ mj_tbl := mj_mem_tbl 589 (by decide +kernel) rfl
theorem w590 : (Cond.methodLink "WideTurn$Basin" (87 : Nat) ⟨"java/lang/Math", "max", "(II)I"⟩) ∈ mj_tbl := mj_mem_tbl 590 (by decide +kernel) rfl
theorem w591 : (Cond.methodLink "WideTurn$Basin" (90 : Nat) ⟨"WideTurn$Hand", "minutesFor", "(I)I"⟩) ∈ mj_tbl := mj_mem_tbl 591 (by decide +kernel) rfl
theorem w592 : (Cond.instanceMethod ⟨"WideTurn$Hand", "minutesFor", "(I)I"⟩) ∈ mj_tbl := mj_mem_tbl 592 (by decide +kernel) rfl
theorem w593 : (Cond.sameMethod "WideTurn$Hand" "WideTurn$Hand" "minutesFor" "(I)I") ∈ mj_tbl := mj_mem_tbl 593 (by decide +kernel) rfl
theorem w594 : (Cond.selects "WideTurn$Lifter" ⟨"WideTurn$Hand", "minutesFor", "(I)I"⟩ ⟨"WideTurn$Hand", "minutesFor", "(I)I"⟩) ∈ mj_tbl := mj_mem_tbl 594 (by decide +kernel) rfl
theorem w595 : (Cond.selects "WideTurn$Poler" ⟨"WideTurn$Hand", "minutesFor", "(I)I"⟩ ⟨"WideTurn$Hand", "minutesFor", "(I)I"⟩) ∈ mj_tbl := mj_mem_tbl 595 (by decide +kernel) rfl
theorem w596 : (Cond.selects "WideTurn$Roper" ⟨"WideTurn$Hand", "minutesFor", "(I)I"⟩ ⟨"WideTurn$Roper", "minutesFor", "(I)I"⟩) ∈ mj_tbl := mj_mem_tbl 596 (by decide +kernel) rfl
theorem w597 : (Cond.instanceMethod ⟨"WideTurn$Roper", "minutesFor", "(I)I"⟩) ∈ mj_tbl := mj_mem_tbl 597 (by decide +kernel) rfl
theorem w598 : (Cond.code ⟨"WideTurn$Roper", "minutesFor", "(I)I"⟩ prog_7_method_3_code (3 : Nat) (Option.some FieldType.int)) ∈ mj_tbl := mj_mem_tbl 598 (by decide +kernel) rfl
theorem w599 : (Cond.methodLink "WideTurn$Roper" (9 : Nat) ⟨"WideTurn$Swinger", "minutesFor", "(I)I"⟩) ∈ mj_tbl := mj_mem_tbl 599 (by decide +kernel) rfl
theorem w600 : (Cond.sameMethod "WideTurn$Swinger" "WideTurn$Hand" "minutesFor" "(I)I") ∈ mj_tbl := mj_mem_tbl 600 (by decide +kernel) rfl
theorem w601 : (Cond.declares ⟨"WideTurn$Hand", "minutesFor", "(I)I"⟩) ∈ mj_bad := mj_mem_bad 601 (by decide +kernel) rfl
theorem w602 : (Cond.methodLink "WideTurn$Roper" (13 : Nat) ⟨"java/lang/Math", "max", "(II)I"⟩) ∈ mj_tbl := mj_mem_tbl 602 (by decide +kernel) rfl
theorem w603 : (Cond.selects "WideTurn$Shover" ⟨"WideTurn$Hand", "minutesFor", "(I)I"⟩ ⟨"WideTurn$Hand", "minutesFor", "(I)I"⟩) ∈ mj_tbl := mj_mem_tbl 603 (by decide +kernel) rfl
theorem w604 : (Cond.selects "WideTurn$Swinger" ⟨"WideTurn$Hand", "minutesFor", "(I)I"⟩ ⟨"WideTurn$Hand", "minutesFor", "(I)I"⟩) ∈ mj_tbl := mj_mem_tbl 604 (by decide +kernel) rfl
theorem w605 : (Cond.code ⟨"WideTurn$Hand", "minutesFor", "(I)I"⟩ prog_4_method_3_code (2 : Nat) (Option.some FieldType.int)) ∈ mj_tbl := mj_mem_tbl 605 (by decide +kernel) rfl
theorem w606 : (Cond.constant "WideTurn$Hand" (21 : Nat) (-1000000 : Int32)) ∈ mj_tbl := mj_mem_tbl 606 (by decide +kernel) rfl
theorem w607 : (Cond.constant "WideTurn$Basin" (93 : Nat) (-1000000 : Int32)) ∈ mj_tbl := mj_mem_tbl 607 (by decide +kernel) rfl
theorem w608 : (Cond.methodLinkNest "WideTurn$Basin" (94 : Nat) ⟨"WideTurn", "middleBehind", "(III)I"⟩ "WideTurn") ∈ mj_bad := mj_mem_bad 608 (by decide +kernel) rfl
theorem w609 : (Cond.static ⟨"WideTurn", "middleBehind", "(III)I"⟩) ∈ mj_tbl := mj_mem_tbl 609 (by decide +kernel) rfl
theorem w610 : (Cond.code ⟨"WideTurn", "middleBehind", "(III)I"⟩ prog_1_method_57_code (3 : Nat) (Option.some FieldType.int)) ∈ mj_tbl := mj_mem_tbl 610 (by decide +kernel) rfl
theorem w611 : (Cond.methodLink "WideTurn" (313 : Nat) ⟨"WideTurn", "beside", "(II)I"⟩) ∈ mj_tbl := mj_mem_tbl 611 (by decide +kernel) rfl
theorem w612 : (Cond.static ⟨"WideTurn", "beside", "(II)I"⟩) ∈ mj_tbl := mj_mem_tbl 612 (by decide +kernel) rfl
theorem w613 : (Cond.code ⟨"WideTurn", "beside", "(II)I"⟩ prog_1_method_55_code (5 : Nat) (Option.some FieldType.int)) ∈ mj_tbl := mj_mem_tbl 613 (by decide +kernel) rfl
theorem w614 : (Cond.fieldLink "WideTurn" (307 : Nat) "WideTurn" "EAST" "[I") ∈ mj_tbl := mj_mem_tbl 614 (by decide +kernel) rfl
theorem w616 : (Cond.fieldLink "WideTurn" (310 : Nat) "WideTurn" "SOUTH" "[I") ∈ mj_tbl := mj_mem_tbl 616 (by decide +kernel) rfl
theorem w618 : (Cond.methodLink "WideTurn" (316 : Nat) ⟨"WideTurn", "turnBehind", "(II)I"⟩) ∈ mj_tbl := mj_mem_tbl 618 (by decide +kernel) rfl
theorem w619 : (Cond.static ⟨"WideTurn", "turnBehind", "(II)I"⟩) ∈ mj_tbl := mj_mem_tbl 619 (by decide +kernel) rfl
theorem w620 : (Cond.code ⟨"WideTurn", "turnBehind", "(II)I"⟩ prog_1_method_56_code (2 : Nat) (Option.some FieldType.int)) ∈ mj_tbl := mj_mem_tbl 620 (by decide +kernel) rfl
theorem w621 : (Cond.methodLinkNest "WideTurn$Basin" (98 : Nat) ⟨"WideTurn", "turnBehind", "(II)I"⟩ "WideTurn") ∈ mj_bad := mj_mem_bad 621 (by decide +kernel) rfl
theorem w622 : (Cond.methodLink "WideTurn$Basin" (74 : Nat) ⟨"WideTurn$Basin", "shallowest", "(II)I"⟩) ∈ mj_tbl := mj_mem_tbl 622 (by decide +kernel) rfl
theorem w623 : (Cond.instanceMethod ⟨"WideTurn$Basin", "shallowest", "(II)I"⟩) ∈ mj_tbl := mj_mem_tbl 623 (by decide +kernel) rfl
theorem w624 : (Cond.selects "WideTurn$Basin" ⟨"WideTurn$Basin", "shallowest", "(II)I"⟩ ⟨"WideTurn$Basin", "shallowest", "(II)I"⟩) ∈ mj_tbl := mj_mem_tbl 624 (by decide +kernel) rfl
theorem w625 : (Cond.code ⟨"WideTurn$Basin", "shallowest", "(II)I"⟩ prog_3_method_8_code (3 : Nat) (Option.some FieldType.int)) ∈ mj_tbl := mj_mem_tbl 625 (by decide +kernel) rfl
theorem w626 : (Cond.methodLink "WideTurn$Basin" (61 : Nat) ⟨"WideTurn$Basin", "clearance", "(I)I"⟩) ∈ mj_tbl := mj_mem_tbl 626 (by decide +kernel) rfl
theorem w628 : (Cond.instanceMethod ⟨"WideTurn$Basin", "clearance", "(I)I"⟩) ∈ mj_tbl := mj_mem_tbl 628 (by decide +kernel) rfl
theorem w629 : (Cond.code ⟨"WideTurn$Basin", "clearance", "(I)I"⟩ prog_3_method_9_code (3 : Nat) (Option.some FieldType.int)) ∈ mj_tbl := mj_mem_tbl 629 (by decide +kernel) rfl
theorem w630 : (Cond.methodLinkNest "WideTurn$Basin" (65 : Nat) ⟨"WideTurn", "beside", "(II)I"⟩ "WideTurn") ∈ mj_bad := mj_mem_bad 630 (by decide +kernel) rfl
theorem w631 : (Cond.methodLink "WideTurn$Basin" (69 : Nat) ⟨"java/lang/Math", "min", "(II)I"⟩) ∈ mj_tbl := mj_mem_tbl 631 (by decide +kernel) rfl
theorem w632 : (Cond.static ⟨"java/lang/Math", "min", "(II)I"⟩) ∈ mj_tbl := mj_mem_tbl 632 (by decide +kernel) rfl
theorem w633 : (Cond.code ⟨"java/lang/Math", "min", "(II)I"⟩ prog_16_method_69_code (2 : Nat) (Option.some FieldType.int)) ∈ mj_tbl := mj_mem_tbl 633 (by decide +kernel) rfl
theorem w634 : (Cond.methodLink "WideTurn" (148 : Nat) ⟨"WideTurn$Acts", "keep", "(LWideTurn$Basin;I)V"⟩) ∈ mj_tbl := mj_mem_tbl 634 (by decide +kernel) rfl
theorem w635 : (Cond.instanceMethod ⟨"WideTurn$Acts", "keep", "(LWideTurn$Basin;I)V"⟩) ∈ mj_tbl := mj_mem_tbl 635 (by decide +kernel) rfl
theorem w636 : (Cond.selects "WideTurn$Acts" ⟨"WideTurn$Acts", "keep", "(LWideTurn$Basin;I)V"⟩ ⟨"WideTurn$Acts", "keep", "(LWideTurn$Basin;I)V"⟩) ∈ mj_tbl := mj_mem_tbl 636 (by decide +kernel) rfl
theorem w637 : (Cond.code ⟨"WideTurn$Acts", "keep", "(LWideTurn$Basin;I)V"⟩ prog_2_method_4_code (3 : Nat) (Option.none : Option FieldType)) ∈ mj_tbl := mj_mem_tbl 637 (by decide +kernel) rfl
theorem w638 : (Cond.methodLink "WideTurn$Acts" (53 : Nat) ⟨"java/lang/Math", "min", "(II)I"⟩) ∈ mj_tbl := mj_mem_tbl 638 (by decide +kernel) rfl
theorem w639 : (Cond.methodLink "WideTurn" (152 : Nat) ⟨"WideTurn$Basin", "make", "(I)V"⟩) ∈ mj_tbl := mj_mem_tbl 639 (by decide +kernel) rfl
theorem w640 : (Cond.instanceMethod ⟨"WideTurn$Basin", "make", "(I)V"⟩) ∈ mj_tbl := mj_mem_tbl 640 (by decide +kernel) rfl
theorem w641 : (Cond.selects "WideTurn$Basin" ⟨"WideTurn$Basin", "make", "(I)V"⟩ ⟨"WideTurn$Basin", "make", "(I)V"⟩) ∈ mj_tbl := mj_mem_tbl 641 (by decide +kernel) rfl
theorem w642 : (Cond.code ⟨"WideTurn$Basin", "make", "(I)V"⟩ prog_3_method_14_code (3 : Nat) (Option.none : Option FieldType)) ∈ mj_tbl := mj_mem_tbl 642 (by decide +kernel) rfl
theorem w643 : (Cond.methodLink "WideTurn$Basin" (101 : Nat) ⟨"WideTurn$Basin", "isBlown", "()Z"⟩) ∈ mj_tbl := mj_mem_tbl 643 (by decide +kernel) rfl
theorem w644 : (Cond.instanceMethod ⟨"WideTurn$Basin", "isBlown", "()Z"⟩) ∈ mj_tbl := mj_mem_tbl 644 (by decide +kernel) rfl
theorem w645 : (Cond.selects "WideTurn$Basin" ⟨"WideTurn$Basin", "isBlown", "()Z"⟩ ⟨"WideTurn$Basin", "isBlown", "()Z"⟩) ∈ mj_tbl := mj_mem_tbl 645 (by decide +kernel) rfl
theorem w646 : (Cond.code ⟨"WideTurn$Basin", "isBlown", "()Z"⟩ prog_3_method_7_code (1 : Nat) (Option.some FieldType.boolean)) ∈ mj_tbl := mj_mem_tbl 646 (by decide +kernel) rfl
theorem w647 : (Cond.methodLink "WideTurn" (155 : Nat) ⟨"WideTurn$Hand", "minutesFor", "(I)I"⟩) ∈ mj_tbl := mj_mem_tbl 647 (by decide +kernel) rfl
theorem w648 : (Cond.methodLink "WideTurnLaw" (54 : Nat) ⟨"WideTurn", "laden", "(I)I"⟩) ∈ mj_tbl := mj_mem_tbl 648 (by decide +kernel) rfl
theorem w649 : (Cond.instanceMethod ⟨"WideTurn", "laden", "(I)I"⟩) ∈ mj_tbl := mj_mem_tbl 649 (by decide +kernel) rfl
theorem w650 : (Cond.selects "WideTurn" ⟨"WideTurn", "laden", "(I)I"⟩ ⟨"WideTurn", "laden", "(I)I"⟩) ∈ mj_tbl := mj_mem_tbl 650 (by decide +kernel) rfl
theorem w651 : (Cond.code ⟨"WideTurn", "laden", "(I)I"⟩ prog_1_method_11_code (2 : Nat) (Option.some FieldType.int)) ∈ mj_tbl := mj_mem_tbl 651 (by decide +kernel) rfl
theorem w652 : (Cond.methodLink "WideTurn" (163 : Nat) ⟨"WideTurn$Basin", "sinks", "()I"⟩) ∈ mj_tbl := mj_mem_tbl 652 (by decide +kernel) rfl
theorem w653 : (Cond.methodLink "WideTurnLaw" (58 : Nat) ⟨"WideTurn", "moor", "(II)I"⟩) ∈ mj_tbl := mj_mem_tbl 653 (by decide +kernel) rfl
theorem w654 : (Cond.instanceMethod ⟨"WideTurn", "moor", "(II)I"⟩) ∈ mj_tbl := mj_mem_tbl 654 (by decide +kernel) rfl
theorem w655 : (Cond.selects "WideTurn" ⟨"WideTurn", "moor", "(II)I"⟩ ⟨"WideTurn", "moor", "(II)I"⟩) ∈ mj_tbl := mj_mem_tbl 655 (by decide +kernel) rfl
theorem w656 : (Cond.code ⟨"WideTurn", "moor", "(II)I"⟩ prog_1_method_12_code (3 : Nat) (Option.some FieldType.int)) ∈ mj_tbl := mj_mem_tbl 656 (by decide +kernel) rfl
theorem w657 : (Cond.methodLink "WideTurn" (169 : Nat) ⟨"WideTurn", "bit", "(II)I"⟩) ∈ mj_tbl := mj_mem_tbl 657 (by decide +kernel) rfl
theorem w658 : (Cond.methodLink "WideTurn" (173 : Nat) ⟨"WideTurn$Basin", "lies", "()I"⟩) ∈ mj_tbl := mj_mem_tbl 658 (by decide +kernel) rfl
theorem w659 : (Cond.instanceMethod ⟨"WideTurn$Basin", "lies", "()I"⟩) ∈ mj_tbl := mj_mem_tbl 659 (by decide +kernel) rfl
theorem w660 : (Cond.selects "WideTurn$Basin" ⟨"WideTurn$Basin", "lies", "()I"⟩ ⟨"WideTurn$Basin", "lies", "()I"⟩) ∈ mj_tbl := mj_mem_tbl 660 (by decide +kernel) rfl
theorem w661 : (Cond.code ⟨"WideTurn$Basin", "lies", "()I"⟩ prog_3_method_11_code (1 : Nat) (Option.some FieldType.int)) ∈ mj_tbl := mj_mem_tbl 661 (by decide +kernel) rfl
theorem w662 : (Cond.methodLink "WideTurn$Basin" (81 : Nat) ⟨"WideTurn$Basin", "setOf", "(I)I"⟩) ∈ mj_tbl := mj_mem_tbl 662 (by decide +kernel) rfl
theorem w663 : (Cond.static ⟨"WideTurn$Basin", "setOf", "(I)I"⟩) ∈ mj_tbl := mj_mem_tbl 663 (by decide +kernel) rfl
theorem w664 : (Cond.code ⟨"WideTurn$Basin", "setOf", "(I)I"⟩ prog_3_method_12_code (1 : Nat) (Option.some FieldType.int)) ∈ mj_tbl := mj_mem_tbl 664 (by decide +kernel) rfl
theorem w665 : (Cond.methodLink "WideTurn" (176 : Nat) ⟨"java/lang/Integer", "bitCount", "(I)I"⟩) ∈ mj_tbl := mj_mem_tbl 665 (by decide +kernel) rfl
theorem w666 : (Cond.static ⟨"java/lang/Integer", "bitCount", "(I)I"⟩) ∈ mj_tbl := mj_mem_tbl 666 (by decide +kernel) rfl
theorem w667 : (Cond.code ⟨"java/lang/Integer", "bitCount", "(I)I"⟩ prog_15_method_49_code (1 : Nat) (Option.some FieldType.int)) ∈ mj_tbl := mj_mem_tbl 667 (by decide +kernel) rfl
theorem w668 : (Cond.constant "java/lang/Integer" (265 : Nat) (1431655765 : Int32)) ∈ mj_tbl := mj_mem_tbl 668 (by decide +kernel) rfl
theorem w669 : (Cond.constant "java/lang/Integer" (266 : Nat) (858993459 : Int32)) ∈ mj_tbl := mj_mem_tbl 669 (by decide +kernel) rfl
theorem w670 : (Cond.constant "java/lang/Integer" (267 : Nat) (252645135 : Int32)) ∈ mj_tbl := mj_mem_tbl 670 (by decide +kernel) rfl
theorem w671 : (Cond.methodLink "WideTurnLaw" (62 : Nat) ⟨"WideTurn", "silt", "()I"⟩) ∈ mj_tbl := mj_mem_tbl 671 (by decide +kernel) rfl
theorem w672 : (Cond.instanceMethod ⟨"WideTurn", "silt", "()I"⟩) ∈ mj_tbl := mj_mem_tbl 672 (by decide +kernel) rfl
theorem w673 : (Cond.selects "WideTurn" ⟨"WideTurn", "silt", "()I"⟩ ⟨"WideTurn", "silt", "()I"⟩) ∈ mj_tbl := mj_mem_tbl 673 (by decide +kernel) rfl
theorem w674 : (Cond.code ⟨"WideTurn", "silt", "()I"⟩ prog_1_method_13_code (1 : Nat) (Option.some FieldType.int)) ∈ mj_tbl := mj_mem_tbl 674 (by decide +kernel) rfl
theorem w675 : (Cond.methodLink "WideTurn" (181 : Nat) ⟨"WideTurn$Basin", "siltUp", "()I"⟩) ∈ mj_tbl := mj_mem_tbl 675 (by decide +kernel) rfl
theorem w676 : (Cond.instanceMethod ⟨"WideTurn$Basin", "siltUp", "()I"⟩) ∈ mj_tbl := mj_mem_tbl 676 (by decide +kernel) rfl
theorem w677 : (Cond.selects "WideTurn$Basin" ⟨"WideTurn$Basin", "siltUp", "()I"⟩ ⟨"WideTurn$Basin", "siltUp", "()I"⟩) ∈ mj_tbl := mj_mem_tbl 677 (by decide +kernel) rfl
theorem w678 : (Cond.code ⟨"WideTurn$Basin", "siltUp", "()I"⟩ prog_3_method_15_code (3 : Nat) (Option.some FieldType.int)) ∈ mj_tbl := mj_mem_tbl 678 (by decide +kernel) rfl
theorem w679 : (Cond.methodLink "WideTurn" (184 : Nat) ⟨"WideTurn$Basin", "fitsNow", "()Z"⟩) ∈ mj_tbl := mj_mem_tbl 679 (by decide +kernel) rfl
theorem w680 : (Cond.instanceMethod ⟨"WideTurn$Basin", "fitsNow", "()Z"⟩) ∈ mj_tbl := mj_mem_tbl 680 (by decide +kernel) rfl
theorem w681 : (Cond.selects "WideTurn$Basin" ⟨"WideTurn$Basin", "fitsNow", "()Z"⟩ ⟨"WideTurn$Basin", "fitsNow", "()Z"⟩) ∈ mj_tbl := mj_mem_tbl 681 (by decide +kernel) rfl
theorem w682 : (Cond.code ⟨"WideTurn$Basin", "fitsNow", "()Z"⟩ prog_3_method_10_code (1 : Nat) (Option.some FieldType.boolean)) ∈ mj_tbl := mj_mem_tbl 682 (by decide +kernel) rfl
theorem w683 : (Cond.methodLink "WideTurnLaw" (66 : Nat) ⟨"WideTurn", "boat", "(I)I"⟩) ∈ mj_tbl := mj_mem_tbl 683 (by decide +kernel) rfl
theorem w684 : (Cond.instanceMethod ⟨"WideTurn", "boat", "(I)I"⟩) ∈ mj_tbl := mj_mem_tbl 684 (by decide +kernel) rfl
theorem w685 : (Cond.selects "WideTurn" ⟨"WideTurn", "boat", "(I)I"⟩ ⟨"WideTurn", "boat", "(I)I"⟩) ∈ mj_tbl := mj_mem_tbl 685 (by decide +kernel) rfl
theorem w686 : (Cond.code ⟨"WideTurn", "boat", "(I)I"⟩ prog_1_method_14_code (2 : Nat) (Option.some FieldType.int)) ∈ mj_tbl := mj_mem_tbl 686 (by decide +kernel) rfl
theorem w687 : (Cond.methodLink "WideTurnLaw" (70 : Nat) ⟨"WideTurn", "cell", "(II)I"⟩) ∈ mj_tbl := mj_mem_tbl 687 (by decide +kernel) rfl
theorem w688 : (Cond.instanceMethod ⟨"WideTurn", "cell", "(II)I"⟩) ∈ mj_tbl := mj_mem_tbl 688 (by decide +kernel) rfl
theorem w689 : (Cond.selects "WideTurn" ⟨"WideTurn", "cell", "(II)I"⟩ ⟨"WideTurn", "cell", "(II)I"⟩) ∈ mj_tbl := mj_mem_tbl 689 (by decide +kernel) rfl
theorem w690 : (Cond.code ⟨"WideTurn", "cell", "(II)I"⟩ prog_1_method_15_code (3 : Nat) (Option.some FieldType.int)) ∈ mj_tbl := mj_mem_tbl 690 (by decide +kernel) rfl
theorem w691 : (Cond.methodLink "WideTurn" (197 : Nat) ⟨"WideTurn", "at", "([II)I"⟩) ∈ mj_tbl := mj_mem_tbl 691 (by decide +kernel) rfl
theorem w692 : (Cond.methodLink "WideTurnLaw" (74 : Nat) ⟨"WideTurn", "hand", "(II)I"⟩) ∈ mj_tbl := mj_mem_tbl 692 (by decide +kernel) rfl
theorem w693 : (Cond.instanceMethod ⟨"WideTurn", "hand", "(II)I"⟩) ∈ mj_tbl := mj_mem_tbl 693 (by decide +kernel) rfl
theorem w694 : (Cond.selects "WideTurn" ⟨"WideTurn", "hand", "(II)I"⟩ ⟨"WideTurn", "hand", "(II)I"⟩) ∈ mj_tbl := mj_mem_tbl 694 (by decide +kernel) rfl
theorem w695 : (Cond.code ⟨"WideTurn", "hand", "(II)I"⟩ prog_1_method_16_code (4 : Nat) (Option.some FieldType.int)) ∈ mj_tbl := mj_mem_tbl 695 (by decide +kernel) rfl
theorem w696 : (Cond.methodLink "WideTurnLaw" (78 : Nat) ⟨"WideTurn", "way", "(III)I"⟩) ∈ mj_tbl := mj_mem_tbl 696 (by decide +kernel) rfl
theorem w697 : (Cond.instanceMethod ⟨"WideTurn", "way", "(III)I"⟩) ∈ mj_tbl := mj_mem_tbl 697 (by decide +kernel) rfl
theorem w698 : (Cond.selects "WideTurn" ⟨"WideTurn", "way", "(III)I"⟩ ⟨"WideTurn", "way", "(III)I"⟩) ∈ mj_tbl := mj_mem_tbl 698 (by decide +kernel) rfl
theorem w699 : (Cond.code ⟨"WideTurn", "way", "(III)I"⟩ prog_1_method_17_code (4 : Nat) (Option.some FieldType.int)) ∈ mj_tbl := mj_mem_tbl 699 (by decide +kernel) rfl
theorem w700 : (Cond.methodLink "WideTurn" (201 : Nat) ⟨"WideTurn$Search", "explore", "(LWideTurn$Basin;II)V"⟩) ∈ mj_tbl := mj_mem_tbl 700 (by decide +kernel) rfl
theorem w701 : (Cond.instanceMethod ⟨"WideTurn$Search", "explore", "(LWideTurn$Basin;II)V"⟩) ∈ mj_tbl := mj_mem_tbl 701 (by decide +kernel) rfl
theorem w702 : (Cond.selects "WideTurn$Search" ⟨"WideTurn$Search", "explore", "(LWideTurn$Basin;II)V"⟩ ⟨"WideTurn$Search", "explore", "(LWideTurn$Basin;II)V"⟩) ∈ mj_tbl := mj_mem_tbl 702 (by decide +kernel) rfl
theorem w703 : (Cond.code ⟨"WideTurn$Search", "explore", "(LWideTurn$Basin;II)V"⟩ prog_9_method_3_code (8 : Nat) (Option.none : Option FieldType)) ∈ mj_tbl := mj_mem_tbl 703 (by decide +kernel) rfl
theorem w704 : (Cond.methodLink "WideTurn$Search" (53 : Nat) ⟨"WideTurn$Search", "prepare", "(LWideTurn$Basin;I)V"⟩) ∈ mj_tbl := mj_mem_tbl 704 (by decide +kernel) rfl
theorem w706 : (Cond.instanceMethod ⟨"WideTurn$Search", "prepare", "(LWideTurn$Basin;I)V"⟩) ∈ mj_tbl := mj_mem_tbl 706 (by decide +kernel) rfl
theorem w707 : (Cond.code ⟨"WideTurn$Search", "prepare", "(LWideTurn$Basin;I)V"⟩ prog_9_method_7_code (4 : Nat) (Option.none : Option FieldType)) ∈ mj_tbl := mj_mem_tbl 707 (by decide +kernel) rfl
theorem w708 : (Cond.methodLink "WideTurn$Search" (103 : Nat) ⟨"WideTurn$Basin", "isBlown", "()Z"⟩) ∈ mj_tbl := mj_mem_tbl 708 (by decide +kernel) rfl
theorem w709 : (Cond.methodLink "WideTurn$Search" (83 : Nat) ⟨"WideTurn$Search", "stateOf", "(III)I"⟩) ∈ mj_tbl := mj_mem_tbl 709 (by decide +kernel) rfl
theorem w710 : (Cond.static ⟨"WideTurn$Search", "stateOf", "(III)I"⟩) ∈ mj_tbl := mj_mem_tbl 710 (by decide +kernel) rfl
theorem w711 : (Cond.code ⟨"WideTurn$Search", "stateOf", "(III)I"⟩ prog_9_method_6_code (3 : Nat) (Option.some FieldType.int)) ∈ mj_tbl := mj_mem_tbl 711 (by decide +kernel) rfl
theorem w712 : (Cond.constant "WideTurn$Search" (82 : Nat) (1000000 : Int32)) ∈ mj_tbl := mj_mem_tbl 712 (by decide +kernel) rfl
theorem w713 : (Cond.methodLink "WideTurn$Search" (119 : Nat) ⟨"java/util/Arrays", "fill", "([II)V"⟩) ∈ mj_tbl := mj_mem_tbl 713 (by decide +kernel) rfl
theorem w714 : (Cond.methodLink "WideTurn$Search" (125 : Nat) ⟨"WideTurn$Basin", "shallowest", "(II)I"⟩) ∈ mj_tbl := mj_mem_tbl 714 (by decide +kernel) rfl
theorem w715 : (Cond.methodLinkNest "WideTurn$Search" (128 : Nat) ⟨"WideTurn", "put", "([III)V"⟩ "WideTurn") ∈ mj_bad := mj_mem_bad 715 (by decide +kernel) rfl
theorem w716 : (Cond.methodLink "WideTurn$Search" (57 : Nat) ⟨"WideTurn$Search", "choosePacers", "(LWideTurn$Basin;)V"⟩) ∈ mj_tbl := mj_mem_tbl 716 (by decide +kernel) rfl
theorem w718 : (Cond.instanceMethod ⟨"WideTurn$Search", "choosePacers", "(LWideTurn$Basin;)V"⟩) ∈ mj_tbl := mj_mem_tbl 718 (by decide +kernel) rfl
theorem w719 : (Cond.code ⟨"WideTurn$Search", "choosePacers", "(LWideTurn$Basin;)V"⟩ prog_9_method_8_code (7 : Nat) (Option.none : Option FieldType)) ∈ mj_tbl := mj_mem_tbl 719 (by decide +kernel) rfl
theorem w720 : (Cond.constant "WideTurn$Search" (64 : Nat) (-1000000 : Int32)) ∈ mj_tbl := mj_mem_tbl 720 (by decide +kernel) rfl
theorem w721 : (Cond.methodLink "WideTurn$Search" (135 : Nat) ⟨"WideTurn$Basin", "handAt", "(I)LWideTurn$Hand;"⟩) ∈ mj_tbl := mj_mem_tbl 721 (by decide +kernel) rfl
theorem w722 : (Cond.methodLink "WideTurn$Search" (139 : Nat) ⟨"WideTurn$Hand", "minutesFor", "(I)I"⟩) ∈ mj_tbl := mj_mem_tbl 722 (by decide +kernel) rfl
theorem w723 : (Cond.methodLink "WideTurn$Search" (145 : Nat) ⟨"WideTurn$Hand", "lift", "()I"⟩) ∈ mj_tbl := mj_mem_tbl 723 (by decide +kernel) rfl
theorem w724 : (Cond.methodLinkNest "WideTurn$Search" (71 : Nat) ⟨"WideTurn", "at", "([II)I"⟩ "WideTurn") ∈ mj_bad := mj_mem_bad 724 (by decide +kernel) rfl
theorem w725 : (Cond.methodLink "WideTurn$Search" (65 : Nat) ⟨"WideTurn$Search", "add", "(III)V"⟩) ∈ mj_tbl := mj_mem_tbl 725 (by decide +kernel) rfl
theorem w727 : (Cond.instanceMethod ⟨"WideTurn$Search", "add", "(III)V"⟩) ∈ mj_tbl := mj_mem_tbl 727 (by decide +kernel) rfl
theorem w728 : (Cond.code ⟨"WideTurn$Search", "add", "(III)V"⟩ prog_9_method_13_code (6 : Nat) (Option.none : Option FieldType)) ∈ mj_tbl := mj_mem_tbl 728 (by decide +kernel) rfl
theorem w729 : (Cond.methodLink "WideTurn$Search" (75 : Nat) ⟨"WideTurn$Search", "remove", "(I)V"⟩) ∈ mj_tbl := mj_mem_tbl 729 (by decide +kernel) rfl
theorem w731 : (Cond.instanceMethod ⟨"WideTurn$Search", "remove", "(I)V"⟩) ∈ mj_tbl := mj_mem_tbl 731 (by decide +kernel) rfl
theorem w732 : (Cond.code ⟨"WideTurn$Search", "remove", "(I)V"⟩ prog_9_method_14_code (4 : Nat) (Option.none : Option FieldType)) ∈ mj_tbl := mj_mem_tbl 732 (by decide +kernel) rfl
theorem w733 : (Cond.methodLink "WideTurn$Search" (79 : Nat) ⟨"WideTurn$Search", "leave", "(I)V"⟩) ∈ mj_tbl := mj_mem_tbl 733 (by decide +kernel) rfl
theorem w735 : (Cond.instanceMethod ⟨"WideTurn$Search", "leave", "(I)V"⟩) ∈ mj_tbl := mj_mem_tbl 735 (by decide +kernel) rfl
theorem w736 : (Cond.code ⟨"WideTurn$Search", "leave", "(I)V"⟩ prog_9_method_9_code (11 : Nat) (Option.none : Option FieldType)) ∈ mj_tbl := mj_mem_tbl 736 (by decide +kernel) rfl
theorem w737 : (Cond.methodLink "WideTurn$Search" (149 : Nat) ⟨"java/lang/Math", "max", "(II)I"⟩) ∈ mj_tbl := mj_mem_tbl 737 (by decide +kernel) rfl
theorem w738 : (Cond.methodLinkNest "WideTurn$Search" (152 : Nat) ⟨"WideTurn", "middleBehind", "(III)I"⟩ "WideTurn") ∈ mj_bad := mj_mem_bad 738 (by decide +kernel) rfl
theorem w739 : (Cond.methodLinkNest "WideTurn$Search" (155 : Nat) ⟨"WideTurn", "turnBehind", "(II)I"⟩ "WideTurn") ∈ mj_bad := mj_mem_bad 739 (by decide +kernel) rfl
theorem w740 : (Cond.methodLink "WideTurn$Search" (158 : Nat) ⟨"WideTurn$Search", "clearAt", "(II)I"⟩) ∈ mj_tbl := mj_mem_tbl 740 (by decide +kernel) rfl
theorem w742 : (Cond.instanceMethod ⟨"WideTurn$Search", "clearAt", "(II)I"⟩) ∈ mj_tbl := mj_mem_tbl 742 (by decide +kernel) rfl
theorem w743 : (Cond.code ⟨"WideTurn$Search", "clearAt", "(II)I"⟩ prog_9_method_10_code (4 : Nat) (Option.some FieldType.int)) ∈ mj_tbl := mj_mem_tbl 743 (by decide +kernel) rfl
theorem w744 : (Cond.methodLink "WideTurn$Search" (161 : Nat) ⟨"WideTurn$Search", "behind", "(III)I"⟩) ∈ mj_tbl := mj_mem_tbl 744 (by decide +kernel) rfl
theorem w746 : (Cond.instanceMethod ⟨"WideTurn$Search", "behind", "(III)I"⟩) ∈ mj_tbl := mj_mem_tbl 746 (by decide +kernel) rfl
theorem w747 : (Cond.code ⟨"WideTurn$Search", "behind", "(III)I"⟩ prog_9_method_11_code (5 : Nat) (Option.some FieldType.int)) ∈ mj_tbl := mj_mem_tbl 747 (by decide +kernel) rfl
theorem w748 : (Cond.methodLinkNest "WideTurn$Search" (167 : Nat) ⟨"WideTurn", "beside", "(II)I"⟩ "WideTurn") ∈ mj_bad := mj_mem_bad 748 (by decide +kernel) rfl
theorem w749 : (Cond.methodLink "WideTurn$Search" (164 : Nat) ⟨"WideTurn$Search", "offer", "(III)V"⟩) ∈ mj_tbl := mj_mem_tbl 749 (by decide +kernel) rfl
theorem w751 : (Cond.instanceMethod ⟨"WideTurn$Search", "offer", "(III)V"⟩) ∈ mj_tbl := mj_mem_tbl 751 (by decide +kernel) rfl
theorem w752 : (Cond.code ⟨"WideTurn$Search", "offer", "(III)V"⟩ prog_9_method_12_code (4 : Nat) (Option.none : Option FieldType)) ∈ mj_tbl := mj_mem_tbl 752 (by decide +kernel) rfl
theorem w753 : (Cond.methodLink "WideTurn" (205 : Nat) ⟨"WideTurn$Search", "seek", "(III)V"⟩) ∈ mj_tbl := mj_mem_tbl 753 (by decide +kernel) rfl
theorem w754 : (Cond.instanceMethod ⟨"WideTurn$Search", "seek", "(III)V"⟩) ∈ mj_tbl := mj_mem_tbl 754 (by decide +kernel) rfl
theorem w755 : (Cond.selects "WideTurn$Search" ⟨"WideTurn$Search", "seek", "(III)V"⟩ ⟨"WideTurn$Search", "seek", "(III)V"⟩) ∈ mj_tbl := mj_mem_tbl 755 (by decide +kernel) rfl
theorem w756 : (Cond.code ⟨"WideTurn$Search", "seek", "(III)V"⟩ prog_9_method_4_code (10 : Nat) (Option.none : Option FieldType)) ∈ mj_tbl := mj_mem_tbl 756 (by decide +kernel) rfl
theorem w757 : (Cond.methodLinkNest "WideTurn$Search" (87 : Nat) ⟨"WideTurn", "within", "(II)Z"⟩ "WideTurn") ∈ mj_bad := mj_mem_bad 757 (by decide +kernel) rfl
theorem w758 : (Cond.methodLink "WideTurn$Search" (91 : Nat) ⟨"java/lang/Math", "min", "(II)I"⟩) ∈ mj_tbl := mj_mem_tbl 758 (by decide +kernel) rfl
theorem w759 : (Cond.methodLink "WideTurnLaw" (82 : Nat) ⟨"WideTurn", "turned", "(I)I"⟩) ∈ mj_tbl := mj_mem_tbl 759 (by decide +kernel) rfl
theorem w760 : (Cond.instanceMethod ⟨"WideTurn", "turned", "(I)I"⟩) ∈ mj_tbl := mj_mem_tbl 760 (by decide +kernel) rfl
theorem w761 : (Cond.selects "WideTurn" ⟨"WideTurn", "turned", "(I)I"⟩ ⟨"WideTurn", "turned", "(I)I"⟩) ∈ mj_tbl := mj_mem_tbl 761 (by decide +kernel) rfl
theorem w762 : (Cond.code ⟨"WideTurn", "turned", "(I)I"⟩ prog_1_method_18_code (3 : Nat) (Option.some FieldType.int)) ∈ mj_tbl := mj_mem_tbl 762 (by decide +kernel) rfl
theorem w763 : (Cond.methodLink "WideTurn" (214 : Nat) ⟨"WideTurn$Search", "minutesToTurn", "(LWideTurn$Basin;I)I"⟩) ∈ mj_tbl := mj_mem_tbl 763 (by decide +kernel) rfl
theorem w764 : (Cond.instanceMethod ⟨"WideTurn$Search", "minutesToTurn", "(LWideTurn$Basin;I)I"⟩) ∈ mj_tbl := mj_mem_tbl 764 (by decide +kernel) rfl
theorem w765 : (Cond.selects "WideTurn$Search" ⟨"WideTurn$Search", "minutesToTurn", "(LWideTurn$Basin;I)I"⟩ ⟨"WideTurn$Search", "minutesToTurn", "(LWideTurn$Basin;I)I"⟩) ∈ mj_tbl := mj_mem_tbl 765 (by decide +kernel) rfl
theorem w766 : (Cond.code ⟨"WideTurn$Search", "minutesToTurn", "(LWideTurn$Basin;I)I"⟩ prog_9_method_2_code (4 : Nat) (Option.some FieldType.int)) ∈ mj_tbl := mj_mem_tbl 766 (by decide +kernel) rfl
theorem w767 : (Cond.methodLink "WideTurn$Search" (42 : Nat) ⟨"WideTurn$Search", "explore", "(LWideTurn$Basin;II)V"⟩) ∈ mj_tbl := mj_mem_tbl 767 (by decide +kernel) rfl
theorem w768 : (Cond.methodLink "WideTurn$Search" (46 : Nat) ⟨"WideTurn$Search", "seek", "(III)V"⟩) ∈ mj_tbl := mj_mem_tbl 768 (by decide +kernel) rfl
theorem w769 : (Cond.methodLink "WideTurnLaw" (86 : Nat) ⟨"WideTurn", "inches", "()I"⟩) ∈ mj_tbl := mj_mem_tbl 769 (by decide +kernel) rfl
theorem w770 : (Cond.instanceMethod ⟨"WideTurn", "inches", "()I"⟩) ∈ mj_tbl := mj_mem_tbl 770 (by decide +kernel) rfl
theorem w771 : (Cond.selects "WideTurn" ⟨"WideTurn", "inches", "()I"⟩ ⟨"WideTurn", "inches", "()I"⟩) ∈ mj_tbl := mj_mem_tbl 771 (by decide +kernel) rfl
theorem w772 : (Cond.code ⟨"WideTurn", "inches", "()I"⟩ prog_1_method_19_code (2 : Nat) (Option.some FieldType.int)) ∈ mj_tbl := mj_mem_tbl 772 (by decide +kernel) rfl
theorem w773 : (Cond.methodLink "WideTurn" (218 : Nat) ⟨"java/lang/Math", "max", "(II)I"⟩) ∈ mj_tbl := mj_mem_tbl 773 (by decide +kernel) rfl
theorem w774 : (Cond.constant "WideTurn" (223 : Nat) (-1000000 : Int32)) ∈ mj_tbl := mj_mem_tbl 774 (by decide +kernel) rfl
theorem w775 : (Cond.methodLink "WideTurnLaw" (90 : Nat) ⟨"WideTurn", "inTheWay", "(I)I"⟩) ∈ mj_tbl := mj_mem_tbl 775 (by decide +kernel) rfl
theorem w776 : (Cond.instanceMethod ⟨"WideTurn", "inTheWay", "(I)I"⟩) ∈ mj_tbl := mj_mem_tbl 776 (by decide +kernel) rfl
theorem w777 : (Cond.selects "WideTurn" ⟨"WideTurn", "inTheWay", "(I)I"⟩ ⟨"WideTurn", "inTheWay", "(I)I"⟩) ∈ mj_tbl := mj_mem_tbl 777 (by decide +kernel) rfl
theorem w778 : (Cond.code ⟨"WideTurn", "inTheWay", "(I)I"⟩ prog_1_method_20_code (2 : Nat) (Option.some FieldType.int)) ∈ mj_tbl := mj_mem_tbl 778 (by decide +kernel) rfl
theorem w779 : (Cond.methodLink "WideTurn" (224 : Nat) ⟨"WideTurn", "easiestCell", "(ZI)I"⟩) ∈ mj_tbl := mj_mem_tbl 779 (by decide +kernel) rfl
theorem w781 : (Cond.instanceMethod ⟨"WideTurn", "easiestCell", "(ZI)I"⟩) ∈ mj_tbl := mj_mem_tbl 781 (by decide +kernel) rfl
theorem w782 : (Cond.code ⟨"WideTurn", "easiestCell", "(ZI)I"⟩ prog_1_method_40_code (7 : Nat) (Option.some FieldType.int)) ∈ mj_tbl := mj_mem_tbl 782 (by decide +kernel) rfl
theorem w783 : (Cond.methodLink "WideTurn" (271 : Nat) ⟨"WideTurn", "put", "([III)V"⟩) ∈ mj_tbl := mj_mem_tbl 783 (by decide +kernel) rfl
theorem w784 : (Cond.methodLink "WideTurnLaw" (94 : Nat) ⟨"WideTurn", "dig", "(I)I"⟩) ∈ mj_tbl := mj_mem_tbl 784 (by decide +kernel) rfl
theorem w785 : (Cond.instanceMethod ⟨"WideTurn", "dig", "(I)I"⟩) ∈ mj_tbl := mj_mem_tbl 785 (by decide +kernel) rfl
theorem w786 : (Cond.selects "WideTurn" ⟨"WideTurn", "dig", "(I)I"⟩ ⟨"WideTurn", "dig", "(I)I"⟩) ∈ mj_tbl := mj_mem_tbl 786 (by decide +kernel) rfl
theorem w787 : (Cond.code ⟨"WideTurn", "dig", "(I)I"⟩ prog_1_method_21_code (2 : Nat) (Option.some FieldType.int)) ∈ mj_tbl := mj_mem_tbl 787 (by decide +kernel) rfl
theorem w788 : (Cond.methodLink "WideTurnLaw" (98 : Nat) ⟨"WideTurn", "years", "()I"⟩) ∈ mj_tbl := mj_mem_tbl 788 (by decide +kernel) rfl
theorem w789 : (Cond.instanceMethod ⟨"WideTurn", "years", "()I"⟩) ∈ mj_tbl := mj_mem_tbl 789 (by decide +kernel) rfl
theorem w790 : (Cond.selects "WideTurn" ⟨"WideTurn", "years", "()I"⟩ ⟨"WideTurn", "years", "()I"⟩) ∈ mj_tbl := mj_mem_tbl 790 (by decide +kernel) rfl
theorem w791 : (Cond.code ⟨"WideTurn", "years", "()I"⟩ prog_1_method_22_code (2 : Nat) (Option.some FieldType.int)) ∈ mj_tbl := mj_mem_tbl 791 (by decide +kernel) rfl
theorem w792 : (Cond.methodLink "WideTurnLaw" (102 : Nat) ⟨"WideTurn", "better", "()I"⟩) ∈ mj_tbl := mj_mem_tbl 792 (by decide +kernel) rfl
theorem w793 : (Cond.instanceMethod ⟨"WideTurn", "better", "()I"⟩) ∈ mj_tbl := mj_mem_tbl 793 (by decide +kernel) rfl
theorem w794 : (Cond.selects "WideTurn" ⟨"WideTurn", "better", "()I"⟩ ⟨"WideTurn", "better", "()I"⟩) ∈ mj_tbl := mj_mem_tbl 794 (by decide +kernel) rfl
theorem w795 : (Cond.code ⟨"WideTurn", "better", "()I"⟩ prog_1_method_23_code (3 : Nat) (Option.some FieldType.int)) ∈ mj_tbl := mj_mem_tbl 795 (by decide +kernel) rfl
theorem w796 : (Cond.methodLink "WideTurn" (228 : Nat) ⟨"WideTurn", "minutesIfLaden", "(I)I"⟩) ∈ mj_tbl := mj_mem_tbl 796 (by decide +kernel) rfl
theorem w798 : (Cond.instanceMethod ⟨"WideTurn", "minutesIfLaden", "(I)I"⟩) ∈ mj_tbl := mj_mem_tbl 798 (by decide +kernel) rfl
theorem w799 : (Cond.code ⟨"WideTurn", "minutesIfLaden", "(I)I"⟩ prog_1_method_41_code (2 : Nat) (Option.some FieldType.int)) ∈ mj_tbl := mj_mem_tbl 799 (by decide +kernel) rfl
theorem w800 : (Cond.methodLink "WideTurnLaw" (106 : Nat) ⟨"WideTurn", "plan", "(IIII)I"⟩) ∈ mj_tbl := mj_mem_tbl 800 (by decide +kernel) rfl
theorem w801 : (Cond.instanceMethod ⟨"WideTurn", "plan", "(IIII)I"⟩) ∈ mj_tbl := mj_mem_tbl 801 (by decide +kernel) rfl
theorem w802 : (Cond.selects "WideTurn" ⟨"WideTurn", "plan", "(IIII)I"⟩ ⟨"WideTurn", "plan", "(IIII)I"⟩) ∈ mj_tbl := mj_mem_tbl 802 (by decide +kernel) rfl
theorem w803 : (Cond.code ⟨"WideTurn", "plan", "(IIII)I"⟩ prog_1_method_24_code (6 : Nat) (Option.some FieldType.int)) ∈ mj_tbl := mj_mem_tbl 803 (by decide +kernel) rfl
theorem w804 : (Cond.methodLink "WideTurn" (231 : Nat) ⟨"WideTurn", "findingAt", "(III)I"⟩) ∈ mj_tbl := mj_mem_tbl 804 (by decide +kernel) rfl
theorem w806 : (Cond.instanceMethod ⟨"WideTurn", "findingAt", "(III)I"⟩) ∈ mj_tbl := mj_mem_tbl 806 (by decide +kernel) rfl
theorem w807 : (Cond.code ⟨"WideTurn", "findingAt", "(III)I"⟩ prog_1_method_39_code (4 : Nat) (Option.some FieldType.int)) ∈ mj_tbl := mj_mem_tbl 807 (by decide +kernel) rfl
theorem w808 : (Cond.methodLink "WideTurn" (234 : Nat) ⟨"WideTurn", "planned", "(IIII)I"⟩) ∈ mj_tbl := mj_mem_tbl 808 (by decide +kernel) rfl
theorem w810 : (Cond.instanceMethod ⟨"WideTurn", "planned", "(IIII)I"⟩) ∈ mj_tbl := mj_mem_tbl 810 (by decide +kernel) rfl
theorem w811 : (Cond.code ⟨"WideTurn", "planned", "(IIII)I"⟩ prog_1_method_42_code (11 : Nat) (Option.some FieldType.int)) ∈ mj_tbl := mj_mem_tbl 811 (by decide +kernel) rfl
theorem w812 : (Cond.methodLink "WideTurn" (294 : Nat) ⟨"WideTurn$Rows", "item", "(II)I"⟩) ∈ mj_tbl := mj_mem_tbl 812 (by decide +kernel) rfl
theorem w813 : (Cond.instanceMethod ⟨"WideTurn$Rows", "item", "(II)I"⟩) ∈ mj_tbl := mj_mem_tbl 813 (by decide +kernel) rfl
theorem w814 : (Cond.selects "WideTurn$Rows" ⟨"WideTurn$Rows", "item", "(II)I"⟩ ⟨"WideTurn$Rows", "item", "(II)I"⟩) ∈ mj_tbl := mj_mem_tbl 814 (by decide +kernel) rfl
theorem w815 : (Cond.code ⟨"WideTurn$Rows", "item", "(II)I"⟩ prog_8_method_8_code (3 : Nat) (Option.some FieldType.int)) ∈ mj_tbl := mj_mem_tbl 815 (by decide +kernel) rfl
theorem w816 : (Cond.methodLink "WideTurnLaw" (111 : Nat) ⟨"WideTurn", "seen", "(IIII)I"⟩) ∈ mj_tbl := mj_mem_tbl 816 (by decide +kernel) rfl
theorem w817 : (Cond.instanceMethod ⟨"WideTurn", "seen", "(IIII)I"⟩) ∈ mj_tbl := mj_mem_tbl 817 (by decide +kernel) rfl
theorem w818 : (Cond.selects "WideTurn" ⟨"WideTurn", "seen", "(IIII)I"⟩ ⟨"WideTurn", "seen", "(IIII)I"⟩) ∈ mj_tbl := mj_mem_tbl 818 (by decide +kernel) rfl
theorem w819 : (Cond.code ⟨"WideTurn", "seen", "(IIII)I"⟩ prog_1_method_25_code (6 : Nat) (Option.some FieldType.int)) ∈ mj_tbl := mj_mem_tbl 819 (by decide +kernel) rfl
theorem w820 : (Cond.methodLink "WideTurn" (238 : Nat) ⟨"WideTurn", "waysSeen", "(IIIII)I"⟩) ∈ mj_tbl := mj_mem_tbl 820 (by decide +kernel) rfl
theorem w822 : (Cond.instanceMethod ⟨"WideTurn", "waysSeen", "(IIIII)I"⟩) ∈ mj_tbl := mj_mem_tbl 822 (by decide +kernel) rfl
theorem w823 : (Cond.code ⟨"WideTurn", "waysSeen", "(IIIII)I"⟩ prog_1_method_44_code (8 : Nat) (Option.some FieldType.int)) ∈ mj_tbl := mj_mem_tbl 823 (by decide +kernel) rfl
theorem w824 : (Cond.methodLink "WideTurn" (303 : Nat) ⟨"WideTurn", "waysBehind", "(IIIIII)I"⟩) ∈ mj_tbl := mj_mem_tbl 824 (by decide +kernel) rfl
theorem w826 : (Cond.instanceMethod ⟨"WideTurn", "waysBehind", "(IIIIII)I"⟩) ∈ mj_tbl := mj_mem_tbl 826 (by decide +kernel) rfl
theorem w827 : (Cond.code ⟨"WideTurn", "waysBehind", "(IIIIII)I"⟩ prog_1_method_45_code (11 : Nat) (Option.some FieldType.int)) ∈ mj_tbl := mj_mem_tbl 827 (by decide +kernel) rfl
theorem w828 : (Cond.methodLink "WideTurn" (242 : Nat) ⟨"WideTurn", "firstSeen", "(III)I"⟩) ∈ mj_tbl := mj_mem_tbl 828 (by decide +kernel) rfl
theorem w830 : (Cond.instanceMethod ⟨"WideTurn", "firstSeen", "(III)I"⟩) ∈ mj_tbl := mj_mem_tbl 830 (by decide +kernel) rfl
theorem w831 : (Cond.code ⟨"WideTurn", "firstSeen", "(III)I"⟩ prog_1_method_46_code (5 : Nat) (Option.some FieldType.int)) ∈ mj_tbl := mj_mem_tbl 831 (by decide +kernel) rfl
theorem w832 : (Cond.methodLink "WideTurnLaw" (115 : Nat) ⟨"WideTurn", "gusts", "(IIII)J"⟩) ∈ mj_tbl := mj_mem_tbl 832 (by decide +kernel) rfl
theorem w833 : (Cond.instanceMethod ⟨"WideTurn", "gusts", "(IIII)J"⟩) ∈ mj_tbl := mj_mem_tbl 833 (by decide +kernel) rfl
theorem w834 : (Cond.selects "WideTurn" ⟨"WideTurn", "gusts", "(IIII)J"⟩ ⟨"WideTurn", "gusts", "(IIII)J"⟩) ∈ mj_tbl := mj_mem_tbl 834 (by decide +kernel) rfl
theorem w835 : (Cond.code ⟨"WideTurn", "gusts", "(IIII)J"⟩ prog_1_method_26_code (11 : Nat) (Option.some FieldType.long)) ∈ mj_tbl := mj_mem_tbl 835 (by decide +kernel) rfl
theorem w836 : (Cond.constantLong "WideTurn" (245 : Nat) (-1000001 : Int64)) ∈ mj_tbl := mj_mem_tbl 836 (by decide +kernel) rfl
theorem w837 : (Cond.methodLink "WideTurn" (247 : Nat) ⟨"WideTurn", "choices", "(II)J"⟩) ∈ mj_tbl := mj_mem_tbl 837 (by decide +kernel) rfl
theorem w838 : (Cond.static ⟨"WideTurn", "choices", "(II)J"⟩) ∈ mj_tbl := mj_mem_tbl 838 (by decide +kernel) rfl
theorem w839 : (Cond.code ⟨"WideTurn", "choices", "(II)J"⟩ prog_1_method_52_code (5 : Nat) (Option.some FieldType.long)) ∈ mj_tbl := mj_mem_tbl 839 (by decide +kernel) rfl
theorem w840 : (Cond.methodLink "WideTurn" (251 : Nat) ⟨"WideTurn", "power", "(II)J"⟩) ∈ mj_tbl := mj_mem_tbl 840 (by decide +kernel) rfl
theorem w841 : (Cond.static ⟨"WideTurn", "power", "(II)J"⟩) ∈ mj_tbl := mj_mem_tbl 841 (by decide +kernel) rfl
theorem w842 : (Cond.code ⟨"WideTurn", "power", "(II)J"⟩ prog_1_method_53_code (5 : Nat) (Option.some FieldType.long)) ∈ mj_tbl := mj_mem_tbl 842 (by decide +kernel) rfl
theorem w843 : (Cond.methodLink "WideTurn" (254 : Nat) ⟨"WideTurn", "commonDivisor", "(JJ)J"⟩) ∈ mj_tbl := mj_mem_tbl 843 (by decide +kernel) rfl
theorem w844 : (Cond.static ⟨"WideTurn", "commonDivisor", "(JJ)J"⟩) ∈ mj_tbl := mj_mem_tbl 844 (by decide +kernel) rfl
theorem w845 : (Cond.code ⟨"WideTurn", "commonDivisor", "(JJ)J"⟩ prog_1_method_54_code (7 : Nat) (Option.some FieldType.long)) ∈ mj_tbl := mj_mem_tbl 845 (by decide +kernel) rfl
theorem w846 : (Cond.methodLink "WideTurnLaw" (120 : Nat) ⟨"WideTurn", "reach", "()I"⟩) ∈ mj_tbl := mj_mem_tbl 846 (by decide +kernel) rfl
theorem w847 : (Cond.instanceMethod ⟨"WideTurn", "reach", "()I"⟩) ∈ mj_tbl := mj_mem_tbl 847 (by decide +kernel) rfl
theorem w848 : (Cond.selects "WideTurn" ⟨"WideTurn", "reach", "()I"⟩ ⟨"WideTurn", "reach", "()I"⟩) ∈ mj_tbl := mj_mem_tbl 848 (by decide +kernel) rfl
theorem w849 : (Cond.code ⟨"WideTurn", "reach", "()I"⟩ prog_1_method_27_code (1 : Nat) (Option.some FieldType.int)) ∈ mj_tbl := mj_mem_tbl 849 (by decide +kernel) rfl
theorem w850 : (Cond.methodLink "WideTurn" (258 : Nat) ⟨"WideTurn$Search", "cellsReached", "()I"⟩) ∈ mj_tbl := mj_mem_tbl 850 (by decide +kernel) rfl
theorem w851 : (Cond.instanceMethod ⟨"WideTurn$Search", "cellsReached", "()I"⟩) ∈ mj_tbl := mj_mem_tbl 851 (by decide +kernel) rfl
theorem w852 : (Cond.selects "WideTurn$Search" ⟨"WideTurn$Search", "cellsReached", "()I"⟩ ⟨"WideTurn$Search", "cellsReached", "()I"⟩) ∈ mj_tbl := mj_mem_tbl 852 (by decide +kernel) rfl
theorem w853 : (Cond.code ⟨"WideTurn$Search", "cellsReached", "()I"⟩ prog_9_method_5_code (3 : Nat) (Option.some FieldType.int)) ∈ mj_tbl := mj_mem_tbl 853 (by decide +kernel) rfl
theorem w854 : (Cond.methodLink "WideTurnLaw" (124 : Nat) ⟨"WideTurn", "days", "(III)I"⟩) ∈ mj_tbl := mj_mem_tbl 854 (by decide +kernel) rfl
theorem w855 : (Cond.instanceMethod ⟨"WideTurn", "days", "(III)I"⟩) ∈ mj_tbl := mj_mem_tbl 855 (by decide +kernel) rfl
theorem w856 : (Cond.selects "WideTurn" ⟨"WideTurn", "days", "(III)I"⟩ ⟨"WideTurn", "days", "(III)I"⟩) ∈ mj_tbl := mj_mem_tbl 856 (by decide +kernel) rfl
theorem w857 : (Cond.code ⟨"WideTurn", "days", "(III)I"⟩ prog_1_method_28_code (5 : Nat) (Option.some FieldType.int)) ∈ mj_tbl := mj_mem_tbl 857 (by decide +kernel) rfl
theorem w858 : (Cond.constant "WideTurn" (261 : Nat) (999999 : Int32)) ∈ mj_tbl := mj_mem_tbl 858 (by decide +kernel) rfl
theorem w859 : (Cond.methodLink "WideTurn" (262 : Nat) ⟨"WideTurn", "passDays", "(II)I"⟩) ∈ mj_tbl := mj_mem_tbl 859 (by decide +kernel) rfl
theorem w861 : (Cond.instanceMethod ⟨"WideTurn", "passDays", "(II)I"⟩) ∈ mj_tbl := mj_mem_tbl 861 (by decide +kernel) rfl
theorem w862 : (Cond.code ⟨"WideTurn", "passDays", "(II)I"⟩ prog_1_method_43_code (9 : Nat) (Option.some FieldType.int)) ∈ mj_tbl := mj_mem_tbl 862 (by decide +kernel) rfl
theorem w863 : (Cond.constantLong "WideTurn" (297 : Nat) (16807 : Int64)) ∈ mj_tbl := mj_mem_tbl 863 (by decide +kernel) rfl
theorem w864 : (Cond.constantLong "WideTurn" (299 : Nat) (2147483647 : Int64)) ∈ mj_tbl := mj_mem_tbl 864 (by decide +kernel) rfl
theorem w865 : (Cond.constantLong "WideTurn" (301 : Nat) (8 : Int64)) ∈ mj_tbl := mj_mem_tbl 865 (by decide +kernel) rfl
theorem w866 : (Cond.methodLink "WideTurnLaw" (128 : Nat) ⟨"WideTurn", "image", "(I)I"⟩) ∈ mj_tbl := mj_mem_tbl 866 (by decide +kernel) rfl
theorem w867 : (Cond.instanceMethod ⟨"WideTurn", "image", "(I)I"⟩) ∈ mj_tbl := mj_mem_tbl 867 (by decide +kernel) rfl
theorem w868 : (Cond.selects "WideTurn" ⟨"WideTurn", "image", "(I)I"⟩ ⟨"WideTurn", "image", "(I)I"⟩) ∈ mj_tbl := mj_mem_tbl 868 (by decide +kernel) rfl
theorem w869 : (Cond.code ⟨"WideTurn", "image", "(I)I"⟩ prog_1_method_29_code (3 : Nat) (Option.some FieldType.int)) ∈ mj_tbl := mj_mem_tbl 869 (by decide +kernel) rfl
theorem w870 : (Cond.methodLink "WideTurnLaw" (132 : Nat) ⟨"WideTurn", "restore", "(I)I"⟩) ∈ mj_tbl := mj_mem_tbl 870 (by decide +kernel) rfl
theorem w871 : (Cond.instanceMethod ⟨"WideTurn", "restore", "(I)I"⟩) ∈ mj_tbl := mj_mem_tbl 871 (by decide +kernel) rfl
theorem w872 : (Cond.selects "WideTurn" ⟨"WideTurn", "restore", "(I)I"⟩ ⟨"WideTurn", "restore", "(I)I"⟩) ∈ mj_tbl := mj_mem_tbl 872 (by decide +kernel) rfl
theorem w873 : (Cond.code ⟨"WideTurn", "restore", "(I)I"⟩ prog_1_method_30_code (3 : Nat) (Option.some FieldType.int)) ∈ mj_tbl := mj_mem_tbl 873 (by decide +kernel) rfl
theorem w874 : (Cond.methodLink "WideTurnLaw" (136 : Nat) ⟨"WideTurn", "kind", "(I)I"⟩) ∈ mj_tbl := mj_mem_tbl 874 (by decide +kernel) rfl
theorem w875 : (Cond.instanceMethod ⟨"WideTurn", "kind", "(I)I"⟩) ∈ mj_tbl := mj_mem_tbl 875 (by decide +kernel) rfl
theorem w876 : (Cond.selects "WideTurn" ⟨"WideTurn", "kind", "(I)I"⟩ ⟨"WideTurn", "kind", "(I)I"⟩) ∈ mj_tbl := mj_mem_tbl 876 (by decide +kernel) rfl
theorem w877 : (Cond.code ⟨"WideTurn", "kind", "(I)I"⟩ prog_1_method_31_code (3 : Nat) (Option.some FieldType.int)) ∈ mj_tbl := mj_mem_tbl 877 (by decide +kernel) rfl
theorem w878 : (Cond.methodLink "WideTurn" (265 : Nat) ⟨"WideTurn$Hand", "sort", "()I"⟩) ∈ mj_tbl := mj_mem_tbl 878 (by decide +kernel) rfl
theorem w879 : (Cond.declares ⟨"WideTurn$Hand", "sort", "()I"⟩) ∈ mj_bad := mj_mem_bad 879 (by decide +kernel) rfl
theorem w880 : (Cond.sameMethod "WideTurn$Hand" "WideTurn$Hand" "sort" "()I") ∈ mj_tbl := mj_mem_tbl 880 (by decide +kernel) rfl
theorem w881 : (Cond.selects "WideTurn$Lifter" ⟨"WideTurn$Hand", "sort", "()I"⟩ ⟨"WideTurn$Lifter", "sort", "()I"⟩) ∈ mj_tbl := mj_mem_tbl 881 (by decide +kernel) rfl
theorem w882 : (Cond.instanceMethod ⟨"WideTurn$Lifter", "sort", "()I"⟩) ∈ mj_tbl := mj_mem_tbl 882 (by decide +kernel) rfl
theorem w883 : (Cond.code ⟨"WideTurn$Lifter", "sort", "()I"⟩ prog_5_method_2_code (1 : Nat) (Option.some FieldType.int)) ∈ mj_tbl := mj_mem_tbl 883 (by decide +kernel) rfl
theorem w884 : (Cond.selects "WideTurn$Poler" ⟨"WideTurn$Hand", "sort", "()I"⟩ ⟨"WideTurn$Poler", "sort", "()I"⟩) ∈ mj_tbl := mj_mem_tbl 884 (by decide +kernel) rfl
theorem w885 : (Cond.instanceMethod ⟨"WideTurn$Poler", "sort", "()I"⟩) ∈ mj_tbl := mj_mem_tbl 885 (by decide +kernel) rfl
theorem w886 : (Cond.code ⟨"WideTurn$Poler", "sort", "()I"⟩ prog_6_method_2_code (1 : Nat) (Option.some FieldType.int)) ∈ mj_tbl := mj_mem_tbl 886 (by decide +kernel) rfl
theorem w887 : (Cond.selects "WideTurn$Roper" ⟨"WideTurn$Hand", "sort", "()I"⟩ ⟨"WideTurn$Roper", "sort", "()I"⟩) ∈ mj_tbl := mj_mem_tbl 887 (by decide +kernel) rfl
theorem w888 : (Cond.instanceMethod ⟨"WideTurn$Roper", "sort", "()I"⟩) ∈ mj_tbl := mj_mem_tbl 888 (by decide +kernel) rfl
theorem w889 : (Cond.code ⟨"WideTurn$Roper", "sort", "()I"⟩ prog_7_method_2_code (1 : Nat) (Option.some FieldType.int)) ∈ mj_tbl := mj_mem_tbl 889 (by decide +kernel) rfl
theorem w890 : (Cond.selects "WideTurn$Shover" ⟨"WideTurn$Hand", "sort", "()I"⟩ ⟨"WideTurn$Shover", "sort", "()I"⟩) ∈ mj_tbl := mj_mem_tbl 890 (by decide +kernel) rfl
theorem w891 : (Cond.instanceMethod ⟨"WideTurn$Shover", "sort", "()I"⟩) ∈ mj_tbl := mj_mem_tbl 891 (by decide +kernel) rfl
theorem w892 : (Cond.code ⟨"WideTurn$Shover", "sort", "()I"⟩ prog_10_method_2_code (1 : Nat) (Option.some FieldType.int)) ∈ mj_tbl := mj_mem_tbl 892 (by decide +kernel) rfl
theorem w893 : (Cond.selects "WideTurn$Swinger" ⟨"WideTurn$Hand", "sort", "()I"⟩ ⟨"WideTurn$Swinger", "sort", "()I"⟩) ∈ mj_tbl := mj_mem_tbl 893 (by decide +kernel) rfl
theorem w894 : (Cond.instanceMethod ⟨"WideTurn$Swinger", "sort", "()I"⟩) ∈ mj_tbl := mj_mem_tbl 894 (by decide +kernel) rfl
theorem w895 : (Cond.code ⟨"WideTurn$Swinger", "sort", "()I"⟩ prog_11_method_2_code (1 : Nat) (Option.some FieldType.int)) ∈ mj_tbl := mj_mem_tbl 895 (by decide +kernel) rfl
theorem w896 : (Cond.methodLink "WideTurnLaw" (140 : Nat) ⟨"WideTurn", "as", "(II)I"⟩) ∈ mj_tbl := mj_mem_tbl 896 (by decide +kernel) rfl
theorem w897 : (Cond.instanceMethod ⟨"WideTurn", "as", "(II)I"⟩) ∈ mj_tbl := mj_mem_tbl 897 (by decide +kernel) rfl
theorem w898 : (Cond.selects "WideTurn" ⟨"WideTurn", "as", "(II)I"⟩ ⟨"WideTurn", "as", "(II)I"⟩) ∈ mj_tbl := mj_mem_tbl 898 (by decide +kernel) rfl
theorem w899 : (Cond.code ⟨"WideTurn", "as", "(II)I"⟩ prog_1_method_32_code (4 : Nat) (Option.some FieldType.int)) ∈ mj_tbl := mj_mem_tbl 899 (by decide +kernel) rfl
theorem w900 : (Cond.methodLink "WideTurn" (268 : Nat) ⟨"WideTurn", "isOne", "(LWideTurn$Hand;I)Z"⟩) ∈ mj_tbl := mj_mem_tbl 900 (by decide +kernel) rfl
theorem w901 : (Cond.static ⟨"WideTurn", "isOne", "(LWideTurn$Hand;I)Z"⟩) ∈ mj_tbl := mj_mem_tbl 901 (by decide +kernel) rfl
theorem w902 : (Cond.code ⟨"WideTurn", "isOne", "(LWideTurn$Hand;I)Z"⟩ prog_1_method_58_code (2 : Nat) (Option.some FieldType.boolean)) ∈ mj_tbl := mj_mem_tbl 902 (by decide +kernel) rfl
theorem w903 : (Cond.classLink "WideTurn" (319 : Nat) "WideTurn$Swinger") ∈ mj_tbl := mj_mem_tbl 903 (by decide +kernel) rfl
theorem w904 : (Cond.classLink "WideTurn" (321 : Nat) "WideTurn$Poler") ∈ mj_tbl := mj_mem_tbl 904 (by decide +kernel) rfl
theorem w905 : (Cond.classLink "WideTurn" (323 : Nat) "WideTurn$Roper") ∈ mj_tbl := mj_mem_tbl 905 (by decide +kernel) rfl
theorem w906 : (Cond.classLink "WideTurn" (325 : Nat) "WideTurn$Shover") ∈ mj_tbl := mj_mem_tbl 906 (by decide +kernel) rfl
theorem w907 : (Cond.classLink "WideTurn" (327 : Nat) "WideTurn$Lifter") ∈ mj_tbl := mj_mem_tbl 907 (by decide +kernel) rfl
theorem w908 : (Cond.methodLink "WideTurnLaw" (144 : Nat) ⟨"WideTurn", "ask", "(II)I"⟩) ∈ mj_tbl := mj_mem_tbl 908 (by decide +kernel) rfl
theorem w909 : (Cond.instanceMethod ⟨"WideTurn", "ask", "(II)I"⟩) ∈ mj_tbl := mj_mem_tbl 909 (by decide +kernel) rfl
theorem w910 : (Cond.selects "WideTurn" ⟨"WideTurn", "ask", "(II)I"⟩ ⟨"WideTurn", "ask", "(II)I"⟩) ∈ mj_tbl := mj_mem_tbl 910 (by decide +kernel) rfl
theorem w911 : (Cond.code ⟨"WideTurn", "ask", "(II)I"⟩ prog_1_method_33_code (4 : Nat) (Option.some FieldType.int)) ∈ mj_tbl := mj_mem_tbl 911 (by decide +kernel) rfl
theorem w912 : (Cond.methodLink "WideTurn" (275 : Nat) ⟨"WideTurn$Hand", "size", "([II)I"⟩) ∈ mj_tbl := mj_mem_tbl 912 (by decide +kernel) rfl
theorem w913 : (Cond.instanceMethod ⟨"WideTurn$Hand", "size", "([II)I"⟩) ∈ mj_tbl := mj_mem_tbl 913 (by decide +kernel) rfl
theorem w914 : (Cond.sameMethod "WideTurn$Hand" "WideTurn$Hand" "size" "([II)I") ∈ mj_tbl := mj_mem_tbl 914 (by decide +kernel) rfl
theorem w915 : (Cond.selects "WideTurn$Lifter" ⟨"WideTurn$Hand", "size", "([II)I"⟩ ⟨"WideTurn$Lifter", "size", "([II)I"⟩) ∈ mj_tbl := mj_mem_tbl 915 (by decide +kernel) rfl
theorem w916 : (Cond.instanceMethod ⟨"WideTurn$Lifter", "size", "([II)I"⟩) ∈ mj_tbl := mj_mem_tbl 916 (by decide +kernel) rfl
theorem w917 : (Cond.code ⟨"WideTurn$Lifter", "size", "([II)I"⟩ prog_5_method_4_code (3 : Nat) (Option.some FieldType.int)) ∈ mj_tbl := mj_mem_tbl 917 (by decide +kernel) rfl
theorem w918 : (Cond.methodLink "WideTurn$Lifter" (7 : Nat) ⟨"WideTurn$Lifter", "leave", "([II)V"⟩) ∈ mj_tbl := mj_mem_tbl 918 (by decide +kernel) rfl
theorem w919 : (Cond.sameMethod "WideTurn$Lifter" "WideTurn$Hand" "leave" "([II)V") ∈ mj_tbl := mj_mem_tbl 919 (by decide +kernel) rfl
theorem w920 : (Cond.static ⟨"WideTurn$Hand", "leave", "([II)V"⟩) ∈ mj_tbl := mj_mem_tbl 920 (by decide +kernel) rfl
theorem w921 : (Cond.code ⟨"WideTurn$Hand", "leave", "([II)V"⟩ prog_4_method_7_code (3 : Nat) (Option.none : Option FieldType)) ∈ mj_tbl := mj_mem_tbl 921 (by decide +kernel) rfl
theorem w922 : (Cond.methodLink "WideTurn$Lifter" (13 : Nat) ⟨"WideTurn$Shover", "size", "([II)I"⟩) ∈ mj_tbl := mj_mem_tbl 922 (by decide +kernel) rfl
theorem w923 : (Cond.instanceMethod ⟨"WideTurn$Shover", "size", "([II)I"⟩) ∈ mj_tbl := mj_mem_tbl 923 (by decide +kernel) rfl
theorem w924 : (Cond.code ⟨"WideTurn$Shover", "size", "([II)I"⟩ prog_10_method_3_code (3 : Nat) (Option.some FieldType.int)) ∈ mj_tbl := mj_mem_tbl 924 (by decide +kernel) rfl
theorem w925 : (Cond.methodLink "WideTurn$Shover" (9 : Nat) ⟨"WideTurn$Shover", "leave", "([II)V"⟩) ∈ mj_tbl := mj_mem_tbl 925 (by decide +kernel) rfl
theorem w926 : (Cond.sameMethod "WideTurn$Shover" "WideTurn$Hand" "leave" "([II)V") ∈ mj_tbl := mj_mem_tbl 926 (by decide +kernel) rfl
theorem w927 : (Cond.methodLink "WideTurn$Shover" (15 : Nat) ⟨"WideTurn$Hand", "size", "([II)I"⟩) ∈ mj_tbl := mj_mem_tbl 927 (by decide +kernel) rfl
theorem w928 : (Cond.selects "WideTurn$Poler" ⟨"WideTurn$Hand", "size", "([II)I"⟩ ⟨"WideTurn$Poler", "size", "([II)I"⟩) ∈ mj_tbl := mj_mem_tbl 928 (by decide +kernel) rfl
theorem w929 : (Cond.instanceMethod ⟨"WideTurn$Poler", "size", "([II)I"⟩) ∈ mj_tbl := mj_mem_tbl 929 (by decide +kernel) rfl
theorem w930 : (Cond.code ⟨"WideTurn$Poler", "size", "([II)I"⟩ prog_6_method_3_code (3 : Nat) (Option.some FieldType.int)) ∈ mj_tbl := mj_mem_tbl 930 (by decide +kernel) rfl
theorem w931 : (Cond.methodLink "WideTurn$Poler" (9 : Nat) ⟨"WideTurn$Poler", "leave", "([II)V"⟩) ∈ mj_tbl := mj_mem_tbl 931 (by decide +kernel) rfl
theorem w932 : (Cond.sameMethod "WideTurn$Poler" "WideTurn$Hand" "leave" "([II)V") ∈ mj_tbl := mj_mem_tbl 932 (by decide +kernel) rfl
theorem w933 : (Cond.methodLink "WideTurn$Poler" (15 : Nat) ⟨"WideTurn$Swinger", "size", "([II)I"⟩) ∈ mj_tbl := mj_mem_tbl 933 (by decide +kernel) rfl
theorem w934 : (Cond.instanceMethod ⟨"WideTurn$Swinger", "size", "([II)I"⟩) ∈ mj_tbl := mj_mem_tbl 934 (by decide +kernel) rfl
theorem w935 : (Cond.code ⟨"WideTurn$Swinger", "size", "([II)I"⟩ prog_11_method_3_code (4 : Nat) (Option.some FieldType.int)) ∈ mj_tbl := mj_mem_tbl 935 (by decide +kernel) rfl
theorem w936 : (Cond.methodLink "WideTurn$Swinger" (7 : Nat) ⟨"WideTurn$Swinger", "leave", "([II)V"⟩) ∈ mj_tbl := mj_mem_tbl 936 (by decide +kernel) rfl
theorem w937 : (Cond.sameMethod "WideTurn$Swinger" "WideTurn$Hand" "leave" "([II)V") ∈ mj_tbl := mj_mem_tbl 937 (by decide +kernel) rfl
theorem w938 : (Cond.methodLink "WideTurn$Swinger" (13 : Nat) ⟨"WideTurn$Hand", "size", "([II)I"⟩) ∈ mj_tbl := mj_mem_tbl 938 (by decide +kernel) rfl
theorem w939 : (Cond.methodLink "WideTurn$Swinger" (17 : Nat) ⟨"WideTurn$Swinger", "mark", "([II)I"⟩) ∈ mj_tbl := mj_mem_tbl 939 (by decide +kernel) rfl
theorem w940 : (Cond.instanceMethod ⟨"WideTurn$Swinger", "mark", "([II)I"⟩) ∈ mj_tbl := mj_mem_tbl 940 (by decide +kernel) rfl
theorem w941 : (Cond.selects "WideTurn$Swinger" ⟨"WideTurn$Swinger", "mark", "([II)I"⟩ ⟨"WideTurn$Swinger", "mark", "([II)I"⟩) ∈ mj_tbl := mj_mem_tbl 941 (by decide +kernel) rfl
theorem w942 : (Cond.sameMethod "WideTurn$Swinger" "WideTurn$Swinger" "mark" "([II)I") ∈ mj_tbl := mj_mem_tbl 942 (by decide +kernel) rfl
theorem w943 : (Cond.selects "WideTurn$Poler" ⟨"WideTurn$Swinger", "mark", "([II)I"⟩ ⟨"WideTurn$Poler", "mark", "([II)I"⟩) ∈ mj_tbl := mj_mem_tbl 943 (by decide +kernel) rfl
theorem w944 : (Cond.instanceMethod ⟨"WideTurn$Poler", "mark", "([II)I"⟩) ∈ mj_tbl := mj_mem_tbl 944 (by decide +kernel) rfl
theorem w945 : (Cond.code ⟨"WideTurn$Poler", "mark", "([II)I"⟩ prog_6_method_4_code (3 : Nat) (Option.some FieldType.int)) ∈ mj_tbl := mj_mem_tbl 945 (by decide +kernel) rfl
theorem w946 : (Cond.methodLink "WideTurn$Poler" (19 : Nat) ⟨"WideTurn$Swinger", "mark", "([II)I"⟩) ∈ mj_tbl := mj_mem_tbl 946 (by decide +kernel) rfl
theorem w947 : (Cond.selects "WideTurn$Roper" ⟨"WideTurn$Swinger", "mark", "([II)I"⟩ ⟨"WideTurn$Roper", "mark", "([II)I"⟩) ∈ mj_tbl := mj_mem_tbl 947 (by decide +kernel) rfl
theorem w948 : (Cond.instanceMethod ⟨"WideTurn$Roper", "mark", "([II)I"⟩) ∈ mj_tbl := mj_mem_tbl 948 (by decide +kernel) rfl
theorem w949 : (Cond.code ⟨"WideTurn$Roper", "mark", "([II)I"⟩ prog_7_method_4_code (3 : Nat) (Option.some FieldType.int)) ∈ mj_tbl := mj_mem_tbl 949 (by decide +kernel) rfl
theorem w950 : (Cond.methodLink "WideTurn$Roper" (19 : Nat) ⟨"WideTurn$Roper", "leave", "([II)V"⟩) ∈ mj_tbl := mj_mem_tbl 950 (by decide +kernel) rfl
theorem w951 : (Cond.sameMethod "WideTurn$Roper" "WideTurn$Hand" "leave" "([II)V") ∈ mj_tbl := mj_mem_tbl 951 (by decide +kernel) rfl
theorem w952 : (Cond.methodLink "WideTurn$Roper" (25 : Nat) ⟨"WideTurn$Swinger", "mark", "([II)I"⟩) ∈ mj_tbl := mj_mem_tbl 952 (by decide +kernel) rfl
theorem w953 : (Cond.code ⟨"WideTurn$Swinger", "mark", "([II)I"⟩ prog_11_method_4_code (3 : Nat) (Option.some FieldType.int)) ∈ mj_tbl := mj_mem_tbl 953 (by decide +kernel) rfl
theorem w954 : (Cond.methodLink "WideTurn$Swinger" (20 : Nat) ⟨"WideTurn$Hand", "mark", "([II)I"⟩) ∈ mj_tbl := mj_mem_tbl 954 (by decide +kernel) rfl
theorem w955 : (Cond.instanceMethod ⟨"WideTurn$Hand", "mark", "([II)I"⟩) ∈ mj_tbl := mj_mem_tbl 955 (by decide +kernel) rfl
theorem w956 : (Cond.code ⟨"WideTurn$Hand", "mark", "([II)I"⟩ prog_4_method_6_code (3 : Nat) (Option.some FieldType.int)) ∈ mj_tbl := mj_mem_tbl 956 (by decide +kernel) rfl
theorem w957 : (Cond.methodLink "WideTurn$Hand" (22 : Nat) ⟨"WideTurn$Hand", "leave", "([II)V"⟩) ∈ mj_tbl := mj_mem_tbl 957 (by decide +kernel) rfl
theorem w958 : (Cond.selects "WideTurn$Roper" ⟨"WideTurn$Hand", "size", "([II)I"⟩ ⟨"WideTurn$Swinger", "size", "([II)I"⟩) ∈ mj_tbl := mj_mem_tbl 958 (by decide +kernel) rfl
theorem w959 : (Cond.selects "WideTurn$Shover" ⟨"WideTurn$Hand", "size", "([II)I"⟩ ⟨"WideTurn$Shover", "size", "([II)I"⟩) ∈ mj_tbl := mj_mem_tbl 959 (by decide +kernel) rfl
theorem w960 : (Cond.selects "WideTurn$Swinger" ⟨"WideTurn$Hand", "size", "([II)I"⟩ ⟨"WideTurn$Swinger", "size", "([II)I"⟩) ∈ mj_tbl := mj_mem_tbl 960 (by decide +kernel) rfl
theorem w961 : (Cond.code ⟨"WideTurn$Hand", "size", "([II)I"⟩ prog_4_method_5_code (3 : Nat) (Option.some FieldType.int)) ∈ mj_tbl := mj_mem_tbl 961 (by decide +kernel) rfl
theorem w962 : (Cond.methodLink "WideTurn" (278 : Nat) ⟨"WideTurn$Hand", "mark", "([II)I"⟩) ∈ mj_tbl := mj_mem_tbl 962 (by decide +kernel) rfl
theorem w963 : (Cond.instanceMethod ⟨"WideTurn$Shover", "mark", "([II)I"⟩) ∈ mj_tbl := mj_mem_tbl 963 (by decide +kernel) rfl
theorem w964 : (Cond.code ⟨"WideTurn$Shover", "mark", "([II)I"⟩ prog_10_method_4_code (4 : Nat) (Option.some FieldType.int)) ∈ mj_tbl := mj_mem_tbl 964 (by decide +kernel) rfl
theorem w965 : (Cond.methodLink "WideTurn$Shover" (19 : Nat) ⟨"WideTurn$Hand", "mark", "([II)I"⟩) ∈ mj_tbl := mj_mem_tbl 965 (by decide +kernel) rfl
theorem w966 : (Cond.methodLink "WideTurn$Shover" (22 : Nat) ⟨"WideTurn$Shover", "size", "([II)I"⟩) ∈ mj_tbl := mj_mem_tbl 966 (by decide +kernel) rfl
theorem w967 : (Cond.methodLink "WideTurnLaw" (148 : Nat) ⟨"WideTurn", "trace", "(I)I"⟩) ∈ mj_tbl := mj_mem_tbl 967 (by decide +kernel) rfl
theorem w968 : (Cond.instanceMethod ⟨"WideTurn", "trace", "(I)I"⟩) ∈ mj_tbl := mj_mem_tbl 968 (by decide +kernel) rfl
theorem w969 : (Cond.selects "WideTurn" ⟨"WideTurn", "trace", "(I)I"⟩ ⟨"WideTurn", "trace", "(I)I"⟩) ∈ mj_tbl := mj_mem_tbl 969 (by decide +kernel) rfl
theorem w970 : (Cond.code ⟨"WideTurn", "trace", "(I)I"⟩ prog_1_method_34_code (2 : Nat) (Option.some FieldType.int)) ∈ mj_tbl := mj_mem_tbl 970 (by decide +kernel) rfl
theorem w971 : (Cond.methodLink "WideTurnLaw" (152 : Nat) ⟨"WideTurn", "count", "(I)I"⟩) ∈ mj_tbl := mj_mem_tbl 971 (by decide +kernel) rfl
theorem w972 : (Cond.instanceMethod ⟨"WideTurn", "count", "(I)I"⟩) ∈ mj_tbl := mj_mem_tbl 972 (by decide +kernel) rfl
theorem w973 : (Cond.selects "WideTurn" ⟨"WideTurn", "count", "(I)I"⟩ ⟨"WideTurn", "count", "(I)I"⟩) ∈ mj_tbl := mj_mem_tbl 973 (by decide +kernel) rfl
theorem w974 : (Cond.code ⟨"WideTurn", "count", "(I)I"⟩ prog_1_method_35_code (2 : Nat) (Option.some FieldType.int)) ∈ mj_tbl := mj_mem_tbl 974 (by decide +kernel) rfl
theorem w975 : (Cond.methodLink "WideTurn" (281 : Nat) ⟨"WideTurn$Rows", "present", "()I"⟩) ∈ mj_tbl := mj_mem_tbl 975 (by decide +kernel) rfl
theorem w976 : (Cond.instanceMethod ⟨"WideTurn$Rows", "present", "()I"⟩) ∈ mj_tbl := mj_mem_tbl 976 (by decide +kernel) rfl
theorem w977 : (Cond.selects "WideTurn$Rows" ⟨"WideTurn$Rows", "present", "()I"⟩ ⟨"WideTurn$Rows", "present", "()I"⟩) ∈ mj_tbl := mj_mem_tbl 977 (by decide +kernel) rfl
theorem w978 : (Cond.code ⟨"WideTurn$Rows", "present", "()I"⟩ prog_8_method_10_code (3 : Nat) (Option.some FieldType.int)) ∈ mj_tbl := mj_mem_tbl 978 (by decide +kernel) rfl
theorem w979 : (Cond.methodLink "WideTurnLaw" (156 : Nat) ⟨"WideTurn", "status", "()I"⟩) ∈ mj_tbl := mj_mem_tbl 979 (by decide +kernel) rfl
theorem w980 : (Cond.instanceMethod ⟨"WideTurn", "status", "()I"⟩) ∈ mj_tbl := mj_mem_tbl 980 (by decide +kernel) rfl
theorem w981 : (Cond.selects "WideTurn" ⟨"WideTurn", "status", "()I"⟩ ⟨"WideTurn", "status", "()I"⟩) ∈ mj_tbl := mj_mem_tbl 981 (by decide +kernel) rfl
theorem w982 : (Cond.code ⟨"WideTurn", "status", "()I"⟩ prog_1_method_36_code (1 : Nat) (Option.some FieldType.int)) ∈ mj_tbl := mj_mem_tbl 982 (by decide +kernel) rfl
theorem w983 : (Cond.classLink "WideTurnLaw" (10 : Nat) "WideTurnModel") ∈ mj_tbl := mj_mem_tbl 983 (by decide +kernel) rfl
theorem w984 : (Cond.instantiable "WideTurnModel" (25 : Nat)) ∈ mj_tbl := mj_mem_tbl 984 (by decide +kernel) rfl
theorem w985 : (Cond.methodLink "WideTurnLaw" (12 : Nat) ⟨"WideTurnModel", "<init>", "()V"⟩) ∈ mj_tbl := mj_mem_tbl 985 (by decide +kernel) rfl
theorem w986 : (Cond.instanceMethod ⟨"WideTurnModel", "<init>", "()V"⟩) ∈ mj_tbl := mj_mem_tbl 986 (by decide +kernel) rfl
theorem w987 : (Cond.code ⟨"WideTurnModel", "<init>", "()V"⟩ prog_14_method_1_code (1 : Nat) (Option.none : Option FieldType)) ∈ mj_tbl := mj_mem_tbl 987 (by decide +kernel) rfl
theorem w988 : (Cond.methodLink "WideTurnModel" (1 : Nat) ⟨"java/lang/Object", "<init>", "()V"⟩) ∈ mj_tbl := mj_mem_tbl 988 (by decide +kernel) rfl
theorem w989 : (Cond.fieldLink "WideTurnModel" (50 : Nat) "WideTurnModel" "thrown" "I") ∈ mj_tbl := mj_mem_tbl 989 (by decide +kernel) rfl
theorem w990 : (Cond.fieldLink "WideTurnModel" (7 : Nat) "WideTurnModel" "tape" "[I") ∈ mj_tbl := mj_mem_tbl 990 (by decide +kernel) rfl
theorem w991 : (Cond.fieldLink "WideTurnModel" (81 : Nat) "WideTurnModel" "typed" "I") ∈ mj_tbl := mj_mem_tbl 991 (by decide +kernel) rfl
theorem w992 : (Cond.fieldLink "WideTurnModel" (85 : Nat) "WideTurnModel" "next" "I") ∈ mj_tbl := mj_mem_tbl 992 (by decide +kernel) rfl
theorem w993 : (Cond.fieldLink "WideTurnModel" (94 : Nat) "WideTurnModel" "token" "I") ∈ mj_tbl := mj_mem_tbl 993 (by decide +kernel) rfl
theorem w994 : (Cond.fieldLink "WideTurnModel" (88 : Nat) "WideTurnModel" "place" "I") ∈ mj_tbl := mj_mem_tbl 994 (by decide +kernel) rfl
theorem w995 : (Cond.fieldLink "WideTurnModel" (97 : Nat) "WideTurnModel" "value" "I") ∈ mj_tbl := mj_mem_tbl 995 (by decide +kernel) rfl
theorem w996 : (Cond.fieldLink "WideTurnModel" (100 : Nat) "WideTurnModel" "fault" "I") ∈ mj_tbl := mj_mem_tbl 996 (by decide +kernel) rfl
theorem w997 : (Cond.fieldLink "WideTurnModel" (107 : Nat) "WideTurnModel" "faultAt" "I") ∈ mj_tbl := mj_mem_tbl 997 (by decide +kernel) rfl
theorem w998 : (Cond.fieldLink "WideTurnModel" (137 : Nat) "WideTurnModel" "latestFault" "I") ∈ mj_tbl := mj_mem_tbl 998 (by decide +kernel) rfl
theorem w999 : (Cond.fieldLink "WideTurnModel" (13 : Nat) "WideTurnModel" "lane" "[I") ∈ mj_tbl := mj_mem_tbl 999 (by decide +kernel) rfl
theorem w1000 : (Cond.fieldLink "WideTurnModel" (16 : Nat) "WideTurnModel" "length" "[I") ∈ mj_tbl := mj_mem_tbl 1000 (by decide +kernel) rfl
theorem w1001 : (Cond.fieldLink "WideTurnModel" (19 : Nat) "WideTurnModel" "items" "[I") ∈ mj_tbl := mj_mem_tbl 1001 (by decide +kernel) rfl
theorem w1002 : (Cond.fieldLink "WideTurnModel" (54 : Nat) "WideTurnModel" "finding" "I") ∈ mj_tbl := mj_mem_tbl 1002 (by decide +kernel) rfl
theorem w1003 : (Cond.fieldLink "WideTurnModel" (22 : Nat) "WideTurnModel" "draft" "[I") ∈ mj_tbl := mj_mem_tbl 1003 (by decide +kernel) rfl
theorem w1004 : (Cond.fieldLink "WideTurnModel" (25 : Nat) "WideTurnModel" "s" "[I") ∈ mj_tbl := mj_mem_tbl 1004 (by decide +kernel) rfl
theorem w1005 : (Cond.fieldLink "WideTurnModel" (28 : Nat) "WideTurnModel" "w" "[I") ∈ mj_tbl := mj_mem_tbl 1005 (by decide +kernel) rfl
theorem w1006 : (Cond.fieldLink "WideTurnModel" (31 : Nat) "WideTurnModel" "acts" "[I") ∈ mj_tbl := mj_mem_tbl 1006 (by decide +kernel) rfl
theorem w1007 : (Cond.fieldLink "WideTurnModel" (145 : Nat) "WideTurnModel" "actMany" "I") ∈ mj_tbl := mj_mem_tbl 1007 (by decide +kernel) rfl
theorem w1008 : (Cond.fieldLink "WideTurnModel" (34 : Nat) "WideTurnModel" "images" "[I") ∈ mj_tbl := mj_mem_tbl 1008 (by decide +kernel) rfl
theorem w1009 : (Cond.fieldLink "WideTurnModel" (37 : Nat) "WideTurnModel" "isKept" "[Z") ∈ mj_tbl := mj_mem_tbl 1009 (by decide +kernel) rfl
theorem w1010 : (Cond.fieldLink "WideTurnModel" (41 : Nat) "WideTurnModel" "trace" "[I") ∈ mj_tbl := mj_mem_tbl 1010 (by decide +kernel) rfl
theorem w1011 : (Cond.fieldLink "WideTurnModel" (249 : Nat) "WideTurnModel" "traceMany" "I") ∈ mj_tbl := mj_mem_tbl 1011 (by decide +kernel) rfl
theorem w1012 : (Cond.fieldLink "WideTurnModel" (44 : Nat) "WideTurnModel" "best" "[I") ∈ mj_tbl := mj_mem_tbl 1012 (by decide +kernel) rfl
theorem w1013 : (Cond.fieldLink "WideTurnModel" (47 : Nat) "WideTurnModel" "ways" "[I") ∈ mj_tbl := mj_mem_tbl 1013 (by decide +kernel) rfl
theorem w1066 : (Cond.methodLink "WideTurnLaw" (17 : Nat) ⟨"WideTurnModel", "row", "(III)I"⟩) ∈ mj_tbl := mj_mem_tbl 1066 (by decide +kernel) rfl
theorem w1067 : (Cond.instanceMethod ⟨"WideTurnModel", "row", "(III)I"⟩) ∈ mj_tbl := mj_mem_tbl 1067 (by decide +kernel) rfl
theorem w1068 : (Cond.selects "WideTurnModel" ⟨"WideTurnModel", "row", "(III)I"⟩ ⟨"WideTurnModel", "row", "(III)I"⟩) ∈ mj_tbl := mj_mem_tbl 1068 (by decide +kernel) rfl
theorem w1069 : (Cond.code ⟨"WideTurnModel", "row", "(III)I"⟩ prog_14_method_7_code (5 : Nat) (Option.some FieldType.int)) ∈ mj_tbl := mj_mem_tbl 1069 (by decide +kernel) rfl
theorem w1070 : (Cond.methodLink "WideTurnModel" (62 : Nat) ⟨"WideTurnModel", "isRow", "(I)Z"⟩) ∈ mj_tbl := mj_mem_tbl 1070 (by decide +kernel) rfl
theorem w1071 : (Cond.static ⟨"WideTurnModel", "isRow", "(I)Z"⟩) ∈ mj_tbl := mj_mem_tbl 1071 (by decide +kernel) rfl
theorem w1072 : (Cond.code ⟨"WideTurnModel", "isRow", "(I)Z"⟩ prog_14_method_6_code (1 : Nat) (Option.some FieldType.boolean)) ∈ mj_tbl := mj_mem_tbl 1072 (by decide +kernel) rfl
theorem w1073 : (Cond.methodLink "WideTurnModel" (58 : Nat) ⟨"WideTurnModel", "in", "(III)Z"⟩) ∈ mj_tbl := mj_mem_tbl 1073 (by decide +kernel) rfl
theorem w1074 : (Cond.static ⟨"WideTurnModel", "in", "(III)Z"⟩) ∈ mj_tbl := mj_mem_tbl 1074 (by decide +kernel) rfl
theorem w1075 : (Cond.code ⟨"WideTurnModel", "in", "(III)Z"⟩ prog_14_method_3_code (3 : Nat) (Option.some FieldType.boolean)) ∈ mj_tbl := mj_mem_tbl 1075 (by decide +kernel) rfl
theorem w1076 : (Cond.constant "WideTurnModel" (66 : Nat) (-1000001 : Int32)) ∈ mj_tbl := mj_mem_tbl 1076 (by decide +kernel) rfl
theorem w1077 : (Cond.methodLink "WideTurnModel" (67 : Nat) ⟨"WideTurnModel", "finds", "(I)I"⟩) ∈ mj_tbl := mj_mem_tbl 1077 (by decide +kernel) rfl
theorem w1079 : (Cond.instanceMethod ⟨"WideTurnModel", "finds", "(I)I"⟩) ∈ mj_tbl := mj_mem_tbl 1079 (by decide +kernel) rfl
theorem w1080 : (Cond.code ⟨"WideTurnModel", "finds", "(I)I"⟩ prog_14_method_4_code (2 : Nat) (Option.some FieldType.int)) ∈ mj_tbl := mj_mem_tbl 1080 (by decide +kernel) rfl
theorem w1081 : (Cond.constant "WideTurnModel" (57 : Nat) (-1000010 : Int32)) ∈ mj_tbl := mj_mem_tbl 1081 (by decide +kernel) rfl
theorem w1082 : (Cond.methodLink "WideTurnModel" (71 : Nat) ⟨"WideTurnModel", "is", "(I)I"⟩) ∈ mj_tbl := mj_mem_tbl 1082 (by decide +kernel) rfl
theorem w1084 : (Cond.instanceMethod ⟨"WideTurnModel", "is", "(I)I"⟩) ∈ mj_tbl := mj_mem_tbl 1084 (by decide +kernel) rfl
theorem w1085 : (Cond.code ⟨"WideTurnModel", "is", "(I)I"⟩ prog_14_method_5_code (2 : Nat) (Option.some FieldType.int)) ∈ mj_tbl := mj_mem_tbl 1085 (by decide +kernel) rfl
theorem w1086 : (Cond.methodLink "WideTurnLaw" (21 : Nat) ⟨"WideTurnModel", "set", "(III)I"⟩) ∈ mj_tbl := mj_mem_tbl 1086 (by decide +kernel) rfl
theorem w1087 : (Cond.instanceMethod ⟨"WideTurnModel", "set", "(III)I"⟩) ∈ mj_tbl := mj_mem_tbl 1087 (by decide +kernel) rfl
theorem w1088 : (Cond.selects "WideTurnModel" ⟨"WideTurnModel", "set", "(III)I"⟩ ⟨"WideTurnModel", "set", "(III)I"⟩) ∈ mj_tbl := mj_mem_tbl 1088 (by decide +kernel) rfl
theorem w1089 : (Cond.code ⟨"WideTurnModel", "set", "(III)I"⟩ prog_14_method_9_code (4 : Nat) (Option.some FieldType.int)) ∈ mj_tbl := mj_mem_tbl 1089 (by decide +kernel) rfl
theorem w1090 : (Cond.methodLink "WideTurnModel" (74 : Nat) ⟨"WideTurnModel", "narrow", "(II)I"⟩) ∈ mj_tbl := mj_mem_tbl 1090 (by decide +kernel) rfl
theorem w1091 : (Cond.static ⟨"WideTurnModel", "narrow", "(II)I"⟩) ∈ mj_tbl := mj_mem_tbl 1091 (by decide +kernel) rfl
theorem w1092 : (Cond.code ⟨"WideTurnModel", "narrow", "(II)I"⟩ prog_14_method_8_code (2 : Nat) (Option.some FieldType.int)) ∈ mj_tbl := mj_mem_tbl 1092 (by decide +kernel) rfl
theorem w1093 : (Cond.methodLink "WideTurnLaw" (26 : Nat) ⟨"WideTurnModel", "copy", "(IIIII)I"⟩) ∈ mj_tbl := mj_mem_tbl 1093 (by decide +kernel) rfl
theorem w1094 : (Cond.instanceMethod ⟨"WideTurnModel", "copy", "(IIIII)I"⟩) ∈ mj_tbl := mj_mem_tbl 1094 (by decide +kernel) rfl
theorem w1095 : (Cond.selects "WideTurnModel" ⟨"WideTurnModel", "copy", "(IIIII)I"⟩ ⟨"WideTurnModel", "copy", "(IIIII)I"⟩) ∈ mj_tbl := mj_mem_tbl 1095 (by decide +kernel) rfl
theorem w1096 : (Cond.code ⟨"WideTurnModel", "copy", "(IIIII)I"⟩ prog_14_method_11_code (8 : Nat) (Option.some FieldType.int)) ∈ mj_tbl := mj_mem_tbl 1096 (by decide +kernel) rfl
theorem w1097 : (Cond.methodLink "WideTurnModel" (78 : Nat) ⟨"WideTurnModel", "isPart", "(III)Z"⟩) ∈ mj_tbl := mj_mem_tbl 1097 (by decide +kernel) rfl
theorem w1099 : (Cond.instanceMethod ⟨"WideTurnModel", "isPart", "(III)Z"⟩) ∈ mj_tbl := mj_mem_tbl 1099 (by decide +kernel) rfl
theorem w1100 : (Cond.code ⟨"WideTurnModel", "isPart", "(III)Z"⟩ prog_14_method_10_code (4 : Nat) (Option.some FieldType.boolean)) ∈ mj_tbl := mj_mem_tbl 1100 (by decide +kernel) rfl
theorem w1101 : (Cond.methodLink "WideTurnLaw" (31 : Nat) ⟨"WideTurnModel", "drop", "(I)I"⟩) ∈ mj_tbl := mj_mem_tbl 1101 (by decide +kernel) rfl
theorem w1102 : (Cond.instanceMethod ⟨"WideTurnModel", "drop", "(I)I"⟩) ∈ mj_tbl := mj_mem_tbl 1102 (by decide +kernel) rfl
theorem w1103 : (Cond.selects "WideTurnModel" ⟨"WideTurnModel", "drop", "(I)I"⟩ ⟨"WideTurnModel", "drop", "(I)I"⟩) ∈ mj_tbl := mj_mem_tbl 1103 (by decide +kernel) rfl
theorem w1104 : (Cond.code ⟨"WideTurnModel", "drop", "(I)I"⟩ prog_14_method_12_code (2 : Nat) (Option.some FieldType.int)) ∈ mj_tbl := mj_mem_tbl 1104 (by decide +kernel) rfl
theorem w1105 : (Cond.methodLink "WideTurnLaw" (35 : Nat) ⟨"WideTurnModel", "feed", "(I)I"⟩) ∈ mj_tbl := mj_mem_tbl 1105 (by decide +kernel) rfl
theorem w1106 : (Cond.instanceMethod ⟨"WideTurnModel", "feed", "(I)I"⟩) ∈ mj_tbl := mj_mem_tbl 1106 (by decide +kernel) rfl
theorem w1107 : (Cond.selects "WideTurnModel" ⟨"WideTurnModel", "feed", "(I)I"⟩ ⟨"WideTurnModel", "feed", "(I)I"⟩) ∈ mj_tbl := mj_mem_tbl 1107 (by decide +kernel) rfl
theorem w1108 : (Cond.code ⟨"WideTurnModel", "feed", "(I)I"⟩ prog_14_method_13_code (2 : Nat) (Option.some FieldType.int)) ∈ mj_tbl := mj_mem_tbl 1108 (by decide +kernel) rfl
theorem w1109 : (Cond.constant "WideTurnModel" (84 : Nat) (-1000003 : Int32)) ∈ mj_tbl := mj_mem_tbl 1109 (by decide +kernel) rfl
theorem w1110 : (Cond.methodLink "WideTurnLaw" (40 : Nat) ⟨"WideTurnModel", "basin", "()I"⟩) ∈ mj_tbl := mj_mem_tbl 1110 (by decide +kernel) rfl
theorem w1111 : (Cond.instanceMethod ⟨"WideTurnModel", "basin", "()I"⟩) ∈ mj_tbl := mj_mem_tbl 1111 (by decide +kernel) rfl
theorem w1112 : (Cond.selects "WideTurnModel" ⟨"WideTurnModel", "basin", "()I"⟩ ⟨"WideTurnModel", "basin", "()I"⟩) ∈ mj_tbl := mj_mem_tbl 1112 (by decide +kernel) rfl
theorem w1113 : (Cond.code ⟨"WideTurnModel", "basin", "()I"⟩ prog_14_method_24_code (2 : Nat) (Option.some FieldType.int)) ∈ mj_tbl := mj_mem_tbl 1113 (by decide +kernel) rfl
theorem w1114 : (Cond.methodLink "WideTurnModel" (114 : Nat) ⟨"WideTurnModel", "advances", "()V"⟩) ∈ mj_tbl := mj_mem_tbl 1114 (by decide +kernel) rfl
theorem w1116 : (Cond.instanceMethod ⟨"WideTurnModel", "advances", "()V"⟩) ∈ mj_tbl := mj_mem_tbl 1116 (by decide +kernel) rfl
theorem w1117 : (Cond.code ⟨"WideTurnModel", "advances", "()V"⟩ prog_14_method_15_code (2 : Nat) (Option.none : Option FieldType)) ∈ mj_tbl := mj_mem_tbl 1117 (by decide +kernel) rfl
theorem w1118 : (Cond.methodLink "WideTurnModel" (91 : Nat) ⟨"WideTurnModel", "letterAt", "(I)I"⟩) ∈ mj_tbl := mj_mem_tbl 1118 (by decide +kernel) rfl
theorem w1120 : (Cond.instanceMethod ⟨"WideTurnModel", "letterAt", "(I)I"⟩) ∈ mj_tbl := mj_mem_tbl 1120 (by decide +kernel) rfl
theorem w1121 : (Cond.code ⟨"WideTurnModel", "letterAt", "(I)I"⟩ prog_14_method_14_code (2 : Nat) (Option.some FieldType.int)) ∈ mj_tbl := mj_mem_tbl 1121 (by decide +kernel) rfl
theorem w1122 : (Cond.methodLink "WideTurnModel" (131 : Nat) ⟨"WideTurnModel", "readsHead", "()V"⟩) ∈ mj_tbl := mj_mem_tbl 1122 (by decide +kernel) rfl
theorem w1124 : (Cond.instanceMethod ⟨"WideTurnModel", "readsHead", "()V"⟩) ∈ mj_tbl := mj_mem_tbl 1124 (by decide +kernel) rfl
theorem w1125 : (Cond.code ⟨"WideTurnModel", "readsHead", "()V"⟩ prog_14_method_21_code (2 : Nat) (Option.none : Option FieldType)) ∈ mj_tbl := mj_mem_tbl 1125 (by decide +kernel) rfl
theorem w1126 : (Cond.methodLink "WideTurnModel" (117 : Nat) ⟨"WideTurnModel", "wants", "(II)V"⟩) ∈ mj_tbl := mj_mem_tbl 1126 (by decide +kernel) rfl
theorem w1128 : (Cond.instanceMethod ⟨"WideTurnModel", "wants", "(II)V"⟩) ∈ mj_tbl := mj_mem_tbl 1128 (by decide +kernel) rfl
theorem w1129 : (Cond.code ⟨"WideTurnModel", "wants", "(II)V"⟩ prog_14_method_18_code (3 : Nat) (Option.none : Option FieldType)) ∈ mj_tbl := mj_mem_tbl 1129 (by decide +kernel) rfl
theorem w1130 : (Cond.methodLink "WideTurnModel" (110 : Nat) ⟨"WideTurnModel", "fails", "(I)V"⟩) ∈ mj_tbl := mj_mem_tbl 1130 (by decide +kernel) rfl
theorem w1132 : (Cond.instanceMethod ⟨"WideTurnModel", "fails", "(I)V"⟩) ∈ mj_tbl := mj_mem_tbl 1132 (by decide +kernel) rfl
theorem w1133 : (Cond.code ⟨"WideTurnModel", "fails", "(I)V"⟩ prog_14_method_17_code (2 : Nat) (Option.none : Option FieldType)) ∈ mj_tbl := mj_mem_tbl 1133 (by decide +kernel) rfl
theorem w1134 : (Cond.methodLink "WideTurnModel" (103 : Nat) ⟨"WideTurnModel", "isWell", "()Z"⟩) ∈ mj_tbl := mj_mem_tbl 1134 (by decide +kernel) rfl
theorem w1136 : (Cond.instanceMethod ⟨"WideTurnModel", "isWell", "()Z"⟩) ∈ mj_tbl := mj_mem_tbl 1136 (by decide +kernel) rfl
theorem w1137 : (Cond.code ⟨"WideTurnModel", "isWell", "()Z"⟩ prog_14_method_16_code (1 : Nat) (Option.some FieldType.boolean)) ∈ mj_tbl := mj_mem_tbl 1137 (by decide +kernel) rfl
theorem w1138 : (Cond.methodLink "WideTurnModel" (121 : Nat) ⟨"WideTurnModel", "number", "(IIZ)I"⟩) ∈ mj_tbl := mj_mem_tbl 1138 (by decide +kernel) rfl
theorem w1140 : (Cond.instanceMethod ⟨"WideTurnModel", "number", "(IIZ)I"⟩) ∈ mj_tbl := mj_mem_tbl 1140 (by decide +kernel) rfl
theorem w1141 : (Cond.code ⟨"WideTurnModel", "number", "(IIZ)I"⟩ prog_14_method_19_code (5 : Nat) (Option.some FieldType.int)) ∈ mj_tbl := mj_mem_tbl 1141 (by decide +kernel) rfl
theorem w1142 : (Cond.methodLink "WideTurnModel" (134 : Nat) ⟨"WideTurnModel", "readsRest", "()V"⟩) ∈ mj_tbl := mj_mem_tbl 1142 (by decide +kernel) rfl
theorem w1144 : (Cond.instanceMethod ⟨"WideTurnModel", "readsRest", "()V"⟩) ∈ mj_tbl := mj_mem_tbl 1144 (by decide +kernel) rfl
theorem w1145 : (Cond.code ⟨"WideTurnModel", "readsRest", "()V"⟩ prog_14_method_23_code (4 : Nat) (Option.none : Option FieldType)) ∈ mj_tbl := mj_mem_tbl 1145 (by decide +kernel) rfl
theorem w1146 : (Cond.methodLink "WideTurnModel" (125 : Nat) ⟨"WideTurnModel", "sortOf", "(I)I"⟩) ∈ mj_tbl := mj_mem_tbl 1146 (by decide +kernel) rfl
theorem w1147 : (Cond.static ⟨"WideTurnModel", "sortOf", "(I)I"⟩) ∈ mj_tbl := mj_mem_tbl 1147 (by decide +kernel) rfl
theorem w1148 : (Cond.code ⟨"WideTurnModel", "sortOf", "(I)I"⟩ prog_14_method_20_code (1 : Nat) (Option.some FieldType.int)) ∈ mj_tbl := mj_mem_tbl 1148 (by decide +kernel) rfl
theorem w1149 : (Cond.methodLink "WideTurnModel" (128 : Nat) ⟨"WideTurnModel", "ones", "(I)I"⟩) ∈ mj_tbl := mj_mem_tbl 1149 (by decide +kernel) rfl
theorem w1150 : (Cond.static ⟨"WideTurnModel", "ones", "(I)I"⟩) ∈ mj_tbl := mj_mem_tbl 1150 (by decide +kernel) rfl
theorem w1151 : (Cond.code ⟨"WideTurnModel", "ones", "(I)I"⟩ prog_14_method_22_code (3 : Nat) (Option.some FieldType.int)) ∈ mj_tbl := mj_mem_tbl 1151 (by decide +kernel) rfl
theorem w1152 : (Cond.constant "WideTurnModel" (140 : Nat) (-1000100 : Int32)) ∈ mj_tbl := mj_mem_tbl 1152 (by decide +kernel) rfl
theorem w1153 : (Cond.methodLink "WideTurnModel" (141 : Nat) ⟨"WideTurnModel", "copies", "([I[I)V"⟩) ∈ mj_tbl := mj_mem_tbl 1153 (by decide +kernel) rfl
theorem w1154 : (Cond.static ⟨"WideTurnModel", "copies", "([I[I)V"⟩) ∈ mj_tbl := mj_mem_tbl 1154 (by decide +kernel) rfl
theorem w1155 : (Cond.code ⟨"WideTurnModel", "copies", "([I[I)V"⟩ prog_14_method_25_code (3 : Nat) (Option.none : Option FieldType)) ∈ mj_tbl := mj_mem_tbl 1155 (by decide +kernel) rfl
theorem w1156 : (Cond.methodLink "WideTurnLaw" (44 : Nat) ⟨"WideTurnModel", "fault", "()I"⟩) ∈ mj_tbl := mj_mem_tbl 1156 (by decide +kernel) rfl
theorem w1157 : (Cond.instanceMethod ⟨"WideTurnModel", "fault", "()I"⟩) ∈ mj_tbl := mj_mem_tbl 1157 (by decide +kernel) rfl
theorem w1158 : (Cond.selects "WideTurnModel" ⟨"WideTurnModel", "fault", "()I"⟩ ⟨"WideTurnModel", "fault", "()I"⟩) ∈ mj_tbl := mj_mem_tbl 1158 (by decide +kernel) rfl
theorem w1159 : (Cond.code ⟨"WideTurnModel", "fault", "()I"⟩ prog_14_method_26_code (1 : Nat) (Option.some FieldType.int)) ∈ mj_tbl := mj_mem_tbl 1159 (by decide +kernel) rfl
theorem w1160 : (Cond.methodLink "WideTurnLaw" (48 : Nat) ⟨"WideTurnModel", "undo", "()I"⟩) ∈ mj_tbl := mj_mem_tbl 1160 (by decide +kernel) rfl
theorem w1161 : (Cond.instanceMethod ⟨"WideTurnModel", "undo", "()I"⟩) ∈ mj_tbl := mj_mem_tbl 1161 (by decide +kernel) rfl
theorem w1162 : (Cond.selects "WideTurnModel" ⟨"WideTurnModel", "undo", "()I"⟩ ⟨"WideTurnModel", "undo", "()I"⟩) ∈ mj_tbl := mj_mem_tbl 1162 (by decide +kernel) rfl
theorem w1163 : (Cond.code ⟨"WideTurnModel", "undo", "()I"⟩ prog_14_method_28_code (2 : Nat) (Option.some FieldType.int)) ∈ mj_tbl := mj_mem_tbl 1163 (by decide +kernel) rfl
theorem w1164 : (Cond.constant "WideTurnModel" (148 : Nat) (-1000002 : Int32)) ∈ mj_tbl := mj_mem_tbl 1164 (by decide +kernel) rfl
theorem w1165 : (Cond.methodLink "WideTurnLaw" (53 : Nat) ⟨"WideTurnModel", "move", "(II)I"⟩) ∈ mj_tbl := mj_mem_tbl 1165 (by decide +kernel) rfl
theorem w1166 : (Cond.instanceMethod ⟨"WideTurnModel", "move", "(II)I"⟩) ∈ mj_tbl := mj_mem_tbl 1166 (by decide +kernel) rfl
theorem w1167 : (Cond.selects "WideTurnModel" ⟨"WideTurnModel", "move", "(II)I"⟩ ⟨"WideTurnModel", "move", "(II)I"⟩) ∈ mj_tbl := mj_mem_tbl 1167 (by decide +kernel) rfl
theorem w1168 : (Cond.code ⟨"WideTurnModel", "move", "(II)I"⟩ prog_14_method_40_code (3 : Nat) (Option.some FieldType.int)) ∈ mj_tbl := mj_mem_tbl 1168 (by decide +kernel) rfl
theorem w1169 : (Cond.methodLink "WideTurnModel" (174 : Nat) ⟨"WideTurnModel", "isHand", "(I)Z"⟩) ∈ mj_tbl := mj_mem_tbl 1169 (by decide +kernel) rfl
theorem w1171 : (Cond.instanceMethod ⟨"WideTurnModel", "isHand", "(I)Z"⟩) ∈ mj_tbl := mj_mem_tbl 1171 (by decide +kernel) rfl
theorem w1172 : (Cond.code ⟨"WideTurnModel", "isHand", "(I)Z"⟩ prog_14_method_38_code (2 : Nat) (Option.some FieldType.boolean)) ∈ mj_tbl := mj_mem_tbl 1172 (by decide +kernel) rfl
theorem w1173 : (Cond.methodLink "WideTurnModel" (177 : Nat) ⟨"WideTurnModel", "goes", "([IIII)Z"⟩) ∈ mj_tbl := mj_mem_tbl 1173 (by decide +kernel) rfl
theorem w1174 : (Cond.static ⟨"WideTurnModel", "goes", "([IIII)Z"⟩) ∈ mj_tbl := mj_mem_tbl 1174 (by decide +kernel) rfl
theorem w1175 : (Cond.code ⟨"WideTurnModel", "goes", "([IIII)Z"⟩ prog_14_method_37_code (11 : Nat) (Option.some FieldType.boolean)) ∈ mj_tbl := mj_mem_tbl 1175 (by decide +kernel) rfl
theorem w1176 : (Cond.methodLink "WideTurnModel" (157 : Nat) ⟨"WideTurnModel", "dx", "(I)I"⟩) ∈ mj_tbl := mj_mem_tbl 1176 (by decide +kernel) rfl
theorem w1177 : (Cond.static ⟨"WideTurnModel", "dx", "(I)I"⟩) ∈ mj_tbl := mj_mem_tbl 1177 (by decide +kernel) rfl
theorem w1178 : (Cond.code ⟨"WideTurnModel", "dx", "(I)I"⟩ prog_14_method_29_code (2 : Nat) (Option.some FieldType.int)) ∈ mj_tbl := mj_mem_tbl 1178 (by decide +kernel) rfl
theorem w1179 : (Cond.methodLink "WideTurnModel" (160 : Nat) ⟨"WideTurnModel", "dy", "(I)I"⟩) ∈ mj_tbl := mj_mem_tbl 1179 (by decide +kernel) rfl
theorem w1180 : (Cond.static ⟨"WideTurnModel", "dy", "(I)I"⟩) ∈ mj_tbl := mj_mem_tbl 1180 (by decide +kernel) rfl
theorem w1181 : (Cond.code ⟨"WideTurnModel", "dy", "(I)I"⟩ prog_14_method_30_code (2 : Nat) (Option.some FieldType.int)) ∈ mj_tbl := mj_mem_tbl 1181 (by decide +kernel) rfl
theorem w1182 : (Cond.methodLink "WideTurnModel" (163 : Nat) ⟨"WideTurnModel", "draughtOf", "([II)I"⟩) ∈ mj_tbl := mj_mem_tbl 1182 (by decide +kernel) rfl
theorem w1183 : (Cond.static ⟨"WideTurnModel", "draughtOf", "([II)I"⟩) ∈ mj_tbl := mj_mem_tbl 1183 (by decide +kernel) rfl
theorem w1184 : (Cond.code ⟨"WideTurnModel", "draughtOf", "([II)I"⟩ prog_14_method_34_code (3 : Nat) (Option.some FieldType.int)) ∈ mj_tbl := mj_mem_tbl 1184 (by decide +kernel) rfl
theorem w1185 : (Cond.methodLink "WideTurnModel" (167 : Nat) ⟨"WideTurnModel", "makes", "(II)Z"⟩) ∈ mj_tbl := mj_mem_tbl 1185 (by decide +kernel) rfl
theorem w1186 : (Cond.static ⟨"WideTurnModel", "makes", "(II)Z"⟩) ∈ mj_tbl := mj_mem_tbl 1186 (by decide +kernel) rfl
theorem w1187 : (Cond.code ⟨"WideTurnModel", "makes", "(II)Z"⟩ prog_14_method_35_code (2 : Nat) (Option.some FieldType.boolean)) ∈ mj_tbl := mj_mem_tbl 1187 (by decide +kernel) rfl
theorem w1188 : (Cond.methodLink "WideTurnModel" (170 : Nat) ⟨"WideTurnModel", "fits", "([IIIII)Z"⟩) ∈ mj_tbl := mj_mem_tbl 1188 (by decide +kernel) rfl
theorem w1189 : (Cond.static ⟨"WideTurnModel", "fits", "([IIIII)Z"⟩) ∈ mj_tbl := mj_mem_tbl 1189 (by decide +kernel) rfl
theorem w1190 : (Cond.code ⟨"WideTurnModel", "fits", "([IIIII)Z"⟩ prog_14_method_33_code (5 : Nat) (Option.some FieldType.boolean)) ∈ mj_tbl := mj_mem_tbl 1190 (by decide +kernel) rfl
theorem w1191 : (Cond.methodLink "WideTurnModel" (153 : Nat) ⟨"WideTurnModel", "isFree", "([IIII)Z"⟩) ∈ mj_tbl := mj_mem_tbl 1191 (by decide +kernel) rfl
theorem w1192 : (Cond.static ⟨"WideTurnModel", "isFree", "([IIII)Z"⟩) ∈ mj_tbl := mj_mem_tbl 1192 (by decide +kernel) rfl
theorem w1193 : (Cond.code ⟨"WideTurnModel", "isFree", "([IIII)Z"⟩ prog_14_method_32_code (4 : Nat) (Option.some FieldType.boolean)) ∈ mj_tbl := mj_mem_tbl 1193 (by decide +kernel) rfl
theorem w1194 : (Cond.methodLink "WideTurnModel" (149 : Nat) ⟨"WideTurnModel", "isCell", "(II)Z"⟩) ∈ mj_tbl := mj_mem_tbl 1194 (by decide +kernel) rfl
theorem w1195 : (Cond.static ⟨"WideTurnModel", "isCell", "(II)Z"⟩) ∈ mj_tbl := mj_mem_tbl 1195 (by decide +kernel) rfl
theorem w1196 : (Cond.code ⟨"WideTurnModel", "isCell", "(II)Z"⟩ prog_14_method_31_code (2 : Nat) (Option.some FieldType.boolean)) ∈ mj_tbl := mj_mem_tbl 1196 (by decide +kernel) rfl
theorem w1197 : (Cond.methodLink "WideTurnModel" (180 : Nat) ⟨"WideTurnModel", "notes", "()V"⟩) ∈ mj_tbl := mj_mem_tbl 1197 (by decide +kernel) rfl
theorem w1199 : (Cond.instanceMethod ⟨"WideTurnModel", "notes", "()V"⟩) ∈ mj_tbl := mj_mem_tbl 1199 (by decide +kernel) rfl
theorem w1200 : (Cond.code ⟨"WideTurnModel", "notes", "()V"⟩ prog_14_method_27_code (2 : Nat) (Option.none : Option FieldType)) ∈ mj_tbl := mj_mem_tbl 1200 (by decide +kernel) rfl
theorem w1201 : (Cond.methodLink "WideTurnModel" (183 : Nat) ⟨"WideTurnModel", "minutesOf", "([III)I"⟩) ∈ mj_tbl := mj_mem_tbl 1201 (by decide +kernel) rfl
theorem w1202 : (Cond.static ⟨"WideTurnModel", "minutesOf", "([III)I"⟩) ∈ mj_tbl := mj_mem_tbl 1202 (by decide +kernel) rfl
theorem w1203 : (Cond.code ⟨"WideTurnModel", "minutesOf", "([III)I"⟩ prog_14_method_36_code (5 : Nat) (Option.some FieldType.int)) ∈ mj_tbl := mj_mem_tbl 1203 (by decide +kernel) rfl
theorem w1204 : (Cond.methodLink "WideTurnLaw" (57 : Nat) ⟨"WideTurnModel", "laden", "(I)I"⟩) ∈ mj_tbl := mj_mem_tbl 1204 (by decide +kernel) rfl
theorem w1205 : (Cond.instanceMethod ⟨"WideTurnModel", "laden", "(I)I"⟩) ∈ mj_tbl := mj_mem_tbl 1205 (by decide +kernel) rfl
theorem w1206 : (Cond.selects "WideTurnModel" ⟨"WideTurnModel", "laden", "(I)I"⟩ ⟨"WideTurnModel", "laden", "(I)I"⟩) ∈ mj_tbl := mj_mem_tbl 1206 (by decide +kernel) rfl
theorem w1207 : (Cond.code ⟨"WideTurnModel", "laden", "(I)I"⟩ prog_14_method_41_code (2 : Nat) (Option.some FieldType.int)) ∈ mj_tbl := mj_mem_tbl 1207 (by decide +kernel) rfl
theorem w1208 : (Cond.methodLink "WideTurnLaw" (61 : Nat) ⟨"WideTurnModel", "moor", "(II)I"⟩) ∈ mj_tbl := mj_mem_tbl 1208 (by decide +kernel) rfl
theorem w1209 : (Cond.instanceMethod ⟨"WideTurnModel", "moor", "(II)I"⟩) ∈ mj_tbl := mj_mem_tbl 1209 (by decide +kernel) rfl
theorem w1210 : (Cond.selects "WideTurnModel" ⟨"WideTurnModel", "moor", "(II)I"⟩ ⟨"WideTurnModel", "moor", "(II)I"⟩) ∈ mj_tbl := mj_mem_tbl 1210 (by decide +kernel) rfl
theorem w1211 : (Cond.code ⟨"WideTurnModel", "moor", "(II)I"⟩ prog_14_method_43_code (3 : Nat) (Option.some FieldType.int)) ∈ mj_tbl := mj_mem_tbl 1211 (by decide +kernel) rfl
theorem w1212 : (Cond.methodLink "WideTurnModel" (187 : Nat) ⟨"WideTurnModel", "boatCells", "()I"⟩) ∈ mj_tbl := mj_mem_tbl 1212 (by decide +kernel) rfl
theorem w1214 : (Cond.instanceMethod ⟨"WideTurnModel", "boatCells", "()I"⟩) ∈ mj_tbl := mj_mem_tbl 1214 (by decide +kernel) rfl
theorem w1215 : (Cond.code ⟨"WideTurnModel", "boatCells", "()I"⟩ prog_14_method_42_code (5 : Nat) (Option.some FieldType.int)) ∈ mj_tbl := mj_mem_tbl 1215 (by decide +kernel) rfl
theorem w1216 : (Cond.methodLink "WideTurnLaw" (65 : Nat) ⟨"WideTurnModel", "silt", "()I"⟩) ∈ mj_tbl := mj_mem_tbl 1216 (by decide +kernel) rfl
theorem w1217 : (Cond.instanceMethod ⟨"WideTurnModel", "silt", "()I"⟩) ∈ mj_tbl := mj_mem_tbl 1217 (by decide +kernel) rfl
theorem w1218 : (Cond.selects "WideTurnModel" ⟨"WideTurnModel", "silt", "()I"⟩ ⟨"WideTurnModel", "silt", "()I"⟩) ∈ mj_tbl := mj_mem_tbl 1218 (by decide +kernel) rfl
theorem w1219 : (Cond.code ⟨"WideTurnModel", "silt", "()I"⟩ prog_14_method_45_code (1 : Nat) (Option.some FieldType.int)) ∈ mj_tbl := mj_mem_tbl 1219 (by decide +kernel) rfl
theorem w1220 : (Cond.methodLink "WideTurnModel" (191 : Nat) ⟨"WideTurnModel", "silts", "([I)V"⟩) ∈ mj_tbl := mj_mem_tbl 1220 (by decide +kernel) rfl
theorem w1221 : (Cond.static ⟨"WideTurnModel", "silts", "([I)V"⟩) ∈ mj_tbl := mj_mem_tbl 1221 (by decide +kernel) rfl
theorem w1222 : (Cond.code ⟨"WideTurnModel", "silts", "([I)V"⟩ prog_14_method_44_code (2 : Nat) (Option.none : Option FieldType)) ∈ mj_tbl := mj_mem_tbl 1222 (by decide +kernel) rfl
theorem w1223 : (Cond.methodLink "WideTurnModel" (195 : Nat) ⟨"WideTurnModel", "fitsNow", "()Z"⟩) ∈ mj_tbl := mj_mem_tbl 1223 (by decide +kernel) rfl
theorem w1225 : (Cond.instanceMethod ⟨"WideTurnModel", "fitsNow", "()Z"⟩) ∈ mj_tbl := mj_mem_tbl 1225 (by decide +kernel) rfl
theorem w1226 : (Cond.code ⟨"WideTurnModel", "fitsNow", "()Z"⟩ prog_14_method_39_code (1 : Nat) (Option.some FieldType.boolean)) ∈ mj_tbl := mj_mem_tbl 1226 (by decide +kernel) rfl
theorem w1227 : (Cond.methodLink "WideTurnLaw" (69 : Nat) ⟨"WideTurnModel", "boat", "(I)I"⟩) ∈ mj_tbl := mj_mem_tbl 1227 (by decide +kernel) rfl
theorem w1228 : (Cond.instanceMethod ⟨"WideTurnModel", "boat", "(I)I"⟩) ∈ mj_tbl := mj_mem_tbl 1228 (by decide +kernel) rfl
theorem w1229 : (Cond.selects "WideTurnModel" ⟨"WideTurnModel", "boat", "(I)I"⟩ ⟨"WideTurnModel", "boat", "(I)I"⟩) ∈ mj_tbl := mj_mem_tbl 1229 (by decide +kernel) rfl
theorem w1230 : (Cond.code ⟨"WideTurnModel", "boat", "(I)I"⟩ prog_14_method_46_code (2 : Nat) (Option.some FieldType.int)) ∈ mj_tbl := mj_mem_tbl 1230 (by decide +kernel) rfl
theorem w1231 : (Cond.methodLink "WideTurnLaw" (73 : Nat) ⟨"WideTurnModel", "cell", "(II)I"⟩) ∈ mj_tbl := mj_mem_tbl 1231 (by decide +kernel) rfl
theorem w1232 : (Cond.instanceMethod ⟨"WideTurnModel", "cell", "(II)I"⟩) ∈ mj_tbl := mj_mem_tbl 1232 (by decide +kernel) rfl
theorem w1233 : (Cond.selects "WideTurnModel" ⟨"WideTurnModel", "cell", "(II)I"⟩ ⟨"WideTurnModel", "cell", "(II)I"⟩) ∈ mj_tbl := mj_mem_tbl 1233 (by decide +kernel) rfl
theorem w1234 : (Cond.code ⟨"WideTurnModel", "cell", "(II)I"⟩ prog_14_method_47_code (3 : Nat) (Option.some FieldType.int)) ∈ mj_tbl := mj_mem_tbl 1234 (by decide +kernel) rfl
theorem w1235 : (Cond.methodLink "WideTurnLaw" (77 : Nat) ⟨"WideTurnModel", "hand", "(II)I"⟩) ∈ mj_tbl := mj_mem_tbl 1235 (by decide +kernel) rfl
theorem w1236 : (Cond.instanceMethod ⟨"WideTurnModel", "hand", "(II)I"⟩) ∈ mj_tbl := mj_mem_tbl 1236 (by decide +kernel) rfl
theorem w1237 : (Cond.selects "WideTurnModel" ⟨"WideTurnModel", "hand", "(II)I"⟩ ⟨"WideTurnModel", "hand", "(II)I"⟩) ∈ mj_tbl := mj_mem_tbl 1237 (by decide +kernel) rfl
theorem w1238 : (Cond.code ⟨"WideTurnModel", "hand", "(II)I"⟩ prog_14_method_48_code (3 : Nat) (Option.some FieldType.int)) ∈ mj_tbl := mj_mem_tbl 1238 (by decide +kernel) rfl
theorem w1239 : (Cond.constant "WideTurnModel" (198 : Nat) (-1000000 : Int32)) ∈ mj_tbl := mj_mem_tbl 1239 (by decide +kernel) rfl
theorem w1240 : (Cond.methodLink "WideTurnLaw" (81 : Nat) ⟨"WideTurnModel", "way", "(III)I"⟩) ∈ mj_tbl := mj_mem_tbl 1240 (by decide +kernel) rfl
theorem w1241 : (Cond.instanceMethod ⟨"WideTurnModel", "way", "(III)I"⟩) ∈ mj_tbl := mj_mem_tbl 1241 (by decide +kernel) rfl
theorem w1242 : (Cond.selects "WideTurnModel" ⟨"WideTurnModel", "way", "(III)I"⟩ ⟨"WideTurnModel", "way", "(III)I"⟩) ∈ mj_tbl := mj_mem_tbl 1242 (by decide +kernel) rfl
theorem w1243 : (Cond.code ⟨"WideTurnModel", "way", "(III)I"⟩ prog_14_method_55_code (5 : Nat) (Option.some FieldType.int)) ∈ mj_tbl := mj_mem_tbl 1243 (by decide +kernel) rfl
theorem w1244 : (Cond.methodLink "WideTurnModel" (212 : Nat) ⟨"WideTurnModel", "solves", "([IIII)I"⟩) ∈ mj_tbl := mj_mem_tbl 1244 (by decide +kernel) rfl
theorem w1246 : (Cond.instanceMethod ⟨"WideTurnModel", "solves", "([IIII)I"⟩) ∈ mj_tbl := mj_mem_tbl 1246 (by decide +kernel) rfl
theorem w1247 : (Cond.code ⟨"WideTurnModel", "solves", "([IIII)I"⟩ prog_14_method_52_code (11 : Nat) (Option.some FieldType.int)) ∈ mj_tbl := mj_mem_tbl 1247 (by decide +kernel) rfl
theorem w1248 : (Cond.constant "WideTurnModel" (207 : Nat) (100000000 : Int32)) ∈ mj_tbl := mj_mem_tbl 1248 (by decide +kernel) rfl
theorem w1249 : (Cond.methodLink "WideTurnModel" (208 : Nat) ⟨"WideTurnModel", "behind", "([IIIII)I"⟩) ∈ mj_tbl := mj_mem_tbl 1249 (by decide +kernel) rfl
theorem w1250 : (Cond.static ⟨"WideTurnModel", "behind", "([IIIII)I"⟩) ∈ mj_tbl := mj_mem_tbl 1250 (by decide +kernel) rfl
theorem w1251 : (Cond.code ⟨"WideTurnModel", "behind", "([IIIII)I"⟩ prog_14_method_51_code (9 : Nat) (Option.some FieldType.int)) ∈ mj_tbl := mj_mem_tbl 1251 (by decide +kernel) rfl
theorem w1252 : (Cond.methodLink "WideTurnModel" (199 : Nat) ⟨"WideTurnModel", "puts", "([II)V"⟩) ∈ mj_tbl := mj_mem_tbl 1252 (by decide +kernel) rfl
theorem w1253 : (Cond.static ⟨"WideTurnModel", "puts", "([II)V"⟩) ∈ mj_tbl := mj_mem_tbl 1253 (by decide +kernel) rfl
theorem w1254 : (Cond.code ⟨"WideTurnModel", "puts", "([II)V"⟩ prog_14_method_50_code (2 : Nat) (Option.none : Option FieldType)) ∈ mj_tbl := mj_mem_tbl 1254 (by decide +kernel) rfl
theorem w1255 : (Cond.methodLink "WideTurnModel" (203 : Nat) ⟨"WideTurnModel", "node", "([I)I"⟩) ∈ mj_tbl := mj_mem_tbl 1255 (by decide +kernel) rfl
theorem w1256 : (Cond.static ⟨"WideTurnModel", "node", "([I)I"⟩) ∈ mj_tbl := mj_mem_tbl 1256 (by decide +kernel) rfl
theorem w1257 : (Cond.code ⟨"WideTurnModel", "node", "([I)I"⟩ prog_14_method_49_code (1 : Nat) (Option.some FieldType.int)) ∈ mj_tbl := mj_mem_tbl 1257 (by decide +kernel) rfl
theorem w1258 : (Cond.methodLink "WideTurnModel" (216 : Nat) ⟨"WideTurnModel", "firstOf", "([I)I"⟩) ∈ mj_tbl := mj_mem_tbl 1258 (by decide +kernel) rfl
theorem w1260 : (Cond.instanceMethod ⟨"WideTurnModel", "firstOf", "([I)I"⟩) ∈ mj_tbl := mj_mem_tbl 1260 (by decide +kernel) rfl
theorem w1261 : (Cond.code ⟨"WideTurnModel", "firstOf", "([I)I"⟩ prog_14_method_53_code (6 : Nat) (Option.some FieldType.int)) ∈ mj_tbl := mj_mem_tbl 1261 (by decide +kernel) rfl
theorem w1262 : (Cond.methodLink "WideTurnLaw" (85 : Nat) ⟨"WideTurnModel", "turned", "(I)I"⟩) ∈ mj_tbl := mj_mem_tbl 1262 (by decide +kernel) rfl
theorem w1263 : (Cond.instanceMethod ⟨"WideTurnModel", "turned", "(I)I"⟩) ∈ mj_tbl := mj_mem_tbl 1263 (by decide +kernel) rfl
theorem w1264 : (Cond.selects "WideTurnModel" ⟨"WideTurnModel", "turned", "(I)I"⟩ ⟨"WideTurnModel", "turned", "(I)I"⟩) ∈ mj_tbl := mj_mem_tbl 1264 (by decide +kernel) rfl
theorem w1265 : (Cond.code ⟨"WideTurnModel", "turned", "(I)I"⟩ prog_14_method_56_code (3 : Nat) (Option.some FieldType.int)) ∈ mj_tbl := mj_mem_tbl 1265 (by decide +kernel) rfl
theorem w1266 : (Cond.methodLink "WideTurnModel" (219 : Nat) ⟨"WideTurnModel", "turnedOf", "([II)I"⟩) ∈ mj_tbl := mj_mem_tbl 1266 (by decide +kernel) rfl
theorem w1268 : (Cond.instanceMethod ⟨"WideTurnModel", "turnedOf", "([II)I"⟩) ∈ mj_tbl := mj_mem_tbl 1268 (by decide +kernel) rfl
theorem w1269 : (Cond.code ⟨"WideTurnModel", "turnedOf", "([II)I"⟩ prog_14_method_54_code (3 : Nat) (Option.some FieldType.int)) ∈ mj_tbl := mj_mem_tbl 1269 (by decide +kernel) rfl
theorem w1270 : (Cond.methodLink "WideTurnLaw" (89 : Nat) ⟨"WideTurnModel", "inches", "()I"⟩) ∈ mj_tbl := mj_mem_tbl 1270 (by decide +kernel) rfl
theorem w1271 : (Cond.instanceMethod ⟨"WideTurnModel", "inches", "()I"⟩) ∈ mj_tbl := mj_mem_tbl 1271 (by decide +kernel) rfl
theorem w1272 : (Cond.selects "WideTurnModel" ⟨"WideTurnModel", "inches", "()I"⟩ ⟨"WideTurnModel", "inches", "()I"⟩) ∈ mj_tbl := mj_mem_tbl 1272 (by decide +kernel) rfl
theorem w1273 : (Cond.code ⟨"WideTurnModel", "inches", "()I"⟩ prog_14_method_57_code (2 : Nat) (Option.some FieldType.int)) ∈ mj_tbl := mj_mem_tbl 1273 (by decide +kernel) rfl
theorem w1274 : (Cond.methodLink "WideTurnLaw" (93 : Nat) ⟨"WideTurnModel", "inTheWay", "(I)I"⟩) ∈ mj_tbl := mj_mem_tbl 1274 (by decide +kernel) rfl
theorem w1275 : (Cond.instanceMethod ⟨"WideTurnModel", "inTheWay", "(I)I"⟩) ∈ mj_tbl := mj_mem_tbl 1275 (by decide +kernel) rfl
theorem w1276 : (Cond.selects "WideTurnModel" ⟨"WideTurnModel", "inTheWay", "(I)I"⟩ ⟨"WideTurnModel", "inTheWay", "(I)I"⟩) ∈ mj_tbl := mj_mem_tbl 1276 (by decide +kernel) rfl
theorem w1277 : (Cond.code ⟨"WideTurnModel", "inTheWay", "(I)I"⟩ prog_14_method_58_code (6 : Nat) (Option.some FieldType.int)) ∈ mj_tbl := mj_mem_tbl 1277 (by decide +kernel) rfl
theorem w1278 : (Cond.methodLink "WideTurnLaw" (97 : Nat) ⟨"WideTurnModel", "dig", "(I)I"⟩) ∈ mj_tbl := mj_mem_tbl 1278 (by decide +kernel) rfl
theorem w1279 : (Cond.instanceMethod ⟨"WideTurnModel", "dig", "(I)I"⟩) ∈ mj_tbl := mj_mem_tbl 1279 (by decide +kernel) rfl
theorem w1280 : (Cond.selects "WideTurnModel" ⟨"WideTurnModel", "dig", "(I)I"⟩ ⟨"WideTurnModel", "dig", "(I)I"⟩) ∈ mj_tbl := mj_mem_tbl 1280 (by decide +kernel) rfl
theorem w1281 : (Cond.code ⟨"WideTurnModel", "dig", "(I)I"⟩ prog_14_method_59_code (6 : Nat) (Option.some FieldType.int)) ∈ mj_tbl := mj_mem_tbl 1281 (by decide +kernel) rfl
theorem w1282 : (Cond.methodLink "WideTurnLaw" (101 : Nat) ⟨"WideTurnModel", "years", "()I"⟩) ∈ mj_tbl := mj_mem_tbl 1282 (by decide +kernel) rfl
theorem w1283 : (Cond.instanceMethod ⟨"WideTurnModel", "years", "()I"⟩) ∈ mj_tbl := mj_mem_tbl 1283 (by decide +kernel) rfl
theorem w1284 : (Cond.selects "WideTurnModel" ⟨"WideTurnModel", "years", "()I"⟩ ⟨"WideTurnModel", "years", "()I"⟩) ∈ mj_tbl := mj_mem_tbl 1284 (by decide +kernel) rfl
theorem w1285 : (Cond.code ⟨"WideTurnModel", "years", "()I"⟩ prog_14_method_60_code (2 : Nat) (Option.some FieldType.int)) ∈ mj_tbl := mj_mem_tbl 1285 (by decide +kernel) rfl
theorem w1286 : (Cond.methodLink "WideTurnLaw" (105 : Nat) ⟨"WideTurnModel", "better", "()I"⟩) ∈ mj_tbl := mj_mem_tbl 1286 (by decide +kernel) rfl
theorem w1287 : (Cond.instanceMethod ⟨"WideTurnModel", "better", "()I"⟩) ∈ mj_tbl := mj_mem_tbl 1287 (by decide +kernel) rfl
theorem w1288 : (Cond.selects "WideTurnModel" ⟨"WideTurnModel", "better", "()I"⟩ ⟨"WideTurnModel", "better", "()I"⟩) ∈ mj_tbl := mj_mem_tbl 1288 (by decide +kernel) rfl
theorem w1289 : (Cond.code ⟨"WideTurnModel", "better", "()I"⟩ prog_14_method_61_code (3 : Nat) (Option.some FieldType.int)) ∈ mj_tbl := mj_mem_tbl 1289 (by decide +kernel) rfl
theorem w1290 : (Cond.methodLink "WideTurnLaw" (110 : Nat) ⟨"WideTurnModel", "plan", "(IIII)I"⟩) ∈ mj_tbl := mj_mem_tbl 1290 (by decide +kernel) rfl
theorem w1291 : (Cond.instanceMethod ⟨"WideTurnModel", "plan", "(IIII)I"⟩) ∈ mj_tbl := mj_mem_tbl 1291 (by decide +kernel) rfl
theorem w1292 : (Cond.selects "WideTurnModel" ⟨"WideTurnModel", "plan", "(IIII)I"⟩ ⟨"WideTurnModel", "plan", "(IIII)I"⟩) ∈ mj_tbl := mj_mem_tbl 1292 (by decide +kernel) rfl
theorem w1293 : (Cond.code ⟨"WideTurnModel", "plan", "(IIII)I"⟩ prog_14_method_63_code (11 : Nat) (Option.some FieldType.int)) ∈ mj_tbl := mj_mem_tbl 1293 (by decide +kernel) rfl
theorem w1294 : (Cond.methodLink "WideTurnModel" (222 : Nat) ⟨"WideTurnModel", "wrongRow", "(III)I"⟩) ∈ mj_tbl := mj_mem_tbl 1294 (by decide +kernel) rfl
theorem w1296 : (Cond.instanceMethod ⟨"WideTurnModel", "wrongRow", "(III)I"⟩) ∈ mj_tbl := mj_mem_tbl 1296 (by decide +kernel) rfl
theorem w1297 : (Cond.code ⟨"WideTurnModel", "wrongRow", "(III)I"⟩ prog_14_method_62_code (4 : Nat) (Option.some FieldType.int)) ∈ mj_tbl := mj_mem_tbl 1297 (by decide +kernel) rfl
theorem w1298 : (Cond.methodLink "WideTurnLaw" (114 : Nat) ⟨"WideTurnModel", "seen", "(IIII)I"⟩) ∈ mj_tbl := mj_mem_tbl 1298 (by decide +kernel) rfl
theorem w1299 : (Cond.instanceMethod ⟨"WideTurnModel", "seen", "(IIII)I"⟩) ∈ mj_tbl := mj_mem_tbl 1299 (by decide +kernel) rfl
theorem w1300 : (Cond.selects "WideTurnModel" ⟨"WideTurnModel", "seen", "(IIII)I"⟩ ⟨"WideTurnModel", "seen", "(IIII)I"⟩) ∈ mj_tbl := mj_mem_tbl 1300 (by decide +kernel) rfl
theorem w1301 : (Cond.code ⟨"WideTurnModel", "seen", "(IIII)I"⟩ prog_14_method_64_code (13 : Nat) (Option.some FieldType.int)) ∈ mj_tbl := mj_mem_tbl 1301 (by decide +kernel) rfl
theorem w1302 : (Cond.methodLink "WideTurnLaw" (119 : Nat) ⟨"WideTurnModel", "gusts", "(IIII)J"⟩) ∈ mj_tbl := mj_mem_tbl 1302 (by decide +kernel) rfl
theorem w1303 : (Cond.instanceMethod ⟨"WideTurnModel", "gusts", "(IIII)J"⟩) ∈ mj_tbl := mj_mem_tbl 1303 (by decide +kernel) rfl
theorem w1304 : (Cond.selects "WideTurnModel" ⟨"WideTurnModel", "gusts", "(IIII)J"⟩ ⟨"WideTurnModel", "gusts", "(IIII)J"⟩) ∈ mj_tbl := mj_mem_tbl 1304 (by decide +kernel) rfl
theorem w1305 : (Cond.code ⟨"WideTurnModel", "gusts", "(IIII)J"⟩ prog_14_method_68_code (11 : Nat) (Option.some FieldType.long)) ∈ mj_tbl := mj_mem_tbl 1305 (by decide +kernel) rfl
theorem w1306 : (Cond.constantLong "WideTurnModel" (226 : Nat) (-1000001 : Int64)) ∈ mj_tbl := mj_mem_tbl 1306 (by decide +kernel) rfl
theorem w1307 : (Cond.methodLink "WideTurnModel" (228 : Nat) ⟨"WideTurnModel", "choose", "(II)J"⟩) ∈ mj_tbl := mj_mem_tbl 1307 (by decide +kernel) rfl
theorem w1308 : (Cond.static ⟨"WideTurnModel", "choose", "(II)J"⟩) ∈ mj_tbl := mj_mem_tbl 1308 (by decide +kernel) rfl
theorem w1309 : (Cond.code ⟨"WideTurnModel", "choose", "(II)J"⟩ prog_14_method_66_code (5 : Nat) (Option.some FieldType.long)) ∈ mj_tbl := mj_mem_tbl 1309 (by decide +kernel) rfl
theorem w1310 : (Cond.methodLink "WideTurnModel" (232 : Nat) ⟨"WideTurnModel", "power", "(JI)J"⟩) ∈ mj_tbl := mj_mem_tbl 1310 (by decide +kernel) rfl
theorem w1311 : (Cond.static ⟨"WideTurnModel", "power", "(JI)J"⟩) ∈ mj_tbl := mj_mem_tbl 1311 (by decide +kernel) rfl
theorem w1312 : (Cond.code ⟨"WideTurnModel", "power", "(JI)J"⟩ prog_14_method_65_code (6 : Nat) (Option.some FieldType.long)) ∈ mj_tbl := mj_mem_tbl 1312 (by decide +kernel) rfl
theorem w1313 : (Cond.constantLong "WideTurnModel" (236 : Nat) (10 : Int64)) ∈ mj_tbl := mj_mem_tbl 1313 (by decide +kernel) rfl
theorem w1314 : (Cond.methodLink "WideTurnModel" (238 : Nat) ⟨"WideTurnModel", "gcd", "(JJ)J"⟩) ∈ mj_tbl := mj_mem_tbl 1314 (by decide +kernel) rfl
theorem w1315 : (Cond.static ⟨"WideTurnModel", "gcd", "(JJ)J"⟩) ∈ mj_tbl := mj_mem_tbl 1315 (by decide +kernel) rfl
theorem w1316 : (Cond.code ⟨"WideTurnModel", "gcd", "(JJ)J"⟩ prog_14_method_67_code (10 : Nat) (Option.some FieldType.long)) ∈ mj_tbl := mj_mem_tbl 1316 (by decide +kernel) rfl
theorem w1317 : (Cond.methodLink "WideTurnLaw" (123 : Nat) ⟨"WideTurnModel", "reach", "()I"⟩) ∈ mj_tbl := mj_mem_tbl 1317 (by decide +kernel) rfl
theorem w1318 : (Cond.instanceMethod ⟨"WideTurnModel", "reach", "()I"⟩) ∈ mj_tbl := mj_mem_tbl 1318 (by decide +kernel) rfl
theorem w1319 : (Cond.selects "WideTurnModel" ⟨"WideTurnModel", "reach", "()I"⟩ ⟨"WideTurnModel", "reach", "()I"⟩) ∈ mj_tbl := mj_mem_tbl 1319 (by decide +kernel) rfl
theorem w1320 : (Cond.code ⟨"WideTurnModel", "reach", "()I"⟩ prog_14_method_69_code (7 : Nat) (Option.some FieldType.int)) ∈ mj_tbl := mj_mem_tbl 1320 (by decide +kernel) rfl
theorem w1321 : (Cond.methodLink "WideTurnLaw" (127 : Nat) ⟨"WideTurnModel", "days", "(III)I"⟩) ∈ mj_tbl := mj_mem_tbl 1321 (by decide +kernel) rfl
theorem w1322 : (Cond.instanceMethod ⟨"WideTurnModel", "days", "(III)I"⟩) ∈ mj_tbl := mj_mem_tbl 1322 (by decide +kernel) rfl
theorem w1323 : (Cond.selects "WideTurnModel" ⟨"WideTurnModel", "days", "(III)I"⟩ ⟨"WideTurnModel", "days", "(III)I"⟩) ∈ mj_tbl := mj_mem_tbl 1323 (by decide +kernel) rfl
theorem w1324 : (Cond.code ⟨"WideTurnModel", "days", "(III)I"⟩ prog_14_method_70_code (9 : Nat) (Option.some FieldType.int)) ∈ mj_tbl := mj_mem_tbl 1324 (by decide +kernel) rfl
theorem w1325 : (Cond.constant "WideTurnModel" (242 : Nat) (999999 : Int32)) ∈ mj_tbl := mj_mem_tbl 1325 (by decide +kernel) rfl
theorem w1326 : (Cond.constantLong "WideTurnModel" (243 : Nat) (16807 : Int64)) ∈ mj_tbl := mj_mem_tbl 1326 (by decide +kernel) rfl
theorem w1327 : (Cond.constantLong "WideTurnModel" (245 : Nat) (2147483647 : Int64)) ∈ mj_tbl := mj_mem_tbl 1327 (by decide +kernel) rfl
theorem w1328 : (Cond.constantLong "WideTurnModel" (247 : Nat) (8 : Int64)) ∈ mj_tbl := mj_mem_tbl 1328 (by decide +kernel) rfl
theorem w1329 : (Cond.methodLink "WideTurnLaw" (131 : Nat) ⟨"WideTurnModel", "image", "(I)I"⟩) ∈ mj_tbl := mj_mem_tbl 1329 (by decide +kernel) rfl
theorem w1330 : (Cond.instanceMethod ⟨"WideTurnModel", "image", "(I)I"⟩) ∈ mj_tbl := mj_mem_tbl 1330 (by decide +kernel) rfl
theorem w1331 : (Cond.selects "WideTurnModel" ⟨"WideTurnModel", "image", "(I)I"⟩ ⟨"WideTurnModel", "image", "(I)I"⟩) ∈ mj_tbl := mj_mem_tbl 1331 (by decide +kernel) rfl
theorem w1332 : (Cond.code ⟨"WideTurnModel", "image", "(I)I"⟩ prog_14_method_71_code (3 : Nat) (Option.some FieldType.int)) ∈ mj_tbl := mj_mem_tbl 1332 (by decide +kernel) rfl
theorem w1333 : (Cond.methodLink "WideTurnLaw" (135 : Nat) ⟨"WideTurnModel", "restore", "(I)I"⟩) ∈ mj_tbl := mj_mem_tbl 1333 (by decide +kernel) rfl
theorem w1334 : (Cond.instanceMethod ⟨"WideTurnModel", "restore", "(I)I"⟩) ∈ mj_tbl := mj_mem_tbl 1334 (by decide +kernel) rfl
theorem w1335 : (Cond.selects "WideTurnModel" ⟨"WideTurnModel", "restore", "(I)I"⟩ ⟨"WideTurnModel", "restore", "(I)I"⟩) ∈ mj_tbl := mj_mem_tbl 1335 (by decide +kernel) rfl
theorem w1336 : (Cond.code ⟨"WideTurnModel", "restore", "(I)I"⟩ prog_14_method_72_code (3 : Nat) (Option.some FieldType.int)) ∈ mj_tbl := mj_mem_tbl 1336 (by decide +kernel) rfl
theorem w1337 : (Cond.methodLink "WideTurnLaw" (139 : Nat) ⟨"WideTurnModel", "kind", "(I)I"⟩) ∈ mj_tbl := mj_mem_tbl 1337 (by decide +kernel) rfl
theorem w1338 : (Cond.instanceMethod ⟨"WideTurnModel", "kind", "(I)I"⟩) ∈ mj_tbl := mj_mem_tbl 1338 (by decide +kernel) rfl
theorem w1339 : (Cond.selects "WideTurnModel" ⟨"WideTurnModel", "kind", "(I)I"⟩ ⟨"WideTurnModel", "kind", "(I)I"⟩) ∈ mj_tbl := mj_mem_tbl 1339 (by decide +kernel) rfl
theorem w1340 : (Cond.code ⟨"WideTurnModel", "kind", "(I)I"⟩ prog_14_method_73_code (2 : Nat) (Option.some FieldType.int)) ∈ mj_tbl := mj_mem_tbl 1340 (by decide +kernel) rfl
theorem w1341 : (Cond.methodLink "WideTurnLaw" (143 : Nat) ⟨"WideTurnModel", "as", "(II)I"⟩) ∈ mj_tbl := mj_mem_tbl 1341 (by decide +kernel) rfl
theorem w1342 : (Cond.instanceMethod ⟨"WideTurnModel", "as", "(II)I"⟩) ∈ mj_tbl := mj_mem_tbl 1342 (by decide +kernel) rfl
theorem w1343 : (Cond.selects "WideTurnModel" ⟨"WideTurnModel", "as", "(II)I"⟩ ⟨"WideTurnModel", "as", "(II)I"⟩) ∈ mj_tbl := mj_mem_tbl 1343 (by decide +kernel) rfl
theorem w1344 : (Cond.code ⟨"WideTurnModel", "as", "(II)I"⟩ prog_14_method_74_code (5 : Nat) (Option.some FieldType.int)) ∈ mj_tbl := mj_mem_tbl 1344 (by decide +kernel) rfl
theorem w1345 : (Cond.methodLink "WideTurnLaw" (147 : Nat) ⟨"WideTurnModel", "ask", "(II)I"⟩) ∈ mj_tbl := mj_mem_tbl 1345 (by decide +kernel) rfl
theorem w1346 : (Cond.instanceMethod ⟨"WideTurnModel", "ask", "(II)I"⟩) ∈ mj_tbl := mj_mem_tbl 1346 (by decide +kernel) rfl
theorem w1347 : (Cond.selects "WideTurnModel" ⟨"WideTurnModel", "ask", "(II)I"⟩ ⟨"WideTurnModel", "ask", "(II)I"⟩) ∈ mj_tbl := mj_mem_tbl 1347 (by decide +kernel) rfl
theorem w1348 : (Cond.code ⟨"WideTurnModel", "ask", "(II)I"⟩ prog_14_method_79_code (3 : Nat) (Option.some FieldType.int)) ∈ mj_tbl := mj_mem_tbl 1348 (by decide +kernel) rfl
theorem w1349 : (Cond.methodLink "WideTurnModel" (258 : Nat) ⟨"WideTurnModel", "sizeOf", "(I)I"⟩) ∈ mj_tbl := mj_mem_tbl 1349 (by decide +kernel) rfl
theorem w1351 : (Cond.instanceMethod ⟨"WideTurnModel", "sizeOf", "(I)I"⟩) ∈ mj_tbl := mj_mem_tbl 1351 (by decide +kernel) rfl
theorem w1352 : (Cond.code ⟨"WideTurnModel", "sizeOf", "(I)I"⟩ prog_14_method_77_code (4 : Nat) (Option.some FieldType.int)) ∈ mj_tbl := mj_mem_tbl 1352 (by decide +kernel) rfl
theorem w1353 : (Cond.methodLink "WideTurnModel" (252 : Nat) ⟨"WideTurnModel", "leaves", "(I)V"⟩) ∈ mj_tbl := mj_mem_tbl 1353 (by decide +kernel) rfl
theorem w1355 : (Cond.instanceMethod ⟨"WideTurnModel", "leaves", "(I)V"⟩) ∈ mj_tbl := mj_mem_tbl 1355 (by decide +kernel) rfl
theorem w1356 : (Cond.code ⟨"WideTurnModel", "leaves", "(I)V"⟩ prog_14_method_75_code (2 : Nat) (Option.none : Option FieldType)) ∈ mj_tbl := mj_mem_tbl 1356 (by decide +kernel) rfl
theorem w1357 : (Cond.methodLink "WideTurnModel" (255 : Nat) ⟨"WideTurnModel", "plainMark", "(I)I"⟩) ∈ mj_tbl := mj_mem_tbl 1357 (by decide +kernel) rfl
theorem w1359 : (Cond.instanceMethod ⟨"WideTurnModel", "plainMark", "(I)I"⟩) ∈ mj_tbl := mj_mem_tbl 1359 (by decide +kernel) rfl
theorem w1360 : (Cond.code ⟨"WideTurnModel", "plainMark", "(I)I"⟩ prog_14_method_76_code (4 : Nat) (Option.some FieldType.int)) ∈ mj_tbl := mj_mem_tbl 1360 (by decide +kernel) rfl
theorem w1361 : (Cond.methodLink "WideTurnModel" (261 : Nat) ⟨"WideTurnModel", "markOf", "(I)I"⟩) ∈ mj_tbl := mj_mem_tbl 1361 (by decide +kernel) rfl
theorem w1363 : (Cond.instanceMethod ⟨"WideTurnModel", "markOf", "(I)I"⟩) ∈ mj_tbl := mj_mem_tbl 1363 (by decide +kernel) rfl
theorem w1364 : (Cond.code ⟨"WideTurnModel", "markOf", "(I)I"⟩ prog_14_method_78_code (2 : Nat) (Option.some FieldType.int)) ∈ mj_tbl := mj_mem_tbl 1364 (by decide +kernel) rfl
theorem w1365 : (Cond.methodLink "WideTurnLaw" (151 : Nat) ⟨"WideTurnModel", "trace", "(I)I"⟩) ∈ mj_tbl := mj_mem_tbl 1365 (by decide +kernel) rfl
theorem w1366 : (Cond.instanceMethod ⟨"WideTurnModel", "trace", "(I)I"⟩) ∈ mj_tbl := mj_mem_tbl 1366 (by decide +kernel) rfl
theorem w1367 : (Cond.selects "WideTurnModel" ⟨"WideTurnModel", "trace", "(I)I"⟩ ⟨"WideTurnModel", "trace", "(I)I"⟩) ∈ mj_tbl := mj_mem_tbl 1367 (by decide +kernel) rfl
theorem w1368 : (Cond.code ⟨"WideTurnModel", "trace", "(I)I"⟩ prog_14_method_80_code (2 : Nat) (Option.some FieldType.int)) ∈ mj_tbl := mj_mem_tbl 1368 (by decide +kernel) rfl
theorem w1369 : (Cond.methodLink "WideTurnLaw" (155 : Nat) ⟨"WideTurnModel", "count", "(I)I"⟩) ∈ mj_tbl := mj_mem_tbl 1369 (by decide +kernel) rfl
theorem w1370 : (Cond.instanceMethod ⟨"WideTurnModel", "count", "(I)I"⟩) ∈ mj_tbl := mj_mem_tbl 1370 (by decide +kernel) rfl
theorem w1371 : (Cond.selects "WideTurnModel" ⟨"WideTurnModel", "count", "(I)I"⟩ ⟨"WideTurnModel", "count", "(I)I"⟩) ∈ mj_tbl := mj_mem_tbl 1371 (by decide +kernel) rfl
theorem w1372 : (Cond.code ⟨"WideTurnModel", "count", "(I)I"⟩ prog_14_method_81_code (4 : Nat) (Option.some FieldType.int)) ∈ mj_tbl := mj_mem_tbl 1372 (by decide +kernel) rfl
theorem w1373 : (Cond.methodLink "WideTurnLaw" (159 : Nat) ⟨"WideTurnModel", "status", "()I"⟩) ∈ mj_tbl := mj_mem_tbl 1373 (by decide +kernel) rfl
theorem w1374 : (Cond.instanceMethod ⟨"WideTurnModel", "status", "()I"⟩) ∈ mj_tbl := mj_mem_tbl 1374 (by decide +kernel) rfl
theorem w1375 : (Cond.selects "WideTurnModel" ⟨"WideTurnModel", "status", "()I"⟩ ⟨"WideTurnModel", "status", "()I"⟩) ∈ mj_tbl := mj_mem_tbl 1375 (by decide +kernel) rfl
theorem w1376 : (Cond.code ⟨"WideTurnModel", "status", "()I"⟩ prog_14_method_82_code (1 : Nat) (Option.some FieldType.int)) ∈ mj_tbl := mj_mem_tbl 1376 (by decide +kernel) rfl
theorem w1377 : (Cond.sameMethod "WideTurn$Shover" "WideTurn$Shover" "size" "([II)I") ∈ mj_tbl := mj_mem_tbl 1377 (by decide +kernel) rfl
theorem w1378 : (Cond.sameMethod "WideTurn$Swinger" "WideTurn$Swinger" "size" "([II)I") ∈ mj_tbl := mj_mem_tbl 1378 (by decide +kernel) rfl
theorem w1379 : (Cond.sameMethod "WideTurn$Hand" "WideTurn$Hand" "mark" "([II)I") ∈ mj_tbl := mj_mem_tbl 1379 (by decide +kernel) rfl
theorem w1380 : (Cond.selects "WideTurn$Lifter" ⟨"WideTurn$Hand", "mark", "([II)I"⟩ ⟨"WideTurn$Shover", "mark", "([II)I"⟩) ∈ mj_tbl := mj_mem_tbl 1380 (by decide +kernel) rfl
theorem w1381 : (Cond.selects "WideTurn$Lifter" ⟨"WideTurn$Shover", "size", "([II)I"⟩ ⟨"WideTurn$Lifter", "size", "([II)I"⟩) ∈ mj_tbl := mj_mem_tbl 1381 (by decide +kernel) rfl
theorem w1382 : (Cond.selects "WideTurn$Shover" ⟨"WideTurn$Shover", "size", "([II)I"⟩ ⟨"WideTurn$Shover", "size", "([II)I"⟩) ∈ mj_tbl := mj_mem_tbl 1382 (by decide +kernel) rfl
theorem w1383 : (Cond.selects "WideTurn$Poler" ⟨"WideTurn$Hand", "mark", "([II)I"⟩ ⟨"WideTurn$Poler", "mark", "([II)I"⟩) ∈ mj_tbl := mj_mem_tbl 1383 (by decide +kernel) rfl
theorem w1384 : (Cond.selects "WideTurn$Roper" ⟨"WideTurn$Hand", "mark", "([II)I"⟩ ⟨"WideTurn$Roper", "mark", "([II)I"⟩) ∈ mj_tbl := mj_mem_tbl 1384 (by decide +kernel) rfl
theorem w1385 : (Cond.selects "WideTurn$Shover" ⟨"WideTurn$Hand", "mark", "([II)I"⟩ ⟨"WideTurn$Shover", "mark", "([II)I"⟩) ∈ mj_tbl := mj_mem_tbl 1385 (by decide +kernel) rfl
theorem w1386 : (Cond.selects "WideTurn$Swinger" ⟨"WideTurn$Hand", "mark", "([II)I"⟩ ⟨"WideTurn$Swinger", "mark", "([II)I"⟩) ∈ mj_tbl := mj_mem_tbl 1386 (by decide +kernel) rfl
theorem fd_0_0 : ∀ c ∈ [0], mj_fd c 0 = some ("WideTurn$Acts", "middle", "[I", true) := by decide +kernel
theorem fd_0_1 : ∀ c ∈ [0], mj_fd c 1 = some ("WideTurn$Acts", "turn", "[I", true) := by decide +kernel
theorem fd_0_2 : ∀ c ∈ [0], mj_fd c 2 = some ("WideTurn$Acts", "laden", "[I", true) := by decide +kernel
theorem fd_0_3 : ∀ c ∈ [0], mj_fd c 3 = some ("WideTurn$Acts", "moves", "[I", true) := by decide +kernel
theorem fd_0_4 : ∀ c ∈ [0], mj_fd c 4 = some ("WideTurn$Acts", "moored", "[I", true) := by decide +kernel
theorem fd_0_5 : ∀ c ∈ [0], mj_fd c 5 = some ("WideTurn$Acts", "lowered", "[I", true) := by decide +kernel
theorem fd_0_6 : ∀ c ∈ [0], mj_fd c 6 = some ("WideTurn$Acts", "next", "I", false) := by decide +kernel
theorem fd_0_7 : ∀ c ∈ [0], mj_fd c 7 = some ("WideTurn$Acts", "kept", "I", false) := by decide +kernel
theorem fd_10_0 : ∀ c ∈ [10], mj_fd c 0 = some ("WideTurn", "rows", "LWideTurn$Rows;", true) := by decide +kernel
theorem fd_10_1 : ∀ c ∈ [10], mj_fd c 1 = some ("WideTurn", "tape", "LWideTurn$Tape;", true) := by decide +kernel
theorem fd_10_2 : ∀ c ∈ [10], mj_fd c 2 = some ("WideTurn", "acts", "LWideTurn$Acts;", true) := by decide +kernel
theorem fd_10_3 : ∀ c ∈ [10], mj_fd c 3 = some ("WideTurn", "search", "LWideTurn$Search;", true) := by decide +kernel
theorem fd_10_4 : ∀ c ∈ [10], mj_fd c 4 = some ("WideTurn", "now", "LWideTurn$Basin;", true) := by decide +kernel
theorem fd_10_5 : ∀ c ∈ [10], mj_fd c 5 = some ("WideTurn", "trial", "LWideTurn$Basin;", true) := by decide +kernel
theorem fd_10_6 : ∀ c ∈ [10], mj_fd c 6 = some ("WideTurn", "images", "[LWideTurn$Basin;", true) := by decide +kernel
theorem fd_10_7 : ∀ c ∈ [10], mj_fd c 7 = some ("WideTurn", "trace", "[I", true) := by decide +kernel
theorem fd_10_8 : ∀ c ∈ [10], mj_fd c 8 = some ("WideTurn", "told", "Z", false) := by decide +kernel
theorem fd_10_9 : ∀ c ∈ [10], mj_fd c 9 = some ("WideTurn", "finding", "I", false) := by decide +kernel
theorem fd_11_0 : ∀ c ∈ [11], mj_fd c 0 = some ("WideTurnModel", "thrown", "I", false) := by decide +kernel
theorem fd_11_1 : ∀ c ∈ [11], mj_fd c 1 = some ("WideTurnModel", "tape", "[I", true) := by decide +kernel
theorem fd_11_10 : ∀ c ∈ [11], mj_fd c 10 = some ("WideTurnModel", "lane", "[I", true) := by decide +kernel
theorem fd_11_11 : ∀ c ∈ [11], mj_fd c 11 = some ("WideTurnModel", "length", "[I", true) := by decide +kernel
theorem fd_11_12 : ∀ c ∈ [11], mj_fd c 12 = some ("WideTurnModel", "items", "[I", true) := by decide +kernel
theorem fd_11_13 : ∀ c ∈ [11], mj_fd c 13 = some ("WideTurnModel", "finding", "I", false) := by decide +kernel
theorem fd_11_14 : ∀ c ∈ [11], mj_fd c 14 = some ("WideTurnModel", "draft", "[I", true) := by decide +kernel
theorem fd_11_15 : ∀ c ∈ [11], mj_fd c 15 = some ("WideTurnModel", "s", "[I", true) := by decide +kernel
theorem fd_11_16 : ∀ c ∈ [11], mj_fd c 16 = some ("WideTurnModel", "w", "[I", true) := by decide +kernel
theorem fd_11_17 : ∀ c ∈ [11], mj_fd c 17 = some ("WideTurnModel", "acts", "[I", true) := by decide +kernel
theorem fd_11_18 : ∀ c ∈ [11], mj_fd c 18 = some ("WideTurnModel", "actMany", "I", false) := by decide +kernel
theorem fd_11_19 : ∀ c ∈ [11], mj_fd c 19 = some ("WideTurnModel", "images", "[I", true) := by decide +kernel
theorem fd_11_2 : ∀ c ∈ [11], mj_fd c 2 = some ("WideTurnModel", "typed", "I", false) := by decide +kernel
theorem fd_11_20 : ∀ c ∈ [11], mj_fd c 20 = some ("WideTurnModel", "isKept", "[Z", true) := by decide +kernel
theorem fd_11_21 : ∀ c ∈ [11], mj_fd c 21 = some ("WideTurnModel", "trace", "[I", true) := by decide +kernel
theorem fd_11_22 : ∀ c ∈ [11], mj_fd c 22 = some ("WideTurnModel", "traceMany", "I", false) := by decide +kernel
theorem fd_11_23 : ∀ c ∈ [11], mj_fd c 23 = some ("WideTurnModel", "best", "[I", true) := by decide +kernel
theorem fd_11_24 : ∀ c ∈ [11], mj_fd c 24 = some ("WideTurnModel", "ways", "[I", true) := by decide +kernel
theorem fd_11_3 : ∀ c ∈ [11], mj_fd c 3 = some ("WideTurnModel", "next", "I", false) := by decide +kernel
theorem fd_11_4 : ∀ c ∈ [11], mj_fd c 4 = some ("WideTurnModel", "token", "I", false) := by decide +kernel
theorem fd_11_5 : ∀ c ∈ [11], mj_fd c 5 = some ("WideTurnModel", "place", "I", false) := by decide +kernel
theorem fd_11_6 : ∀ c ∈ [11], mj_fd c 6 = some ("WideTurnModel", "value", "I", false) := by decide +kernel
theorem fd_11_7 : ∀ c ∈ [11], mj_fd c 7 = some ("WideTurnModel", "fault", "I", false) := by decide +kernel
theorem fd_11_8 : ∀ c ∈ [11], mj_fd c 8 = some ("WideTurnModel", "faultAt", "I", false) := by decide +kernel
theorem fd_11_9 : ∀ c ∈ [11], mj_fd c 9 = some ("WideTurnModel", "latestFault", "I", false) := by decide +kernel
theorem fd_1_0 : ∀ c ∈ [1], mj_fd c 0 = some ("WideTurn$Basin", "wind", "I", false) := by decide +kernel
theorem fd_1_1 : ∀ c ∈ [1], mj_fd c 1 = some ("WideTurn$Basin", "draught", "I", false) := by decide +kernel
theorem fd_1_10 : ∀ c ∈ [1], mj_fd c 10 = some ("WideTurn$Basin", "hand", "[LWideTurn$Hand;", true) := by decide +kernel
theorem fd_1_2 : ∀ c ∈ [1], mj_fd c 2 = some ("WideTurn$Basin", "load", "I", false) := by decide +kernel
theorem fd_1_3 : ∀ c ∈ [1], mj_fd c 3 = some ("WideTurn$Basin", "middle", "I", false) := by decide +kernel
theorem fd_1_4 : ∀ c ∈ [1], mj_fd c 4 = some ("WideTurn$Basin", "turn", "I", false) := by decide +kernel
theorem fd_1_5 : ∀ c ∈ [1], mj_fd c 5 = some ("WideTurn$Basin", "laden", "I", false) := by decide +kernel
theorem fd_1_6 : ∀ c ∈ [1], mj_fd c 6 = some ("WideTurn$Basin", "moves", "I", false) := by decide +kernel
theorem fd_1_7 : ∀ c ∈ [1], mj_fd c 7 = some ("WideTurn$Basin", "moored", "I", false) := by decide +kernel
theorem fd_1_8 : ∀ c ∈ [1], mj_fd c 8 = some ("WideTurn$Basin", "hands", "I", false) := by decide +kernel
theorem fd_1_9 : ∀ c ∈ [1], mj_fd c 9 = some ("WideTurn$Basin", "depth", "[I", true) := by decide +kernel
theorem fd_5_0 : ∀ c ∈ [5], mj_fd c 0 = some ("WideTurn$Rows", "items", "[I", true) := by decide +kernel
theorem fd_5_1 : ∀ c ∈ [5], mj_fd c 1 = some ("WideTurn$Rows", "lanes", "[I", true) := by decide +kernel
theorem fd_5_2 : ∀ c ∈ [5], mj_fd c 2 = some ("WideTurn$Rows", "sizes", "[I", true) := by decide +kernel
theorem fd_6_0 : ∀ c ∈ [6], mj_fd c 0 = some ("WideTurn$Search", "clear", "[I", true) := by decide +kernel
theorem fd_6_1 : ∀ c ∈ [6], mj_fd c 1 = some ("WideTurn$Search", "minutes", "[I", true) := by decide +kernel
theorem fd_6_10 : ∀ c ∈ [6], mj_fd c 10 = some ("WideTurn$Search", "start", "I", false) := by decide +kernel
theorem fd_6_11 : ∀ c ∈ [6], mj_fd c 11 = some ("WideTurn$Search", "waiting", "I", false) := by decide +kernel
theorem fd_6_12 : ∀ c ∈ [6], mj_fd c 12 = some ("WideTurn$Search", "foundMinutes", "I", false) := by decide +kernel
theorem fd_6_13 : ∀ c ∈ [6], mj_fd c 13 = some ("WideTurn$Search", "foundFirst", "I", false) := by decide +kernel
theorem fd_6_2 : ∀ c ∈ [6], mj_fd c 2 = some ("WideTurn$Search", "first", "[I", true) := by decide +kernel
theorem fd_6_3 : ∀ c ∈ [6], mj_fd c 3 = some ("WideTurn$Search", "after", "[I", true) := by decide +kernel
theorem fd_6_4 : ∀ c ∈ [6], mj_fd c 4 = some ("WideTurn$Search", "before", "[I", true) := by decide +kernel
theorem fd_6_5 : ∀ c ∈ [6], mj_fd c 5 = some ("WideTurn$Search", "heads", "[I", true) := by decide +kernel
theorem fd_6_6 : ∀ c ∈ [6], mj_fd c 6 = some ("WideTurn$Search", "paces", "[I", true) := by decide +kernel
theorem fd_6_7 : ∀ c ∈ [6], mj_fd c 7 = some ("WideTurn$Search", "pacers", "[I", true) := by decide +kernel
theorem fd_6_8 : ∀ c ∈ [6], mj_fd c 8 = some ("WideTurn$Search", "draught", "I", false) := by decide +kernel
theorem fd_6_9 : ∀ c ∈ [6], mj_fd c 9 = some ("WideTurn$Search", "lee", "I", false) := by decide +kernel
theorem fd_9_0 : ∀ c ∈ [9], mj_fd c 0 = some ("WideTurn$Tape", "bytes", "[I", true) := by decide +kernel
theorem fd_9_1 : ∀ c ∈ [9], mj_fd c 1 = some ("WideTurn$Tape", "length", "I", false) := by decide +kernel
theorem fd_9_2 : ∀ c ∈ [9], mj_fd c 2 = some ("WideTurn$Tape", "place", "I", false) := by decide +kernel
theorem fd_9_3 : ∀ c ∈ [9], mj_fd c 3 = some ("WideTurn$Tape", "fault", "I", false) := by decide +kernel
theorem fd_9_4 : ∀ c ∈ [9], mj_fd c 4 = some ("WideTurn$Tape", "faultPlace", "I", false) := by decide +kernel
theorem fd_9_5 : ∀ c ∈ [9], mj_fd c 5 = some ("WideTurn$Tape", "latestFault", "I", false) := by decide +kernel
theorem fd_h_0 : ∀ c ∈ [2, 3, 4, 7, 8], mj_fd c 0 = some ("WideTurn$Hand", "number", "I", true) := by decide +kernel
theorem fd_h_1 : ∀ c ∈ [2, 3, 4, 7, 8], mj_fd c 1 = some ("WideTurn$Hand", "minutes", "I", true) := by decide +kernel
theorem fd_h_2 : ∀ c ∈ [2, 3, 4, 7, 8], mj_fd c 2 = some ("WideTurn$Hand", "known", "I", true) := by decide +kernel
theorem mm_A_init : mj_M mi_A_init 0 := ⟨w127, w57, by decide, by decide +kernel, by decide⟩
theorem mm_A_kept : mj_M mi_A_kept 0 := ⟨w551, w57, by decide, by decide +kernel, by decide⟩
theorem mm_A_forget : mj_M mi_A_forget 0 := ⟨w535, w57, by decide, by decide +kernel, by decide⟩
theorem mm_C_put : mj_M mi_C_put 3 := ⟨w328, w53, by decide, by decide +kernel, by decide⟩
theorem mm_J_min : mj_M mi_J_min 2 := ⟨w633, w68, by decide, by decide +kernel, by decide⟩
theorem mm_A_keep : mj_M mi_A_keep 2 := ⟨w637, w57, by decide, by decide +kernel, by decide⟩
theorem mm_J_max : mj_M mi_J_max 2 := ⟨w559, w68, by decide, by decide +kernel, by decide⟩
theorem mm_C_at : mj_M mi_C_at 2 := ⟨w344, w53, by decide, by decide +kernel, by decide⟩
theorem mm_C_bit : mj_M mi_C_bit 2 := ⟨w446, w53, by decide, by decide +kernel, by decide⟩
theorem mm_A_takeBack : mj_M mi_A_takeBack 1 := ⟨w556, w57, by decide, by decide +kernel, by decide⟩
theorem mm_B_init : mj_M mi_B_init 0 := ⟨w209, w59, by decide, by decide +kernel, by decide⟩
theorem mm_B_clear : mj_M mi_B_clear 0 := ⟨w403, w59, by decide, by decide +kernel, by decide⟩
theorem mm_B_become : mj_M mi_B_become 1 := ⟨w529, w59, by decide, by decide +kernel, by decide⟩
theorem mm_C_within : mj_M mi_C_within 2 := ⟨w315, w53, by decide, by decide +kernel, by decide⟩
theorem mm_B_addHand : mj_M mi_B_addHand 1 := ⟨w519, w59, by decide, by decide +kernel, by decide⟩
theorem mm_B_handAt : mj_M mi_B_handAt 1 := ⟨w570, w59, by decide, by decide +kernel, by decide⟩
theorem mm_B_sinks : mj_M mi_B_sinks 0 := ⟨w578, w59, by decide, by decide +kernel, by decide⟩
theorem mm_B_isBlown : mj_M mi_B_isBlown 0 := ⟨w646, w59, by decide, by decide +kernel, by decide⟩
theorem mm_B_clearance : mj_M mi_B_clearance 1 := ⟨w629, w59, by decide, by decide +kernel, by decide⟩
theorem mm_C_beside : mj_M mi_C_beside 2 := ⟨w613, w53, by decide, by decide +kernel, by decide⟩
theorem mm_B_shallowest : mj_M mi_B_shallowest 2 := ⟨w625, w59, by decide, by decide +kernel, by decide⟩
theorem mm_B_fitsNow : mj_M mi_B_fitsNow 0 := ⟨w682, w59, by decide, by decide +kernel, by decide⟩
theorem mm_B_setOf : mj_M mi_B_setOf 1 := ⟨w664, w59, by decide, by decide +kernel, by decide⟩
theorem mm_B_lies : mj_M mi_B_lies 0 := ⟨w661, w59, by decide, by decide +kernel, by decide⟩
theorem mm_Lf_lift : mj_M mi_Lf_lift 0 := ⟨w584, w67, by decide, by decide +kernel, by decide⟩
theorem mm_H_lift : mj_M mi_H_lift 0 := ⟨w589, w62, by decide, by decide +kernel, by decide⟩
theorem mm_H_minutesFor : mj_M mi_H_minutesFor 1 := ⟨w605, w62, by decide, by decide +kernel, by decide⟩
theorem mm_Ro_minutesFor : mj_M mi_Ro_minutesFor 1 := ⟨w598, w65, by decide, by decide +kernel, by decide⟩
theorem mm_C_turnBehind : mj_M mi_C_turnBehind 2 := ⟨w620, w53, by decide, by decide +kernel, by decide⟩
theorem mm_C_middleBehind : mj_M mi_C_middleBehind 3 := ⟨w610, w53, by decide, by decide +kernel, by decide⟩
theorem mm_B_canMake : mj_M mi_B_canMake 2 := ⟨w574, w59, by decide, by decide +kernel, by decide⟩
theorem mm_B_make : mj_M mi_B_make 1 := ⟨w642, w59, by decide, by decide +kernel, by decide⟩
theorem mm_B_siltUp : mj_M mi_B_siltUp 0 := ⟨w678, w59, by decide, by decide +kernel, by decide⟩
theorem mm_H_init : mj_M mi_H_init 3 := ⟨w464, w62, by decide, by decide +kernel, by decide⟩
theorem mm_H_leave : mj_M mi_H_leave 2 := ⟨w921, w62, by decide, by decide +kernel, by decide⟩
theorem mm_H_size : mj_M mi_H_size 2 := ⟨w961, w62, by decide, by decide +kernel, by decide⟩
theorem mm_H_mark : mj_M mi_H_mark 2 := ⟨w956, w62, by decide, by decide +kernel, by decide⟩
theorem mm_Sh_init : mj_M mi_Sh_init 2 := ⟨w500, w66, by decide, by decide +kernel, by decide⟩
theorem mm_Lf_init : mj_M mi_Lf_init 2 := ⟨w510, w67, by decide, by decide +kernel, by decide⟩
theorem mm_Lf_sort : mj_M mi_Lf_sort 0 := ⟨w883, w67, by decide, by decide +kernel, by decide⟩
theorem mm_Sh_size : mj_M mi_Sh_size 2 := ⟨w924, w66, by decide, by decide +kernel, by decide⟩
theorem mm_Lf_size : mj_M mi_Lf_size 2 := ⟨w917, w67, by decide, by decide +kernel, by decide⟩
theorem mm_Sw_init : mj_M mi_Sw_init 3 := ⟨w461, w63, by decide, by decide +kernel, by decide⟩
theorem mm_Po_init : mj_M mi_Po_init 2 := ⟨w480, w64, by decide, by decide +kernel, by decide⟩
theorem mm_Po_sort : mj_M mi_Po_sort 0 := ⟨w886, w64, by decide, by decide +kernel, by decide⟩
theorem mm_Sw_mark : mj_M mi_Sw_mark 2 := ⟨w953, w63, by decide, by decide +kernel, by decide⟩
theorem mm_Po_mark : mj_M mi_Po_mark 2 := ⟨w945, w64, by decide, by decide +kernel, by decide⟩
theorem mm_Ro_mark : mj_M mi_Ro_mark 2 := ⟨w949, w65, by decide, by decide +kernel, by decide⟩
theorem mm_Sw_size : mj_M mi_Sw_size 2 := ⟨w935, w63, by decide, by decide +kernel, by decide⟩
theorem mm_Po_size : mj_M mi_Po_size 2 := ⟨w930, w64, by decide, by decide +kernel, by decide⟩
theorem mm_Ro_init : mj_M mi_Ro_init 2 := ⟨w490, w65, by decide, by decide +kernel, by decide⟩
theorem mm_Ro_sort : mj_M mi_Ro_sort 0 := ⟨w889, w65, by decide, by decide +kernel, by decide⟩
theorem mm_J_fill : mj_M mi_J_fill 2 := ⟨w86, w55, by decide, by decide +kernel, by decide⟩
theorem mm_Rw_init : mj_M mi_Rw_init 0 := ⟨w82, w54, by decide, by decide +kernel, by decide⟩
theorem mm_C_isRow : mj_M mi_C_isRow 1 := ⟨w312, w53, by decide, by decide +kernel, by decide⟩
theorem mm_Rw_isMissing : mj_M mi_Rw_isMissing 1 := ⟨w340, w54, by decide, by decide +kernel, by decide⟩
theorem mm_Rw_areAlike : mj_M mi_Rw_areAlike 2 := ⟨w360, w54, by decide, by decide +kernel, by decide⟩
theorem mm_Rw_holds : mj_M mi_Rw_holds 3 := ⟨w348, w54, by decide, by decide +kernel, by decide⟩
theorem mm_Rw_make : mj_M mi_Rw_make 3 := ⟨w325, w54, by decide, by decide +kernel, by decide⟩
theorem mm_Rw_remove : mj_M mi_Rw_remove 1 := ⟨w377, w54, by decide, by decide +kernel, by decide⟩
theorem mm_Rw_store : mj_M mi_Rw_store 3 := ⟨w352, w54, by decide, by decide +kernel, by decide⟩
theorem mm_Rw_item : mj_M mi_Rw_item 2 := ⟨w815, w54, by decide, by decide +kernel, by decide⟩
theorem mm_Rw_carry : mj_M mi_Rw_carry 5 := ⟨w364, w54, by decide, by decide +kernel, by decide⟩
theorem mm_Rw_present : mj_M mi_Rw_present 0 := ⟨w978, w54, by decide, by decide +kernel, by decide⟩
theorem mm_S_init : mj_M mi_S_init 0 := ⟨w158, w58, by decide, by decide +kernel, by decide⟩
theorem mm_S_stateOf : mj_M mi_S_stateOf 3 := ⟨w711, w58, by decide, by decide +kernel, by decide⟩
theorem mm_S_prepare : mj_M mi_S_prepare 2 := ⟨w707, w58, by decide, by decide +kernel, by decide⟩
theorem mm_S_choosePacers : mj_M mi_S_choosePacers 1 := ⟨w719, w58, by decide, by decide +kernel, by decide⟩
theorem mm_S_add : mj_M mi_S_add 3 := ⟨w728, w58, by decide, by decide +kernel, by decide⟩
theorem mm_S_remove : mj_M mi_S_remove 1 := ⟨w732, w58, by decide, by decide +kernel, by decide⟩
theorem mm_S_clearAt : mj_M mi_S_clearAt 2 := ⟨w743, w58, by decide, by decide +kernel, by decide⟩
theorem mm_S_behind : mj_M mi_S_behind 3 := ⟨w747, w58, by decide, by decide +kernel, by decide⟩
theorem mm_S_offer : mj_M mi_S_offer 3 := ⟨w752, w58, by decide, by decide +kernel, by decide⟩
theorem mm_S_leave : mj_M mi_S_leave 1 := ⟨w736, w58, by decide, by decide +kernel, by decide⟩
theorem mm_S_explore : mj_M mi_S_explore 3 := ⟨w703, w58, by decide, by decide +kernel, by decide⟩
theorem mm_S_seek : mj_M mi_S_seek 3 := ⟨w756, w58, by decide, by decide +kernel, by decide⟩
theorem mm_S_minutesToTurn : mj_M mi_S_minutesToTurn 2 := ⟨w766, w58, by decide, by decide +kernel, by decide⟩
theorem mm_S_cellsReached : mj_M mi_S_cellsReached 0 := ⟨w853, w58, by decide, by decide +kernel, by decide⟩
theorem mm_Sh_sort : mj_M mi_Sh_sort 0 := ⟨w892, w66, by decide, by decide +kernel, by decide⟩
theorem mm_Sh_mark : mj_M mi_Sh_mark 2 := ⟨w964, w66, by decide, by decide +kernel, by decide⟩
theorem mm_Sw_sort : mj_M mi_Sw_sort 0 := ⟨w895, w63, by decide, by decide +kernel, by decide⟩
theorem mm_T_init : mj_M mi_T_init 0 := ⟨w102, w56, by decide, by decide +kernel, by decide⟩
theorem mm_T_length : mj_M mi_T_length 0 := ⟨w390, w56, by decide, by decide +kernel, by decide⟩
theorem mm_T_faultPlace : mj_M mi_T_faultPlace 0 := ⟨w525, w56, by decide, by decide +kernel, by decide⟩
theorem mm_T_latestFault : mj_M mi_T_latestFault 0 := ⟨w543, w56, by decide, by decide +kernel, by decide⟩
theorem mm_T_append : mj_M mi_T_append 1 := ⟨w385, w56, by decide, by decide +kernel, by decide⟩
theorem mm_T_letterAt : mj_M mi_T_letterAt 1 := ⟨w415, w56, by decide, by decide +kernel, by decide⟩
theorem mm_T_fail : mj_M mi_T_fail 2 := ⟨w420, w56, by decide, by decide +kernel, by decide⟩
theorem mm_T_readLetter : mj_M mi_T_readLetter 1 := ⟨w411, w56, by decide, by decide +kernel, by decide⟩
theorem mm_T_isFigure : mj_M mi_T_isFigure 1 := ⟨w427, w56, by decide, by decide +kernel, by decide⟩
theorem mm_T_readNumber : mj_M mi_T_readNumber 2 := ⟨w424, w56, by decide, by decide +kernel, by decide⟩
theorem mm_T_readLaw : mj_M mi_T_readLaw 1 := ⟨w407, w56, by decide, by decide +kernel, by decide⟩
theorem mm_T_readDepth : mj_M mi_T_readDepth 0 := ⟨w435, w56, by decide, by decide +kernel, by decide⟩
theorem mm_T_readDepths : mj_M mi_T_readDepths 1 := ⟨w431, w56, by decide, by decide +kernel, by decide⟩
theorem mm_T_readBoat : mj_M mi_T_readBoat 1 := ⟨w439, w56, by decide, by decide +kernel, by decide⟩
theorem mm_T_readMoored : mj_M mi_T_readMoored 1 := ⟨w443, w56, by decide, by decide +kernel, by decide⟩
theorem mm_T_isSort : mj_M mi_T_isSort 1 := ⟨w453, w56, by decide, by decide +kernel, by decide⟩
theorem mm_T_handOf : mj_M mi_T_handOf 3 := ⟨w456, w56, by decide, by decide +kernel, by decide⟩
theorem mm_T_readHands : mj_M mi_T_readHands 1 := ⟨w450, w56, by decide, by decide +kernel, by decide⟩
theorem mm_T_read : mj_M mi_T_read 1 := ⟨w399, w56, by decide, by decide +kernel, by decide⟩
theorem mm_C_init : mj_M mi_C_init 0 := ⟨w74, w53, by decide, by decide +kernel, by decide⟩
theorem mm_C_found : mj_M mi_C_found 1 := ⟨w320, w53, by decide, by decide +kernel, by decide⟩
theorem mm_C_sound : mj_M mi_C_sound 1 := ⟨w332, w53, by decide, by decide +kernel, by decide⟩
theorem mm_C_row : mj_M mi_C_row 3 := ⟨w309, w53, by decide, by decide +kernel, by decide⟩
theorem mm_C_set : mj_M mi_C_set 3 := ⟨w336, w53, by decide, by decide +kernel, by decide⟩
theorem mm_C_copy : mj_M mi_C_copy 5 := ⟨w356, w53, by decide, by decide +kernel, by decide⟩
theorem mm_C_drop : mj_M mi_C_drop 1 := ⟨w373, w53, by decide, by decide +kernel, by decide⟩
theorem mm_C_feed : mj_M mi_C_feed 1 := ⟨w381, w53, by decide, by decide +kernel, by decide⟩
theorem mm_C_basin : mj_M mi_C_basin 0 := ⟨w395, w53, by decide, by decide +kernel, by decide⟩
theorem mm_C_fault : mj_M mi_C_fault 0 := ⟨w539, w53, by decide, by decide +kernel, by decide⟩
theorem mm_C_undo : mj_M mi_C_undo 0 := ⟨w547, w53, by decide, by decide +kernel, by decide⟩
theorem mm_C_move : mj_M mi_C_move 2 := ⟨w566, w53, by decide, by decide +kernel, by decide⟩
theorem mm_C_laden : mj_M mi_C_laden 1 := ⟨w651, w53, by decide, by decide +kernel, by decide⟩
theorem mm_J_bitCount : mj_M mi_J_bitCount 1 := ⟨w667, w69, by decide, by decide +kernel, by decide⟩
theorem mm_C_moor : mj_M mi_C_moor 2 := ⟨w656, w53, by decide, by decide +kernel, by decide⟩
theorem mm_C_silt : mj_M mi_C_silt 0 := ⟨w674, w53, by decide, by decide +kernel, by decide⟩
theorem mm_C_boat : mj_M mi_C_boat 1 := ⟨w686, w53, by decide, by decide +kernel, by decide⟩
theorem mm_C_cell : mj_M mi_C_cell 2 := ⟨w690, w53, by decide, by decide +kernel, by decide⟩
theorem mm_C_hand : mj_M mi_C_hand 2 := ⟨w695, w53, by decide, by decide +kernel, by decide⟩
theorem mm_C_way : mj_M mi_C_way 3 := ⟨w699, w53, by decide, by decide +kernel, by decide⟩
theorem mm_C_turned : mj_M mi_C_turned 1 := ⟨w762, w53, by decide, by decide +kernel, by decide⟩
theorem mm_C_inches : mj_M mi_C_inches 0 := ⟨w772, w53, by decide, by decide +kernel, by decide⟩
theorem mm_C_easiestCell : mj_M mi_C_easiestCell 2 := ⟨w782, w53, by decide, by decide +kernel, by decide⟩
theorem mm_C_inTheWay : mj_M mi_C_inTheWay 1 := ⟨w778, w53, by decide, by decide +kernel, by decide⟩
theorem mm_C_dig : mj_M mi_C_dig 1 := ⟨w787, w53, by decide, by decide +kernel, by decide⟩
theorem mm_C_years : mj_M mi_C_years 0 := ⟨w791, w53, by decide, by decide +kernel, by decide⟩
theorem mm_C_minutesIfLaden : mj_M mi_C_minutesIfLaden 1 := ⟨w799, w53, by decide, by decide +kernel, by decide⟩
theorem mm_C_better : mj_M mi_C_better 0 := ⟨w795, w53, by decide, by decide +kernel, by decide⟩
theorem mm_C_findingAt : mj_M mi_C_findingAt 3 := ⟨w807, w53, by decide, by decide +kernel, by decide⟩
theorem mm_C_planned : mj_M mi_C_planned 4 := ⟨w811, w53, by decide, by decide +kernel, by decide⟩
theorem mm_C_plan : mj_M mi_C_plan 4 := ⟨w803, w53, by decide, by decide +kernel, by decide⟩
theorem mm_C_waysBehind : mj_M mi_C_waysBehind 6 := ⟨w827, w53, by decide, by decide +kernel, by decide⟩
theorem mm_C_waysSeen : mj_M mi_C_waysSeen 5 := ⟨w823, w53, by decide, by decide +kernel, by decide⟩
theorem mm_C_firstSeen : mj_M mi_C_firstSeen 3 := ⟨w831, w53, by decide, by decide +kernel, by decide⟩
theorem mm_C_seen : mj_M mi_C_seen 4 := ⟨w819, w53, by decide, by decide +kernel, by decide⟩
theorem mm_C_choices : mj_M mi_C_choices 2 := ⟨w839, w53, by decide, by decide +kernel, by decide⟩
theorem mm_C_power : mj_M mi_C_power 2 := ⟨w842, w53, by decide, by decide +kernel, by decide⟩
theorem mm_C_commonDivisor : mj_M mi_C_commonDivisor 2 := ⟨w845, w53, by decide, by decide +kernel, by decide⟩
theorem mm_C_gusts : mj_M mi_C_gusts 4 := ⟨w835, w53, by decide, by decide +kernel, by decide⟩
theorem mm_C_reach : mj_M mi_C_reach 0 := ⟨w849, w53, by decide, by decide +kernel, by decide⟩
theorem mm_C_passDays : mj_M mi_C_passDays 2 := ⟨w862, w53, by decide, by decide +kernel, by decide⟩
theorem mm_C_days : mj_M mi_C_days 3 := ⟨w857, w53, by decide, by decide +kernel, by decide⟩
theorem mm_C_image : mj_M mi_C_image 1 := ⟨w869, w53, by decide, by decide +kernel, by decide⟩
theorem mm_C_restore : mj_M mi_C_restore 1 := ⟨w873, w53, by decide, by decide +kernel, by decide⟩
theorem mm_C_kind : mj_M mi_C_kind 1 := ⟨w877, w53, by decide, by decide +kernel, by decide⟩
theorem mm_C_isOne : mj_M mi_C_isOne 2 := ⟨w902, w53, by decide, by decide +kernel, by decide⟩
theorem mm_C_as : mj_M mi_C_as 2 := ⟨w899, w53, by decide, by decide +kernel, by decide⟩
theorem mm_C_ask : mj_M mi_C_ask 2 := ⟨w911, w53, by decide, by decide +kernel, by decide⟩
theorem mm_C_trace : mj_M mi_C_trace 1 := ⟨w970, w53, by decide, by decide +kernel, by decide⟩
theorem mm_C_count : mj_M mi_C_count 1 := ⟨w974, w53, by decide, by decide +kernel, by decide⟩
theorem mm_C_status : mj_M mi_C_status 0 := ⟨w982, w53, by decide, by decide +kernel, by decide⟩
theorem mm_M_init : mj_M mi_M_init 0 := ⟨w987, w60, by decide, by decide +kernel, by decide⟩
theorem mm_M_in : mj_M mi_M_in 3 := ⟨w1075, w60, by decide, by decide +kernel, by decide⟩
theorem mm_M_finds : mj_M mi_M_finds 1 := ⟨w1080, w60, by decide, by decide +kernel, by decide⟩
theorem mm_M_is : mj_M mi_M_is 1 := ⟨w1085, w60, by decide, by decide +kernel, by decide⟩
theorem mm_M_isRow : mj_M mi_M_isRow 1 := ⟨w1072, w60, by decide, by decide +kernel, by decide⟩
theorem mm_M_row : mj_M mi_M_row 3 := ⟨w1069, w60, by decide, by decide +kernel, by decide⟩
theorem mm_M_narrow : mj_M mi_M_narrow 2 := ⟨w1092, w60, by decide, by decide +kernel, by decide⟩
theorem mm_M_set : mj_M mi_M_set 3 := ⟨w1089, w60, by decide, by decide +kernel, by decide⟩
theorem mm_M_isPart : mj_M mi_M_isPart 3 := ⟨w1100, w60, by decide, by decide +kernel, by decide⟩
theorem mm_M_copy : mj_M mi_M_copy 5 := ⟨w1096, w60, by decide, by decide +kernel, by decide⟩
theorem mm_M_drop : mj_M mi_M_drop 1 := ⟨w1104, w60, by decide, by decide +kernel, by decide⟩
theorem mm_M_feed : mj_M mi_M_feed 1 := ⟨w1108, w60, by decide, by decide +kernel, by decide⟩
theorem mm_M_letterAt : mj_M mi_M_letterAt 1 := ⟨w1121, w60, by decide, by decide +kernel, by decide⟩
theorem mm_M_advances : mj_M mi_M_advances 0 := ⟨w1117, w60, by decide, by decide +kernel, by decide⟩
theorem mm_M_isWell : mj_M mi_M_isWell 0 := ⟨w1137, w60, by decide, by decide +kernel, by decide⟩
theorem mm_M_fails : mj_M mi_M_fails 1 := ⟨w1133, w60, by decide, by decide +kernel, by decide⟩
theorem mm_M_wants : mj_M mi_M_wants 2 := ⟨w1129, w60, by decide, by decide +kernel, by decide⟩
theorem mm_M_number : mj_M mi_M_number 3 := ⟨w1141, w60, by decide, by decide +kernel, by decide⟩
theorem mm_M_sortOf : mj_M mi_M_sortOf 1 := ⟨w1148, w60, by decide, by decide +kernel, by decide⟩
theorem mm_M_readsHead : mj_M mi_M_readsHead 0 := ⟨w1125, w60, by decide, by decide +kernel, by decide⟩
theorem mm_M_ones : mj_M mi_M_ones 1 := ⟨w1151, w60, by decide, by decide +kernel, by decide⟩
theorem mm_M_readsRest : mj_M mi_M_readsRest 0 := ⟨w1145, w60, by decide, by decide +kernel, by decide⟩
theorem mm_M_copies : mj_M mi_M_copies 2 := ⟨w1155, w60, by decide, by decide +kernel, by decide⟩
theorem mm_M_basin : mj_M mi_M_basin 0 := ⟨w1113, w60, by decide, by decide +kernel, by decide⟩
theorem mm_M_fault : mj_M mi_M_fault 0 := ⟨w1159, w60, by decide, by decide +kernel, by decide⟩
theorem mm_M_notes : mj_M mi_M_notes 0 := ⟨w1200, w60, by decide, by decide +kernel, by decide⟩
theorem mm_M_undo : mj_M mi_M_undo 0 := ⟨w1163, w60, by decide, by decide +kernel, by decide⟩
theorem mm_M_dx : mj_M mi_M_dx 1 := ⟨w1178, w60, by decide, by decide +kernel, by decide⟩
theorem mm_M_dy : mj_M mi_M_dy 1 := ⟨w1181, w60, by decide, by decide +kernel, by decide⟩
theorem mm_M_isCell : mj_M mi_M_isCell 2 := ⟨w1196, w60, by decide, by decide +kernel, by decide⟩
theorem mm_M_isFree : mj_M mi_M_isFree 4 := ⟨w1193, w60, by decide, by decide +kernel, by decide⟩
theorem mm_M_fits : mj_M mi_M_fits 5 := ⟨w1190, w60, by decide, by decide +kernel, by decide⟩
theorem mm_M_draughtOf : mj_M mi_M_draughtOf 2 := ⟨w1184, w60, by decide, by decide +kernel, by decide⟩
theorem mm_M_makes : mj_M mi_M_makes 2 := ⟨w1187, w60, by decide, by decide +kernel, by decide⟩
theorem mm_M_minutesOf : mj_M mi_M_minutesOf 3 := ⟨w1203, w60, by decide, by decide +kernel, by decide⟩
theorem mm_M_goes : mj_M mi_M_goes 4 := ⟨w1175, w60, by decide, by decide +kernel, by decide⟩
theorem mm_M_isHand : mj_M mi_M_isHand 1 := ⟨w1172, w60, by decide, by decide +kernel, by decide⟩
theorem mm_M_fitsNow : mj_M mi_M_fitsNow 0 := ⟨w1226, w60, by decide, by decide +kernel, by decide⟩
theorem mm_M_move : mj_M mi_M_move 2 := ⟨w1168, w60, by decide, by decide +kernel, by decide⟩
theorem mm_M_laden : mj_M mi_M_laden 1 := ⟨w1207, w60, by decide, by decide +kernel, by decide⟩
theorem mm_M_boatCells : mj_M mi_M_boatCells 0 := ⟨w1215, w60, by decide, by decide +kernel, by decide⟩
theorem mm_M_moor : mj_M mi_M_moor 2 := ⟨w1211, w60, by decide, by decide +kernel, by decide⟩
theorem mm_M_silts : mj_M mi_M_silts 1 := ⟨w1222, w60, by decide, by decide +kernel, by decide⟩
theorem mm_M_silt : mj_M mi_M_silt 0 := ⟨w1219, w60, by decide, by decide +kernel, by decide⟩
theorem mm_M_boat : mj_M mi_M_boat 1 := ⟨w1230, w60, by decide, by decide +kernel, by decide⟩
theorem mm_M_cell : mj_M mi_M_cell 2 := ⟨w1234, w60, by decide, by decide +kernel, by decide⟩
theorem mm_M_hand : mj_M mi_M_hand 2 := ⟨w1238, w60, by decide, by decide +kernel, by decide⟩
theorem mm_M_node : mj_M mi_M_node 1 := ⟨w1257, w60, by decide, by decide +kernel, by decide⟩
theorem mm_M_puts : mj_M mi_M_puts 2 := ⟨w1254, w60, by decide, by decide +kernel, by decide⟩
theorem mm_M_behind : mj_M mi_M_behind 5 := ⟨w1251, w60, by decide, by decide +kernel, by decide⟩
theorem mm_M_solves : mj_M mi_M_solves 4 := ⟨w1247, w60, by decide, by decide +kernel, by decide⟩
theorem mm_M_firstOf : mj_M mi_M_firstOf 1 := ⟨w1261, w60, by decide, by decide +kernel, by decide⟩
theorem mm_M_turnedOf : mj_M mi_M_turnedOf 2 := ⟨w1269, w60, by decide, by decide +kernel, by decide⟩
theorem mm_M_way : mj_M mi_M_way 3 := ⟨w1243, w60, by decide, by decide +kernel, by decide⟩
theorem mm_M_turned : mj_M mi_M_turned 1 := ⟨w1265, w60, by decide, by decide +kernel, by decide⟩
theorem mm_M_inches : mj_M mi_M_inches 0 := ⟨w1273, w60, by decide, by decide +kernel, by decide⟩
theorem mm_M_inTheWay : mj_M mi_M_inTheWay 1 := ⟨w1277, w60, by decide, by decide +kernel, by decide⟩
theorem mm_M_dig : mj_M mi_M_dig 1 := ⟨w1281, w60, by decide, by decide +kernel, by decide⟩
theorem mm_M_years : mj_M mi_M_years 0 := ⟨w1285, w60, by decide, by decide +kernel, by decide⟩
theorem mm_M_better : mj_M mi_M_better 0 := ⟨w1289, w60, by decide, by decide +kernel, by decide⟩
theorem mm_M_wrongRow : mj_M mi_M_wrongRow 3 := ⟨w1297, w60, by decide, by decide +kernel, by decide⟩
theorem mm_M_plan : mj_M mi_M_plan 4 := ⟨w1293, w60, by decide, by decide +kernel, by decide⟩
theorem mm_M_seen : mj_M mi_M_seen 4 := ⟨w1301, w60, by decide, by decide +kernel, by decide⟩
theorem mm_M_power : mj_M mi_M_power 2 := ⟨w1312, w60, by decide, by decide +kernel, by decide⟩
theorem mm_M_choose : mj_M mi_M_choose 2 := ⟨w1309, w60, by decide, by decide +kernel, by decide⟩
theorem mm_M_gcd : mj_M mi_M_gcd 2 := ⟨w1316, w60, by decide, by decide +kernel, by decide⟩
theorem mm_M_gusts : mj_M mi_M_gusts 4 := ⟨w1305, w60, by decide, by decide +kernel, by decide⟩
theorem mm_M_reach : mj_M mi_M_reach 0 := ⟨w1320, w60, by decide, by decide +kernel, by decide⟩
theorem mm_M_days : mj_M mi_M_days 3 := ⟨w1324, w60, by decide, by decide +kernel, by decide⟩
theorem mm_M_image : mj_M mi_M_image 1 := ⟨w1332, w60, by decide, by decide +kernel, by decide⟩
theorem mm_M_restore : mj_M mi_M_restore 1 := ⟨w1336, w60, by decide, by decide +kernel, by decide⟩
theorem mm_M_kind : mj_M mi_M_kind 1 := ⟨w1340, w60, by decide, by decide +kernel, by decide⟩
theorem mm_M_as : mj_M mi_M_as 2 := ⟨w1344, w60, by decide, by decide +kernel, by decide⟩
theorem mm_M_leaves : mj_M mi_M_leaves 1 := ⟨w1356, w60, by decide, by decide +kernel, by decide⟩
theorem mm_M_plainMark : mj_M mi_M_plainMark 1 := ⟨w1360, w60, by decide, by decide +kernel, by decide⟩
theorem mm_M_sizeOf : mj_M mi_M_sizeOf 1 := ⟨w1352, w60, by decide, by decide +kernel, by decide⟩
theorem mm_M_markOf : mj_M mi_M_markOf 1 := ⟨w1364, w60, by decide, by decide +kernel, by decide⟩
theorem mm_M_ask : mj_M mi_M_ask 2 := ⟨w1348, w60, by decide, by decide +kernel, by decide⟩
theorem mm_M_trace : mj_M mi_M_trace 1 := ⟨w1368, w60, by decide, by decide +kernel, by decide⟩
theorem mm_M_count : mj_M mi_M_count 1 := ⟨w1372, w60, by decide, by decide +kernel, by decide⟩
theorem mm_M_status : mj_M mi_M_status 0 := ⟨w1376, w60, by decide, by decide +kernel, by decide⟩
end
section
/-! ===== instructions ===== -/
theorem d_A_init_0 : decode prog_2_method_1_code 0 = .ok (.aload_n 0, 1) := by decide +kernel
theorem d_A_init_1 : decode prog_2_method_1_code 1 = .ok (.invokespecial 3, 3) := by decide +kernel
theorem d_A_init_4 : decode prog_2_method_1_code 4 = .ok (.aload_n 0, 1) := by decide +kernel
theorem d_A_init_5 : decode prog_2_method_1_code 5 = .ok (.bipush 24, 2) := by decide +kernel
theorem d_A_init_7 : decode prog_2_method_1_code 7 = .ok (.newarray .int, 2) := by decide +kernel
theorem d_A_init_9 : decode prog_2_method_1_code 9 = .ok (.putfield 11, 3) := by decide +kernel
theorem d_A_init_12 : decode prog_2_method_1_code 12 = .ok (.aload_n 0, 1) := by decide +kernel
theorem d_A_init_13 : decode prog_2_method_1_code 13 = .ok (.bipush 24, 2) := by decide +kernel
theorem d_A_init_15 : decode prog_2_method_1_code 15 = .ok (.newarray .int, 2) := by decide +kernel
theorem d_A_init_17 : decode prog_2_method_1_code 17 = .ok (.putfield 15, 3) := by decide +kernel
theorem d_A_init_20 : decode prog_2_method_1_code 20 = .ok (.aload_n 0, 1) := by decide +kernel
theorem d_A_init_21 : decode prog_2_method_1_code 21 = .ok (.bipush 24, 2) := by decide +kernel
theorem d_A_init_23 : decode prog_2_method_1_code 23 = .ok (.newarray .int, 2) := by decide +kernel
theorem d_A_init_25 : decode prog_2_method_1_code 25 = .ok (.putfield 18, 3) := by decide +kernel
theorem d_A_init_28 : decode prog_2_method_1_code 28 = .ok (.aload_n 0, 1) := by decide +kernel
theorem d_A_init_29 : decode prog_2_method_1_code 29 = .ok (.bipush 24, 2) := by decide +kernel
theorem d_A_init_31 : decode prog_2_method_1_code 31 = .ok (.newarray .int, 2) := by decide +kernel
theorem d_A_init_33 : decode prog_2_method_1_code 33 = .ok (.putfield 21, 3) := by decide +kernel
theorem d_A_init_36 : decode prog_2_method_1_code 36 = .ok (.aload_n 0, 1) := by decide +kernel
theorem d_A_init_37 : decode prog_2_method_1_code 37 = .ok (.bipush 24, 2) := by decide +kernel
theorem d_A_init_39 : decode prog_2_method_1_code 39 = .ok (.newarray .int, 2) := by decide +kernel
theorem d_A_init_41 : decode prog_2_method_1_code 41 = .ok (.putfield 24, 3) := by decide +kernel
theorem d_A_init_44 : decode prog_2_method_1_code 44 = .ok (.aload_n 0, 1) := by decide +kernel
theorem d_A_init_45 : decode prog_2_method_1_code 45 = .ok (.bipush 24, 2) := by decide +kernel
theorem d_A_init_47 : decode prog_2_method_1_code 47 = .ok (.newarray .int, 2) := by decide +kernel
theorem d_A_init_49 : decode prog_2_method_1_code 49 = .ok (.putfield 27, 3) := by decide +kernel
theorem d_A_init_52 : decode prog_2_method_1_code 52 = .ok (.return_, 1) := by decide +kernel
theorem d_A_kept_0 : decode prog_2_method_2_code 0 = .ok (.aload_n 0, 1) := by decide +kernel
theorem d_A_kept_1 : decode prog_2_method_2_code 1 = .ok (.getfield 30, 3) := by decide +kernel
theorem d_A_kept_4 : decode prog_2_method_2_code 4 = .ok (.ireturn, 1) := by decide +kernel
theorem d_A_forget_0 : decode prog_2_method_3_code 0 = .ok (.aload_n 0, 1) := by decide +kernel
theorem d_A_forget_1 : decode prog_2_method_3_code 1 = .ok (.iconst 0, 1) := by decide +kernel
theorem d_A_forget_2 : decode prog_2_method_3_code 2 = .ok (.putfield 30, 3) := by decide +kernel
theorem d_A_forget_5 : decode prog_2_method_3_code 5 = .ok (.return_, 1) := by decide +kernel
theorem d_A_keep_0 : decode prog_2_method_4_code 0 = .ok (.aload_n 0, 1) := by decide +kernel
theorem d_A_keep_1 : decode prog_2_method_4_code 1 = .ok (.getfield 11, 3) := by decide +kernel
theorem d_A_keep_4 : decode prog_2_method_4_code 4 = .ok (.aload_n 0, 1) := by decide +kernel
theorem d_A_keep_5 : decode prog_2_method_4_code 5 = .ok (.getfield 34, 3) := by decide +kernel
theorem d_A_keep_8 : decode prog_2_method_4_code 8 = .ok (.aload_n 1, 1) := by decide +kernel
theorem d_A_keep_9 : decode prog_2_method_4_code 9 = .ok (.getfield 37, 3) := by decide +kernel
theorem d_A_keep_12 : decode prog_2_method_4_code 12 = .ok (.invokestatic 41, 3) := by decide +kernel
theorem d_A_keep_15 : decode prog_2_method_4_code 15 = .ok (.aload_n 0, 1) := by decide +kernel
theorem d_A_keep_16 : decode prog_2_method_4_code 16 = .ok (.getfield 15, 3) := by decide +kernel
theorem d_A_keep_19 : decode prog_2_method_4_code 19 = .ok (.aload_n 0, 1) := by decide +kernel
theorem d_A_keep_20 : decode prog_2_method_4_code 20 = .ok (.getfield 34, 3) := by decide +kernel
theorem d_A_keep_23 : decode prog_2_method_4_code 23 = .ok (.aload_n 1, 1) := by decide +kernel
theorem d_A_keep_24 : decode prog_2_method_4_code 24 = .ok (.getfield 45, 3) := by decide +kernel
theorem d_A_keep_27 : decode prog_2_method_4_code 27 = .ok (.invokestatic 41, 3) := by decide +kernel
theorem d_A_keep_30 : decode prog_2_method_4_code 30 = .ok (.aload_n 0, 1) := by decide +kernel
theorem d_A_keep_31 : decode prog_2_method_4_code 31 = .ok (.getfield 18, 3) := by decide +kernel
theorem d_A_keep_34 : decode prog_2_method_4_code 34 = .ok (.aload_n 0, 1) := by decide +kernel
theorem d_A_keep_35 : decode prog_2_method_4_code 35 = .ok (.getfield 34, 3) := by decide +kernel
theorem d_A_keep_38 : decode prog_2_method_4_code 38 = .ok (.aload_n 1, 1) := by decide +kernel
theorem d_A_keep_39 : decode prog_2_method_4_code 39 = .ok (.getfield 47, 3) := by decide +kernel
theorem d_A_keep_42 : decode prog_2_method_4_code 42 = .ok (.invokestatic 41, 3) := by decide +kernel
theorem d_A_keep_45 : decode prog_2_method_4_code 45 = .ok (.aload_n 0, 1) := by decide +kernel
theorem d_A_keep_46 : decode prog_2_method_4_code 46 = .ok (.getfield 21, 3) := by decide +kernel
theorem d_A_keep_49 : decode prog_2_method_4_code 49 = .ok (.aload_n 0, 1) := by decide +kernel
theorem d_A_keep_50 : decode prog_2_method_4_code 50 = .ok (.getfield 34, 3) := by decide +kernel
theorem d_A_keep_53 : decode prog_2_method_4_code 53 = .ok (.aload_n 1, 1) := by decide +kernel
theorem d_A_keep_54 : decode prog_2_method_4_code 54 = .ok (.getfield 49, 3) := by decide +kernel
theorem d_A_keep_57 : decode prog_2_method_4_code 57 = .ok (.invokestatic 41, 3) := by decide +kernel
theorem d_A_keep_60 : decode prog_2_method_4_code 60 = .ok (.aload_n 0, 1) := by decide +kernel
theorem d_A_keep_61 : decode prog_2_method_4_code 61 = .ok (.getfield 24, 3) := by decide +kernel
theorem d_A_keep_64 : decode prog_2_method_4_code 64 = .ok (.aload_n 0, 1) := by decide +kernel
theorem d_A_keep_65 : decode prog_2_method_4_code 65 = .ok (.getfield 34, 3) := by decide +kernel
theorem d_A_keep_68 : decode prog_2_method_4_code 68 = .ok (.aload_n 1, 1) := by decide +kernel
theorem d_A_keep_69 : decode prog_2_method_4_code 69 = .ok (.getfield 51, 3) := by decide +kernel
theorem d_A_keep_72 : decode prog_2_method_4_code 72 = .ok (.invokestatic 41, 3) := by decide +kernel
theorem d_A_keep_75 : decode prog_2_method_4_code 75 = .ok (.aload_n 0, 1) := by decide +kernel
theorem d_A_keep_76 : decode prog_2_method_4_code 76 = .ok (.getfield 27, 3) := by decide +kernel
theorem d_A_keep_79 : decode prog_2_method_4_code 79 = .ok (.aload_n 0, 1) := by decide +kernel
theorem d_A_keep_80 : decode prog_2_method_4_code 80 = .ok (.getfield 34, 3) := by decide +kernel
theorem d_A_keep_83 : decode prog_2_method_4_code 83 = .ok (.iload_n 2, 1) := by decide +kernel
theorem d_A_keep_84 : decode prog_2_method_4_code 84 = .ok (.invokestatic 41, 3) := by decide +kernel
theorem d_A_keep_87 : decode prog_2_method_4_code 87 = .ok (.aload_n 0, 1) := by decide +kernel
theorem d_A_keep_88 : decode prog_2_method_4_code 88 = .ok (.aload_n 0, 1) := by decide +kernel
theorem d_A_keep_89 : decode prog_2_method_4_code 89 = .ok (.getfield 34, 3) := by decide +kernel
theorem d_A_keep_92 : decode prog_2_method_4_code 92 = .ok (.iconst 1, 1) := by decide +kernel
theorem d_A_keep_93 : decode prog_2_method_4_code 93 = .ok (.iadd, 1) := by decide +kernel
theorem d_A_keep_94 : decode prog_2_method_4_code 94 = .ok (.bipush 24, 2) := by decide +kernel
theorem d_A_keep_96 : decode prog_2_method_4_code 96 = .ok (.irem, 1) := by decide +kernel
theorem d_A_keep_97 : decode prog_2_method_4_code 97 = .ok (.putfield 34, 3) := by decide +kernel
theorem d_A_keep_100 : decode prog_2_method_4_code 100 = .ok (.aload_n 0, 1) := by decide +kernel
theorem d_A_keep_101 : decode prog_2_method_4_code 101 = .ok (.bipush 24, 2) := by decide +kernel
theorem d_A_keep_103 : decode prog_2_method_4_code 103 = .ok (.aload_n 0, 1) := by decide +kernel
theorem d_A_keep_104 : decode prog_2_method_4_code 104 = .ok (.getfield 30, 3) := by decide +kernel
theorem d_A_keep_107 : decode prog_2_method_4_code 107 = .ok (.iconst 1, 1) := by decide +kernel
theorem d_A_keep_108 : decode prog_2_method_4_code 108 = .ok (.iadd, 1) := by decide +kernel
theorem d_A_keep_109 : decode prog_2_method_4_code 109 = .ok (.invokestatic 53, 3) := by decide +kernel
theorem d_A_keep_112 : decode prog_2_method_4_code 112 = .ok (.putfield 30, 3) := by decide +kernel
theorem d_A_keep_115 : decode prog_2_method_4_code 115 = .ok (.return_, 1) := by decide +kernel
theorem d_A_takeBack_0 : decode prog_2_method_5_code 0 = .ok (.aload_n 0, 1) := by decide +kernel
theorem d_A_takeBack_1 : decode prog_2_method_5_code 1 = .ok (.aload_n 0, 1) := by decide +kernel
theorem d_A_takeBack_2 : decode prog_2_method_5_code 2 = .ok (.getfield 34, 3) := by decide +kernel
theorem d_A_takeBack_5 : decode prog_2_method_5_code 5 = .ok (.bipush 24, 2) := by decide +kernel
theorem d_A_takeBack_7 : decode prog_2_method_5_code 7 = .ok (.iadd, 1) := by decide +kernel
theorem d_A_takeBack_8 : decode prog_2_method_5_code 8 = .ok (.iconst 1, 1) := by decide +kernel
theorem d_A_takeBack_9 : decode prog_2_method_5_code 9 = .ok (.isub, 1) := by decide +kernel
theorem d_A_takeBack_10 : decode prog_2_method_5_code 10 = .ok (.bipush 24, 2) := by decide +kernel
theorem d_A_takeBack_12 : decode prog_2_method_5_code 12 = .ok (.irem, 1) := by decide +kernel
theorem d_A_takeBack_13 : decode prog_2_method_5_code 13 = .ok (.putfield 34, 3) := by decide +kernel
theorem d_A_takeBack_16 : decode prog_2_method_5_code 16 = .ok (.aload_n 0, 1) := by decide +kernel
theorem d_A_takeBack_17 : decode prog_2_method_5_code 17 = .ok (.iconst 0, 1) := by decide +kernel
theorem d_A_takeBack_18 : decode prog_2_method_5_code 18 = .ok (.aload_n 0, 1) := by decide +kernel
theorem d_A_takeBack_19 : decode prog_2_method_5_code 19 = .ok (.getfield 30, 3) := by decide +kernel
theorem d_A_takeBack_22 : decode prog_2_method_5_code 22 = .ok (.iconst 1, 1) := by decide +kernel
theorem d_A_takeBack_23 : decode prog_2_method_5_code 23 = .ok (.isub, 1) := by decide +kernel
theorem d_A_takeBack_24 : decode prog_2_method_5_code 24 = .ok (.invokestatic 59, 3) := by decide +kernel
theorem d_A_takeBack_27 : decode prog_2_method_5_code 27 = .ok (.putfield 30, 3) := by decide +kernel
theorem d_A_takeBack_30 : decode prog_2_method_5_code 30 = .ok (.aload_n 1, 1) := by decide +kernel
theorem d_A_takeBack_31 : decode prog_2_method_5_code 31 = .ok (.aload_n 0, 1) := by decide +kernel
theorem d_A_takeBack_32 : decode prog_2_method_5_code 32 = .ok (.getfield 11, 3) := by decide +kernel
theorem d_A_takeBack_35 : decode prog_2_method_5_code 35 = .ok (.aload_n 0, 1) := by decide +kernel
theorem d_A_takeBack_36 : decode prog_2_method_5_code 36 = .ok (.getfield 34, 3) := by decide +kernel
theorem d_A_takeBack_39 : decode prog_2_method_5_code 39 = .ok (.invokestatic 62, 3) := by decide +kernel
theorem d_A_takeBack_42 : decode prog_2_method_5_code 42 = .ok (.putfield 37, 3) := by decide +kernel
theorem d_A_takeBack_45 : decode prog_2_method_5_code 45 = .ok (.aload_n 1, 1) := by decide +kernel
theorem d_A_takeBack_46 : decode prog_2_method_5_code 46 = .ok (.aload_n 0, 1) := by decide +kernel
theorem d_A_takeBack_47 : decode prog_2_method_5_code 47 = .ok (.getfield 15, 3) := by decide +kernel
theorem d_A_takeBack_50 : decode prog_2_method_5_code 50 = .ok (.aload_n 0, 1) := by decide +kernel
theorem d_A_takeBack_51 : decode prog_2_method_5_code 51 = .ok (.getfield 34, 3) := by decide +kernel
theorem d_A_takeBack_54 : decode prog_2_method_5_code 54 = .ok (.invokestatic 62, 3) := by decide +kernel
theorem d_A_takeBack_57 : decode prog_2_method_5_code 57 = .ok (.putfield 45, 3) := by decide +kernel
theorem d_A_takeBack_60 : decode prog_2_method_5_code 60 = .ok (.aload_n 1, 1) := by decide +kernel
theorem d_A_takeBack_61 : decode prog_2_method_5_code 61 = .ok (.aload_n 0, 1) := by decide +kernel
theorem d_A_takeBack_62 : decode prog_2_method_5_code 62 = .ok (.getfield 18, 3) := by decide +kernel
theorem d_A_takeBack_65 : decode prog_2_method_5_code 65 = .ok (.aload_n 0, 1) := by decide +kernel
theorem d_A_takeBack_66 : decode prog_2_method_5_code 66 = .ok (.getfield 34, 3) := by decide +kernel
theorem d_A_takeBack_69 : decode prog_2_method_5_code 69 = .ok (.invokestatic 62, 3) := by decide +kernel
theorem d_A_takeBack_72 : decode prog_2_method_5_code 72 = .ok (.putfield 47, 3) := by decide +kernel
theorem d_A_takeBack_75 : decode prog_2_method_5_code 75 = .ok (.aload_n 1, 1) := by decide +kernel
theorem d_A_takeBack_76 : decode prog_2_method_5_code 76 = .ok (.aload_n 0, 1) := by decide +kernel
theorem d_A_takeBack_77 : decode prog_2_method_5_code 77 = .ok (.getfield 21, 3) := by decide +kernel
theorem d_A_takeBack_80 : decode prog_2_method_5_code 80 = .ok (.aload_n 0, 1) := by decide +kernel
theorem d_A_takeBack_81 : decode prog_2_method_5_code 81 = .ok (.getfield 34, 3) := by decide +kernel
theorem d_A_takeBack_84 : decode prog_2_method_5_code 84 = .ok (.invokestatic 62, 3) := by decide +kernel
theorem d_A_takeBack_87 : decode prog_2_method_5_code 87 = .ok (.putfield 49, 3) := by decide +kernel
theorem d_A_takeBack_90 : decode prog_2_method_5_code 90 = .ok (.aload_n 1, 1) := by decide +kernel
theorem d_A_takeBack_91 : decode prog_2_method_5_code 91 = .ok (.aload_n 0, 1) := by decide +kernel
theorem d_A_takeBack_92 : decode prog_2_method_5_code 92 = .ok (.getfield 24, 3) := by decide +kernel
theorem d_A_takeBack_95 : decode prog_2_method_5_code 95 = .ok (.aload_n 0, 1) := by decide +kernel
theorem d_A_takeBack_96 : decode prog_2_method_5_code 96 = .ok (.getfield 34, 3) := by decide +kernel
theorem d_A_takeBack_99 : decode prog_2_method_5_code 99 = .ok (.invokestatic 62, 3) := by decide +kernel
theorem d_A_takeBack_102 : decode prog_2_method_5_code 102 = .ok (.putfield 51, 3) := by decide +kernel
theorem d_A_takeBack_105 : decode prog_2_method_5_code 105 = .ok (.iconst 0, 1) := by decide +kernel
theorem d_A_takeBack_106 : decode prog_2_method_5_code 106 = .ok (.istore_n 2, 1) := by decide +kernel
theorem d_A_takeBack_107 : decode prog_2_method_5_code 107 = .ok (.iload_n 2, 1) := by decide +kernel
theorem d_A_takeBack_108 : decode prog_2_method_5_code 108 = .ok (.bipush 24, 2) := by decide +kernel
theorem d_A_takeBack_110 : decode prog_2_method_5_code 110 = .ok (.if_icmp .ge 41, 3) := by decide +kernel
theorem d_A_takeBack_113 : decode prog_2_method_5_code 113 = .ok (.aload_n 1, 1) := by decide +kernel
theorem d_A_takeBack_114 : decode prog_2_method_5_code 114 = .ok (.getfield 66, 3) := by decide +kernel
theorem d_A_takeBack_117 : decode prog_2_method_5_code 117 = .ok (.iload_n 2, 1) := by decide +kernel
theorem d_A_takeBack_118 : decode prog_2_method_5_code 118 = .ok (.aload_n 1, 1) := by decide +kernel
theorem d_A_takeBack_119 : decode prog_2_method_5_code 119 = .ok (.getfield 66, 3) := by decide +kernel
theorem d_A_takeBack_122 : decode prog_2_method_5_code 122 = .ok (.iload_n 2, 1) := by decide +kernel
theorem d_A_takeBack_123 : decode prog_2_method_5_code 123 = .ok (.invokestatic 62, 3) := by decide +kernel
theorem d_A_takeBack_126 : decode prog_2_method_5_code 126 = .ok (.aload_n 0, 1) := by decide +kernel
theorem d_A_takeBack_127 : decode prog_2_method_5_code 127 = .ok (.getfield 27, 3) := by decide +kernel
theorem d_A_takeBack_130 : decode prog_2_method_5_code 130 = .ok (.aload_n 0, 1) := by decide +kernel
theorem d_A_takeBack_131 : decode prog_2_method_5_code 131 = .ok (.getfield 34, 3) := by decide +kernel
theorem d_A_takeBack_134 : decode prog_2_method_5_code 134 = .ok (.invokestatic 62, 3) := by decide +kernel
theorem d_A_takeBack_137 : decode prog_2_method_5_code 137 = .ok (.iload_n 2, 1) := by decide +kernel
theorem d_A_takeBack_138 : decode prog_2_method_5_code 138 = .ok (.invokestatic 69, 3) := by decide +kernel
theorem d_A_takeBack_141 : decode prog_2_method_5_code 141 = .ok (.iadd, 1) := by decide +kernel
theorem d_A_takeBack_142 : decode prog_2_method_5_code 142 = .ok (.invokestatic 41, 3) := by decide +kernel
theorem d_A_takeBack_145 : decode prog_2_method_5_code 145 = .ok (.iinc 2 1, 3) := by decide +kernel
theorem d_A_takeBack_148 : decode prog_2_method_5_code 148 = .ok (.goto (-41), 3) := by decide +kernel
theorem d_A_takeBack_151 : decode prog_2_method_5_code 151 = .ok (.return_, 1) := by decide +kernel
theorem d_B_init_0 : decode prog_3_method_1_code 0 = .ok (.aload_n 0, 1) := by decide +kernel
theorem d_B_init_1 : decode prog_3_method_1_code 1 = .ok (.invokespecial 3, 3) := by decide +kernel
theorem d_B_init_4 : decode prog_3_method_1_code 4 = .ok (.aload_n 0, 1) := by decide +kernel
theorem d_B_init_5 : decode prog_3_method_1_code 5 = .ok (.bipush 24, 2) := by decide +kernel
theorem d_B_init_7 : decode prog_3_method_1_code 7 = .ok (.newarray .int, 2) := by decide +kernel
theorem d_B_init_9 : decode prog_3_method_1_code 9 = .ok (.putfield 9, 3) := by decide +kernel
theorem d_B_init_12 : decode prog_3_method_1_code 12 = .ok (.aload_n 0, 1) := by decide +kernel
theorem d_B_init_13 : decode prog_3_method_1_code 13 = .ok (.iconst 4, 1) := by decide +kernel
theorem d_B_init_14 : decode prog_3_method_1_code 14 = .ok (.anewarray 15, 3) := by decide +kernel
theorem d_B_init_17 : decode prog_3_method_1_code 17 = .ok (.putfield 17, 3) := by decide +kernel
theorem d_B_init_20 : decode prog_3_method_1_code 20 = .ok (.return_, 1) := by decide +kernel
theorem d_B_clear_0 : decode prog_3_method_2_code 0 = .ok (.aload_n 0, 1) := by decide +kernel
theorem d_B_clear_1 : decode prog_3_method_2_code 1 = .ok (.iconst 0, 1) := by decide +kernel
theorem d_B_clear_2 : decode prog_3_method_2_code 2 = .ok (.putfield 21, 3) := by decide +kernel
theorem d_B_clear_5 : decode prog_3_method_2_code 5 = .ok (.aload_n 0, 1) := by decide +kernel
theorem d_B_clear_6 : decode prog_3_method_2_code 6 = .ok (.iconst 0, 1) := by decide +kernel
theorem d_B_clear_7 : decode prog_3_method_2_code 7 = .ok (.putfield 25, 3) := by decide +kernel
theorem d_B_clear_10 : decode prog_3_method_2_code 10 = .ok (.aload_n 0, 1) := by decide +kernel
theorem d_B_clear_11 : decode prog_3_method_2_code 11 = .ok (.iconst 0, 1) := by decide +kernel
theorem d_B_clear_12 : decode prog_3_method_2_code 12 = .ok (.putfield 28, 3) := by decide +kernel
theorem d_B_clear_15 : decode prog_3_method_2_code 15 = .ok (.aload_n 0, 1) := by decide +kernel
theorem d_B_clear_16 : decode prog_3_method_2_code 16 = .ok (.iconst 0, 1) := by decide +kernel
theorem d_B_clear_17 : decode prog_3_method_2_code 17 = .ok (.putfield 31, 3) := by decide +kernel
theorem d_B_clear_20 : decode prog_3_method_2_code 20 = .ok (.return_, 1) := by decide +kernel
theorem d_B_become_0 : decode prog_3_method_3_code 0 = .ok (.aload_n 0, 1) := by decide +kernel
theorem d_B_become_1 : decode prog_3_method_3_code 1 = .ok (.aload_n 1, 1) := by decide +kernel
theorem d_B_become_2 : decode prog_3_method_3_code 2 = .ok (.getfield 34, 3) := by decide +kernel
theorem d_B_become_5 : decode prog_3_method_3_code 5 = .ok (.putfield 34, 3) := by decide +kernel
theorem d_B_become_8 : decode prog_3_method_3_code 8 = .ok (.aload_n 0, 1) := by decide +kernel
theorem d_B_become_9 : decode prog_3_method_3_code 9 = .ok (.aload_n 1, 1) := by decide +kernel
theorem d_B_become_10 : decode prog_3_method_3_code 10 = .ok (.getfield 37, 3) := by decide +kernel
theorem d_B_become_13 : decode prog_3_method_3_code 13 = .ok (.putfield 37, 3) := by decide +kernel
theorem d_B_become_16 : decode prog_3_method_3_code 16 = .ok (.aload_n 0, 1) := by decide +kernel
theorem d_B_become_17 : decode prog_3_method_3_code 17 = .ok (.aload_n 1, 1) := by decide +kernel
theorem d_B_become_18 : decode prog_3_method_3_code 18 = .ok (.getfield 40, 3) := by decide +kernel
theorem d_B_become_21 : decode prog_3_method_3_code 21 = .ok (.putfield 40, 3) := by decide +kernel
theorem d_B_become_24 : decode prog_3_method_3_code 24 = .ok (.aload_n 0, 1) := by decide +kernel
theorem d_B_become_25 : decode prog_3_method_3_code 25 = .ok (.aload_n 1, 1) := by decide +kernel
theorem d_B_become_26 : decode prog_3_method_3_code 26 = .ok (.getfield 43, 3) := by decide +kernel
theorem d_B_become_29 : decode prog_3_method_3_code 29 = .ok (.putfield 43, 3) := by decide +kernel
theorem d_B_become_32 : decode prog_3_method_3_code 32 = .ok (.aload_n 0, 1) := by decide +kernel
theorem d_B_become_33 : decode prog_3_method_3_code 33 = .ok (.aload_n 1, 1) := by decide +kernel
theorem d_B_become_34 : decode prog_3_method_3_code 34 = .ok (.getfield 46, 3) := by decide +kernel
theorem d_B_become_37 : decode prog_3_method_3_code 37 = .ok (.putfield 46, 3) := by decide +kernel
theorem d_B_become_40 : decode prog_3_method_3_code 40 = .ok (.aload_n 0, 1) := by decide +kernel
theorem d_B_become_41 : decode prog_3_method_3_code 41 = .ok (.aload_n 1, 1) := by decide +kernel
theorem d_B_become_42 : decode prog_3_method_3_code 42 = .ok (.getfield 21, 3) := by decide +kernel
theorem d_B_become_45 : decode prog_3_method_3_code 45 = .ok (.putfield 21, 3) := by decide +kernel
theorem d_B_become_48 : decode prog_3_method_3_code 48 = .ok (.aload_n 0, 1) := by decide +kernel
theorem d_B_become_49 : decode prog_3_method_3_code 49 = .ok (.aload_n 1, 1) := by decide +kernel
theorem d_B_become_50 : decode prog_3_method_3_code 50 = .ok (.getfield 25, 3) := by decide +kernel
theorem d_B_become_53 : decode prog_3_method_3_code 53 = .ok (.putfield 25, 3) := by decide +kernel
theorem d_B_become_56 : decode prog_3_method_3_code 56 = .ok (.aload_n 0, 1) := by decide +kernel
theorem d_B_become_57 : decode prog_3_method_3_code 57 = .ok (.aload_n 1, 1) := by decide +kernel
theorem d_B_become_58 : decode prog_3_method_3_code 58 = .ok (.getfield 28, 3) := by decide +kernel
theorem d_B_become_61 : decode prog_3_method_3_code 61 = .ok (.putfield 28, 3) := by decide +kernel
theorem d_B_become_64 : decode prog_3_method_3_code 64 = .ok (.aload_n 0, 1) := by decide +kernel
theorem d_B_become_65 : decode prog_3_method_3_code 65 = .ok (.aload_n 1, 1) := by decide +kernel
theorem d_B_become_66 : decode prog_3_method_3_code 66 = .ok (.getfield 31, 3) := by decide +kernel
theorem d_B_become_69 : decode prog_3_method_3_code 69 = .ok (.putfield 31, 3) := by decide +kernel
theorem d_B_become_72 : decode prog_3_method_3_code 72 = .ok (.iconst 0, 1) := by decide +kernel
theorem d_B_become_73 : decode prog_3_method_3_code 73 = .ok (.istore_n 2, 1) := by decide +kernel
theorem d_B_become_74 : decode prog_3_method_3_code 74 = .ok (.iload_n 2, 1) := by decide +kernel
theorem d_B_become_75 : decode prog_3_method_3_code 75 = .ok (.bipush 24, 2) := by decide +kernel
theorem d_B_become_77 : decode prog_3_method_3_code 77 = .ok (.if_icmp .ge 25, 3) := by decide +kernel
theorem d_B_become_80 : decode prog_3_method_3_code 80 = .ok (.aload_n 0, 1) := by decide +kernel
theorem d_B_become_81 : decode prog_3_method_3_code 81 = .ok (.getfield 9, 3) := by decide +kernel
theorem d_B_become_84 : decode prog_3_method_3_code 84 = .ok (.iload_n 2, 1) := by decide +kernel
theorem d_B_become_85 : decode prog_3_method_3_code 85 = .ok (.aload_n 1, 1) := by decide +kernel
theorem d_B_become_86 : decode prog_3_method_3_code 86 = .ok (.getfield 9, 3) := by decide +kernel
theorem d_B_become_89 : decode prog_3_method_3_code 89 = .ok (.iload_n 2, 1) := by decide +kernel
theorem d_B_become_90 : decode prog_3_method_3_code 90 = .ok (.invokestatic 49, 3) := by decide +kernel
theorem d_B_become_93 : decode prog_3_method_3_code 93 = .ok (.invokestatic 53, 3) := by decide +kernel
theorem d_B_become_96 : decode prog_3_method_3_code 96 = .ok (.iinc 2 1, 3) := by decide +kernel
theorem d_B_become_99 : decode prog_3_method_3_code 99 = .ok (.goto (-25), 3) := by decide +kernel
theorem d_B_become_102 : decode prog_3_method_3_code 102 = .ok (.iconst 0, 1) := by decide +kernel
theorem d_B_become_103 : decode prog_3_method_3_code 103 = .ok (.istore_n 2, 1) := by decide +kernel
theorem d_B_become_104 : decode prog_3_method_3_code 104 = .ok (.iload_n 2, 1) := by decide +kernel
theorem d_B_become_105 : decode prog_3_method_3_code 105 = .ok (.aload_n 0, 1) := by decide +kernel
theorem d_B_become_106 : decode prog_3_method_3_code 106 = .ok (.getfield 17, 3) := by decide +kernel
theorem d_B_become_109 : decode prog_3_method_3_code 109 = .ok (.arraylength, 1) := by decide +kernel
theorem d_B_become_110 : decode prog_3_method_3_code 110 = .ok (.if_icmp .ge 30, 3) := by decide +kernel
theorem d_B_become_113 : decode prog_3_method_3_code 113 = .ok (.iload_n 2, 1) := by decide +kernel
theorem d_B_become_114 : decode prog_3_method_3_code 114 = .ok (.aload_n 1, 1) := by decide +kernel
theorem d_B_become_115 : decode prog_3_method_3_code 115 = .ok (.getfield 17, 3) := by decide +kernel
theorem d_B_become_118 : decode prog_3_method_3_code 118 = .ok (.arraylength, 1) := by decide +kernel
theorem d_B_become_119 : decode prog_3_method_3_code 119 = .ok (.if_icmp .ge 21, 3) := by decide +kernel
theorem d_B_become_122 : decode prog_3_method_3_code 122 = .ok (.aload_n 0, 1) := by decide +kernel
theorem d_B_become_123 : decode prog_3_method_3_code 123 = .ok (.getfield 17, 3) := by decide +kernel
theorem d_B_become_126 : decode prog_3_method_3_code 126 = .ok (.iload_n 2, 1) := by decide +kernel
theorem d_B_become_127 : decode prog_3_method_3_code 127 = .ok (.aload_n 1, 1) := by decide +kernel
theorem d_B_become_128 : decode prog_3_method_3_code 128 = .ok (.getfield 17, 3) := by decide +kernel
theorem d_B_become_131 : decode prog_3_method_3_code 131 = .ok (.iload_n 2, 1) := by decide +kernel
theorem d_B_become_132 : decode prog_3_method_3_code 132 = .ok (.aaload, 1) := by decide +kernel
theorem d_B_become_133 : decode prog_3_method_3_code 133 = .ok (.aastore, 1) := by decide +kernel
theorem d_B_become_134 : decode prog_3_method_3_code 134 = .ok (.iinc 2 1, 3) := by decide +kernel
theorem d_B_become_137 : decode prog_3_method_3_code 137 = .ok (.goto (-33), 3) := by decide +kernel
theorem d_B_become_140 : decode prog_3_method_3_code 140 = .ok (.return_, 1) := by decide +kernel
theorem d_B_addHand_0 : decode prog_3_method_4_code 0 = .ok (.aload_n 0, 1) := by decide +kernel
theorem d_B_addHand_1 : decode prog_3_method_4_code 1 = .ok (.getfield 31, 3) := by decide +kernel
theorem d_B_addHand_4 : decode prog_3_method_4_code 4 = .ok (.aload_n 0, 1) := by decide +kernel
theorem d_B_addHand_5 : decode prog_3_method_4_code 5 = .ok (.getfield 17, 3) := by decide +kernel
theorem d_B_addHand_8 : decode prog_3_method_4_code 8 = .ok (.arraylength, 1) := by decide +kernel
theorem d_B_addHand_9 : decode prog_3_method_4_code 9 = .ok (.invokestatic 57, 3) := by decide +kernel
theorem d_B_addHand_12 : decode prog_3_method_4_code 12 = .ok (.ifCond .eq 23, 3) := by decide +kernel
theorem d_B_addHand_15 : decode prog_3_method_4_code 15 = .ok (.aload_n 0, 1) := by decide +kernel
theorem d_B_addHand_16 : decode prog_3_method_4_code 16 = .ok (.getfield 17, 3) := by decide +kernel
theorem d_B_addHand_19 : decode prog_3_method_4_code 19 = .ok (.aload_n 0, 1) := by decide +kernel
theorem d_B_addHand_20 : decode prog_3_method_4_code 20 = .ok (.getfield 31, 3) := by decide +kernel
theorem d_B_addHand_23 : decode prog_3_method_4_code 23 = .ok (.aload_n 1, 1) := by decide +kernel
theorem d_B_addHand_24 : decode prog_3_method_4_code 24 = .ok (.aastore, 1) := by decide +kernel
theorem d_B_addHand_25 : decode prog_3_method_4_code 25 = .ok (.aload_n 0, 1) := by decide +kernel
theorem d_B_addHand_26 : decode prog_3_method_4_code 26 = .ok (.dup, 1) := by decide +kernel
theorem d_B_addHand_27 : decode prog_3_method_4_code 27 = .ok (.getfield 31, 3) := by decide +kernel
theorem d_B_addHand_30 : decode prog_3_method_4_code 30 = .ok (.iconst 1, 1) := by decide +kernel
theorem d_B_addHand_31 : decode prog_3_method_4_code 31 = .ok (.iadd, 1) := by decide +kernel
theorem d_B_addHand_32 : decode prog_3_method_4_code 32 = .ok (.putfield 31, 3) := by decide +kernel
theorem d_B_addHand_35 : decode prog_3_method_4_code 35 = .ok (.return_, 1) := by decide +kernel
theorem d_B_handAt_0 : decode prog_3_method_5_code 0 = .ok (.iload_n 1, 1) := by decide +kernel
theorem d_B_handAt_1 : decode prog_3_method_5_code 1 = .ok (.aload_n 0, 1) := by decide +kernel
theorem d_B_handAt_2 : decode prog_3_method_5_code 2 = .ok (.getfield 31, 3) := by decide +kernel
theorem d_B_handAt_5 : decode prog_3_method_5_code 5 = .ok (.invokestatic 57, 3) := by decide +kernel
theorem d_B_handAt_8 : decode prog_3_method_5_code 8 = .ok (.ifCond .eq 21, 3) := by decide +kernel
theorem d_B_handAt_11 : decode prog_3_method_5_code 11 = .ok (.iload_n 1, 1) := by decide +kernel
theorem d_B_handAt_12 : decode prog_3_method_5_code 12 = .ok (.aload_n 0, 1) := by decide +kernel
theorem d_B_handAt_13 : decode prog_3_method_5_code 13 = .ok (.getfield 17, 3) := by decide +kernel
theorem d_B_handAt_16 : decode prog_3_method_5_code 16 = .ok (.arraylength, 1) := by decide +kernel
theorem d_B_handAt_17 : decode prog_3_method_5_code 17 = .ok (.if_icmp .ge 12, 3) := by decide +kernel
theorem d_B_handAt_20 : decode prog_3_method_5_code 20 = .ok (.aload_n 0, 1) := by decide +kernel
theorem d_B_handAt_21 : decode prog_3_method_5_code 21 = .ok (.getfield 17, 3) := by decide +kernel
theorem d_B_handAt_24 : decode prog_3_method_5_code 24 = .ok (.iload_n 1, 1) := by decide +kernel
theorem d_B_handAt_25 : decode prog_3_method_5_code 25 = .ok (.aaload, 1) := by decide +kernel
theorem d_B_handAt_26 : decode prog_3_method_5_code 26 = .ok (.goto 4, 3) := by decide +kernel
theorem d_B_handAt_29 : decode prog_3_method_5_code 29 = .ok (.aconst_null, 1) := by decide +kernel
theorem d_B_handAt_30 : decode prog_3_method_5_code 30 = .ok (.areturn, 1) := by decide +kernel
theorem d_B_sinks_0 : decode prog_3_method_6_code 0 = .ok (.aload_n 0, 1) := by decide +kernel
theorem d_B_sinks_1 : decode prog_3_method_6_code 1 = .ok (.getfield 21, 3) := by decide +kernel
theorem d_B_sinks_4 : decode prog_3_method_6_code 4 = .ok (.iconst 1, 1) := by decide +kernel
theorem d_B_sinks_5 : decode prog_3_method_6_code 5 = .ok (.if_icmp .ne 15, 3) := by decide +kernel
theorem d_B_sinks_8 : decode prog_3_method_6_code 8 = .ok (.aload_n 0, 1) := by decide +kernel
theorem d_B_sinks_9 : decode prog_3_method_6_code 9 = .ok (.getfield 37, 3) := by decide +kernel
theorem d_B_sinks_12 : decode prog_3_method_6_code 12 = .ok (.aload_n 0, 1) := by decide +kernel
theorem d_B_sinks_13 : decode prog_3_method_6_code 13 = .ok (.getfield 40, 3) := by decide +kernel
theorem d_B_sinks_16 : decode prog_3_method_6_code 16 = .ok (.iadd, 1) := by decide +kernel
theorem d_B_sinks_17 : decode prog_3_method_6_code 17 = .ok (.goto 7, 3) := by decide +kernel
theorem d_B_sinks_20 : decode prog_3_method_6_code 20 = .ok (.aload_n 0, 1) := by decide +kernel
theorem d_B_sinks_21 : decode prog_3_method_6_code 21 = .ok (.getfield 37, 3) := by decide +kernel
theorem d_B_sinks_24 : decode prog_3_method_6_code 24 = .ok (.ireturn, 1) := by decide +kernel
theorem d_B_isBlown_0 : decode prog_3_method_7_code 0 = .ok (.aload_n 0, 1) := by decide +kernel
theorem d_B_isBlown_1 : decode prog_3_method_7_code 1 = .ok (.getfield 21, 3) := by decide +kernel
theorem d_B_isBlown_4 : decode prog_3_method_7_code 4 = .ok (.ifCond .ne 14, 3) := by decide +kernel
theorem d_B_isBlown_7 : decode prog_3_method_7_code 7 = .ok (.aload_n 0, 1) := by decide +kernel
theorem d_B_isBlown_8 : decode prog_3_method_7_code 8 = .ok (.getfield 34, 3) := by decide +kernel
theorem d_B_isBlown_11 : decode prog_3_method_7_code 11 = .ok (.ifCond .le 7, 3) := by decide +kernel
theorem d_B_isBlown_14 : decode prog_3_method_7_code 14 = .ok (.iconst 1, 1) := by decide +kernel
theorem d_B_isBlown_15 : decode prog_3_method_7_code 15 = .ok (.goto 4, 3) := by decide +kernel
theorem d_B_isBlown_18 : decode prog_3_method_7_code 18 = .ok (.iconst 0, 1) := by decide +kernel
theorem d_B_isBlown_19 : decode prog_3_method_7_code 19 = .ok (.ireturn, 1) := by decide +kernel
theorem d_B_shallowest_0 : decode prog_3_method_8_code 0 = .ok (.aload_n 0, 1) := by decide +kernel
theorem d_B_shallowest_1 : decode prog_3_method_8_code 1 = .ok (.iload_n 1, 1) := by decide +kernel
theorem d_B_shallowest_2 : decode prog_3_method_8_code 2 = .ok (.invokevirtual 61, 3) := by decide +kernel
theorem d_B_shallowest_5 : decode prog_3_method_8_code 5 = .ok (.aload_n 0, 1) := by decide +kernel
theorem d_B_shallowest_6 : decode prog_3_method_8_code 6 = .ok (.iload_n 1, 1) := by decide +kernel
theorem d_B_shallowest_7 : decode prog_3_method_8_code 7 = .ok (.iload_n 2, 1) := by decide +kernel
theorem d_B_shallowest_8 : decode prog_3_method_8_code 8 = .ok (.invokestatic 65, 3) := by decide +kernel
theorem d_B_shallowest_11 : decode prog_3_method_8_code 11 = .ok (.invokevirtual 61, 3) := by decide +kernel
theorem d_B_shallowest_14 : decode prog_3_method_8_code 14 = .ok (.aload_n 0, 1) := by decide +kernel
theorem d_B_shallowest_15 : decode prog_3_method_8_code 15 = .ok (.iload_n 1, 1) := by decide +kernel
theorem d_B_shallowest_16 : decode prog_3_method_8_code 16 = .ok (.iload_n 2, 1) := by decide +kernel
theorem d_B_shallowest_17 : decode prog_3_method_8_code 17 = .ok (.iconst 4, 1) := by decide +kernel
theorem d_B_shallowest_18 : decode prog_3_method_8_code 18 = .ok (.iadd, 1) := by decide +kernel
theorem d_B_shallowest_19 : decode prog_3_method_8_code 19 = .ok (.invokestatic 65, 3) := by decide +kernel
theorem d_B_shallowest_22 : decode prog_3_method_8_code 22 = .ok (.invokevirtual 61, 3) := by decide +kernel
theorem d_B_shallowest_25 : decode prog_3_method_8_code 25 = .ok (.invokestatic 69, 3) := by decide +kernel
theorem d_B_shallowest_28 : decode prog_3_method_8_code 28 = .ok (.invokestatic 69, 3) := by decide +kernel
theorem d_B_shallowest_31 : decode prog_3_method_8_code 31 = .ok (.ireturn, 1) := by decide +kernel
theorem d_B_clearance_0 : decode prog_3_method_9_code 0 = .ok (.iload_n 1, 1) := by decide +kernel
theorem d_B_clearance_1 : decode prog_3_method_9_code 1 = .ok (.ifCond .lt 27, 3) := by decide +kernel
theorem d_B_clearance_4 : decode prog_3_method_9_code 4 = .ok (.iload_n 1, 1) := by decide +kernel
theorem d_B_clearance_5 : decode prog_3_method_9_code 5 = .ok (.aload_n 0, 1) := by decide +kernel
theorem d_B_clearance_6 : decode prog_3_method_9_code 6 = .ok (.getfield 9, 3) := by decide +kernel
theorem d_B_clearance_9 : decode prog_3_method_9_code 9 = .ok (.arraylength, 1) := by decide +kernel
theorem d_B_clearance_10 : decode prog_3_method_9_code 10 = .ok (.if_icmp .ge 18, 3) := by decide +kernel
theorem d_B_clearance_13 : decode prog_3_method_9_code 13 = .ok (.aload_n 0, 1) := by decide +kernel
theorem d_B_clearance_14 : decode prog_3_method_9_code 14 = .ok (.getfield 28, 3) := by decide +kernel
theorem d_B_clearance_17 : decode prog_3_method_9_code 17 = .ok (.iload_n 1, 1) := by decide +kernel
theorem d_B_clearance_18 : decode prog_3_method_9_code 18 = .ok (.ishr, 1) := by decide +kernel
theorem d_B_clearance_19 : decode prog_3_method_9_code 19 = .ok (.iconst 1, 1) := by decide +kernel
theorem d_B_clearance_20 : decode prog_3_method_9_code 20 = .ok (.iand, 1) := by decide +kernel
theorem d_B_clearance_21 : decode prog_3_method_9_code 21 = .ok (.ifCond .ne 7, 3) := by decide +kernel
theorem d_B_clearance_24 : decode prog_3_method_9_code 24 = .ok (.iconst 1, 1) := by decide +kernel
theorem d_B_clearance_25 : decode prog_3_method_9_code 25 = .ok (.goto 4, 3) := by decide +kernel
theorem d_B_clearance_28 : decode prog_3_method_9_code 28 = .ok (.iconst 0, 1) := by decide +kernel
theorem d_B_clearance_29 : decode prog_3_method_9_code 29 = .ok (.istore_n 2, 1) := by decide +kernel
theorem d_B_clearance_30 : decode prog_3_method_9_code 30 = .ok (.iload_n 2, 1) := by decide +kernel
theorem d_B_clearance_31 : decode prog_3_method_9_code 31 = .ok (.ifCond .eq 12, 3) := by decide +kernel
theorem d_B_clearance_34 : decode prog_3_method_9_code 34 = .ok (.aload_n 0, 1) := by decide +kernel
theorem d_B_clearance_35 : decode prog_3_method_9_code 35 = .ok (.getfield 9, 3) := by decide +kernel
theorem d_B_clearance_38 : decode prog_3_method_9_code 38 = .ok (.iload_n 1, 1) := by decide +kernel
theorem d_B_clearance_39 : decode prog_3_method_9_code 39 = .ok (.iaload, 1) := by decide +kernel
theorem d_B_clearance_40 : decode prog_3_method_9_code 40 = .ok (.goto 4, 3) := by decide +kernel
theorem d_B_clearance_43 : decode prog_3_method_9_code 43 = .ok (.iconst (-1), 1) := by decide +kernel
theorem d_B_clearance_44 : decode prog_3_method_9_code 44 = .ok (.ireturn, 1) := by decide +kernel
theorem d_B_fitsNow_0 : decode prog_3_method_10_code 0 = .ok (.aload_n 0, 1) := by decide +kernel
theorem d_B_fitsNow_1 : decode prog_3_method_10_code 1 = .ok (.aload_n 0, 1) := by decide +kernel
theorem d_B_fitsNow_2 : decode prog_3_method_10_code 2 = .ok (.getfield 43, 3) := by decide +kernel
theorem d_B_fitsNow_5 : decode prog_3_method_10_code 5 = .ok (.aload_n 0, 1) := by decide +kernel
theorem d_B_fitsNow_6 : decode prog_3_method_10_code 6 = .ok (.getfield 46, 3) := by decide +kernel
theorem d_B_fitsNow_9 : decode prog_3_method_10_code 9 = .ok (.invokevirtual 74, 3) := by decide +kernel
theorem d_B_fitsNow_12 : decode prog_3_method_10_code 12 = .ok (.aload_n 0, 1) := by decide +kernel
theorem d_B_fitsNow_13 : decode prog_3_method_10_code 13 = .ok (.invokevirtual 77, 3) := by decide +kernel
theorem d_B_fitsNow_16 : decode prog_3_method_10_code 16 = .ok (.if_icmp .lt 7, 3) := by decide +kernel
theorem d_B_fitsNow_19 : decode prog_3_method_10_code 19 = .ok (.iconst 1, 1) := by decide +kernel
theorem d_B_fitsNow_20 : decode prog_3_method_10_code 20 = .ok (.goto 4, 3) := by decide +kernel
theorem d_B_fitsNow_23 : decode prog_3_method_10_code 23 = .ok (.iconst 0, 1) := by decide +kernel
theorem d_B_fitsNow_24 : decode prog_3_method_10_code 24 = .ok (.ireturn, 1) := by decide +kernel
theorem d_B_lies_0 : decode prog_3_method_11_code 0 = .ok (.aload_n 0, 1) := by decide +kernel
theorem d_B_lies_1 : decode prog_3_method_11_code 1 = .ok (.getfield 43, 3) := by decide +kernel
theorem d_B_lies_4 : decode prog_3_method_11_code 4 = .ok (.invokestatic 81, 3) := by decide +kernel
theorem d_B_lies_7 : decode prog_3_method_11_code 7 = .ok (.aload_n 0, 1) := by decide +kernel
theorem d_B_lies_8 : decode prog_3_method_11_code 8 = .ok (.getfield 43, 3) := by decide +kernel
theorem d_B_lies_11 : decode prog_3_method_11_code 11 = .ok (.aload_n 0, 1) := by decide +kernel
theorem d_B_lies_12 : decode prog_3_method_11_code 12 = .ok (.getfield 46, 3) := by decide +kernel
theorem d_B_lies_15 : decode prog_3_method_11_code 15 = .ok (.invokestatic 65, 3) := by decide +kernel
theorem d_B_lies_18 : decode prog_3_method_11_code 18 = .ok (.invokestatic 81, 3) := by decide +kernel
theorem d_B_lies_21 : decode prog_3_method_11_code 21 = .ok (.ior, 1) := by decide +kernel
theorem d_B_lies_22 : decode prog_3_method_11_code 22 = .ok (.aload_n 0, 1) := by decide +kernel
theorem d_B_lies_23 : decode prog_3_method_11_code 23 = .ok (.getfield 43, 3) := by decide +kernel
theorem d_B_lies_26 : decode prog_3_method_11_code 26 = .ok (.aload_n 0, 1) := by decide +kernel
theorem d_B_lies_27 : decode prog_3_method_11_code 27 = .ok (.getfield 46, 3) := by decide +kernel
theorem d_B_lies_30 : decode prog_3_method_11_code 30 = .ok (.iconst 4, 1) := by decide +kernel
theorem d_B_lies_31 : decode prog_3_method_11_code 31 = .ok (.iadd, 1) := by decide +kernel
theorem d_B_lies_32 : decode prog_3_method_11_code 32 = .ok (.invokestatic 65, 3) := by decide +kernel
theorem d_B_lies_35 : decode prog_3_method_11_code 35 = .ok (.invokestatic 81, 3) := by decide +kernel
theorem d_B_lies_38 : decode prog_3_method_11_code 38 = .ok (.ior, 1) := by decide +kernel
theorem d_B_lies_39 : decode prog_3_method_11_code 39 = .ok (.ireturn, 1) := by decide +kernel
theorem d_B_setOf_0 : decode prog_3_method_12_code 0 = .ok (.iload_n 0, 1) := by decide +kernel
theorem d_B_setOf_1 : decode prog_3_method_12_code 1 = .ok (.bipush 24, 2) := by decide +kernel
theorem d_B_setOf_3 : decode prog_3_method_12_code 3 = .ok (.invokestatic 57, 3) := by decide +kernel
theorem d_B_setOf_6 : decode prog_3_method_12_code 6 = .ok (.ifCond .eq 9, 3) := by decide +kernel
theorem d_B_setOf_9 : decode prog_3_method_12_code 9 = .ok (.iconst 1, 1) := by decide +kernel
theorem d_B_setOf_10 : decode prog_3_method_12_code 10 = .ok (.iload_n 0, 1) := by decide +kernel
theorem d_B_setOf_11 : decode prog_3_method_12_code 11 = .ok (.ishl, 1) := by decide +kernel
theorem d_B_setOf_12 : decode prog_3_method_12_code 12 = .ok (.goto 4, 3) := by decide +kernel
theorem d_B_setOf_15 : decode prog_3_method_12_code 15 = .ok (.iconst 0, 1) := by decide +kernel
theorem d_B_setOf_16 : decode prog_3_method_12_code 16 = .ok (.ireturn, 1) := by decide +kernel
theorem d_B_canMake_0 : decode prog_3_method_13_code 0 = .ok (.iconst 0, 1) := by decide +kernel
theorem d_B_canMake_1 : decode prog_3_method_13_code 1 = .ok (.aload_n 0, 1) := by decide +kernel
theorem d_B_canMake_2 : decode prog_3_method_13_code 2 = .ok (.invokevirtual 77, 3) := by decide +kernel
theorem d_B_canMake_5 : decode prog_3_method_13_code 5 = .ok (.aload_n 1, 1) := by decide +kernel
theorem d_B_canMake_6 : decode prog_3_method_13_code 6 = .ok (.invokevirtual 84, 3) := by decide +kernel
theorem d_B_canMake_9 : decode prog_3_method_13_code 9 = .ok (.isub, 1) := by decide +kernel
theorem d_B_canMake_10 : decode prog_3_method_13_code 10 = .ok (.invokestatic 87, 3) := by decide +kernel
theorem d_B_canMake_13 : decode prog_3_method_13_code 13 = .ok (.istore_n 3, 1) := by decide +kernel
theorem d_B_canMake_14 : decode prog_3_method_13_code 14 = .ok (.aload_n 1, 1) := by decide +kernel
theorem d_B_canMake_15 : decode prog_3_method_13_code 15 = .ok (.iload_n 2, 1) := by decide +kernel
theorem d_B_canMake_16 : decode prog_3_method_13_code 16 = .ok (.invokevirtual 90, 3) := by decide +kernel
theorem d_B_canMake_19 : decode prog_3_method_13_code 19 = .ok (.ldc 93, 2) := by decide +kernel
theorem d_B_canMake_21 : decode prog_3_method_13_code 21 = .ok (.if_icmp .eq 35, 3) := by decide +kernel
theorem d_B_canMake_24 : decode prog_3_method_13_code 24 = .ok (.aload_n 0, 1) := by decide +kernel
theorem d_B_canMake_25 : decode prog_3_method_13_code 25 = .ok (.aload_n 0, 1) := by decide +kernel
theorem d_B_canMake_26 : decode prog_3_method_13_code 26 = .ok (.getfield 43, 3) := by decide +kernel
theorem d_B_canMake_29 : decode prog_3_method_13_code 29 = .ok (.aload_n 0, 1) := by decide +kernel
theorem d_B_canMake_30 : decode prog_3_method_13_code 30 = .ok (.getfield 46, 3) := by decide +kernel
theorem d_B_canMake_33 : decode prog_3_method_13_code 33 = .ok (.iload_n 2, 1) := by decide +kernel
theorem d_B_canMake_34 : decode prog_3_method_13_code 34 = .ok (.invokestatic 94, 3) := by decide +kernel
theorem d_B_canMake_37 : decode prog_3_method_13_code 37 = .ok (.aload_n 0, 1) := by decide +kernel
theorem d_B_canMake_38 : decode prog_3_method_13_code 38 = .ok (.getfield 46, 3) := by decide +kernel
theorem d_B_canMake_41 : decode prog_3_method_13_code 41 = .ok (.iload_n 2, 1) := by decide +kernel
theorem d_B_canMake_42 : decode prog_3_method_13_code 42 = .ok (.invokestatic 98, 3) := by decide +kernel
theorem d_B_canMake_45 : decode prog_3_method_13_code 45 = .ok (.invokevirtual 74, 3) := by decide +kernel
theorem d_B_canMake_48 : decode prog_3_method_13_code 48 = .ok (.iload_n 3, 1) := by decide +kernel
theorem d_B_canMake_49 : decode prog_3_method_13_code 49 = .ok (.if_icmp .lt 7, 3) := by decide +kernel
theorem d_B_canMake_52 : decode prog_3_method_13_code 52 = .ok (.iconst 1, 1) := by decide +kernel
theorem d_B_canMake_53 : decode prog_3_method_13_code 53 = .ok (.goto 4, 3) := by decide +kernel
theorem d_B_canMake_56 : decode prog_3_method_13_code 56 = .ok (.iconst 0, 1) := by decide +kernel
theorem d_B_canMake_57 : decode prog_3_method_13_code 57 = .ok (.ireturn, 1) := by decide +kernel
theorem d_B_make_0 : decode prog_3_method_14_code 0 = .ok (.aload_n 0, 1) := by decide +kernel
theorem d_B_make_1 : decode prog_3_method_14_code 1 = .ok (.aload_n 0, 1) := by decide +kernel
theorem d_B_make_2 : decode prog_3_method_14_code 2 = .ok (.getfield 43, 3) := by decide +kernel
theorem d_B_make_5 : decode prog_3_method_14_code 5 = .ok (.aload_n 0, 1) := by decide +kernel
theorem d_B_make_6 : decode prog_3_method_14_code 6 = .ok (.getfield 46, 3) := by decide +kernel
theorem d_B_make_9 : decode prog_3_method_14_code 9 = .ok (.iload_n 1, 1) := by decide +kernel
theorem d_B_make_10 : decode prog_3_method_14_code 10 = .ok (.invokestatic 94, 3) := by decide +kernel
theorem d_B_make_13 : decode prog_3_method_14_code 13 = .ok (.putfield 43, 3) := by decide +kernel
theorem d_B_make_16 : decode prog_3_method_14_code 16 = .ok (.aload_n 0, 1) := by decide +kernel
theorem d_B_make_17 : decode prog_3_method_14_code 17 = .ok (.aload_n 0, 1) := by decide +kernel
theorem d_B_make_18 : decode prog_3_method_14_code 18 = .ok (.getfield 46, 3) := by decide +kernel
theorem d_B_make_21 : decode prog_3_method_14_code 21 = .ok (.iload_n 1, 1) := by decide +kernel
theorem d_B_make_22 : decode prog_3_method_14_code 22 = .ok (.invokestatic 98, 3) := by decide +kernel
theorem d_B_make_25 : decode prog_3_method_14_code 25 = .ok (.putfield 46, 3) := by decide +kernel
theorem d_B_make_28 : decode prog_3_method_14_code 28 = .ok (.aload_n 0, 1) := by decide +kernel
theorem d_B_make_29 : decode prog_3_method_14_code 29 = .ok (.dup, 1) := by decide +kernel
theorem d_B_make_30 : decode prog_3_method_14_code 30 = .ok (.getfield 25, 3) := by decide +kernel
theorem d_B_make_33 : decode prog_3_method_14_code 33 = .ok (.iconst 1, 1) := by decide +kernel
theorem d_B_make_34 : decode prog_3_method_14_code 34 = .ok (.iadd, 1) := by decide +kernel
theorem d_B_make_35 : decode prog_3_method_14_code 35 = .ok (.putfield 25, 3) := by decide +kernel
theorem d_B_make_38 : decode prog_3_method_14_code 38 = .ok (.aload_n 0, 1) := by decide +kernel
theorem d_B_make_39 : decode prog_3_method_14_code 39 = .ok (.getfield 25, 3) := by decide +kernel
theorem d_B_make_42 : decode prog_3_method_14_code 42 = .ok (.iconst 3, 1) := by decide +kernel
theorem d_B_make_43 : decode prog_3_method_14_code 43 = .ok (.irem, 1) := by decide +kernel
theorem d_B_make_44 : decode prog_3_method_14_code 44 = .ok (.ifCond .ne 52, 3) := by decide +kernel
theorem d_B_make_47 : decode prog_3_method_14_code 47 = .ok (.aload_n 0, 1) := by decide +kernel
theorem d_B_make_48 : decode prog_3_method_14_code 48 = .ok (.invokevirtual 101, 3) := by decide +kernel
theorem d_B_make_51 : decode prog_3_method_14_code 51 = .ok (.ifCond .eq 45, 3) := by decide +kernel
theorem d_B_make_54 : decode prog_3_method_14_code 54 = .ok (.aload_n 0, 1) := by decide +kernel
theorem d_B_make_55 : decode prog_3_method_14_code 55 = .ok (.getfield 43, 3) := by decide +kernel
theorem d_B_make_58 : decode prog_3_method_14_code 58 = .ok (.aload_n 0, 1) := by decide +kernel
theorem d_B_make_59 : decode prog_3_method_14_code 59 = .ok (.getfield 34, 3) := by decide +kernel
theorem d_B_make_62 : decode prog_3_method_14_code 62 = .ok (.iconst 1, 1) := by decide +kernel
theorem d_B_make_63 : decode prog_3_method_14_code 63 = .ok (.isub, 1) := by decide +kernel
theorem d_B_make_64 : decode prog_3_method_14_code 64 = .ok (.invokestatic 65, 3) := by decide +kernel
theorem d_B_make_67 : decode prog_3_method_14_code 67 = .ok (.istore_n 2, 1) := by decide +kernel
theorem d_B_make_68 : decode prog_3_method_14_code 68 = .ok (.aload_n 0, 1) := by decide +kernel
theorem d_B_make_69 : decode prog_3_method_14_code 69 = .ok (.aload_n 0, 1) := by decide +kernel
theorem d_B_make_70 : decode prog_3_method_14_code 70 = .ok (.iload_n 2, 1) := by decide +kernel
theorem d_B_make_71 : decode prog_3_method_14_code 71 = .ok (.aload_n 0, 1) := by decide +kernel
theorem d_B_make_72 : decode prog_3_method_14_code 72 = .ok (.getfield 46, 3) := by decide +kernel
theorem d_B_make_75 : decode prog_3_method_14_code 75 = .ok (.invokevirtual 74, 3) := by decide +kernel
theorem d_B_make_78 : decode prog_3_method_14_code 78 = .ok (.aload_n 0, 1) := by decide +kernel
theorem d_B_make_79 : decode prog_3_method_14_code 79 = .ok (.invokevirtual 77, 3) := by decide +kernel
theorem d_B_make_82 : decode prog_3_method_14_code 82 = .ok (.if_icmp .lt 7, 3) := by decide +kernel
theorem d_B_make_85 : decode prog_3_method_14_code 85 = .ok (.iload_n 2, 1) := by decide +kernel
theorem d_B_make_86 : decode prog_3_method_14_code 86 = .ok (.goto 7, 3) := by decide +kernel
theorem d_B_make_89 : decode prog_3_method_14_code 89 = .ok (.aload_n 0, 1) := by decide +kernel
theorem d_B_make_90 : decode prog_3_method_14_code 90 = .ok (.getfield 43, 3) := by decide +kernel
theorem d_B_make_93 : decode prog_3_method_14_code 93 = .ok (.putfield 43, 3) := by decide +kernel
theorem d_B_make_96 : decode prog_3_method_14_code 96 = .ok (.return_, 1) := by decide +kernel
theorem d_B_siltUp_0 : decode prog_3_method_15_code 0 = .ok (.iconst 0, 1) := by decide +kernel
theorem d_B_siltUp_1 : decode prog_3_method_15_code 1 = .ok (.istore_n 1, 1) := by decide +kernel
theorem d_B_siltUp_2 : decode prog_3_method_15_code 2 = .ok (.iconst 0, 1) := by decide +kernel
theorem d_B_siltUp_3 : decode prog_3_method_15_code 3 = .ok (.istore_n 2, 1) := by decide +kernel
theorem d_B_siltUp_4 : decode prog_3_method_15_code 4 = .ok (.iload_n 2, 1) := by decide +kernel
theorem d_B_siltUp_5 : decode prog_3_method_15_code 5 = .ok (.bipush 24, 2) := by decide +kernel
theorem d_B_siltUp_7 : decode prog_3_method_15_code 7 = .ok (.if_icmp .ge 44, 3) := by decide +kernel
theorem d_B_siltUp_10 : decode prog_3_method_15_code 10 = .ok (.aload_n 0, 1) := by decide +kernel
theorem d_B_siltUp_11 : decode prog_3_method_15_code 11 = .ok (.getfield 9, 3) := by decide +kernel
theorem d_B_siltUp_14 : decode prog_3_method_15_code 14 = .ok (.iload_n 2, 1) := by decide +kernel
theorem d_B_siltUp_15 : decode prog_3_method_15_code 15 = .ok (.invokestatic 49, 3) := by decide +kernel
theorem d_B_siltUp_18 : decode prog_3_method_15_code 18 = .ok (.ifCond .le 27, 3) := by decide +kernel
theorem d_B_siltUp_21 : decode prog_3_method_15_code 21 = .ok (.aload_n 0, 1) := by decide +kernel
theorem d_B_siltUp_22 : decode prog_3_method_15_code 22 = .ok (.getfield 9, 3) := by decide +kernel
theorem d_B_siltUp_25 : decode prog_3_method_15_code 25 = .ok (.iload_n 2, 1) := by decide +kernel
theorem d_B_siltUp_26 : decode prog_3_method_15_code 26 = .ok (.aload_n 0, 1) := by decide +kernel
theorem d_B_siltUp_27 : decode prog_3_method_15_code 27 = .ok (.getfield 9, 3) := by decide +kernel
theorem d_B_siltUp_30 : decode prog_3_method_15_code 30 = .ok (.iload_n 2, 1) := by decide +kernel
theorem d_B_siltUp_31 : decode prog_3_method_15_code 31 = .ok (.invokestatic 49, 3) := by decide +kernel
theorem d_B_siltUp_34 : decode prog_3_method_15_code 34 = .ok (.iconst 1, 1) := by decide +kernel
theorem d_B_siltUp_35 : decode prog_3_method_15_code 35 = .ok (.isub, 1) := by decide +kernel
theorem d_B_siltUp_36 : decode prog_3_method_15_code 36 = .ok (.invokestatic 53, 3) := by decide +kernel
theorem d_B_siltUp_39 : decode prog_3_method_15_code 39 = .ok (.iload_n 1, 1) := by decide +kernel
theorem d_B_siltUp_40 : decode prog_3_method_15_code 40 = .ok (.iconst 1, 1) := by decide +kernel
theorem d_B_siltUp_41 : decode prog_3_method_15_code 41 = .ok (.iload_n 2, 1) := by decide +kernel
theorem d_B_siltUp_42 : decode prog_3_method_15_code 42 = .ok (.ishl, 1) := by decide +kernel
theorem d_B_siltUp_43 : decode prog_3_method_15_code 43 = .ok (.ior, 1) := by decide +kernel
theorem d_B_siltUp_44 : decode prog_3_method_15_code 44 = .ok (.istore_n 1, 1) := by decide +kernel
theorem d_B_siltUp_45 : decode prog_3_method_15_code 45 = .ok (.iinc 2 1, 3) := by decide +kernel
theorem d_B_siltUp_48 : decode prog_3_method_15_code 48 = .ok (.goto (-44), 3) := by decide +kernel
theorem d_B_siltUp_51 : decode prog_3_method_15_code 51 = .ok (.iload_n 1, 1) := by decide +kernel
theorem d_B_siltUp_52 : decode prog_3_method_15_code 52 = .ok (.ireturn, 1) := by decide +kernel
theorem d_H_init_0 : decode prog_4_method_1_code 0 = .ok (.aload_n 0, 1) := by decide +kernel
theorem d_H_init_1 : decode prog_4_method_1_code 1 = .ok (.invokespecial 3, 3) := by decide +kernel
theorem d_H_init_4 : decode prog_4_method_1_code 4 = .ok (.aload_n 0, 1) := by decide +kernel
theorem d_H_init_5 : decode prog_4_method_1_code 5 = .ok (.iload_n 1, 1) := by decide +kernel
theorem d_H_init_6 : decode prog_4_method_1_code 6 = .ok (.putfield 9, 3) := by decide +kernel
theorem d_H_init_9 : decode prog_4_method_1_code 9 = .ok (.aload_n 0, 1) := by decide +kernel
theorem d_H_init_10 : decode prog_4_method_1_code 10 = .ok (.iload_n 2, 1) := by decide +kernel
theorem d_H_init_11 : decode prog_4_method_1_code 11 = .ok (.putfield 15, 3) := by decide +kernel
theorem d_H_init_14 : decode prog_4_method_1_code 14 = .ok (.aload_n 0, 1) := by decide +kernel
theorem d_H_init_15 : decode prog_4_method_1_code 15 = .ok (.iload_n 3, 1) := by decide +kernel
theorem d_H_init_16 : decode prog_4_method_1_code 16 = .ok (.putfield 18, 3) := by decide +kernel
theorem d_H_init_19 : decode prog_4_method_1_code 19 = .ok (.return_, 1) := by decide +kernel
theorem d_H_minutesFor_0 : decode prog_4_method_3_code 0 = .ok (.iload_n 1, 1) := by decide +kernel
theorem d_H_minutesFor_1 : decode prog_4_method_3_code 1 = .ok (.ifCond .lt 28, 3) := by decide +kernel
theorem d_H_minutesFor_4 : decode prog_4_method_3_code 4 = .ok (.iload_n 1, 1) := by decide +kernel
theorem d_H_minutesFor_5 : decode prog_4_method_3_code 5 = .ok (.bipush 8, 2) := by decide +kernel
theorem d_H_minutesFor_7 : decode prog_4_method_3_code 7 = .ok (.if_icmp .ge 22, 3) := by decide +kernel
theorem d_H_minutesFor_10 : decode prog_4_method_3_code 10 = .ok (.aload_n 0, 1) := by decide +kernel
theorem d_H_minutesFor_11 : decode prog_4_method_3_code 11 = .ok (.getfield 18, 3) := by decide +kernel
theorem d_H_minutesFor_14 : decode prog_4_method_3_code 14 = .ok (.iload_n 1, 1) := by decide +kernel
theorem d_H_minutesFor_15 : decode prog_4_method_3_code 15 = .ok (.ishr, 1) := by decide +kernel
theorem d_H_minutesFor_16 : decode prog_4_method_3_code 16 = .ok (.iconst 1, 1) := by decide +kernel
theorem d_H_minutesFor_17 : decode prog_4_method_3_code 17 = .ok (.iand, 1) := by decide +kernel
theorem d_H_minutesFor_18 : decode prog_4_method_3_code 18 = .ok (.iconst 1, 1) := by decide +kernel
theorem d_H_minutesFor_19 : decode prog_4_method_3_code 19 = .ok (.if_icmp .ne 10, 3) := by decide +kernel
theorem d_H_minutesFor_22 : decode prog_4_method_3_code 22 = .ok (.aload_n 0, 1) := by decide +kernel
theorem d_H_minutesFor_23 : decode prog_4_method_3_code 23 = .ok (.getfield 15, 3) := by decide +kernel
theorem d_H_minutesFor_26 : decode prog_4_method_3_code 26 = .ok (.goto 5, 3) := by decide +kernel
theorem d_H_minutesFor_29 : decode prog_4_method_3_code 29 = .ok (.ldc 21, 2) := by decide +kernel
theorem d_H_minutesFor_31 : decode prog_4_method_3_code 31 = .ok (.ireturn, 1) := by decide +kernel
theorem d_H_lift_0 : decode prog_4_method_4_code 0 = .ok (.iconst 0, 1) := by decide +kernel
theorem d_H_lift_1 : decode prog_4_method_4_code 1 = .ok (.ireturn, 1) := by decide +kernel
theorem d_H_size_0 : decode prog_4_method_5_code 0 = .ok (.aload_n 1, 1) := by decide +kernel
theorem d_H_size_1 : decode prog_4_method_5_code 1 = .ok (.bipush 10, 2) := by decide +kernel
theorem d_H_size_3 : decode prog_4_method_5_code 3 = .ok (.invokestatic 22, 3) := by decide +kernel
theorem d_H_size_6 : decode prog_4_method_5_code 6 = .ok (.aload_n 0, 1) := by decide +kernel
theorem d_H_size_7 : decode prog_4_method_5_code 7 = .ok (.getfield 15, 3) := by decide +kernel
theorem d_H_size_10 : decode prog_4_method_5_code 10 = .ok (.ireturn, 1) := by decide +kernel
theorem d_H_mark_0 : decode prog_4_method_6_code 0 = .ok (.aload_n 1, 1) := by decide +kernel
theorem d_H_mark_1 : decode prog_4_method_6_code 1 = .ok (.bipush 20, 2) := by decide +kernel
theorem d_H_mark_3 : decode prog_4_method_6_code 3 = .ok (.invokestatic 22, 3) := by decide +kernel
theorem d_H_mark_6 : decode prog_4_method_6_code 6 = .ok (.aload_n 0, 1) := by decide +kernel
theorem d_H_mark_7 : decode prog_4_method_6_code 7 = .ok (.getfield 9, 3) := by decide +kernel
theorem d_H_mark_10 : decode prog_4_method_6_code 10 = .ok (.ireturn, 1) := by decide +kernel
theorem d_H_leave_0 : decode prog_4_method_7_code 0 = .ok (.aload_n 0, 1) := by decide +kernel
theorem d_H_leave_1 : decode prog_4_method_7_code 1 = .ok (.ifnull 10, 3) := by decide +kernel
theorem d_H_leave_4 : decode prog_4_method_7_code 4 = .ok (.aload_n 0, 1) := by decide +kernel
theorem d_H_leave_5 : decode prog_4_method_7_code 5 = .ok (.arraylength, 1) := by decide +kernel
theorem d_H_leave_6 : decode prog_4_method_7_code 6 = .ok (.bipush 16, 2) := by decide +kernel
theorem d_H_leave_8 : decode prog_4_method_7_code 8 = .ok (.if_icmp .gt 4, 3) := by decide +kernel
theorem d_H_leave_11 : decode prog_4_method_7_code 11 = .ok (.return_, 1) := by decide +kernel
theorem d_H_leave_12 : decode prog_4_method_7_code 12 = .ok (.aload_n 0, 1) := by decide +kernel
theorem d_H_leave_13 : decode prog_4_method_7_code 13 = .ok (.iconst 0, 1) := by decide +kernel
theorem d_H_leave_14 : decode prog_4_method_7_code 14 = .ok (.iaload, 1) := by decide +kernel
theorem d_H_leave_15 : decode prog_4_method_7_code 15 = .ok (.istore_n 2, 1) := by decide +kernel
theorem d_H_leave_16 : decode prog_4_method_7_code 16 = .ok (.iload_n 2, 1) := by decide +kernel
theorem d_H_leave_17 : decode prog_4_method_7_code 17 = .ok (.ifCond .lt 21, 3) := by decide +kernel
theorem d_H_leave_20 : decode prog_4_method_7_code 20 = .ok (.iload_n 2, 1) := by decide +kernel
theorem d_H_leave_21 : decode prog_4_method_7_code 21 = .ok (.bipush 16, 2) := by decide +kernel
theorem d_H_leave_23 : decode prog_4_method_7_code 23 = .ok (.if_icmp .ge 15, 3) := by decide +kernel
theorem d_H_leave_26 : decode prog_4_method_7_code 26 = .ok (.aload_n 0, 1) := by decide +kernel
theorem d_H_leave_27 : decode prog_4_method_7_code 27 = .ok (.iload_n 2, 1) := by decide +kernel
theorem d_H_leave_28 : decode prog_4_method_7_code 28 = .ok (.iconst 1, 1) := by decide +kernel
theorem d_H_leave_29 : decode prog_4_method_7_code 29 = .ok (.iadd, 1) := by decide +kernel
theorem d_H_leave_30 : decode prog_4_method_7_code 30 = .ok (.iload_n 1, 1) := by decide +kernel
theorem d_H_leave_31 : decode prog_4_method_7_code 31 = .ok (.iastore, 1) := by decide +kernel
theorem d_H_leave_32 : decode prog_4_method_7_code 32 = .ok (.aload_n 0, 1) := by decide +kernel
theorem d_H_leave_33 : decode prog_4_method_7_code 33 = .ok (.iconst 0, 1) := by decide +kernel
theorem d_H_leave_34 : decode prog_4_method_7_code 34 = .ok (.iload_n 2, 1) := by decide +kernel
theorem d_H_leave_35 : decode prog_4_method_7_code 35 = .ok (.iconst 1, 1) := by decide +kernel
theorem d_H_leave_36 : decode prog_4_method_7_code 36 = .ok (.iadd, 1) := by decide +kernel
theorem d_H_leave_37 : decode prog_4_method_7_code 37 = .ok (.iastore, 1) := by decide +kernel
theorem d_H_leave_38 : decode prog_4_method_7_code 38 = .ok (.return_, 1) := by decide +kernel
theorem d_Lf_init_0 : decode prog_5_method_1_code 0 = .ok (.aload_n 0, 1) := by decide +kernel
theorem d_Lf_init_1 : decode prog_5_method_1_code 1 = .ok (.iload_n 1, 1) := by decide +kernel
theorem d_Lf_init_2 : decode prog_5_method_1_code 2 = .ok (.iload_n 2, 1) := by decide +kernel
theorem d_Lf_init_3 : decode prog_5_method_1_code 3 = .ok (.invokespecial 1, 3) := by decide +kernel
theorem d_Lf_init_6 : decode prog_5_method_1_code 6 = .ok (.return_, 1) := by decide +kernel
theorem d_Lf_sort_0 : decode prog_5_method_2_code 0 = .ok (.iconst 5, 1) := by decide +kernel
theorem d_Lf_sort_1 : decode prog_5_method_2_code 1 = .ok (.ireturn, 1) := by decide +kernel
theorem d_Lf_lift_0 : decode prog_5_method_3_code 0 = .ok (.iconst 1, 1) := by decide +kernel
theorem d_Lf_lift_1 : decode prog_5_method_3_code 1 = .ok (.ireturn, 1) := by decide +kernel
theorem d_Lf_size_0 : decode prog_5_method_4_code 0 = .ok (.aload_n 1, 1) := by decide +kernel
theorem d_Lf_size_1 : decode prog_5_method_4_code 1 = .ok (.bipush 14, 2) := by decide +kernel
theorem d_Lf_size_3 : decode prog_5_method_4_code 3 = .ok (.invokestatic 7, 3) := by decide +kernel
theorem d_Lf_size_6 : decode prog_5_method_4_code 6 = .ok (.iconst 2, 1) := by decide +kernel
theorem d_Lf_size_7 : decode prog_5_method_4_code 7 = .ok (.aload_n 0, 1) := by decide +kernel
theorem d_Lf_size_8 : decode prog_5_method_4_code 8 = .ok (.aload_n 1, 1) := by decide +kernel
theorem d_Lf_size_9 : decode prog_5_method_4_code 9 = .ok (.iload_n 2, 1) := by decide +kernel
theorem d_Lf_size_10 : decode prog_5_method_4_code 10 = .ok (.invokespecial 13, 3) := by decide +kernel
theorem d_Lf_size_13 : decode prog_5_method_4_code 13 = .ok (.imul, 1) := by decide +kernel
theorem d_Lf_size_14 : decode prog_5_method_4_code 14 = .ok (.ireturn, 1) := by decide +kernel
theorem d_Po_init_0 : decode prog_6_method_1_code 0 = .ok (.aload_n 0, 1) := by decide +kernel
theorem d_Po_init_1 : decode prog_6_method_1_code 1 = .ok (.iload_n 1, 1) := by decide +kernel
theorem d_Po_init_2 : decode prog_6_method_1_code 2 = .ok (.iload_n 2, 1) := by decide +kernel
theorem d_Po_init_3 : decode prog_6_method_1_code 3 = .ok (.bipush 15, 2) := by decide +kernel
theorem d_Po_init_5 : decode prog_6_method_1_code 5 = .ok (.invokespecial 3, 3) := by decide +kernel
theorem d_Po_init_8 : decode prog_6_method_1_code 8 = .ok (.return_, 1) := by decide +kernel
theorem d_Po_sort_0 : decode prog_6_method_2_code 0 = .ok (.iconst 2, 1) := by decide +kernel
theorem d_Po_sort_1 : decode prog_6_method_2_code 1 = .ok (.ireturn, 1) := by decide +kernel
theorem d_Po_size_0 : decode prog_6_method_3_code 0 = .ok (.aload_n 1, 1) := by decide +kernel
theorem d_Po_size_1 : decode prog_6_method_3_code 1 = .ok (.bipush 12, 2) := by decide +kernel
theorem d_Po_size_3 : decode prog_6_method_3_code 3 = .ok (.invokestatic 9, 3) := by decide +kernel
theorem d_Po_size_6 : decode prog_6_method_3_code 6 = .ok (.aload_n 0, 1) := by decide +kernel
theorem d_Po_size_7 : decode prog_6_method_3_code 7 = .ok (.aload_n 1, 1) := by decide +kernel
theorem d_Po_size_8 : decode prog_6_method_3_code 8 = .ok (.iload_n 2, 1) := by decide +kernel
theorem d_Po_size_9 : decode prog_6_method_3_code 9 = .ok (.invokespecial 15, 3) := by decide +kernel
theorem d_Po_size_12 : decode prog_6_method_3_code 12 = .ok (.ineg, 1) := by decide +kernel
theorem d_Po_size_13 : decode prog_6_method_3_code 13 = .ok (.ireturn, 1) := by decide +kernel
theorem d_Po_mark_0 : decode prog_6_method_4_code 0 = .ok (.aload_n 1, 1) := by decide +kernel
theorem d_Po_mark_1 : decode prog_6_method_4_code 1 = .ok (.bipush 24, 2) := by decide +kernel
theorem d_Po_mark_3 : decode prog_6_method_4_code 3 = .ok (.invokestatic 9, 3) := by decide +kernel
theorem d_Po_mark_6 : decode prog_6_method_4_code 6 = .ok (.iconst 2, 1) := by decide +kernel
theorem d_Po_mark_7 : decode prog_6_method_4_code 7 = .ok (.aload_n 0, 1) := by decide +kernel
theorem d_Po_mark_8 : decode prog_6_method_4_code 8 = .ok (.aload_n 1, 1) := by decide +kernel
theorem d_Po_mark_9 : decode prog_6_method_4_code 9 = .ok (.iload_n 2, 1) := by decide +kernel
theorem d_Po_mark_10 : decode prog_6_method_4_code 10 = .ok (.invokespecial 19, 3) := by decide +kernel
theorem d_Po_mark_13 : decode prog_6_method_4_code 13 = .ok (.imul, 1) := by decide +kernel
theorem d_Po_mark_14 : decode prog_6_method_4_code 14 = .ok (.ireturn, 1) := by decide +kernel
theorem d_Ro_init_0 : decode prog_7_method_1_code 0 = .ok (.aload_n 0, 1) := by decide +kernel
theorem d_Ro_init_1 : decode prog_7_method_1_code 1 = .ok (.iload_n 1, 1) := by decide +kernel
theorem d_Ro_init_2 : decode prog_7_method_1_code 2 = .ok (.iload_n 2, 1) := by decide +kernel
theorem d_Ro_init_3 : decode prog_7_method_1_code 3 = .ok (.bipush 51, 2) := by decide +kernel
theorem d_Ro_init_5 : decode prog_7_method_1_code 5 = .ok (.invokespecial 3, 3) := by decide +kernel
theorem d_Ro_init_8 : decode prog_7_method_1_code 8 = .ok (.return_, 1) := by decide +kernel
theorem d_Ro_sort_0 : decode prog_7_method_2_code 0 = .ok (.iconst 3, 1) := by decide +kernel
theorem d_Ro_sort_1 : decode prog_7_method_2_code 1 = .ok (.ireturn, 1) := by decide +kernel
theorem d_Ro_minutesFor_0 : decode prog_7_method_3_code 0 = .ok (.aload_n 0, 1) := by decide +kernel
theorem d_Ro_minutesFor_1 : decode prog_7_method_3_code 1 = .ok (.iload_n 1, 1) := by decide +kernel
theorem d_Ro_minutesFor_2 : decode prog_7_method_3_code 2 = .ok (.invokespecial 9, 3) := by decide +kernel
theorem d_Ro_minutesFor_5 : decode prog_7_method_3_code 5 = .ok (.istore_n 2, 1) := by decide +kernel
theorem d_Ro_minutesFor_6 : decode prog_7_method_3_code 6 = .ok (.iload_n 1, 1) := by decide +kernel
theorem d_Ro_minutesFor_7 : decode prog_7_method_3_code 7 = .ok (.iconst 4, 1) := by decide +kernel
theorem d_Ro_minutesFor_8 : decode prog_7_method_3_code 8 = .ok (.if_icmp .eq 8, 3) := by decide +kernel
theorem d_Ro_minutesFor_11 : decode prog_7_method_3_code 11 = .ok (.iload_n 1, 1) := by decide +kernel
theorem d_Ro_minutesFor_12 : decode prog_7_method_3_code 12 = .ok (.iconst 5, 1) := by decide +kernel
theorem d_Ro_minutesFor_13 : decode prog_7_method_3_code 13 = .ok (.if_icmp .ne 13, 3) := by decide +kernel
theorem d_Ro_minutesFor_16 : decode prog_7_method_3_code 16 = .ok (.iconst 1, 1) := by decide +kernel
theorem d_Ro_minutesFor_17 : decode prog_7_method_3_code 17 = .ok (.iload_n 2, 1) := by decide +kernel
theorem d_Ro_minutesFor_18 : decode prog_7_method_3_code 18 = .ok (.iconst 2, 1) := by decide +kernel
theorem d_Ro_minutesFor_19 : decode prog_7_method_3_code 19 = .ok (.idiv, 1) := by decide +kernel
theorem d_Ro_minutesFor_20 : decode prog_7_method_3_code 20 = .ok (.invokestatic 13, 3) := by decide +kernel
theorem d_Ro_minutesFor_23 : decode prog_7_method_3_code 23 = .ok (.goto 4, 3) := by decide +kernel
theorem d_Ro_minutesFor_26 : decode prog_7_method_3_code 26 = .ok (.iload_n 2, 1) := by decide +kernel
theorem d_Ro_minutesFor_27 : decode prog_7_method_3_code 27 = .ok (.ireturn, 1) := by decide +kernel
theorem d_Ro_mark_0 : decode prog_7_method_4_code 0 = .ok (.aload_n 1, 1) := by decide +kernel
theorem d_Ro_mark_1 : decode prog_7_method_4_code 1 = .ok (.bipush 22, 2) := by decide +kernel
theorem d_Ro_mark_3 : decode prog_7_method_4_code 3 = .ok (.invokestatic 19, 3) := by decide +kernel
theorem d_Ro_mark_6 : decode prog_7_method_4_code 6 = .ok (.aload_n 0, 1) := by decide +kernel
theorem d_Ro_mark_7 : decode prog_7_method_4_code 7 = .ok (.aload_n 1, 1) := by decide +kernel
theorem d_Ro_mark_8 : decode prog_7_method_4_code 8 = .ok (.iload_n 2, 1) := by decide +kernel
theorem d_Ro_mark_9 : decode prog_7_method_4_code 9 = .ok (.invokespecial 25, 3) := by decide +kernel
theorem d_Ro_mark_12 : decode prog_7_method_4_code 12 = .ok (.sipush 1000, 3) := by decide +kernel
theorem d_Ro_mark_15 : decode prog_7_method_4_code 15 = .ok (.isub, 1) := by decide +kernel
theorem d_Ro_mark_16 : decode prog_7_method_4_code 16 = .ok (.ireturn, 1) := by decide +kernel
theorem d_Rw_init_0 : decode prog_8_method_1_code 0 = .ok (.aload_n 0, 1) := by decide +kernel
theorem d_Rw_init_1 : decode prog_8_method_1_code 1 = .ok (.invokespecial 3, 3) := by decide +kernel
theorem d_Rw_init_4 : decode prog_8_method_1_code 4 = .ok (.aload_n 0, 1) := by decide +kernel
theorem d_Rw_init_5 : decode prog_8_method_1_code 5 = .ok (.sipush 320, 3) := by decide +kernel
theorem d_Rw_init_8 : decode prog_8_method_1_code 8 = .ok (.newarray .int, 2) := by decide +kernel
theorem d_Rw_init_10 : decode prog_8_method_1_code 10 = .ok (.putfield 9, 3) := by decide +kernel
theorem d_Rw_init_13 : decode prog_8_method_1_code 13 = .ok (.aload_n 0, 1) := by decide +kernel
theorem d_Rw_init_14 : decode prog_8_method_1_code 14 = .ok (.bipush 8, 2) := by decide +kernel
theorem d_Rw_init_16 : decode prog_8_method_1_code 16 = .ok (.newarray .int, 2) := by decide +kernel
theorem d_Rw_init_18 : decode prog_8_method_1_code 18 = .ok (.putfield 15, 3) := by decide +kernel
theorem d_Rw_init_21 : decode prog_8_method_1_code 21 = .ok (.aload_n 0, 1) := by decide +kernel
theorem d_Rw_init_22 : decode prog_8_method_1_code 22 = .ok (.bipush 8, 2) := by decide +kernel
theorem d_Rw_init_24 : decode prog_8_method_1_code 24 = .ok (.newarray .int, 2) := by decide +kernel
theorem d_Rw_init_26 : decode prog_8_method_1_code 26 = .ok (.putfield 18, 3) := by decide +kernel
theorem d_Rw_init_29 : decode prog_8_method_1_code 29 = .ok (.aload_n 0, 1) := by decide +kernel
theorem d_Rw_init_30 : decode prog_8_method_1_code 30 = .ok (.getfield 15, 3) := by decide +kernel
theorem d_Rw_init_33 : decode prog_8_method_1_code 33 = .ok (.iconst (-1), 1) := by decide +kernel
theorem d_Rw_init_34 : decode prog_8_method_1_code 34 = .ok (.invokestatic 21, 3) := by decide +kernel
theorem d_Rw_init_37 : decode prog_8_method_1_code 37 = .ok (.return_, 1) := by decide +kernel
theorem d_Rw_isMissing_0 : decode prog_8_method_2_code 0 = .ok (.iload_n 1, 1) := by decide +kernel
theorem d_Rw_isMissing_1 : decode prog_8_method_2_code 1 = .ok (.invokestatic 27, 3) := by decide +kernel
theorem d_Rw_isMissing_4 : decode prog_8_method_2_code 4 = .ok (.ifCond .eq 15, 3) := by decide +kernel
theorem d_Rw_isMissing_7 : decode prog_8_method_2_code 7 = .ok (.aload_n 0, 1) := by decide +kernel
theorem d_Rw_isMissing_8 : decode prog_8_method_2_code 8 = .ok (.getfield 15, 3) := by decide +kernel
theorem d_Rw_isMissing_11 : decode prog_8_method_2_code 11 = .ok (.iload_n 1, 1) := by decide +kernel
theorem d_Rw_isMissing_12 : decode prog_8_method_2_code 12 = .ok (.invokestatic 31, 3) := by decide +kernel
theorem d_Rw_isMissing_15 : decode prog_8_method_2_code 15 = .ok (.iconst (-1), 1) := by decide +kernel
theorem d_Rw_isMissing_16 : decode prog_8_method_2_code 16 = .ok (.if_icmp .ne 7, 3) := by decide +kernel
theorem d_Rw_isMissing_19 : decode prog_8_method_2_code 19 = .ok (.iconst 1, 1) := by decide +kernel
theorem d_Rw_isMissing_20 : decode prog_8_method_2_code 20 = .ok (.goto 4, 3) := by decide +kernel
theorem d_Rw_isMissing_23 : decode prog_8_method_2_code 23 = .ok (.iconst 0, 1) := by decide +kernel
theorem d_Rw_isMissing_24 : decode prog_8_method_2_code 24 = .ok (.ireturn, 1) := by decide +kernel
theorem d_Rw_areAlike_0 : decode prog_8_method_3_code 0 = .ok (.aload_n 0, 1) := by decide +kernel
theorem d_Rw_areAlike_1 : decode prog_8_method_3_code 1 = .ok (.getfield 15, 3) := by decide +kernel
theorem d_Rw_areAlike_4 : decode prog_8_method_3_code 4 = .ok (.iload_n 1, 1) := by decide +kernel
theorem d_Rw_areAlike_5 : decode prog_8_method_3_code 5 = .ok (.invokestatic 31, 3) := by decide +kernel
theorem d_Rw_areAlike_8 : decode prog_8_method_3_code 8 = .ok (.aload_n 0, 1) := by decide +kernel
theorem d_Rw_areAlike_9 : decode prog_8_method_3_code 9 = .ok (.getfield 15, 3) := by decide +kernel
theorem d_Rw_areAlike_12 : decode prog_8_method_3_code 12 = .ok (.iload_n 2, 1) := by decide +kernel
theorem d_Rw_areAlike_13 : decode prog_8_method_3_code 13 = .ok (.invokestatic 31, 3) := by decide +kernel
theorem d_Rw_areAlike_16 : decode prog_8_method_3_code 16 = .ok (.if_icmp .ne 7, 3) := by decide +kernel
theorem d_Rw_areAlike_19 : decode prog_8_method_3_code 19 = .ok (.iconst 1, 1) := by decide +kernel
theorem d_Rw_areAlike_20 : decode prog_8_method_3_code 20 = .ok (.goto 4, 3) := by decide +kernel
theorem d_Rw_areAlike_23 : decode prog_8_method_3_code 23 = .ok (.iconst 0, 1) := by decide +kernel
theorem d_Rw_areAlike_24 : decode prog_8_method_3_code 24 = .ok (.ireturn, 1) := by decide +kernel
theorem d_Rw_holds_0 : decode prog_8_method_4_code 0 = .ok (.iload_n 2, 1) := by decide +kernel
theorem d_Rw_holds_1 : decode prog_8_method_4_code 1 = .ok (.ifCond .lt 37, 3) := by decide +kernel
theorem d_Rw_holds_4 : decode prog_8_method_4_code 4 = .ok (.iload_n 3, 1) := by decide +kernel
theorem d_Rw_holds_5 : decode prog_8_method_4_code 5 = .ok (.ifCond .lt 33, 3) := by decide +kernel
theorem d_Rw_holds_8 : decode prog_8_method_4_code 8 = .ok (.iload_n 3, 1) := by decide +kernel
theorem d_Rw_holds_9 : decode prog_8_method_4_code 9 = .ok (.aload_n 0, 1) := by decide +kernel
theorem d_Rw_holds_10 : decode prog_8_method_4_code 10 = .ok (.getfield 18, 3) := by decide +kernel
theorem d_Rw_holds_13 : decode prog_8_method_4_code 13 = .ok (.iload_n 1, 1) := by decide +kernel
theorem d_Rw_holds_14 : decode prog_8_method_4_code 14 = .ok (.invokestatic 31, 3) := by decide +kernel
theorem d_Rw_holds_17 : decode prog_8_method_4_code 17 = .ok (.if_icmp .gt 21, 3) := by decide +kernel
theorem d_Rw_holds_20 : decode prog_8_method_4_code 20 = .ok (.iload_n 2, 1) := by decide +kernel
theorem d_Rw_holds_21 : decode prog_8_method_4_code 21 = .ok (.aload_n 0, 1) := by decide +kernel
theorem d_Rw_holds_22 : decode prog_8_method_4_code 22 = .ok (.getfield 18, 3) := by decide +kernel
theorem d_Rw_holds_25 : decode prog_8_method_4_code 25 = .ok (.iload_n 1, 1) := by decide +kernel
theorem d_Rw_holds_26 : decode prog_8_method_4_code 26 = .ok (.invokestatic 31, 3) := by decide +kernel
theorem d_Rw_holds_29 : decode prog_8_method_4_code 29 = .ok (.iload_n 3, 1) := by decide +kernel
theorem d_Rw_holds_30 : decode prog_8_method_4_code 30 = .ok (.isub, 1) := by decide +kernel
theorem d_Rw_holds_31 : decode prog_8_method_4_code 31 = .ok (.if_icmp .gt 7, 3) := by decide +kernel
theorem d_Rw_holds_34 : decode prog_8_method_4_code 34 = .ok (.iconst 1, 1) := by decide +kernel
theorem d_Rw_holds_35 : decode prog_8_method_4_code 35 = .ok (.goto 4, 3) := by decide +kernel
theorem d_Rw_holds_38 : decode prog_8_method_4_code 38 = .ok (.iconst 0, 1) := by decide +kernel
theorem d_Rw_holds_39 : decode prog_8_method_4_code 39 = .ok (.ireturn, 1) := by decide +kernel
theorem d_Rw_make_0 : decode prog_8_method_5_code 0 = .ok (.aload_n 0, 1) := by decide +kernel
theorem d_Rw_make_1 : decode prog_8_method_5_code 1 = .ok (.getfield 15, 3) := by decide +kernel
theorem d_Rw_make_4 : decode prog_8_method_5_code 4 = .ok (.iload_n 1, 1) := by decide +kernel
theorem d_Rw_make_5 : decode prog_8_method_5_code 5 = .ok (.iload_n 2, 1) := by decide +kernel
theorem d_Rw_make_6 : decode prog_8_method_5_code 6 = .ok (.invokestatic 35, 3) := by decide +kernel
theorem d_Rw_make_9 : decode prog_8_method_5_code 9 = .ok (.aload_n 0, 1) := by decide +kernel
theorem d_Rw_make_10 : decode prog_8_method_5_code 10 = .ok (.getfield 18, 3) := by decide +kernel
theorem d_Rw_make_13 : decode prog_8_method_5_code 13 = .ok (.iload_n 1, 1) := by decide +kernel
theorem d_Rw_make_14 : decode prog_8_method_5_code 14 = .ok (.iload_n 3, 1) := by decide +kernel
theorem d_Rw_make_15 : decode prog_8_method_5_code 15 = .ok (.invokestatic 35, 3) := by decide +kernel
theorem d_Rw_make_18 : decode prog_8_method_5_code 18 = .ok (.iconst 0, 1) := by decide +kernel
theorem d_Rw_make_19 : decode prog_8_method_5_code 19 = .ok (.istore 4, 2) := by decide +kernel
theorem d_Rw_make_21 : decode prog_8_method_5_code 21 = .ok (.iload 4, 2) := by decide +kernel
theorem d_Rw_make_23 : decode prog_8_method_5_code 23 = .ok (.bipush 40, 2) := by decide +kernel
theorem d_Rw_make_25 : decode prog_8_method_5_code 25 = .ok (.if_icmp .ge 24, 3) := by decide +kernel
theorem d_Rw_make_28 : decode prog_8_method_5_code 28 = .ok (.aload_n 0, 1) := by decide +kernel
theorem d_Rw_make_29 : decode prog_8_method_5_code 29 = .ok (.getfield 9, 3) := by decide +kernel
theorem d_Rw_make_32 : decode prog_8_method_5_code 32 = .ok (.iload_n 1, 1) := by decide +kernel
theorem d_Rw_make_33 : decode prog_8_method_5_code 33 = .ok (.bipush 40, 2) := by decide +kernel
theorem d_Rw_make_35 : decode prog_8_method_5_code 35 = .ok (.imul, 1) := by decide +kernel
theorem d_Rw_make_36 : decode prog_8_method_5_code 36 = .ok (.iload 4, 2) := by decide +kernel
theorem d_Rw_make_38 : decode prog_8_method_5_code 38 = .ok (.iadd, 1) := by decide +kernel
theorem d_Rw_make_39 : decode prog_8_method_5_code 39 = .ok (.iconst 0, 1) := by decide +kernel
theorem d_Rw_make_40 : decode prog_8_method_5_code 40 = .ok (.invokestatic 35, 3) := by decide +kernel
theorem d_Rw_make_43 : decode prog_8_method_5_code 43 = .ok (.iinc 4 1, 3) := by decide +kernel
theorem d_Rw_make_46 : decode prog_8_method_5_code 46 = .ok (.goto (-25), 3) := by decide +kernel
theorem d_Rw_make_49 : decode prog_8_method_5_code 49 = .ok (.return_, 1) := by decide +kernel
theorem d_Rw_remove_0 : decode prog_8_method_6_code 0 = .ok (.aload_n 0, 1) := by decide +kernel
theorem d_Rw_remove_1 : decode prog_8_method_6_code 1 = .ok (.getfield 18, 3) := by decide +kernel
theorem d_Rw_remove_4 : decode prog_8_method_6_code 4 = .ok (.iload_n 1, 1) := by decide +kernel
theorem d_Rw_remove_5 : decode prog_8_method_6_code 5 = .ok (.invokestatic 31, 3) := by decide +kernel
theorem d_Rw_remove_8 : decode prog_8_method_6_code 8 = .ok (.istore_n 2, 1) := by decide +kernel
theorem d_Rw_remove_9 : decode prog_8_method_6_code 9 = .ok (.aload_n 0, 1) := by decide +kernel
theorem d_Rw_remove_10 : decode prog_8_method_6_code 10 = .ok (.getfield 15, 3) := by decide +kernel
theorem d_Rw_remove_13 : decode prog_8_method_6_code 13 = .ok (.iload_n 1, 1) := by decide +kernel
theorem d_Rw_remove_14 : decode prog_8_method_6_code 14 = .ok (.iconst (-1), 1) := by decide +kernel
theorem d_Rw_remove_15 : decode prog_8_method_6_code 15 = .ok (.invokestatic 35, 3) := by decide +kernel
theorem d_Rw_remove_18 : decode prog_8_method_6_code 18 = .ok (.aload_n 0, 1) := by decide +kernel
theorem d_Rw_remove_19 : decode prog_8_method_6_code 19 = .ok (.getfield 18, 3) := by decide +kernel
theorem d_Rw_remove_22 : decode prog_8_method_6_code 22 = .ok (.iload_n 1, 1) := by decide +kernel
theorem d_Rw_remove_23 : decode prog_8_method_6_code 23 = .ok (.iconst 0, 1) := by decide +kernel
theorem d_Rw_remove_24 : decode prog_8_method_6_code 24 = .ok (.invokestatic 35, 3) := by decide +kernel
theorem d_Rw_remove_27 : decode prog_8_method_6_code 27 = .ok (.iload_n 2, 1) := by decide +kernel
theorem d_Rw_remove_28 : decode prog_8_method_6_code 28 = .ok (.ireturn, 1) := by decide +kernel
theorem d_Rw_store_0 : decode prog_8_method_7_code 0 = .ok (.aload_n 0, 1) := by decide +kernel
theorem d_Rw_store_1 : decode prog_8_method_7_code 1 = .ok (.getfield 15, 3) := by decide +kernel
theorem d_Rw_store_4 : decode prog_8_method_7_code 4 = .ok (.iload_n 1, 1) := by decide +kernel
theorem d_Rw_store_5 : decode prog_8_method_7_code 5 = .ok (.invokestatic 31, 3) := by decide +kernel
theorem d_Rw_store_8 : decode prog_8_method_7_code 8 = .ok (.istore 4, 2) := by decide +kernel
theorem d_Rw_store_10 : decode prog_8_method_7_code 10 = .ok (.iload 4, 2) := by decide +kernel
theorem d_Rw_store_12 : decode prog_8_method_7_code 12 = .ok (.ifCond .ne 8, 3) := by decide +kernel
theorem d_Rw_store_15 : decode prog_8_method_7_code 15 = .ok (.iload_n 3, 1) := by decide +kernel
theorem d_Rw_store_16 : decode prog_8_method_7_code 16 = .ok (.i2b, 1) := by decide +kernel
theorem d_Rw_store_17 : decode prog_8_method_7_code 17 = .ok (.goto 15, 3) := by decide +kernel
theorem d_Rw_store_20 : decode prog_8_method_7_code 20 = .ok (.iload 4, 2) := by decide +kernel
theorem d_Rw_store_22 : decode prog_8_method_7_code 22 = .ok (.iconst 1, 1) := by decide +kernel
theorem d_Rw_store_23 : decode prog_8_method_7_code 23 = .ok (.if_icmp .ne 8, 3) := by decide +kernel
theorem d_Rw_store_26 : decode prog_8_method_7_code 26 = .ok (.iload_n 3, 1) := by decide +kernel
theorem d_Rw_store_27 : decode prog_8_method_7_code 27 = .ok (.i2s, 1) := by decide +kernel
theorem d_Rw_store_28 : decode prog_8_method_7_code 28 = .ok (.goto 4, 3) := by decide +kernel
theorem d_Rw_store_31 : decode prog_8_method_7_code 31 = .ok (.iload_n 3, 1) := by decide +kernel
theorem d_Rw_store_32 : decode prog_8_method_7_code 32 = .ok (.istore 5, 2) := by decide +kernel
theorem d_Rw_store_34 : decode prog_8_method_7_code 34 = .ok (.aload_n 0, 1) := by decide +kernel
theorem d_Rw_store_35 : decode prog_8_method_7_code 35 = .ok (.getfield 9, 3) := by decide +kernel
theorem d_Rw_store_38 : decode prog_8_method_7_code 38 = .ok (.iload_n 1, 1) := by decide +kernel
theorem d_Rw_store_39 : decode prog_8_method_7_code 39 = .ok (.bipush 40, 2) := by decide +kernel
theorem d_Rw_store_41 : decode prog_8_method_7_code 41 = .ok (.imul, 1) := by decide +kernel
theorem d_Rw_store_42 : decode prog_8_method_7_code 42 = .ok (.iload_n 2, 1) := by decide +kernel
theorem d_Rw_store_43 : decode prog_8_method_7_code 43 = .ok (.iadd, 1) := by decide +kernel
theorem d_Rw_store_44 : decode prog_8_method_7_code 44 = .ok (.iload 5, 2) := by decide +kernel
theorem d_Rw_store_46 : decode prog_8_method_7_code 46 = .ok (.invokestatic 35, 3) := by decide +kernel
theorem d_Rw_store_49 : decode prog_8_method_7_code 49 = .ok (.iload 5, 2) := by decide +kernel
theorem d_Rw_store_51 : decode prog_8_method_7_code 51 = .ok (.ireturn, 1) := by decide +kernel
theorem d_Rw_item_0 : decode prog_8_method_8_code 0 = .ok (.aload_n 0, 1) := by decide +kernel
theorem d_Rw_item_1 : decode prog_8_method_8_code 1 = .ok (.getfield 9, 3) := by decide +kernel
theorem d_Rw_item_4 : decode prog_8_method_8_code 4 = .ok (.iload_n 1, 1) := by decide +kernel
theorem d_Rw_item_5 : decode prog_8_method_8_code 5 = .ok (.bipush 40, 2) := by decide +kernel
theorem d_Rw_item_7 : decode prog_8_method_8_code 7 = .ok (.imul, 1) := by decide +kernel
theorem d_Rw_item_8 : decode prog_8_method_8_code 8 = .ok (.iload_n 2, 1) := by decide +kernel
theorem d_Rw_item_9 : decode prog_8_method_8_code 9 = .ok (.iadd, 1) := by decide +kernel
theorem d_Rw_item_10 : decode prog_8_method_8_code 10 = .ok (.invokestatic 31, 3) := by decide +kernel
theorem d_Rw_item_13 : decode prog_8_method_8_code 13 = .ok (.ireturn, 1) := by decide +kernel
theorem d_Rw_carry_0 : decode prog_8_method_9_code 0 = .ok (.aload_n 0, 1) := by decide +kernel
theorem d_Rw_carry_1 : decode prog_8_method_9_code 1 = .ok (.iload_n 1, 1) := by decide +kernel
theorem d_Rw_carry_2 : decode prog_8_method_9_code 2 = .ok (.invokevirtual 39, 3) := by decide +kernel
theorem d_Rw_carry_5 : decode prog_8_method_9_code 5 = .ok (.ifCond .ne 60, 3) := by decide +kernel
theorem d_Rw_carry_8 : decode prog_8_method_9_code 8 = .ok (.aload_n 0, 1) := by decide +kernel
theorem d_Rw_carry_9 : decode prog_8_method_9_code 9 = .ok (.iload_n 3, 1) := by decide +kernel
theorem d_Rw_carry_10 : decode prog_8_method_9_code 10 = .ok (.invokevirtual 39, 3) := by decide +kernel
theorem d_Rw_carry_13 : decode prog_8_method_9_code 13 = .ok (.ifCond .ne 52, 3) := by decide +kernel
theorem d_Rw_carry_16 : decode prog_8_method_9_code 16 = .ok (.aload_n 0, 1) := by decide +kernel
theorem d_Rw_carry_17 : decode prog_8_method_9_code 17 = .ok (.iload_n 1, 1) := by decide +kernel
theorem d_Rw_carry_18 : decode prog_8_method_9_code 18 = .ok (.iload_n 2, 1) := by decide +kernel
theorem d_Rw_carry_19 : decode prog_8_method_9_code 19 = .ok (.iload 5, 2) := by decide +kernel
theorem d_Rw_carry_21 : decode prog_8_method_9_code 21 = .ok (.invokevirtual 42, 3) := by decide +kernel
theorem d_Rw_carry_24 : decode prog_8_method_9_code 24 = .ok (.ifCond .eq 41, 3) := by decide +kernel
theorem d_Rw_carry_27 : decode prog_8_method_9_code 27 = .ok (.aload_n 0, 1) := by decide +kernel
theorem d_Rw_carry_28 : decode prog_8_method_9_code 28 = .ok (.iload_n 3, 1) := by decide +kernel
theorem d_Rw_carry_29 : decode prog_8_method_9_code 29 = .ok (.iload 4, 2) := by decide +kernel
theorem d_Rw_carry_31 : decode prog_8_method_9_code 31 = .ok (.iload 5, 2) := by decide +kernel
theorem d_Rw_carry_33 : decode prog_8_method_9_code 33 = .ok (.invokevirtual 42, 3) := by decide +kernel
theorem d_Rw_carry_36 : decode prog_8_method_9_code 36 = .ok (.ifCond .eq 29, 3) := by decide +kernel
theorem d_Rw_carry_39 : decode prog_8_method_9_code 39 = .ok (.aload_n 0, 1) := by decide +kernel
theorem d_Rw_carry_40 : decode prog_8_method_9_code 40 = .ok (.getfield 9, 3) := by decide +kernel
theorem d_Rw_carry_43 : decode prog_8_method_9_code 43 = .ok (.iload_n 1, 1) := by decide +kernel
theorem d_Rw_carry_44 : decode prog_8_method_9_code 44 = .ok (.bipush 40, 2) := by decide +kernel
theorem d_Rw_carry_46 : decode prog_8_method_9_code 46 = .ok (.imul, 1) := by decide +kernel
theorem d_Rw_carry_47 : decode prog_8_method_9_code 47 = .ok (.iload_n 2, 1) := by decide +kernel
theorem d_Rw_carry_48 : decode prog_8_method_9_code 48 = .ok (.iadd, 1) := by decide +kernel
theorem d_Rw_carry_49 : decode prog_8_method_9_code 49 = .ok (.aload_n 0, 1) := by decide +kernel
theorem d_Rw_carry_50 : decode prog_8_method_9_code 50 = .ok (.getfield 9, 3) := by decide +kernel
theorem d_Rw_carry_53 : decode prog_8_method_9_code 53 = .ok (.iload_n 3, 1) := by decide +kernel
theorem d_Rw_carry_54 : decode prog_8_method_9_code 54 = .ok (.bipush 40, 2) := by decide +kernel
theorem d_Rw_carry_56 : decode prog_8_method_9_code 56 = .ok (.imul, 1) := by decide +kernel
theorem d_Rw_carry_57 : decode prog_8_method_9_code 57 = .ok (.iload 4, 2) := by decide +kernel
theorem d_Rw_carry_59 : decode prog_8_method_9_code 59 = .ok (.iadd, 1) := by decide +kernel
theorem d_Rw_carry_60 : decode prog_8_method_9_code 60 = .ok (.iload 5, 2) := by decide +kernel
theorem d_Rw_carry_62 : decode prog_8_method_9_code 62 = .ok (.invokestatic 46, 3) := by decide +kernel
theorem d_Rw_carry_65 : decode prog_8_method_9_code 65 = .ok (.return_, 1) := by decide +kernel
theorem d_Rw_present_0 : decode prog_8_method_10_code 0 = .ok (.iconst 0, 1) := by decide +kernel
theorem d_Rw_present_1 : decode prog_8_method_10_code 1 = .ok (.istore_n 1, 1) := by decide +kernel
theorem d_Rw_present_2 : decode prog_8_method_10_code 2 = .ok (.iconst 0, 1) := by decide +kernel
theorem d_Rw_present_3 : decode prog_8_method_10_code 3 = .ok (.istore_n 2, 1) := by decide +kernel
theorem d_Rw_present_4 : decode prog_8_method_10_code 4 = .ok (.iload_n 2, 1) := by decide +kernel
theorem d_Rw_present_5 : decode prog_8_method_10_code 5 = .ok (.bipush 8, 2) := by decide +kernel
theorem d_Rw_present_7 : decode prog_8_method_10_code 7 = .ok (.if_icmp .ge 25, 3) := by decide +kernel
theorem d_Rw_present_10 : decode prog_8_method_10_code 10 = .ok (.iload_n 1, 1) := by decide +kernel
theorem d_Rw_present_11 : decode prog_8_method_10_code 11 = .ok (.aload_n 0, 1) := by decide +kernel
theorem d_Rw_present_12 : decode prog_8_method_10_code 12 = .ok (.iload_n 2, 1) := by decide +kernel
theorem d_Rw_present_13 : decode prog_8_method_10_code 13 = .ok (.invokevirtual 39, 3) := by decide +kernel
theorem d_Rw_present_16 : decode prog_8_method_10_code 16 = .ok (.ifCond .eq 7, 3) := by decide +kernel
theorem d_Rw_present_19 : decode prog_8_method_10_code 19 = .ok (.iconst 0, 1) := by decide +kernel
theorem d_Rw_present_20 : decode prog_8_method_10_code 20 = .ok (.goto 4, 3) := by decide +kernel
theorem d_Rw_present_23 : decode prog_8_method_10_code 23 = .ok (.iconst 1, 1) := by decide +kernel
theorem d_Rw_present_24 : decode prog_8_method_10_code 24 = .ok (.iadd, 1) := by decide +kernel
theorem d_Rw_present_25 : decode prog_8_method_10_code 25 = .ok (.istore_n 1, 1) := by decide +kernel
theorem d_Rw_present_26 : decode prog_8_method_10_code 26 = .ok (.iinc 2 1, 3) := by decide +kernel
theorem d_Rw_present_29 : decode prog_8_method_10_code 29 = .ok (.goto (-25), 3) := by decide +kernel
theorem d_Rw_present_32 : decode prog_8_method_10_code 32 = .ok (.iload_n 1, 1) := by decide +kernel
theorem d_Rw_present_33 : decode prog_8_method_10_code 33 = .ok (.ireturn, 1) := by decide +kernel
theorem d_S_init_0 : decode prog_9_method_1_code 0 = .ok (.aload_n 0, 1) := by decide +kernel
theorem d_S_init_1 : decode prog_9_method_1_code 1 = .ok (.invokespecial 5, 3) := by decide +kernel
theorem d_S_init_4 : decode prog_9_method_1_code 4 = .ok (.aload_n 0, 1) := by decide +kernel
theorem d_S_init_5 : decode prog_9_method_1_code 5 = .ok (.sipush 192, 3) := by decide +kernel
theorem d_S_init_8 : decode prog_9_method_1_code 8 = .ok (.newarray .int, 2) := by decide +kernel
theorem d_S_init_10 : decode prog_9_method_1_code 10 = .ok (.putfield 11, 3) := by decide +kernel
theorem d_S_init_13 : decode prog_9_method_1_code 13 = .ok (.aload_n 0, 1) := by decide +kernel
theorem d_S_init_14 : decode prog_9_method_1_code 14 = .ok (.sipush 576, 3) := by decide +kernel
theorem d_S_init_17 : decode prog_9_method_1_code 17 = .ok (.newarray .int, 2) := by decide +kernel
theorem d_S_init_19 : decode prog_9_method_1_code 19 = .ok (.putfield 15, 3) := by decide +kernel
theorem d_S_init_22 : decode prog_9_method_1_code 22 = .ok (.aload_n 0, 1) := by decide +kernel
theorem d_S_init_23 : decode prog_9_method_1_code 23 = .ok (.sipush 576, 3) := by decide +kernel
theorem d_S_init_26 : decode prog_9_method_1_code 26 = .ok (.newarray .int, 2) := by decide +kernel
theorem d_S_init_28 : decode prog_9_method_1_code 28 = .ok (.putfield 18, 3) := by decide +kernel
theorem d_S_init_31 : decode prog_9_method_1_code 31 = .ok (.aload_n 0, 1) := by decide +kernel
theorem d_S_init_32 : decode prog_9_method_1_code 32 = .ok (.sipush 576, 3) := by decide +kernel
theorem d_S_init_35 : decode prog_9_method_1_code 35 = .ok (.newarray .int, 2) := by decide +kernel
theorem d_S_init_37 : decode prog_9_method_1_code 37 = .ok (.putfield 21, 3) := by decide +kernel
theorem d_S_init_40 : decode prog_9_method_1_code 40 = .ok (.aload_n 0, 1) := by decide +kernel
theorem d_S_init_41 : decode prog_9_method_1_code 41 = .ok (.sipush 576, 3) := by decide +kernel
theorem d_S_init_44 : decode prog_9_method_1_code 44 = .ok (.newarray .int, 2) := by decide +kernel
theorem d_S_init_46 : decode prog_9_method_1_code 46 = .ok (.putfield 24, 3) := by decide +kernel
theorem d_S_init_49 : decode prog_9_method_1_code 49 = .ok (.aload_n 0, 1) := by decide +kernel
theorem d_S_init_50 : decode prog_9_method_1_code 50 = .ok (.bipush 21, 2) := by decide +kernel
theorem d_S_init_52 : decode prog_9_method_1_code 52 = .ok (.newarray .int, 2) := by decide +kernel
theorem d_S_init_54 : decode prog_9_method_1_code 54 = .ok (.putfield 27, 3) := by decide +kernel
theorem d_S_init_57 : decode prog_9_method_1_code 57 = .ok (.aload_n 0, 1) := by decide +kernel
theorem d_S_init_58 : decode prog_9_method_1_code 58 = .ok (.bipush 10, 2) := by decide +kernel
theorem d_S_init_60 : decode prog_9_method_1_code 60 = .ok (.newarray .int, 2) := by decide +kernel
theorem d_S_init_62 : decode prog_9_method_1_code 62 = .ok (.putfield 30, 3) := by decide +kernel
theorem d_S_init_65 : decode prog_9_method_1_code 65 = .ok (.aload_n 0, 1) := by decide +kernel
theorem d_S_init_66 : decode prog_9_method_1_code 66 = .ok (.bipush 10, 2) := by decide +kernel
theorem d_S_init_68 : decode prog_9_method_1_code 68 = .ok (.newarray .int, 2) := by decide +kernel
theorem d_S_init_70 : decode prog_9_method_1_code 70 = .ok (.putfield 33, 3) := by decide +kernel
theorem d_S_init_73 : decode prog_9_method_1_code 73 = .ok (.return_, 1) := by decide +kernel
theorem d_S_minutesToTurn_0 : decode prog_9_method_2_code 0 = .ok (.aload_n 1, 1) := by decide +kernel
theorem d_S_minutesToTurn_1 : decode prog_9_method_2_code 1 = .ok (.getfield 36, 3) := by decide +kernel
theorem d_S_minutesToTurn_4 : decode prog_9_method_2_code 4 = .ok (.iconst 4, 1) := by decide +kernel
theorem d_S_minutesToTurn_5 : decode prog_9_method_2_code 5 = .ok (.iadd, 1) := by decide +kernel
theorem d_S_minutesToTurn_6 : decode prog_9_method_2_code 6 = .ok (.bipush 7, 2) := by decide +kernel
theorem d_S_minutesToTurn_8 : decode prog_9_method_2_code 8 = .ok (.iand, 1) := by decide +kernel
theorem d_S_minutesToTurn_9 : decode prog_9_method_2_code 9 = .ok (.istore_n 3, 1) := by decide +kernel
theorem d_S_minutesToTurn_10 : decode prog_9_method_2_code 10 = .ok (.aload_n 0, 1) := by decide +kernel
theorem d_S_minutesToTurn_11 : decode prog_9_method_2_code 11 = .ok (.aload_n 1, 1) := by decide +kernel
theorem d_S_minutesToTurn_12 : decode prog_9_method_2_code 12 = .ok (.iload_n 2, 1) := by decide +kernel
theorem d_S_minutesToTurn_13 : decode prog_9_method_2_code 13 = .ok (.iload_n 3, 1) := by decide +kernel
theorem d_S_minutesToTurn_14 : decode prog_9_method_2_code 14 = .ok (.invokevirtual 42, 3) := by decide +kernel
theorem d_S_minutesToTurn_17 : decode prog_9_method_2_code 17 = .ok (.aload_n 0, 1) := by decide +kernel
theorem d_S_minutesToTurn_18 : decode prog_9_method_2_code 18 = .ok (.iconst 0, 1) := by decide +kernel
theorem d_S_minutesToTurn_19 : decode prog_9_method_2_code 19 = .ok (.bipush 23, 2) := by decide +kernel
theorem d_S_minutesToTurn_21 : decode prog_9_method_2_code 21 = .ok (.iload_n 3, 1) := by decide +kernel
theorem d_S_minutesToTurn_22 : decode prog_9_method_2_code 22 = .ok (.invokevirtual 46, 3) := by decide +kernel
theorem d_S_minutesToTurn_25 : decode prog_9_method_2_code 25 = .ok (.aload_n 0, 1) := by decide +kernel
theorem d_S_minutesToTurn_26 : decode prog_9_method_2_code 26 = .ok (.getfield 50, 3) := by decide +kernel
theorem d_S_minutesToTurn_29 : decode prog_9_method_2_code 29 = .ok (.ireturn, 1) := by decide +kernel
theorem d_S_explore_0 : decode prog_9_method_3_code 0 = .ok (.aload_n 0, 1) := by decide +kernel
theorem d_S_explore_1 : decode prog_9_method_3_code 1 = .ok (.aload_n 1, 1) := by decide +kernel
theorem d_S_explore_2 : decode prog_9_method_3_code 2 = .ok (.iload_n 2, 1) := by decide +kernel
theorem d_S_explore_3 : decode prog_9_method_3_code 3 = .ok (.invokevirtual 53, 3) := by decide +kernel
theorem d_S_explore_6 : decode prog_9_method_3_code 6 = .ok (.aload_n 0, 1) := by decide +kernel
theorem d_S_explore_7 : decode prog_9_method_3_code 7 = .ok (.aload_n 1, 1) := by decide +kernel
theorem d_S_explore_8 : decode prog_9_method_3_code 8 = .ok (.invokevirtual 57, 3) := by decide +kernel
theorem d_S_explore_11 : decode prog_9_method_3_code 11 = .ok (.aload_n 0, 1) := by decide +kernel
theorem d_S_explore_12 : decode prog_9_method_3_code 12 = .ok (.aload_n 0, 1) := by decide +kernel
theorem d_S_explore_13 : decode prog_9_method_3_code 13 = .ok (.getfield 61, 3) := by decide +kernel
theorem d_S_explore_16 : decode prog_9_method_3_code 16 = .ok (.iconst 0, 1) := by decide +kernel
theorem d_S_explore_17 : decode prog_9_method_3_code 17 = .ok (.ldc 64, 2) := by decide +kernel
theorem d_S_explore_19 : decode prog_9_method_3_code 19 = .ok (.invokevirtual 65, 3) := by decide +kernel
theorem d_S_explore_22 : decode prog_9_method_3_code 22 = .ok (.iconst 0, 1) := by decide +kernel
theorem d_S_explore_23 : decode prog_9_method_3_code 23 = .ok (.istore 4, 2) := by decide +kernel
theorem d_S_explore_25 : decode prog_9_method_3_code 25 = .ok (.iload 4, 2) := by decide +kernel
theorem d_S_explore_27 : decode prog_9_method_3_code 27 = .ok (.sipush 11520, 3) := by decide +kernel
theorem d_S_explore_30 : decode prog_9_method_3_code 30 = .ok (.if_icmp .gt 88, 3) := by decide +kernel
theorem d_S_explore_33 : decode prog_9_method_3_code 33 = .ok (.aload_n 0, 1) := by decide +kernel
theorem d_S_explore_34 : decode prog_9_method_3_code 34 = .ok (.getfield 68, 3) := by decide +kernel
theorem d_S_explore_37 : decode prog_9_method_3_code 37 = .ok (.ifCond .le 81, 3) := by decide +kernel
theorem d_S_explore_40 : decode prog_9_method_3_code 40 = .ok (.iload 4, 2) := by decide +kernel
theorem d_S_explore_42 : decode prog_9_method_3_code 42 = .ok (.bipush 21, 2) := by decide +kernel
theorem d_S_explore_44 : decode prog_9_method_3_code 44 = .ok (.irem, 1) := by decide +kernel
theorem d_S_explore_45 : decode prog_9_method_3_code 45 = .ok (.istore 5, 2) := by decide +kernel
theorem d_S_explore_47 : decode prog_9_method_3_code 47 = .ok (.iconst 0, 1) := by decide +kernel
theorem d_S_explore_48 : decode prog_9_method_3_code 48 = .ok (.istore 6, 2) := by decide +kernel
theorem d_S_explore_50 : decode prog_9_method_3_code 50 = .ok (.iload 6, 2) := by decide +kernel
theorem d_S_explore_52 : decode prog_9_method_3_code 52 = .ok (.sipush 576, 3) := by decide +kernel
theorem d_S_explore_55 : decode prog_9_method_3_code 55 = .ok (.if_icmp .ge 57, 3) := by decide +kernel
theorem d_S_explore_58 : decode prog_9_method_3_code 58 = .ok (.aload_n 0, 1) := by decide +kernel
theorem d_S_explore_59 : decode prog_9_method_3_code 59 = .ok (.getfield 27, 3) := by decide +kernel
theorem d_S_explore_62 : decode prog_9_method_3_code 62 = .ok (.iload 5, 2) := by decide +kernel
theorem d_S_explore_64 : decode prog_9_method_3_code 64 = .ok (.invokestatic 71, 3) := by decide +kernel
theorem d_S_explore_67 : decode prog_9_method_3_code 67 = .ok (.iconst (-1), 1) := by decide +kernel
theorem d_S_explore_68 : decode prog_9_method_3_code 68 = .ok (.if_icmp .eq 44, 3) := by decide +kernel
theorem d_S_explore_71 : decode prog_9_method_3_code 71 = .ok (.aload_n 0, 1) := by decide +kernel
theorem d_S_explore_72 : decode prog_9_method_3_code 72 = .ok (.getfield 27, 3) := by decide +kernel
theorem d_S_explore_75 : decode prog_9_method_3_code 75 = .ok (.iload 5, 2) := by decide +kernel
theorem d_S_explore_77 : decode prog_9_method_3_code 77 = .ok (.invokestatic 71, 3) := by decide +kernel
theorem d_S_explore_80 : decode prog_9_method_3_code 80 = .ok (.istore 7, 2) := by decide +kernel
theorem d_S_explore_82 : decode prog_9_method_3_code 82 = .ok (.iload 7, 2) := by decide +kernel
theorem d_S_explore_84 : decode prog_9_method_3_code 84 = .ok (.iconst 3, 1) := by decide +kernel
theorem d_S_explore_85 : decode prog_9_method_3_code 85 = .ok (.idiv, 1) := by decide +kernel
theorem d_S_explore_86 : decode prog_9_method_3_code 86 = .ok (.bipush 8, 2) := by decide +kernel
theorem d_S_explore_88 : decode prog_9_method_3_code 88 = .ok (.irem, 1) := by decide +kernel
theorem d_S_explore_89 : decode prog_9_method_3_code 89 = .ok (.iload_n 3, 1) := by decide +kernel
theorem d_S_explore_90 : decode prog_9_method_3_code 90 = .ok (.if_icmp .ne 4, 3) := by decide +kernel
theorem d_S_explore_93 : decode prog_9_method_3_code 93 = .ok (.return_, 1) := by decide +kernel
theorem d_S_explore_94 : decode prog_9_method_3_code 94 = .ok (.aload_n 0, 1) := by decide +kernel
theorem d_S_explore_95 : decode prog_9_method_3_code 95 = .ok (.iload 7, 2) := by decide +kernel
theorem d_S_explore_97 : decode prog_9_method_3_code 97 = .ok (.invokevirtual 75, 3) := by decide +kernel
theorem d_S_explore_100 : decode prog_9_method_3_code 100 = .ok (.aload_n 0, 1) := by decide +kernel
theorem d_S_explore_101 : decode prog_9_method_3_code 101 = .ok (.iload 7, 2) := by decide +kernel
theorem d_S_explore_103 : decode prog_9_method_3_code 103 = .ok (.invokevirtual 79, 3) := by decide +kernel
theorem d_S_explore_106 : decode prog_9_method_3_code 106 = .ok (.iinc 6 1, 3) := by decide +kernel
theorem d_S_explore_109 : decode prog_9_method_3_code 109 = .ok (.goto (-59), 3) := by decide +kernel
theorem d_S_explore_112 : decode prog_9_method_3_code 112 = .ok (.iinc 4 1, 3) := by decide +kernel
theorem d_S_explore_115 : decode prog_9_method_3_code 115 = .ok (.goto (-90), 3) := by decide +kernel
theorem d_S_explore_118 : decode prog_9_method_3_code 118 = .ok (.return_, 1) := by decide +kernel
theorem d_S_seek_0 : decode prog_9_method_4_code 0 = .ok (.ldc 82, 2) := by decide +kernel
theorem d_S_seek_2 : decode prog_9_method_4_code 2 = .ok (.istore 4, 2) := by decide +kernel
theorem d_S_seek_4 : decode prog_9_method_4_code 4 = .ok (.ldc 64, 2) := by decide +kernel
theorem d_S_seek_6 : decode prog_9_method_4_code 6 = .ok (.istore 5, 2) := by decide +kernel
theorem d_S_seek_8 : decode prog_9_method_4_code 8 = .ok (.iload_n 1, 1) := by decide +kernel
theorem d_S_seek_9 : decode prog_9_method_4_code 9 = .ok (.istore 6, 2) := by decide +kernel
theorem d_S_seek_11 : decode prog_9_method_4_code 11 = .ok (.iload 6, 2) := by decide +kernel
theorem d_S_seek_13 : decode prog_9_method_4_code 13 = .ok (.iload_n 2, 1) := by decide +kernel
theorem d_S_seek_14 : decode prog_9_method_4_code 14 = .ok (.if_icmp .gt 127, 3) := by decide +kernel
theorem d_S_seek_17 : decode prog_9_method_4_code 17 = .ok (.iconst 0, 1) := by decide +kernel
theorem d_S_seek_18 : decode prog_9_method_4_code 18 = .ok (.istore 7, 2) := by decide +kernel
theorem d_S_seek_20 : decode prog_9_method_4_code 20 = .ok (.iload 7, 2) := by decide +kernel
theorem d_S_seek_22 : decode prog_9_method_4_code 22 = .ok (.iconst 3, 1) := by decide +kernel
theorem d_S_seek_23 : decode prog_9_method_4_code 23 = .ok (.if_icmp .ge 112, 3) := by decide +kernel
theorem d_S_seek_26 : decode prog_9_method_4_code 26 = .ok (.iload 6, 2) := by decide +kernel
theorem d_S_seek_28 : decode prog_9_method_4_code 28 = .ok (.iload_n 3, 1) := by decide +kernel
theorem d_S_seek_29 : decode prog_9_method_4_code 29 = .ok (.iload 7, 2) := by decide +kernel
theorem d_S_seek_31 : decode prog_9_method_4_code 31 = .ok (.invokestatic 83, 3) := by decide +kernel
theorem d_S_seek_34 : decode prog_9_method_4_code 34 = .ok (.istore 8, 2) := by decide +kernel
theorem d_S_seek_36 : decode prog_9_method_4_code 36 = .ok (.iload 8, 2) := by decide +kernel
theorem d_S_seek_38 : decode prog_9_method_4_code 38 = .ok (.sipush 576, 3) := by decide +kernel
theorem d_S_seek_41 : decode prog_9_method_4_code 41 = .ok (.invokestatic 87, 3) := by decide +kernel
theorem d_S_seek_44 : decode prog_9_method_4_code 44 = .ok (.ifCond .eq 85, 3) := by decide +kernel
theorem d_S_seek_47 : decode prog_9_method_4_code 47 = .ok (.aload_n 0, 1) := by decide +kernel
theorem d_S_seek_48 : decode prog_9_method_4_code 48 = .ok (.getfield 15, 3) := by decide +kernel
theorem d_S_seek_51 : decode prog_9_method_4_code 51 = .ok (.iload 8, 2) := by decide +kernel
theorem d_S_seek_53 : decode prog_9_method_4_code 53 = .ok (.invokestatic 71, 3) := by decide +kernel
theorem d_S_seek_56 : decode prog_9_method_4_code 56 = .ok (.iload 4, 2) := by decide +kernel
theorem d_S_seek_58 : decode prog_9_method_4_code 58 = .ok (.if_icmp .le 6, 3) := by decide +kernel
theorem d_S_seek_61 : decode prog_9_method_4_code 61 = .ok (.goto 68, 3) := by decide +kernel
theorem d_S_seek_64 : decode prog_9_method_4_code 64 = .ok (.aload_n 0, 1) := by decide +kernel
theorem d_S_seek_65 : decode prog_9_method_4_code 65 = .ok (.getfield 15, 3) := by decide +kernel
theorem d_S_seek_68 : decode prog_9_method_4_code 68 = .ok (.iload 8, 2) := by decide +kernel
theorem d_S_seek_70 : decode prog_9_method_4_code 70 = .ok (.invokestatic 71, 3) := by decide +kernel
theorem d_S_seek_73 : decode prog_9_method_4_code 73 = .ok (.iload 4, 2) := by decide +kernel
theorem d_S_seek_75 : decode prog_9_method_4_code 75 = .ok (.if_icmp .ne 7, 3) := by decide +kernel
theorem d_S_seek_78 : decode prog_9_method_4_code 78 = .ok (.iconst 1, 1) := by decide +kernel
theorem d_S_seek_79 : decode prog_9_method_4_code 79 = .ok (.goto 4, 3) := by decide +kernel
theorem d_S_seek_82 : decode prog_9_method_4_code 82 = .ok (.iconst 0, 1) := by decide +kernel
theorem d_S_seek_83 : decode prog_9_method_4_code 83 = .ok (.istore 9, 2) := by decide +kernel
theorem d_S_seek_85 : decode prog_9_method_4_code 85 = .ok (.iload 9, 2) := by decide +kernel
theorem d_S_seek_87 : decode prog_9_method_4_code 87 = .ok (.ifCond .eq 20, 3) := by decide +kernel
theorem d_S_seek_90 : decode prog_9_method_4_code 90 = .ok (.iload 5, 2) := by decide +kernel
theorem d_S_seek_92 : decode prog_9_method_4_code 92 = .ok (.aload_n 0, 1) := by decide +kernel
theorem d_S_seek_93 : decode prog_9_method_4_code 93 = .ok (.getfield 18, 3) := by decide +kernel
theorem d_S_seek_96 : decode prog_9_method_4_code 96 = .ok (.iload 8, 2) := by decide +kernel
theorem d_S_seek_98 : decode prog_9_method_4_code 98 = .ok (.invokestatic 71, 3) := by decide +kernel
theorem d_S_seek_101 : decode prog_9_method_4_code 101 = .ok (.invokestatic 91, 3) := by decide +kernel
theorem d_S_seek_104 : decode prog_9_method_4_code 104 = .ok (.goto 12, 3) := by decide +kernel
theorem d_S_seek_107 : decode prog_9_method_4_code 107 = .ok (.aload_n 0, 1) := by decide +kernel
theorem d_S_seek_108 : decode prog_9_method_4_code 108 = .ok (.getfield 18, 3) := by decide +kernel
theorem d_S_seek_111 : decode prog_9_method_4_code 111 = .ok (.iload 8, 2) := by decide +kernel
theorem d_S_seek_113 : decode prog_9_method_4_code 113 = .ok (.invokestatic 71, 3) := by decide +kernel
theorem d_S_seek_116 : decode prog_9_method_4_code 116 = .ok (.istore 5, 2) := by decide +kernel
theorem d_S_seek_118 : decode prog_9_method_4_code 118 = .ok (.aload_n 0, 1) := by decide +kernel
theorem d_S_seek_119 : decode prog_9_method_4_code 119 = .ok (.getfield 15, 3) := by decide +kernel
theorem d_S_seek_122 : decode prog_9_method_4_code 122 = .ok (.iload 8, 2) := by decide +kernel
theorem d_S_seek_124 : decode prog_9_method_4_code 124 = .ok (.invokestatic 71, 3) := by decide +kernel
theorem d_S_seek_127 : decode prog_9_method_4_code 127 = .ok (.istore 4, 2) := by decide +kernel
theorem d_S_seek_129 : decode prog_9_method_4_code 129 = .ok (.iinc 7 1, 3) := by decide +kernel
theorem d_S_seek_132 : decode prog_9_method_4_code 132 = .ok (.goto (-112), 3) := by decide +kernel
theorem d_S_seek_135 : decode prog_9_method_4_code 135 = .ok (.iinc 6 1, 3) := by decide +kernel
theorem d_S_seek_138 : decode prog_9_method_4_code 138 = .ok (.goto (-127), 3) := by decide +kernel
theorem d_S_seek_141 : decode prog_9_method_4_code 141 = .ok (.aload_n 0, 1) := by decide +kernel
theorem d_S_seek_142 : decode prog_9_method_4_code 142 = .ok (.iload 4, 2) := by decide +kernel
theorem d_S_seek_144 : decode prog_9_method_4_code 144 = .ok (.ldc 82, 2) := by decide +kernel
theorem d_S_seek_146 : decode prog_9_method_4_code 146 = .ok (.if_icmp .ne 8, 3) := by decide +kernel
theorem d_S_seek_149 : decode prog_9_method_4_code 149 = .ok (.ldc 64, 2) := by decide +kernel
theorem d_S_seek_151 : decode prog_9_method_4_code 151 = .ok (.goto 5, 3) := by decide +kernel
theorem d_S_seek_154 : decode prog_9_method_4_code 154 = .ok (.iload 4, 2) := by decide +kernel
theorem d_S_seek_156 : decode prog_9_method_4_code 156 = .ok (.putfield 50, 3) := by decide +kernel
theorem d_S_seek_159 : decode prog_9_method_4_code 159 = .ok (.aload_n 0, 1) := by decide +kernel
theorem d_S_seek_160 : decode prog_9_method_4_code 160 = .ok (.iload 4, 2) := by decide +kernel
theorem d_S_seek_162 : decode prog_9_method_4_code 162 = .ok (.ldc 82, 2) := by decide +kernel
theorem d_S_seek_164 : decode prog_9_method_4_code 164 = .ok (.if_icmp .ne 8, 3) := by decide +kernel
theorem d_S_seek_167 : decode prog_9_method_4_code 167 = .ok (.ldc 64, 2) := by decide +kernel
theorem d_S_seek_169 : decode prog_9_method_4_code 169 = .ok (.goto 5, 3) := by decide +kernel
theorem d_S_seek_172 : decode prog_9_method_4_code 172 = .ok (.iload 5, 2) := by decide +kernel
theorem d_S_seek_174 : decode prog_9_method_4_code 174 = .ok (.putfield 97, 3) := by decide +kernel
theorem d_S_seek_177 : decode prog_9_method_4_code 177 = .ok (.return_, 1) := by decide +kernel
theorem d_S_cellsReached_0 : decode prog_9_method_5_code 0 = .ok (.iconst 0, 1) := by decide +kernel
theorem d_S_cellsReached_1 : decode prog_9_method_5_code 1 = .ok (.istore_n 1, 1) := by decide +kernel
theorem d_S_cellsReached_2 : decode prog_9_method_5_code 2 = .ok (.iconst 0, 1) := by decide +kernel
theorem d_S_cellsReached_3 : decode prog_9_method_5_code 3 = .ok (.istore_n 2, 1) := by decide +kernel
theorem d_S_cellsReached_4 : decode prog_9_method_5_code 4 = .ok (.iload_n 2, 1) := by decide +kernel
theorem d_S_cellsReached_5 : decode prog_9_method_5_code 5 = .ok (.sipush 576, 3) := by decide +kernel
theorem d_S_cellsReached_8 : decode prog_9_method_5_code 8 = .ok (.if_icmp .ge 31, 3) := by decide +kernel
theorem d_S_cellsReached_11 : decode prog_9_method_5_code 11 = .ok (.aload_n 0, 1) := by decide +kernel
theorem d_S_cellsReached_12 : decode prog_9_method_5_code 12 = .ok (.getfield 15, 3) := by decide +kernel
theorem d_S_cellsReached_15 : decode prog_9_method_5_code 15 = .ok (.iload_n 2, 1) := by decide +kernel
theorem d_S_cellsReached_16 : decode prog_9_method_5_code 16 = .ok (.invokestatic 71, 3) := by decide +kernel
theorem d_S_cellsReached_19 : decode prog_9_method_5_code 19 = .ok (.ldc 82, 2) := by decide +kernel
theorem d_S_cellsReached_21 : decode prog_9_method_5_code 21 = .ok (.if_icmp .eq 12, 3) := by decide +kernel
theorem d_S_cellsReached_24 : decode prog_9_method_5_code 24 = .ok (.iload_n 1, 1) := by decide +kernel
theorem d_S_cellsReached_25 : decode prog_9_method_5_code 25 = .ok (.iconst 1, 1) := by decide +kernel
theorem d_S_cellsReached_26 : decode prog_9_method_5_code 26 = .ok (.iload_n 2, 1) := by decide +kernel
theorem d_S_cellsReached_27 : decode prog_9_method_5_code 27 = .ok (.bipush 24, 2) := by decide +kernel
theorem d_S_cellsReached_29 : decode prog_9_method_5_code 29 = .ok (.idiv, 1) := by decide +kernel
theorem d_S_cellsReached_30 : decode prog_9_method_5_code 30 = .ok (.ishl, 1) := by decide +kernel
theorem d_S_cellsReached_31 : decode prog_9_method_5_code 31 = .ok (.ior, 1) := by decide +kernel
theorem d_S_cellsReached_32 : decode prog_9_method_5_code 32 = .ok (.istore_n 1, 1) := by decide +kernel
theorem d_S_cellsReached_33 : decode prog_9_method_5_code 33 = .ok (.iinc 2 1, 3) := by decide +kernel
theorem d_S_cellsReached_36 : decode prog_9_method_5_code 36 = .ok (.goto (-32), 3) := by decide +kernel
theorem d_S_cellsReached_39 : decode prog_9_method_5_code 39 = .ok (.iload_n 1, 1) := by decide +kernel
theorem d_S_cellsReached_40 : decode prog_9_method_5_code 40 = .ok (.ireturn, 1) := by decide +kernel
theorem d_S_stateOf_0 : decode prog_9_method_6_code 0 = .ok (.iload_n 0, 1) := by decide +kernel
theorem d_S_stateOf_1 : decode prog_9_method_6_code 1 = .ok (.bipush 8, 2) := by decide +kernel
theorem d_S_stateOf_3 : decode prog_9_method_6_code 3 = .ok (.imul, 1) := by decide +kernel
theorem d_S_stateOf_4 : decode prog_9_method_6_code 4 = .ok (.iload_n 1, 1) := by decide +kernel
theorem d_S_stateOf_5 : decode prog_9_method_6_code 5 = .ok (.iadd, 1) := by decide +kernel
theorem d_S_stateOf_6 : decode prog_9_method_6_code 6 = .ok (.iconst 3, 1) := by decide +kernel
theorem d_S_stateOf_7 : decode prog_9_method_6_code 7 = .ok (.imul, 1) := by decide +kernel
theorem d_S_stateOf_8 : decode prog_9_method_6_code 8 = .ok (.iload_n 2, 1) := by decide +kernel
theorem d_S_stateOf_9 : decode prog_9_method_6_code 9 = .ok (.iadd, 1) := by decide +kernel
theorem d_S_stateOf_10 : decode prog_9_method_6_code 10 = .ok (.ireturn, 1) := by decide +kernel
theorem d_S_prepare_0 : decode prog_9_method_7_code 0 = .ok (.aload_n 0, 1) := by decide +kernel
theorem d_S_prepare_1 : decode prog_9_method_7_code 1 = .ok (.iload_n 2, 1) := by decide +kernel
theorem d_S_prepare_2 : decode prog_9_method_7_code 2 = .ok (.putfield 100, 3) := by decide +kernel
theorem d_S_prepare_5 : decode prog_9_method_7_code 5 = .ok (.aload_n 0, 1) := by decide +kernel
theorem d_S_prepare_6 : decode prog_9_method_7_code 6 = .ok (.aload_n 1, 1) := by decide +kernel
theorem d_S_prepare_7 : decode prog_9_method_7_code 7 = .ok (.invokevirtual 103, 3) := by decide +kernel
theorem d_S_prepare_10 : decode prog_9_method_7_code 10 = .ok (.ifCond .eq 12, 3) := by decide +kernel
theorem d_S_prepare_13 : decode prog_9_method_7_code 13 = .ok (.aload_n 1, 1) := by decide +kernel
theorem d_S_prepare_14 : decode prog_9_method_7_code 14 = .ok (.getfield 107, 3) := by decide +kernel
theorem d_S_prepare_17 : decode prog_9_method_7_code 17 = .ok (.iconst 1, 1) := by decide +kernel
theorem d_S_prepare_18 : decode prog_9_method_7_code 18 = .ok (.isub, 1) := by decide +kernel
theorem d_S_prepare_19 : decode prog_9_method_7_code 19 = .ok (.goto 4, 3) := by decide +kernel
theorem d_S_prepare_22 : decode prog_9_method_7_code 22 = .ok (.iconst (-1), 1) := by decide +kernel
theorem d_S_prepare_23 : decode prog_9_method_7_code 23 = .ok (.putfield 110, 3) := by decide +kernel
theorem d_S_prepare_26 : decode prog_9_method_7_code 26 = .ok (.aload_n 0, 1) := by decide +kernel
theorem d_S_prepare_27 : decode prog_9_method_7_code 27 = .ok (.aload_n 1, 1) := by decide +kernel
theorem d_S_prepare_28 : decode prog_9_method_7_code 28 = .ok (.getfield 113, 3) := by decide +kernel
theorem d_S_prepare_31 : decode prog_9_method_7_code 31 = .ok (.aload_n 1, 1) := by decide +kernel
theorem d_S_prepare_32 : decode prog_9_method_7_code 32 = .ok (.getfield 36, 3) := by decide +kernel
theorem d_S_prepare_35 : decode prog_9_method_7_code 35 = .ok (.aload_n 0, 1) := by decide +kernel
theorem d_S_prepare_36 : decode prog_9_method_7_code 36 = .ok (.getfield 110, 3) := by decide +kernel
theorem d_S_prepare_39 : decode prog_9_method_7_code 39 = .ok (.iconst (-1), 1) := by decide +kernel
theorem d_S_prepare_40 : decode prog_9_method_7_code 40 = .ok (.if_icmp .ne 7, 3) := by decide +kernel
theorem d_S_prepare_43 : decode prog_9_method_7_code 43 = .ok (.iconst 0, 1) := by decide +kernel
theorem d_S_prepare_44 : decode prog_9_method_7_code 44 = .ok (.goto 9, 3) := by decide +kernel
theorem d_S_prepare_47 : decode prog_9_method_7_code 47 = .ok (.aload_n 1, 1) := by decide +kernel
theorem d_S_prepare_48 : decode prog_9_method_7_code 48 = .ok (.getfield 116, 3) := by decide +kernel
theorem d_S_prepare_51 : decode prog_9_method_7_code 51 = .ok (.iconst 3, 1) := by decide +kernel
theorem d_S_prepare_52 : decode prog_9_method_7_code 52 = .ok (.irem, 1) := by decide +kernel
theorem d_S_prepare_53 : decode prog_9_method_7_code 53 = .ok (.invokestatic 83, 3) := by decide +kernel
theorem d_S_prepare_56 : decode prog_9_method_7_code 56 = .ok (.putfield 61, 3) := by decide +kernel
theorem d_S_prepare_59 : decode prog_9_method_7_code 59 = .ok (.aload_n 0, 1) := by decide +kernel
theorem d_S_prepare_60 : decode prog_9_method_7_code 60 = .ok (.iconst 0, 1) := by decide +kernel
theorem d_S_prepare_61 : decode prog_9_method_7_code 61 = .ok (.putfield 68, 3) := by decide +kernel
theorem d_S_prepare_64 : decode prog_9_method_7_code 64 = .ok (.aload_n 0, 1) := by decide +kernel
theorem d_S_prepare_65 : decode prog_9_method_7_code 65 = .ok (.getfield 15, 3) := by decide +kernel
theorem d_S_prepare_68 : decode prog_9_method_7_code 68 = .ok (.ldc 82, 2) := by decide +kernel
theorem d_S_prepare_70 : decode prog_9_method_7_code 70 = .ok (.invokestatic 119, 3) := by decide +kernel
theorem d_S_prepare_73 : decode prog_9_method_7_code 73 = .ok (.aload_n 0, 1) := by decide +kernel
theorem d_S_prepare_74 : decode prog_9_method_7_code 74 = .ok (.getfield 27, 3) := by decide +kernel
theorem d_S_prepare_77 : decode prog_9_method_7_code 77 = .ok (.iconst (-1), 1) := by decide +kernel
theorem d_S_prepare_78 : decode prog_9_method_7_code 78 = .ok (.invokestatic 119, 3) := by decide +kernel
theorem d_S_prepare_81 : decode prog_9_method_7_code 81 = .ok (.iconst 0, 1) := by decide +kernel
theorem d_S_prepare_82 : decode prog_9_method_7_code 82 = .ok (.istore_n 3, 1) := by decide +kernel
theorem d_S_prepare_83 : decode prog_9_method_7_code 83 = .ok (.iload_n 3, 1) := by decide +kernel
theorem d_S_prepare_84 : decode prog_9_method_7_code 84 = .ok (.sipush 192, 3) := by decide +kernel
theorem d_S_prepare_87 : decode prog_9_method_7_code 87 = .ok (.if_icmp .ge 29, 3) := by decide +kernel
theorem d_S_prepare_90 : decode prog_9_method_7_code 90 = .ok (.aload_n 0, 1) := by decide +kernel
theorem d_S_prepare_91 : decode prog_9_method_7_code 91 = .ok (.getfield 11, 3) := by decide +kernel
theorem d_S_prepare_94 : decode prog_9_method_7_code 94 = .ok (.iload_n 3, 1) := by decide +kernel
theorem d_S_prepare_95 : decode prog_9_method_7_code 95 = .ok (.aload_n 1, 1) := by decide +kernel
theorem d_S_prepare_96 : decode prog_9_method_7_code 96 = .ok (.iload_n 3, 1) := by decide +kernel
theorem d_S_prepare_97 : decode prog_9_method_7_code 97 = .ok (.bipush 8, 2) := by decide +kernel
theorem d_S_prepare_99 : decode prog_9_method_7_code 99 = .ok (.idiv, 1) := by decide +kernel
theorem d_S_prepare_100 : decode prog_9_method_7_code 100 = .ok (.iload_n 3, 1) := by decide +kernel
theorem d_S_prepare_101 : decode prog_9_method_7_code 101 = .ok (.bipush 8, 2) := by decide +kernel
theorem d_S_prepare_103 : decode prog_9_method_7_code 103 = .ok (.irem, 1) := by decide +kernel
theorem d_S_prepare_104 : decode prog_9_method_7_code 104 = .ok (.invokevirtual 125, 3) := by decide +kernel
theorem d_S_prepare_107 : decode prog_9_method_7_code 107 = .ok (.invokestatic 128, 3) := by decide +kernel
theorem d_S_prepare_110 : decode prog_9_method_7_code 110 = .ok (.iinc 3 1, 3) := by decide +kernel
theorem d_S_prepare_113 : decode prog_9_method_7_code 113 = .ok (.goto (-30), 3) := by decide +kernel
theorem d_S_prepare_116 : decode prog_9_method_7_code 116 = .ok (.return_, 1) := by decide +kernel
theorem d_S_choosePacers_0 : decode prog_9_method_8_code 0 = .ok (.aload_n 0, 1) := by decide +kernel
theorem d_S_choosePacers_1 : decode prog_9_method_8_code 1 = .ok (.getfield 30, 3) := by decide +kernel
theorem d_S_choosePacers_4 : decode prog_9_method_8_code 4 = .ok (.ldc 64, 2) := by decide +kernel
theorem d_S_choosePacers_6 : decode prog_9_method_8_code 6 = .ok (.invokestatic 119, 3) := by decide +kernel
theorem d_S_choosePacers_9 : decode prog_9_method_8_code 9 = .ok (.iconst 0, 1) := by decide +kernel
theorem d_S_choosePacers_10 : decode prog_9_method_8_code 10 = .ok (.istore_n 2, 1) := by decide +kernel
theorem d_S_choosePacers_11 : decode prog_9_method_8_code 11 = .ok (.iload_n 2, 1) := by decide +kernel
theorem d_S_choosePacers_12 : decode prog_9_method_8_code 12 = .ok (.aload_n 1, 1) := by decide +kernel
theorem d_S_choosePacers_13 : decode prog_9_method_8_code 13 = .ok (.getfield 132, 3) := by decide +kernel
theorem d_S_choosePacers_16 : decode prog_9_method_8_code 16 = .ok (.if_icmp .ge 117, 3) := by decide +kernel
theorem d_S_choosePacers_19 : decode prog_9_method_8_code 19 = .ok (.aload_n 1, 1) := by decide +kernel
theorem d_S_choosePacers_20 : decode prog_9_method_8_code 20 = .ok (.iload_n 2, 1) := by decide +kernel
theorem d_S_choosePacers_21 : decode prog_9_method_8_code 21 = .ok (.invokevirtual 135, 3) := by decide +kernel
theorem d_S_choosePacers_24 : decode prog_9_method_8_code 24 = .ok (.astore_n 3, 1) := by decide +kernel
theorem d_S_choosePacers_25 : decode prog_9_method_8_code 25 = .ok (.iconst 0, 1) := by decide +kernel
theorem d_S_choosePacers_26 : decode prog_9_method_8_code 26 = .ok (.istore 4, 2) := by decide +kernel
theorem d_S_choosePacers_28 : decode prog_9_method_8_code 28 = .ok (.iload 4, 2) := by decide +kernel
theorem d_S_choosePacers_30 : decode prog_9_method_8_code 30 = .ok (.bipush 8, 2) := by decide +kernel
theorem d_S_choosePacers_32 : decode prog_9_method_8_code 32 = .ok (.if_icmp .ge 95, 3) := by decide +kernel
theorem d_S_choosePacers_35 : decode prog_9_method_8_code 35 = .ok (.aload_n 3, 1) := by decide +kernel
theorem d_S_choosePacers_36 : decode prog_9_method_8_code 36 = .ok (.ifnull 91, 3) := by decide +kernel
theorem d_S_choosePacers_39 : decode prog_9_method_8_code 39 = .ok (.aload_n 3, 1) := by decide +kernel
theorem d_S_choosePacers_40 : decode prog_9_method_8_code 40 = .ok (.iload 4, 2) := by decide +kernel
theorem d_S_choosePacers_42 : decode prog_9_method_8_code 42 = .ok (.invokevirtual 139, 3) := by decide +kernel
theorem d_S_choosePacers_45 : decode prog_9_method_8_code 45 = .ok (.istore 5, 2) := by decide +kernel
theorem d_S_choosePacers_47 : decode prog_9_method_8_code 47 = .ok (.aload_n 3, 1) := by decide +kernel
theorem d_S_choosePacers_48 : decode prog_9_method_8_code 48 = .ok (.invokevirtual 145, 3) := by decide +kernel
theorem d_S_choosePacers_51 : decode prog_9_method_8_code 51 = .ok (.ifCond .ne 8, 3) := by decide +kernel
theorem d_S_choosePacers_54 : decode prog_9_method_8_code 54 = .ok (.iload 4, 2) := by decide +kernel
theorem d_S_choosePacers_56 : decode prog_9_method_8_code 56 = .ok (.goto 7, 3) := by decide +kernel
theorem d_S_choosePacers_59 : decode prog_9_method_8_code 59 = .ok (.iload 4, 2) := by decide +kernel
theorem d_S_choosePacers_61 : decode prog_9_method_8_code 61 = .ok (.iconst 2, 1) := by decide +kernel
theorem d_S_choosePacers_62 : decode prog_9_method_8_code 62 = .ok (.iadd, 1) := by decide +kernel
theorem d_S_choosePacers_63 : decode prog_9_method_8_code 63 = .ok (.istore 6, 2) := by decide +kernel
theorem d_S_choosePacers_65 : decode prog_9_method_8_code 65 = .ok (.iload 5, 2) := by decide +kernel
theorem d_S_choosePacers_67 : decode prog_9_method_8_code 67 = .ok (.ldc 64, 2) := by decide +kernel
theorem d_S_choosePacers_69 : decode prog_9_method_8_code 69 = .ok (.if_icmp .eq 52, 3) := by decide +kernel
theorem d_S_choosePacers_72 : decode prog_9_method_8_code 72 = .ok (.aload_n 0, 1) := by decide +kernel
theorem d_S_choosePacers_73 : decode prog_9_method_8_code 73 = .ok (.getfield 30, 3) := by decide +kernel
theorem d_S_choosePacers_76 : decode prog_9_method_8_code 76 = .ok (.iload 6, 2) := by decide +kernel
theorem d_S_choosePacers_78 : decode prog_9_method_8_code 78 = .ok (.invokestatic 71, 3) := by decide +kernel
theorem d_S_choosePacers_81 : decode prog_9_method_8_code 81 = .ok (.ldc 64, 2) := by decide +kernel
theorem d_S_choosePacers_83 : decode prog_9_method_8_code 83 = .ok (.if_icmp .eq 17, 3) := by decide +kernel
theorem d_S_choosePacers_86 : decode prog_9_method_8_code 86 = .ok (.iload 5, 2) := by decide +kernel
theorem d_S_choosePacers_88 : decode prog_9_method_8_code 88 = .ok (.aload_n 0, 1) := by decide +kernel
theorem d_S_choosePacers_89 : decode prog_9_method_8_code 89 = .ok (.getfield 30, 3) := by decide +kernel
theorem d_S_choosePacers_92 : decode prog_9_method_8_code 92 = .ok (.iload 6, 2) := by decide +kernel
theorem d_S_choosePacers_94 : decode prog_9_method_8_code 94 = .ok (.invokestatic 71, 3) := by decide +kernel
theorem d_S_choosePacers_97 : decode prog_9_method_8_code 97 = .ok (.if_icmp .ge 24, 3) := by decide +kernel
theorem d_S_choosePacers_100 : decode prog_9_method_8_code 100 = .ok (.aload_n 0, 1) := by decide +kernel
theorem d_S_choosePacers_101 : decode prog_9_method_8_code 101 = .ok (.getfield 30, 3) := by decide +kernel
theorem d_S_choosePacers_104 : decode prog_9_method_8_code 104 = .ok (.iload 6, 2) := by decide +kernel
theorem d_S_choosePacers_106 : decode prog_9_method_8_code 106 = .ok (.iload 5, 2) := by decide +kernel
theorem d_S_choosePacers_108 : decode prog_9_method_8_code 108 = .ok (.invokestatic 128, 3) := by decide +kernel
theorem d_S_choosePacers_111 : decode prog_9_method_8_code 111 = .ok (.aload_n 0, 1) := by decide +kernel
theorem d_S_choosePacers_112 : decode prog_9_method_8_code 112 = .ok (.getfield 33, 3) := by decide +kernel
theorem d_S_choosePacers_115 : decode prog_9_method_8_code 115 = .ok (.iload 6, 2) := by decide +kernel
theorem d_S_choosePacers_117 : decode prog_9_method_8_code 117 = .ok (.iload_n 2, 1) := by decide +kernel
theorem d_S_choosePacers_118 : decode prog_9_method_8_code 118 = .ok (.invokestatic 128, 3) := by decide +kernel
theorem d_S_choosePacers_121 : decode prog_9_method_8_code 121 = .ok (.iinc 4 1, 3) := by decide +kernel
theorem d_S_choosePacers_124 : decode prog_9_method_8_code 124 = .ok (.goto (-96), 3) := by decide +kernel
theorem d_S_choosePacers_127 : decode prog_9_method_8_code 127 = .ok (.iinc 2 1, 3) := by decide +kernel
theorem d_S_choosePacers_130 : decode prog_9_method_8_code 130 = .ok (.goto (-119), 3) := by decide +kernel
theorem d_S_choosePacers_133 : decode prog_9_method_8_code 133 = .ok (.return_, 1) := by decide +kernel
theorem d_S_leave_0 : decode prog_9_method_9_code 0 = .ok (.iload_n 1, 1) := by decide +kernel
theorem d_S_leave_1 : decode prog_9_method_9_code 1 = .ok (.iconst 3, 1) := by decide +kernel
theorem d_S_leave_2 : decode prog_9_method_9_code 2 = .ok (.idiv, 1) := by decide +kernel
theorem d_S_leave_3 : decode prog_9_method_9_code 3 = .ok (.istore_n 2, 1) := by decide +kernel
theorem d_S_leave_4 : decode prog_9_method_9_code 4 = .ok (.iload_n 2, 1) := by decide +kernel
theorem d_S_leave_5 : decode prog_9_method_9_code 5 = .ok (.bipush 8, 2) := by decide +kernel
theorem d_S_leave_7 : decode prog_9_method_9_code 7 = .ok (.idiv, 1) := by decide +kernel
theorem d_S_leave_8 : decode prog_9_method_9_code 8 = .ok (.istore_n 3, 1) := by decide +kernel
theorem d_S_leave_9 : decode prog_9_method_9_code 9 = .ok (.iload_n 2, 1) := by decide +kernel
theorem d_S_leave_10 : decode prog_9_method_9_code 10 = .ok (.bipush 8, 2) := by decide +kernel
theorem d_S_leave_12 : decode prog_9_method_9_code 12 = .ok (.irem, 1) := by decide +kernel
theorem d_S_leave_13 : decode prog_9_method_9_code 13 = .ok (.istore 4, 2) := by decide +kernel
theorem d_S_leave_15 : decode prog_9_method_9_code 15 = .ok (.iconst 0, 1) := by decide +kernel
theorem d_S_leave_16 : decode prog_9_method_9_code 16 = .ok (.istore 5, 2) := by decide +kernel
theorem d_S_leave_18 : decode prog_9_method_9_code 18 = .ok (.iload 5, 2) := by decide +kernel
theorem d_S_leave_20 : decode prog_9_method_9_code 20 = .ok (.bipush 10, 2) := by decide +kernel
theorem d_S_leave_22 : decode prog_9_method_9_code 22 = .ok (.if_icmp .ge 173, 3) := by decide +kernel
theorem d_S_leave_25 : decode prog_9_method_9_code 25 = .ok (.aload_n 0, 1) := by decide +kernel
theorem d_S_leave_26 : decode prog_9_method_9_code 26 = .ok (.getfield 30, 3) := by decide +kernel
theorem d_S_leave_29 : decode prog_9_method_9_code 29 = .ok (.iload 5, 2) := by decide +kernel
theorem d_S_leave_31 : decode prog_9_method_9_code 31 = .ok (.invokestatic 71, 3) := by decide +kernel
theorem d_S_leave_34 : decode prog_9_method_9_code 34 = .ok (.ldc 64, 2) := by decide +kernel
theorem d_S_leave_36 : decode prog_9_method_9_code 36 = .ok (.if_icmp .ne 6, 3) := by decide +kernel
theorem d_S_leave_39 : decode prog_9_method_9_code 39 = .ok (.goto 150, 3) := by decide +kernel
theorem d_S_leave_42 : decode prog_9_method_9_code 42 = .ok (.iload 5, 2) := by decide +kernel
theorem d_S_leave_44 : decode prog_9_method_9_code 44 = .ok (.bipush 8, 2) := by decide +kernel
theorem d_S_leave_46 : decode prog_9_method_9_code 46 = .ok (.if_icmp .ge 8, 3) := by decide +kernel
theorem d_S_leave_49 : decode prog_9_method_9_code 49 = .ok (.iload 5, 2) := by decide +kernel
theorem d_S_leave_51 : decode prog_9_method_9_code 51 = .ok (.goto 7, 3) := by decide +kernel
theorem d_S_leave_54 : decode prog_9_method_9_code 54 = .ok (.iload 5, 2) := by decide +kernel
theorem d_S_leave_56 : decode prog_9_method_9_code 56 = .ok (.iconst 2, 1) := by decide +kernel
theorem d_S_leave_57 : decode prog_9_method_9_code 57 = .ok (.isub, 1) := by decide +kernel
theorem d_S_leave_58 : decode prog_9_method_9_code 58 = .ok (.istore 6, 2) := by decide +kernel
theorem d_S_leave_60 : decode prog_9_method_9_code 60 = .ok (.iload 5, 2) := by decide +kernel
theorem d_S_leave_62 : decode prog_9_method_9_code 62 = .ok (.bipush 8, 2) := by decide +kernel
theorem d_S_leave_64 : decode prog_9_method_9_code 64 = .ok (.if_icmp .ge 10, 3) := by decide +kernel
theorem d_S_leave_67 : decode prog_9_method_9_code 67 = .ok (.aload_n 0, 1) := by decide +kernel
theorem d_S_leave_68 : decode prog_9_method_9_code 68 = .ok (.getfield 100, 3) := by decide +kernel
theorem d_S_leave_71 : decode prog_9_method_9_code 71 = .ok (.goto 13, 3) := by decide +kernel
theorem d_S_leave_74 : decode prog_9_method_9_code 74 = .ok (.iconst 0, 1) := by decide +kernel
theorem d_S_leave_75 : decode prog_9_method_9_code 75 = .ok (.aload_n 0, 1) := by decide +kernel
theorem d_S_leave_76 : decode prog_9_method_9_code 76 = .ok (.getfield 100, 3) := by decide +kernel
theorem d_S_leave_79 : decode prog_9_method_9_code 79 = .ok (.iconst 1, 1) := by decide +kernel
theorem d_S_leave_80 : decode prog_9_method_9_code 80 = .ok (.isub, 1) := by decide +kernel
theorem d_S_leave_81 : decode prog_9_method_9_code 81 = .ok (.invokestatic 149, 3) := by decide +kernel
theorem d_S_leave_84 : decode prog_9_method_9_code 84 = .ok (.istore 7, 2) := by decide +kernel
theorem d_S_leave_86 : decode prog_9_method_9_code 86 = .ok (.iload_n 3, 1) := by decide +kernel
theorem d_S_leave_87 : decode prog_9_method_9_code 87 = .ok (.iload 4, 2) := by decide +kernel
theorem d_S_leave_89 : decode prog_9_method_9_code 89 = .ok (.iload 6, 2) := by decide +kernel
theorem d_S_leave_91 : decode prog_9_method_9_code 91 = .ok (.invokestatic 152, 3) := by decide +kernel
theorem d_S_leave_94 : decode prog_9_method_9_code 94 = .ok (.istore 8, 2) := by decide +kernel
theorem d_S_leave_96 : decode prog_9_method_9_code 96 = .ok (.iload 4, 2) := by decide +kernel
theorem d_S_leave_98 : decode prog_9_method_9_code 98 = .ok (.iload 6, 2) := by decide +kernel
theorem d_S_leave_100 : decode prog_9_method_9_code 100 = .ok (.invokestatic 155, 3) := by decide +kernel
theorem d_S_leave_103 : decode prog_9_method_9_code 103 = .ok (.istore 9, 2) := by decide +kernel
theorem d_S_leave_105 : decode prog_9_method_9_code 105 = .ok (.aload_n 0, 1) := by decide +kernel
theorem d_S_leave_106 : decode prog_9_method_9_code 106 = .ok (.iload 8, 2) := by decide +kernel
theorem d_S_leave_108 : decode prog_9_method_9_code 108 = .ok (.iload 9, 2) := by decide +kernel
theorem d_S_leave_110 : decode prog_9_method_9_code 110 = .ok (.invokevirtual 158, 3) := by decide +kernel
theorem d_S_leave_113 : decode prog_9_method_9_code 113 = .ok (.iload 7, 2) := by decide +kernel
theorem d_S_leave_115 : decode prog_9_method_9_code 115 = .ok (.if_icmp .lt 74, 3) := by decide +kernel
theorem d_S_leave_118 : decode prog_9_method_9_code 118 = .ok (.iload_n 1, 1) := by decide +kernel
theorem d_S_leave_119 : decode prog_9_method_9_code 119 = .ok (.aload_n 0, 1) := by decide +kernel
theorem d_S_leave_120 : decode prog_9_method_9_code 120 = .ok (.getfield 61, 3) := by decide +kernel
theorem d_S_leave_123 : decode prog_9_method_9_code 123 = .ok (.if_icmp .ne 21, 3) := by decide +kernel
theorem d_S_leave_126 : decode prog_9_method_9_code 126 = .ok (.bipush 10, 2) := by decide +kernel
theorem d_S_leave_128 : decode prog_9_method_9_code 128 = .ok (.aload_n 0, 1) := by decide +kernel
theorem d_S_leave_129 : decode prog_9_method_9_code 129 = .ok (.getfield 33, 3) := by decide +kernel
theorem d_S_leave_132 : decode prog_9_method_9_code 132 = .ok (.iload 5, 2) := by decide +kernel
theorem d_S_leave_134 : decode prog_9_method_9_code 134 = .ok (.invokestatic 71, 3) := by decide +kernel
theorem d_S_leave_137 : decode prog_9_method_9_code 137 = .ok (.imul, 1) := by decide +kernel
theorem d_S_leave_138 : decode prog_9_method_9_code 138 = .ok (.iload 6, 2) := by decide +kernel
theorem d_S_leave_140 : decode prog_9_method_9_code 140 = .ok (.iadd, 1) := by decide +kernel
theorem d_S_leave_141 : decode prog_9_method_9_code 141 = .ok (.goto 11, 3) := by decide +kernel
theorem d_S_leave_144 : decode prog_9_method_9_code 144 = .ok (.aload_n 0, 1) := by decide +kernel
theorem d_S_leave_145 : decode prog_9_method_9_code 145 = .ok (.getfield 18, 3) := by decide +kernel
theorem d_S_leave_148 : decode prog_9_method_9_code 148 = .ok (.iload_n 1, 1) := by decide +kernel
theorem d_S_leave_149 : decode prog_9_method_9_code 149 = .ok (.invokestatic 71, 3) := by decide +kernel
theorem d_S_leave_152 : decode prog_9_method_9_code 152 = .ok (.istore 10, 2) := by decide +kernel
theorem d_S_leave_154 : decode prog_9_method_9_code 154 = .ok (.aload_n 0, 1) := by decide +kernel
theorem d_S_leave_155 : decode prog_9_method_9_code 155 = .ok (.aload_n 0, 1) := by decide +kernel
theorem d_S_leave_156 : decode prog_9_method_9_code 156 = .ok (.iload 8, 2) := by decide +kernel
theorem d_S_leave_158 : decode prog_9_method_9_code 158 = .ok (.iload 9, 2) := by decide +kernel
theorem d_S_leave_160 : decode prog_9_method_9_code 160 = .ok (.iload_n 1, 1) := by decide +kernel
theorem d_S_leave_161 : decode prog_9_method_9_code 161 = .ok (.iconst 3, 1) := by decide +kernel
theorem d_S_leave_162 : decode prog_9_method_9_code 162 = .ok (.irem, 1) := by decide +kernel
theorem d_S_leave_163 : decode prog_9_method_9_code 163 = .ok (.invokevirtual 161, 3) := by decide +kernel
theorem d_S_leave_166 : decode prog_9_method_9_code 166 = .ok (.aload_n 0, 1) := by decide +kernel
theorem d_S_leave_167 : decode prog_9_method_9_code 167 = .ok (.getfield 15, 3) := by decide +kernel
theorem d_S_leave_170 : decode prog_9_method_9_code 170 = .ok (.iload_n 1, 1) := by decide +kernel
theorem d_S_leave_171 : decode prog_9_method_9_code 171 = .ok (.invokestatic 71, 3) := by decide +kernel
theorem d_S_leave_174 : decode prog_9_method_9_code 174 = .ok (.aload_n 0, 1) := by decide +kernel
theorem d_S_leave_175 : decode prog_9_method_9_code 175 = .ok (.getfield 30, 3) := by decide +kernel
theorem d_S_leave_178 : decode prog_9_method_9_code 178 = .ok (.iload 5, 2) := by decide +kernel
theorem d_S_leave_180 : decode prog_9_method_9_code 180 = .ok (.invokestatic 71, 3) := by decide +kernel
theorem d_S_leave_183 : decode prog_9_method_9_code 183 = .ok (.iadd, 1) := by decide +kernel
theorem d_S_leave_184 : decode prog_9_method_9_code 184 = .ok (.iload 10, 2) := by decide +kernel
theorem d_S_leave_186 : decode prog_9_method_9_code 186 = .ok (.invokevirtual 164, 3) := by decide +kernel
theorem d_S_leave_189 : decode prog_9_method_9_code 189 = .ok (.iinc 5 1, 3) := by decide +kernel
theorem d_S_leave_192 : decode prog_9_method_9_code 192 = .ok (.goto (-174), 3) := by decide +kernel
theorem d_S_leave_195 : decode prog_9_method_9_code 195 = .ok (.return_, 1) := by decide +kernel
theorem d_S_clearAt_0 : decode prog_9_method_10_code 0 = .ok (.iload_n 1, 1) := by decide +kernel
theorem d_S_clearAt_1 : decode prog_9_method_10_code 1 = .ok (.bipush 8, 2) := by decide +kernel
theorem d_S_clearAt_3 : decode prog_9_method_10_code 3 = .ok (.imul, 1) := by decide +kernel
theorem d_S_clearAt_4 : decode prog_9_method_10_code 4 = .ok (.iload_n 2, 1) := by decide +kernel
theorem d_S_clearAt_5 : decode prog_9_method_10_code 5 = .ok (.iadd, 1) := by decide +kernel
theorem d_S_clearAt_6 : decode prog_9_method_10_code 6 = .ok (.istore_n 3, 1) := by decide +kernel
theorem d_S_clearAt_7 : decode prog_9_method_10_code 7 = .ok (.iload_n 3, 1) := by decide +kernel
theorem d_S_clearAt_8 : decode prog_9_method_10_code 8 = .ok (.ifCond .lt 21, 3) := by decide +kernel
theorem d_S_clearAt_11 : decode prog_9_method_10_code 11 = .ok (.iload_n 3, 1) := by decide +kernel
theorem d_S_clearAt_12 : decode prog_9_method_10_code 12 = .ok (.aload_n 0, 1) := by decide +kernel
theorem d_S_clearAt_13 : decode prog_9_method_10_code 13 = .ok (.getfield 11, 3) := by decide +kernel
theorem d_S_clearAt_16 : decode prog_9_method_10_code 16 = .ok (.arraylength, 1) := by decide +kernel
theorem d_S_clearAt_17 : decode prog_9_method_10_code 17 = .ok (.if_icmp .ge 12, 3) := by decide +kernel
theorem d_S_clearAt_20 : decode prog_9_method_10_code 20 = .ok (.aload_n 0, 1) := by decide +kernel
theorem d_S_clearAt_21 : decode prog_9_method_10_code 21 = .ok (.getfield 11, 3) := by decide +kernel
theorem d_S_clearAt_24 : decode prog_9_method_10_code 24 = .ok (.iload_n 3, 1) := by decide +kernel
theorem d_S_clearAt_25 : decode prog_9_method_10_code 25 = .ok (.iaload, 1) := by decide +kernel
theorem d_S_clearAt_26 : decode prog_9_method_10_code 26 = .ok (.goto 4, 3) := by decide +kernel
theorem d_S_clearAt_29 : decode prog_9_method_10_code 29 = .ok (.iconst (-1), 1) := by decide +kernel
theorem d_S_clearAt_30 : decode prog_9_method_10_code 30 = .ok (.ireturn, 1) := by decide +kernel
theorem d_S_behind_0 : decode prog_9_method_11_code 0 = .ok (.aload_n 0, 1) := by decide +kernel
theorem d_S_behind_1 : decode prog_9_method_11_code 1 = .ok (.getfield 110, 3) := by decide +kernel
theorem d_S_behind_4 : decode prog_9_method_11_code 4 = .ok (.iconst (-1), 1) := by decide +kernel
theorem d_S_behind_5 : decode prog_9_method_11_code 5 = .ok (.if_icmp .ne 10, 3) := by decide +kernel
theorem d_S_behind_8 : decode prog_9_method_11_code 8 = .ok (.iload_n 1, 1) := by decide +kernel
theorem d_S_behind_9 : decode prog_9_method_11_code 9 = .ok (.iload_n 2, 1) := by decide +kernel
theorem d_S_behind_10 : decode prog_9_method_11_code 10 = .ok (.iconst 0, 1) := by decide +kernel
theorem d_S_behind_11 : decode prog_9_method_11_code 11 = .ok (.invokestatic 83, 3) := by decide +kernel
theorem d_S_behind_14 : decode prog_9_method_11_code 14 = .ok (.ireturn, 1) := by decide +kernel
theorem d_S_behind_15 : decode prog_9_method_11_code 15 = .ok (.iload_n 3, 1) := by decide +kernel
theorem d_S_behind_16 : decode prog_9_method_11_code 16 = .ok (.iconst 2, 1) := by decide +kernel
theorem d_S_behind_17 : decode prog_9_method_11_code 17 = .ok (.if_icmp .eq 12, 3) := by decide +kernel
theorem d_S_behind_20 : decode prog_9_method_11_code 20 = .ok (.iload_n 1, 1) := by decide +kernel
theorem d_S_behind_21 : decode prog_9_method_11_code 21 = .ok (.iload_n 2, 1) := by decide +kernel
theorem d_S_behind_22 : decode prog_9_method_11_code 22 = .ok (.iload_n 3, 1) := by decide +kernel
theorem d_S_behind_23 : decode prog_9_method_11_code 23 = .ok (.iconst 1, 1) := by decide +kernel
theorem d_S_behind_24 : decode prog_9_method_11_code 24 = .ok (.iadd, 1) := by decide +kernel
theorem d_S_behind_25 : decode prog_9_method_11_code 25 = .ok (.invokestatic 83, 3) := by decide +kernel
theorem d_S_behind_28 : decode prog_9_method_11_code 28 = .ok (.ireturn, 1) := by decide +kernel
theorem d_S_behind_29 : decode prog_9_method_11_code 29 = .ok (.iload_n 1, 1) := by decide +kernel
theorem d_S_behind_30 : decode prog_9_method_11_code 30 = .ok (.aload_n 0, 1) := by decide +kernel
theorem d_S_behind_31 : decode prog_9_method_11_code 31 = .ok (.getfield 110, 3) := by decide +kernel
theorem d_S_behind_34 : decode prog_9_method_11_code 34 = .ok (.invokestatic 167, 3) := by decide +kernel
theorem d_S_behind_37 : decode prog_9_method_11_code 37 = .ok (.istore 4, 2) := by decide +kernel
theorem d_S_behind_39 : decode prog_9_method_11_code 39 = .ok (.aload_n 0, 1) := by decide +kernel
theorem d_S_behind_40 : decode prog_9_method_11_code 40 = .ok (.iload 4, 2) := by decide +kernel
theorem d_S_behind_42 : decode prog_9_method_11_code 42 = .ok (.iload_n 2, 1) := by decide +kernel
theorem d_S_behind_43 : decode prog_9_method_11_code 43 = .ok (.invokevirtual 158, 3) := by decide +kernel
theorem d_S_behind_46 : decode prog_9_method_11_code 46 = .ok (.aload_n 0, 1) := by decide +kernel
theorem d_S_behind_47 : decode prog_9_method_11_code 47 = .ok (.getfield 100, 3) := by decide +kernel
theorem d_S_behind_50 : decode prog_9_method_11_code 50 = .ok (.if_icmp .lt 8, 3) := by decide +kernel
theorem d_S_behind_53 : decode prog_9_method_11_code 53 = .ok (.iload 4, 2) := by decide +kernel
theorem d_S_behind_55 : decode prog_9_method_11_code 55 = .ok (.goto 4, 3) := by decide +kernel
theorem d_S_behind_58 : decode prog_9_method_11_code 58 = .ok (.iload_n 1, 1) := by decide +kernel
theorem d_S_behind_59 : decode prog_9_method_11_code 59 = .ok (.iload_n 2, 1) := by decide +kernel
theorem d_S_behind_60 : decode prog_9_method_11_code 60 = .ok (.iconst 0, 1) := by decide +kernel
theorem d_S_behind_61 : decode prog_9_method_11_code 61 = .ok (.invokestatic 83, 3) := by decide +kernel
theorem d_S_behind_64 : decode prog_9_method_11_code 64 = .ok (.ireturn, 1) := by decide +kernel
theorem d_S_offer_0 : decode prog_9_method_12_code 0 = .ok (.iload_n 2, 1) := by decide +kernel
theorem d_S_offer_1 : decode prog_9_method_12_code 1 = .ok (.aload_n 0, 1) := by decide +kernel
theorem d_S_offer_2 : decode prog_9_method_12_code 2 = .ok (.getfield 15, 3) := by decide +kernel
theorem d_S_offer_5 : decode prog_9_method_12_code 5 = .ok (.iload_n 1, 1) := by decide +kernel
theorem d_S_offer_6 : decode prog_9_method_12_code 6 = .ok (.invokestatic 71, 3) := by decide +kernel
theorem d_S_offer_9 : decode prog_9_method_12_code 9 = .ok (.if_icmp .ge 31, 3) := by decide +kernel
theorem d_S_offer_12 : decode prog_9_method_12_code 12 = .ok (.aload_n 0, 1) := by decide +kernel
theorem d_S_offer_13 : decode prog_9_method_12_code 13 = .ok (.getfield 15, 3) := by decide +kernel
theorem d_S_offer_16 : decode prog_9_method_12_code 16 = .ok (.iload_n 1, 1) := by decide +kernel
theorem d_S_offer_17 : decode prog_9_method_12_code 17 = .ok (.invokestatic 71, 3) := by decide +kernel
theorem d_S_offer_20 : decode prog_9_method_12_code 20 = .ok (.ldc 82, 2) := by decide +kernel
theorem d_S_offer_22 : decode prog_9_method_12_code 22 = .ok (.if_icmp .eq 8, 3) := by decide +kernel
theorem d_S_offer_25 : decode prog_9_method_12_code 25 = .ok (.aload_n 0, 1) := by decide +kernel
theorem d_S_offer_26 : decode prog_9_method_12_code 26 = .ok (.iload_n 1, 1) := by decide +kernel
theorem d_S_offer_27 : decode prog_9_method_12_code 27 = .ok (.invokevirtual 75, 3) := by decide +kernel
theorem d_S_offer_30 : decode prog_9_method_12_code 30 = .ok (.aload_n 0, 1) := by decide +kernel
theorem d_S_offer_31 : decode prog_9_method_12_code 31 = .ok (.iload_n 1, 1) := by decide +kernel
theorem d_S_offer_32 : decode prog_9_method_12_code 32 = .ok (.iload_n 2, 1) := by decide +kernel
theorem d_S_offer_33 : decode prog_9_method_12_code 33 = .ok (.iload_n 3, 1) := by decide +kernel
theorem d_S_offer_34 : decode prog_9_method_12_code 34 = .ok (.invokevirtual 65, 3) := by decide +kernel
theorem d_S_offer_37 : decode prog_9_method_12_code 37 = .ok (.goto 36, 3) := by decide +kernel
theorem d_S_offer_40 : decode prog_9_method_12_code 40 = .ok (.iload_n 2, 1) := by decide +kernel
theorem d_S_offer_41 : decode prog_9_method_12_code 41 = .ok (.aload_n 0, 1) := by decide +kernel
theorem d_S_offer_42 : decode prog_9_method_12_code 42 = .ok (.getfield 15, 3) := by decide +kernel
theorem d_S_offer_45 : decode prog_9_method_12_code 45 = .ok (.iload_n 1, 1) := by decide +kernel
theorem d_S_offer_46 : decode prog_9_method_12_code 46 = .ok (.invokestatic 71, 3) := by decide +kernel
theorem d_S_offer_49 : decode prog_9_method_12_code 49 = .ok (.if_icmp .ne 24, 3) := by decide +kernel
theorem d_S_offer_52 : decode prog_9_method_12_code 52 = .ok (.iload_n 3, 1) := by decide +kernel
theorem d_S_offer_53 : decode prog_9_method_12_code 53 = .ok (.aload_n 0, 1) := by decide +kernel
theorem d_S_offer_54 : decode prog_9_method_12_code 54 = .ok (.getfield 18, 3) := by decide +kernel
theorem d_S_offer_57 : decode prog_9_method_12_code 57 = .ok (.iload_n 1, 1) := by decide +kernel
theorem d_S_offer_58 : decode prog_9_method_12_code 58 = .ok (.invokestatic 71, 3) := by decide +kernel
theorem d_S_offer_61 : decode prog_9_method_12_code 61 = .ok (.if_icmp .ge 12, 3) := by decide +kernel
theorem d_S_offer_64 : decode prog_9_method_12_code 64 = .ok (.aload_n 0, 1) := by decide +kernel
theorem d_S_offer_65 : decode prog_9_method_12_code 65 = .ok (.getfield 18, 3) := by decide +kernel
theorem d_S_offer_68 : decode prog_9_method_12_code 68 = .ok (.iload_n 1, 1) := by decide +kernel
theorem d_S_offer_69 : decode prog_9_method_12_code 69 = .ok (.iload_n 3, 1) := by decide +kernel
theorem d_S_offer_70 : decode prog_9_method_12_code 70 = .ok (.invokestatic 128, 3) := by decide +kernel
theorem d_S_offer_73 : decode prog_9_method_12_code 73 = .ok (.return_, 1) := by decide +kernel
theorem d_S_add_0 : decode prog_9_method_13_code 0 = .ok (.iload_n 2, 1) := by decide +kernel
theorem d_S_add_1 : decode prog_9_method_13_code 1 = .ok (.bipush 21, 2) := by decide +kernel
theorem d_S_add_3 : decode prog_9_method_13_code 3 = .ok (.irem, 1) := by decide +kernel
theorem d_S_add_4 : decode prog_9_method_13_code 4 = .ok (.istore 4, 2) := by decide +kernel
theorem d_S_add_6 : decode prog_9_method_13_code 6 = .ok (.iload_n 1, 1) := by decide +kernel
theorem d_S_add_7 : decode prog_9_method_13_code 7 = .ok (.ifCond .lt 15, 3) := by decide +kernel
theorem d_S_add_10 : decode prog_9_method_13_code 10 = .ok (.iload_n 1, 1) := by decide +kernel
theorem d_S_add_11 : decode prog_9_method_13_code 11 = .ok (.sipush 576, 3) := by decide +kernel
theorem d_S_add_14 : decode prog_9_method_13_code 14 = .ok (.if_icmp .ge 8, 3) := by decide +kernel
theorem d_S_add_17 : decode prog_9_method_13_code 17 = .ok (.iload 4, 2) := by decide +kernel
theorem d_S_add_19 : decode prog_9_method_13_code 19 = .ok (.ifCond .ge 4, 3) := by decide +kernel
theorem d_S_add_22 : decode prog_9_method_13_code 22 = .ok (.return_, 1) := by decide +kernel
theorem d_S_add_23 : decode prog_9_method_13_code 23 = .ok (.aload_n 0, 1) := by decide +kernel
theorem d_S_add_24 : decode prog_9_method_13_code 24 = .ok (.getfield 27, 3) := by decide +kernel
theorem d_S_add_27 : decode prog_9_method_13_code 27 = .ok (.iload 4, 2) := by decide +kernel
theorem d_S_add_29 : decode prog_9_method_13_code 29 = .ok (.iaload, 1) := by decide +kernel
theorem d_S_add_30 : decode prog_9_method_13_code 30 = .ok (.istore 5, 2) := by decide +kernel
theorem d_S_add_32 : decode prog_9_method_13_code 32 = .ok (.aload_n 0, 1) := by decide +kernel
theorem d_S_add_33 : decode prog_9_method_13_code 33 = .ok (.getfield 15, 3) := by decide +kernel
theorem d_S_add_36 : decode prog_9_method_13_code 36 = .ok (.iload_n 1, 1) := by decide +kernel
theorem d_S_add_37 : decode prog_9_method_13_code 37 = .ok (.iload_n 2, 1) := by decide +kernel
theorem d_S_add_38 : decode prog_9_method_13_code 38 = .ok (.iastore, 1) := by decide +kernel
theorem d_S_add_39 : decode prog_9_method_13_code 39 = .ok (.aload_n 0, 1) := by decide +kernel
theorem d_S_add_40 : decode prog_9_method_13_code 40 = .ok (.getfield 18, 3) := by decide +kernel
theorem d_S_add_43 : decode prog_9_method_13_code 43 = .ok (.iload_n 1, 1) := by decide +kernel
theorem d_S_add_44 : decode prog_9_method_13_code 44 = .ok (.iload_n 3, 1) := by decide +kernel
theorem d_S_add_45 : decode prog_9_method_13_code 45 = .ok (.iastore, 1) := by decide +kernel
theorem d_S_add_46 : decode prog_9_method_13_code 46 = .ok (.aload_n 0, 1) := by decide +kernel
theorem d_S_add_47 : decode prog_9_method_13_code 47 = .ok (.getfield 21, 3) := by decide +kernel
theorem d_S_add_50 : decode prog_9_method_13_code 50 = .ok (.iload_n 1, 1) := by decide +kernel
theorem d_S_add_51 : decode prog_9_method_13_code 51 = .ok (.iload 5, 2) := by decide +kernel
theorem d_S_add_53 : decode prog_9_method_13_code 53 = .ok (.iastore, 1) := by decide +kernel
theorem d_S_add_54 : decode prog_9_method_13_code 54 = .ok (.aload_n 0, 1) := by decide +kernel
theorem d_S_add_55 : decode prog_9_method_13_code 55 = .ok (.getfield 24, 3) := by decide +kernel
theorem d_S_add_58 : decode prog_9_method_13_code 58 = .ok (.iload_n 1, 1) := by decide +kernel
theorem d_S_add_59 : decode prog_9_method_13_code 59 = .ok (.iconst (-1), 1) := by decide +kernel
theorem d_S_add_60 : decode prog_9_method_13_code 60 = .ok (.iastore, 1) := by decide +kernel
theorem d_S_add_61 : decode prog_9_method_13_code 61 = .ok (.iload 5, 2) := by decide +kernel
theorem d_S_add_63 : decode prog_9_method_13_code 63 = .ok (.ifCond .lt 19, 3) := by decide +kernel
theorem d_S_add_66 : decode prog_9_method_13_code 66 = .ok (.iload 5, 2) := by decide +kernel
theorem d_S_add_68 : decode prog_9_method_13_code 68 = .ok (.sipush 576, 3) := by decide +kernel
theorem d_S_add_71 : decode prog_9_method_13_code 71 = .ok (.if_icmp .ge 11, 3) := by decide +kernel
theorem d_S_add_74 : decode prog_9_method_13_code 74 = .ok (.aload_n 0, 1) := by decide +kernel
theorem d_S_add_75 : decode prog_9_method_13_code 75 = .ok (.getfield 24, 3) := by decide +kernel
theorem d_S_add_78 : decode prog_9_method_13_code 78 = .ok (.iload 5, 2) := by decide +kernel
theorem d_S_add_80 : decode prog_9_method_13_code 80 = .ok (.iload_n 1, 1) := by decide +kernel
theorem d_S_add_81 : decode prog_9_method_13_code 81 = .ok (.iastore, 1) := by decide +kernel
theorem d_S_add_82 : decode prog_9_method_13_code 82 = .ok (.aload_n 0, 1) := by decide +kernel
theorem d_S_add_83 : decode prog_9_method_13_code 83 = .ok (.getfield 27, 3) := by decide +kernel
theorem d_S_add_86 : decode prog_9_method_13_code 86 = .ok (.iload 4, 2) := by decide +kernel
theorem d_S_add_88 : decode prog_9_method_13_code 88 = .ok (.iload_n 1, 1) := by decide +kernel
theorem d_S_add_89 : decode prog_9_method_13_code 89 = .ok (.iastore, 1) := by decide +kernel
theorem d_S_add_90 : decode prog_9_method_13_code 90 = .ok (.aload_n 0, 1) := by decide +kernel
theorem d_S_add_91 : decode prog_9_method_13_code 91 = .ok (.dup, 1) := by decide +kernel
theorem d_S_add_92 : decode prog_9_method_13_code 92 = .ok (.getfield 68, 3) := by decide +kernel
theorem d_S_add_95 : decode prog_9_method_13_code 95 = .ok (.iconst 1, 1) := by decide +kernel
theorem d_S_add_96 : decode prog_9_method_13_code 96 = .ok (.iadd, 1) := by decide +kernel
theorem d_S_add_97 : decode prog_9_method_13_code 97 = .ok (.putfield 68, 3) := by decide +kernel
theorem d_S_add_100 : decode prog_9_method_13_code 100 = .ok (.return_, 1) := by decide +kernel
theorem d_S_remove_0 : decode prog_9_method_14_code 0 = .ok (.iload_n 1, 1) := by decide +kernel
theorem d_S_remove_1 : decode prog_9_method_14_code 1 = .ok (.ifCond .lt 19, 3) := by decide +kernel
theorem d_S_remove_4 : decode prog_9_method_14_code 4 = .ok (.iload_n 1, 1) := by decide +kernel
theorem d_S_remove_5 : decode prog_9_method_14_code 5 = .ok (.sipush 576, 3) := by decide +kernel
theorem d_S_remove_8 : decode prog_9_method_14_code 8 = .ok (.if_icmp .ge 12, 3) := by decide +kernel
theorem d_S_remove_11 : decode prog_9_method_14_code 11 = .ok (.aload_n 0, 1) := by decide +kernel
theorem d_S_remove_12 : decode prog_9_method_14_code 12 = .ok (.getfield 15, 3) := by decide +kernel
theorem d_S_remove_15 : decode prog_9_method_14_code 15 = .ok (.iload_n 1, 1) := by decide +kernel
theorem d_S_remove_16 : decode prog_9_method_14_code 16 = .ok (.iaload, 1) := by decide +kernel
theorem d_S_remove_17 : decode prog_9_method_14_code 17 = .ok (.ifCond .ge 4, 3) := by decide +kernel
theorem d_S_remove_20 : decode prog_9_method_14_code 20 = .ok (.return_, 1) := by decide +kernel
theorem d_S_remove_21 : decode prog_9_method_14_code 21 = .ok (.aload_n 0, 1) := by decide +kernel
theorem d_S_remove_22 : decode prog_9_method_14_code 22 = .ok (.getfield 24, 3) := by decide +kernel
theorem d_S_remove_25 : decode prog_9_method_14_code 25 = .ok (.iload_n 1, 1) := by decide +kernel
theorem d_S_remove_26 : decode prog_9_method_14_code 26 = .ok (.iaload, 1) := by decide +kernel
theorem d_S_remove_27 : decode prog_9_method_14_code 27 = .ok (.istore_n 2, 1) := by decide +kernel
theorem d_S_remove_28 : decode prog_9_method_14_code 28 = .ok (.aload_n 0, 1) := by decide +kernel
theorem d_S_remove_29 : decode prog_9_method_14_code 29 = .ok (.getfield 21, 3) := by decide +kernel
theorem d_S_remove_32 : decode prog_9_method_14_code 32 = .ok (.iload_n 1, 1) := by decide +kernel
theorem d_S_remove_33 : decode prog_9_method_14_code 33 = .ok (.iaload, 1) := by decide +kernel
theorem d_S_remove_34 : decode prog_9_method_14_code 34 = .ok (.istore_n 3, 1) := by decide +kernel
theorem d_S_remove_35 : decode prog_9_method_14_code 35 = .ok (.iload_n 2, 1) := by decide +kernel
theorem d_S_remove_36 : decode prog_9_method_14_code 36 = .ok (.ifCond .lt 20, 3) := by decide +kernel
theorem d_S_remove_39 : decode prog_9_method_14_code 39 = .ok (.iload_n 2, 1) := by decide +kernel
theorem d_S_remove_40 : decode prog_9_method_14_code 40 = .ok (.sipush 576, 3) := by decide +kernel
theorem d_S_remove_43 : decode prog_9_method_14_code 43 = .ok (.if_icmp .ge 13, 3) := by decide +kernel
theorem d_S_remove_46 : decode prog_9_method_14_code 46 = .ok (.aload_n 0, 1) := by decide +kernel
theorem d_S_remove_47 : decode prog_9_method_14_code 47 = .ok (.getfield 21, 3) := by decide +kernel
theorem d_S_remove_50 : decode prog_9_method_14_code 50 = .ok (.iload_n 2, 1) := by decide +kernel
theorem d_S_remove_51 : decode prog_9_method_14_code 51 = .ok (.iload_n 3, 1) := by decide +kernel
theorem d_S_remove_52 : decode prog_9_method_14_code 52 = .ok (.iastore, 1) := by decide +kernel
theorem d_S_remove_53 : decode prog_9_method_14_code 53 = .ok (.goto 18, 3) := by decide +kernel
theorem d_S_remove_56 : decode prog_9_method_14_code 56 = .ok (.aload_n 0, 1) := by decide +kernel
theorem d_S_remove_57 : decode prog_9_method_14_code 57 = .ok (.getfield 27, 3) := by decide +kernel
theorem d_S_remove_60 : decode prog_9_method_14_code 60 = .ok (.aload_n 0, 1) := by decide +kernel
theorem d_S_remove_61 : decode prog_9_method_14_code 61 = .ok (.getfield 15, 3) := by decide +kernel
theorem d_S_remove_64 : decode prog_9_method_14_code 64 = .ok (.iload_n 1, 1) := by decide +kernel
theorem d_S_remove_65 : decode prog_9_method_14_code 65 = .ok (.iaload, 1) := by decide +kernel
theorem d_S_remove_66 : decode prog_9_method_14_code 66 = .ok (.bipush 21, 2) := by decide +kernel
theorem d_S_remove_68 : decode prog_9_method_14_code 68 = .ok (.irem, 1) := by decide +kernel
theorem d_S_remove_69 : decode prog_9_method_14_code 69 = .ok (.iload_n 3, 1) := by decide +kernel
theorem d_S_remove_70 : decode prog_9_method_14_code 70 = .ok (.iastore, 1) := by decide +kernel
theorem d_S_remove_71 : decode prog_9_method_14_code 71 = .ok (.iload_n 3, 1) := by decide +kernel
theorem d_S_remove_72 : decode prog_9_method_14_code 72 = .ok (.ifCond .lt 17, 3) := by decide +kernel
theorem d_S_remove_75 : decode prog_9_method_14_code 75 = .ok (.iload_n 3, 1) := by decide +kernel
theorem d_S_remove_76 : decode prog_9_method_14_code 76 = .ok (.sipush 576, 3) := by decide +kernel
theorem d_S_remove_79 : decode prog_9_method_14_code 79 = .ok (.if_icmp .ge 10, 3) := by decide +kernel
theorem d_S_remove_82 : decode prog_9_method_14_code 82 = .ok (.aload_n 0, 1) := by decide +kernel
theorem d_S_remove_83 : decode prog_9_method_14_code 83 = .ok (.getfield 24, 3) := by decide +kernel
theorem d_S_remove_86 : decode prog_9_method_14_code 86 = .ok (.iload_n 3, 1) := by decide +kernel
theorem d_S_remove_87 : decode prog_9_method_14_code 87 = .ok (.iload_n 2, 1) := by decide +kernel
theorem d_S_remove_88 : decode prog_9_method_14_code 88 = .ok (.iastore, 1) := by decide +kernel
theorem d_S_remove_89 : decode prog_9_method_14_code 89 = .ok (.aload_n 0, 1) := by decide +kernel
theorem d_S_remove_90 : decode prog_9_method_14_code 90 = .ok (.dup, 1) := by decide +kernel
theorem d_S_remove_91 : decode prog_9_method_14_code 91 = .ok (.getfield 68, 3) := by decide +kernel
theorem d_S_remove_94 : decode prog_9_method_14_code 94 = .ok (.iconst 1, 1) := by decide +kernel
theorem d_S_remove_95 : decode prog_9_method_14_code 95 = .ok (.isub, 1) := by decide +kernel
theorem d_S_remove_96 : decode prog_9_method_14_code 96 = .ok (.putfield 68, 3) := by decide +kernel
theorem d_S_remove_99 : decode prog_9_method_14_code 99 = .ok (.return_, 1) := by decide +kernel
theorem d_Sh_init_0 : decode prog_10_method_1_code 0 = .ok (.aload_n 0, 1) := by decide +kernel
theorem d_Sh_init_1 : decode prog_10_method_1_code 1 = .ok (.iload_n 1, 1) := by decide +kernel
theorem d_Sh_init_2 : decode prog_10_method_1_code 2 = .ok (.iload_n 2, 1) := by decide +kernel
theorem d_Sh_init_3 : decode prog_10_method_1_code 3 = .ok (.sipush 192, 3) := by decide +kernel
theorem d_Sh_init_6 : decode prog_10_method_1_code 6 = .ok (.invokespecial 3, 3) := by decide +kernel
theorem d_Sh_init_9 : decode prog_10_method_1_code 9 = .ok (.return_, 1) := by decide +kernel
theorem d_Sh_sort_0 : decode prog_10_method_2_code 0 = .ok (.iconst 4, 1) := by decide +kernel
theorem d_Sh_sort_1 : decode prog_10_method_2_code 1 = .ok (.ireturn, 1) := by decide +kernel
theorem d_Sh_size_0 : decode prog_10_method_3_code 0 = .ok (.aload_n 1, 1) := by decide +kernel
theorem d_Sh_size_1 : decode prog_10_method_3_code 1 = .ok (.bipush 13, 2) := by decide +kernel
theorem d_Sh_size_3 : decode prog_10_method_3_code 3 = .ok (.invokestatic 9, 3) := by decide +kernel
theorem d_Sh_size_6 : decode prog_10_method_3_code 6 = .ok (.aload_n 0, 1) := by decide +kernel
theorem d_Sh_size_7 : decode prog_10_method_3_code 7 = .ok (.aload_n 1, 1) := by decide +kernel
theorem d_Sh_size_8 : decode prog_10_method_3_code 8 = .ok (.iload_n 2, 1) := by decide +kernel
theorem d_Sh_size_9 : decode prog_10_method_3_code 9 = .ok (.invokespecial 15, 3) := by decide +kernel
theorem d_Sh_size_12 : decode prog_10_method_3_code 12 = .ok (.bipush 100, 2) := by decide +kernel
theorem d_Sh_size_14 : decode prog_10_method_3_code 14 = .ok (.isub, 1) := by decide +kernel
theorem d_Sh_size_15 : decode prog_10_method_3_code 15 = .ok (.ireturn, 1) := by decide +kernel
theorem d_Sh_mark_0 : decode prog_10_method_4_code 0 = .ok (.aload_n 1, 1) := by decide +kernel
theorem d_Sh_mark_1 : decode prog_10_method_4_code 1 = .ok (.bipush 23, 2) := by decide +kernel
theorem d_Sh_mark_3 : decode prog_10_method_4_code 3 = .ok (.invokestatic 9, 3) := by decide +kernel
theorem d_Sh_mark_6 : decode prog_10_method_4_code 6 = .ok (.aload_n 0, 1) := by decide +kernel
theorem d_Sh_mark_7 : decode prog_10_method_4_code 7 = .ok (.aload_n 1, 1) := by decide +kernel
theorem d_Sh_mark_8 : decode prog_10_method_4_code 8 = .ok (.iload_n 2, 1) := by decide +kernel
theorem d_Sh_mark_9 : decode prog_10_method_4_code 9 = .ok (.invokespecial 19, 3) := by decide +kernel
theorem d_Sh_mark_12 : decode prog_10_method_4_code 12 = .ok (.istore_n 3, 1) := by decide +kernel
theorem d_Sh_mark_13 : decode prog_10_method_4_code 13 = .ok (.iload_n 3, 1) := by decide +kernel
theorem d_Sh_mark_14 : decode prog_10_method_4_code 14 = .ok (.aload_n 0, 1) := by decide +kernel
theorem d_Sh_mark_15 : decode prog_10_method_4_code 15 = .ok (.aload_n 1, 1) := by decide +kernel
theorem d_Sh_mark_16 : decode prog_10_method_4_code 16 = .ok (.iload_n 2, 1) := by decide +kernel
theorem d_Sh_mark_17 : decode prog_10_method_4_code 17 = .ok (.invokevirtual 22, 3) := by decide +kernel
theorem d_Sh_mark_20 : decode prog_10_method_4_code 20 = .ok (.isub, 1) := by decide +kernel
theorem d_Sh_mark_21 : decode prog_10_method_4_code 21 = .ok (.ireturn, 1) := by decide +kernel
theorem d_Sw_init_0 : decode prog_11_method_1_code 0 = .ok (.aload_n 0, 1) := by decide +kernel
theorem d_Sw_init_1 : decode prog_11_method_1_code 1 = .ok (.iload_n 1, 1) := by decide +kernel
theorem d_Sw_init_2 : decode prog_11_method_1_code 2 = .ok (.iload_n 2, 1) := by decide +kernel
theorem d_Sw_init_3 : decode prog_11_method_1_code 3 = .ok (.iload_n 3, 1) := by decide +kernel
theorem d_Sw_init_4 : decode prog_11_method_1_code 4 = .ok (.invokespecial 1, 3) := by decide +kernel
theorem d_Sw_init_7 : decode prog_11_method_1_code 7 = .ok (.return_, 1) := by decide +kernel
theorem d_Sw_sort_0 : decode prog_11_method_2_code 0 = .ok (.iconst 1, 1) := by decide +kernel
theorem d_Sw_sort_1 : decode prog_11_method_2_code 1 = .ok (.ireturn, 1) := by decide +kernel
theorem d_Sw_size_0 : decode prog_11_method_3_code 0 = .ok (.aload_n 1, 1) := by decide +kernel
theorem d_Sw_size_1 : decode prog_11_method_3_code 1 = .ok (.bipush 11, 2) := by decide +kernel
theorem d_Sw_size_3 : decode prog_11_method_3_code 3 = .ok (.invokestatic 7, 3) := by decide +kernel
theorem d_Sw_size_6 : decode prog_11_method_3_code 6 = .ok (.aload_n 0, 1) := by decide +kernel
theorem d_Sw_size_7 : decode prog_11_method_3_code 7 = .ok (.aload_n 1, 1) := by decide +kernel
theorem d_Sw_size_8 : decode prog_11_method_3_code 8 = .ok (.iload_n 2, 1) := by decide +kernel
theorem d_Sw_size_9 : decode prog_11_method_3_code 9 = .ok (.invokespecial 13, 3) := by decide +kernel
theorem d_Sw_size_12 : decode prog_11_method_3_code 12 = .ok (.istore_n 3, 1) := by decide +kernel
theorem d_Sw_size_13 : decode prog_11_method_3_code 13 = .ok (.iload_n 3, 1) := by decide +kernel
theorem d_Sw_size_14 : decode prog_11_method_3_code 14 = .ok (.aload_n 0, 1) := by decide +kernel
theorem d_Sw_size_15 : decode prog_11_method_3_code 15 = .ok (.aload_n 1, 1) := by decide +kernel
theorem d_Sw_size_16 : decode prog_11_method_3_code 16 = .ok (.iload_n 2, 1) := by decide +kernel
theorem d_Sw_size_17 : decode prog_11_method_3_code 17 = .ok (.invokevirtual 17, 3) := by decide +kernel
theorem d_Sw_size_20 : decode prog_11_method_3_code 20 = .ok (.iadd, 1) := by decide +kernel
theorem d_Sw_size_21 : decode prog_11_method_3_code 21 = .ok (.ireturn, 1) := by decide +kernel
theorem d_Sw_mark_0 : decode prog_11_method_4_code 0 = .ok (.aload_n 1, 1) := by decide +kernel
theorem d_Sw_mark_1 : decode prog_11_method_4_code 1 = .ok (.bipush 21, 2) := by decide +kernel
theorem d_Sw_mark_3 : decode prog_11_method_4_code 3 = .ok (.invokestatic 7, 3) := by decide +kernel
theorem d_Sw_mark_6 : decode prog_11_method_4_code 6 = .ok (.aload_n 0, 1) := by decide +kernel
theorem d_Sw_mark_7 : decode prog_11_method_4_code 7 = .ok (.aload_n 1, 1) := by decide +kernel
theorem d_Sw_mark_8 : decode prog_11_method_4_code 8 = .ok (.iload_n 2, 1) := by decide +kernel
theorem d_Sw_mark_9 : decode prog_11_method_4_code 9 = .ok (.invokespecial 20, 3) := by decide +kernel
theorem d_Sw_mark_12 : decode prog_11_method_4_code 12 = .ok (.iload_n 2, 1) := by decide +kernel
theorem d_Sw_mark_13 : decode prog_11_method_4_code 13 = .ok (.iadd, 1) := by decide +kernel
theorem d_Sw_mark_14 : decode prog_11_method_4_code 14 = .ok (.ireturn, 1) := by decide +kernel
theorem d_T_init_0 : decode prog_12_method_1_code 0 = .ok (.aload_n 0, 1) := by decide +kernel
theorem d_T_init_1 : decode prog_12_method_1_code 1 = .ok (.invokespecial 3, 3) := by decide +kernel
theorem d_T_init_4 : decode prog_12_method_1_code 4 = .ok (.aload_n 0, 1) := by decide +kernel
theorem d_T_init_5 : decode prog_12_method_1_code 5 = .ok (.bipush 120, 2) := by decide +kernel
theorem d_T_init_7 : decode prog_12_method_1_code 7 = .ok (.newarray .int, 2) := by decide +kernel
theorem d_T_init_9 : decode prog_12_method_1_code 9 = .ok (.putfield 11, 3) := by decide +kernel
theorem d_T_init_12 : decode prog_12_method_1_code 12 = .ok (.return_, 1) := by decide +kernel
theorem d_T_length_0 : decode prog_12_method_2_code 0 = .ok (.aload_n 0, 1) := by decide +kernel
theorem d_T_length_1 : decode prog_12_method_2_code 1 = .ok (.getfield 15, 3) := by decide +kernel
theorem d_T_length_4 : decode prog_12_method_2_code 4 = .ok (.ireturn, 1) := by decide +kernel
theorem d_T_faultPlace_0 : decode prog_12_method_3_code 0 = .ok (.aload_n 0, 1) := by decide +kernel
theorem d_T_faultPlace_1 : decode prog_12_method_3_code 1 = .ok (.getfield 19, 3) := by decide +kernel
theorem d_T_faultPlace_4 : decode prog_12_method_3_code 4 = .ok (.ireturn, 1) := by decide +kernel
theorem d_T_latestFault_0 : decode prog_12_method_4_code 0 = .ok (.aload_n 0, 1) := by decide +kernel
theorem d_T_latestFault_1 : decode prog_12_method_4_code 1 = .ok (.getfield 22, 3) := by decide +kernel
theorem d_T_latestFault_4 : decode prog_12_method_4_code 4 = .ok (.ireturn, 1) := by decide +kernel
theorem d_T_append_0 : decode prog_12_method_5_code 0 = .ok (.aload_n 0, 1) := by decide +kernel
theorem d_T_append_1 : decode prog_12_method_5_code 1 = .ok (.getfield 15, 3) := by decide +kernel
theorem d_T_append_4 : decode prog_12_method_5_code 4 = .ok (.bipush 120, 2) := by decide +kernel
theorem d_T_append_6 : decode prog_12_method_5_code 6 = .ok (.if_icmp .lt 5, 3) := by decide +kernel
theorem d_T_append_9 : decode prog_12_method_5_code 9 = .ok (.iconst 0, 1) := by decide +kernel
theorem d_T_append_10 : decode prog_12_method_5_code 10 = .ok (.ireturn, 1) := by decide +kernel
theorem d_T_append_11 : decode prog_12_method_5_code 11 = .ok (.aload_n 0, 1) := by decide +kernel
theorem d_T_append_12 : decode prog_12_method_5_code 12 = .ok (.getfield 11, 3) := by decide +kernel
theorem d_T_append_15 : decode prog_12_method_5_code 15 = .ok (.aload_n 0, 1) := by decide +kernel
theorem d_T_append_16 : decode prog_12_method_5_code 16 = .ok (.getfield 15, 3) := by decide +kernel
theorem d_T_append_19 : decode prog_12_method_5_code 19 = .ok (.iload_n 1, 1) := by decide +kernel
theorem d_T_append_20 : decode prog_12_method_5_code 20 = .ok (.invokestatic 25, 3) := by decide +kernel
theorem d_T_append_23 : decode prog_12_method_5_code 23 = .ok (.aload_n 0, 1) := by decide +kernel
theorem d_T_append_24 : decode prog_12_method_5_code 24 = .ok (.dup, 1) := by decide +kernel
theorem d_T_append_25 : decode prog_12_method_5_code 25 = .ok (.getfield 15, 3) := by decide +kernel
theorem d_T_append_28 : decode prog_12_method_5_code 28 = .ok (.iconst 1, 1) := by decide +kernel
theorem d_T_append_29 : decode prog_12_method_5_code 29 = .ok (.iadd, 1) := by decide +kernel
theorem d_T_append_30 : decode prog_12_method_5_code 30 = .ok (.putfield 15, 3) := by decide +kernel
theorem d_T_append_33 : decode prog_12_method_5_code 33 = .ok (.iconst 1, 1) := by decide +kernel
theorem d_T_append_34 : decode prog_12_method_5_code 34 = .ok (.ireturn, 1) := by decide +kernel
theorem d_T_read_0 : decode prog_12_method_6_code 0 = .ok (.aload_n 0, 1) := by decide +kernel
theorem d_T_read_1 : decode prog_12_method_6_code 1 = .ok (.iconst 0, 1) := by decide +kernel
theorem d_T_read_2 : decode prog_12_method_6_code 2 = .ok (.putfield 29, 3) := by decide +kernel
theorem d_T_read_5 : decode prog_12_method_6_code 5 = .ok (.aload_n 0, 1) := by decide +kernel
theorem d_T_read_6 : decode prog_12_method_6_code 6 = .ok (.iconst 0, 1) := by decide +kernel
theorem d_T_read_7 : decode prog_12_method_6_code 7 = .ok (.putfield 32, 3) := by decide +kernel
theorem d_T_read_10 : decode prog_12_method_6_code 10 = .ok (.aload_n 1, 1) := by decide +kernel
theorem d_T_read_11 : decode prog_12_method_6_code 11 = .ok (.invokevirtual 35, 3) := by decide +kernel
theorem d_T_read_14 : decode prog_12_method_6_code 14 = .ok (.aload_n 0, 1) := by decide +kernel
theorem d_T_read_15 : decode prog_12_method_6_code 15 = .ok (.aload_n 1, 1) := by decide +kernel
theorem d_T_read_16 : decode prog_12_method_6_code 16 = .ok (.invokevirtual 40, 3) := by decide +kernel
theorem d_T_read_19 : decode prog_12_method_6_code 19 = .ok (.aload_n 0, 1) := by decide +kernel
theorem d_T_read_20 : decode prog_12_method_6_code 20 = .ok (.aload_n 1, 1) := by decide +kernel
theorem d_T_read_21 : decode prog_12_method_6_code 21 = .ok (.invokevirtual 44, 3) := by decide +kernel
theorem d_T_read_24 : decode prog_12_method_6_code 24 = .ok (.aload_n 0, 1) := by decide +kernel
theorem d_T_read_25 : decode prog_12_method_6_code 25 = .ok (.aload_n 1, 1) := by decide +kernel
theorem d_T_read_26 : decode prog_12_method_6_code 26 = .ok (.invokevirtual 47, 3) := by decide +kernel
theorem d_T_read_29 : decode prog_12_method_6_code 29 = .ok (.aload_n 0, 1) := by decide +kernel
theorem d_T_read_30 : decode prog_12_method_6_code 30 = .ok (.aload_n 1, 1) := by decide +kernel
theorem d_T_read_31 : decode prog_12_method_6_code 31 = .ok (.invokevirtual 50, 3) := by decide +kernel
theorem d_T_read_34 : decode prog_12_method_6_code 34 = .ok (.aload_n 0, 1) := by decide +kernel
theorem d_T_read_35 : decode prog_12_method_6_code 35 = .ok (.aload_n 1, 1) := by decide +kernel
theorem d_T_read_36 : decode prog_12_method_6_code 36 = .ok (.invokevirtual 53, 3) := by decide +kernel
theorem d_T_read_39 : decode prog_12_method_6_code 39 = .ok (.aload_n 0, 1) := by decide +kernel
theorem d_T_read_40 : decode prog_12_method_6_code 40 = .ok (.iconst 0, 1) := by decide +kernel
theorem d_T_read_41 : decode prog_12_method_6_code 41 = .ok (.putfield 15, 3) := by decide +kernel
theorem d_T_read_44 : decode prog_12_method_6_code 44 = .ok (.aload_n 0, 1) := by decide +kernel
theorem d_T_read_45 : decode prog_12_method_6_code 45 = .ok (.getfield 32, 3) := by decide +kernel
theorem d_T_read_48 : decode prog_12_method_6_code 48 = .ok (.ifCond .ne 7, 3) := by decide +kernel
theorem d_T_read_51 : decode prog_12_method_6_code 51 = .ok (.iconst 1, 1) := by decide +kernel
theorem d_T_read_52 : decode prog_12_method_6_code 52 = .ok (.goto 4, 3) := by decide +kernel
theorem d_T_read_55 : decode prog_12_method_6_code 55 = .ok (.iconst 0, 1) := by decide +kernel
theorem d_T_read_56 : decode prog_12_method_6_code 56 = .ok (.ireturn, 1) := by decide +kernel
theorem d_T_readLaw_0 : decode prog_12_method_7_code 0 = .ok (.aload_n 0, 1) := by decide +kernel
theorem d_T_readLaw_1 : decode prog_12_method_7_code 1 = .ok (.bipush 119, 2) := by decide +kernel
theorem d_T_readLaw_3 : decode prog_12_method_7_code 3 = .ok (.invokevirtual 56, 3) := by decide +kernel
theorem d_T_readLaw_6 : decode prog_12_method_7_code 6 = .ok (.aload_n 1, 1) := by decide +kernel
theorem d_T_readLaw_7 : decode prog_12_method_7_code 7 = .ok (.aload_n 0, 1) := by decide +kernel
theorem d_T_readLaw_8 : decode prog_12_method_7_code 8 = .ok (.iconst 0, 1) := by decide +kernel
theorem d_T_readLaw_9 : decode prog_12_method_7_code 9 = .ok (.bipush 8, 2) := by decide +kernel
theorem d_T_readLaw_11 : decode prog_12_method_7_code 11 = .ok (.invokevirtual 60, 3) := by decide +kernel
theorem d_T_readLaw_14 : decode prog_12_method_7_code 14 = .ok (.putfield 64, 3) := by decide +kernel
theorem d_T_readLaw_17 : decode prog_12_method_7_code 17 = .ok (.aload_n 0, 1) := by decide +kernel
theorem d_T_readLaw_18 : decode prog_12_method_7_code 18 = .ok (.bipush 44, 2) := by decide +kernel
theorem d_T_readLaw_20 : decode prog_12_method_7_code 20 = .ok (.invokevirtual 56, 3) := by decide +kernel
theorem d_T_readLaw_23 : decode prog_12_method_7_code 23 = .ok (.aload_n 1, 1) := by decide +kernel
theorem d_T_readLaw_24 : decode prog_12_method_7_code 24 = .ok (.aload_n 0, 1) := by decide +kernel
theorem d_T_readLaw_25 : decode prog_12_method_7_code 25 = .ok (.iconst 1, 1) := by decide +kernel
theorem d_T_readLaw_26 : decode prog_12_method_7_code 26 = .ok (.iconst 5, 1) := by decide +kernel
theorem d_T_readLaw_27 : decode prog_12_method_7_code 27 = .ok (.invokevirtual 60, 3) := by decide +kernel
theorem d_T_readLaw_30 : decode prog_12_method_7_code 30 = .ok (.putfield 67, 3) := by decide +kernel
theorem d_T_readLaw_33 : decode prog_12_method_7_code 33 = .ok (.aload_n 0, 1) := by decide +kernel
theorem d_T_readLaw_34 : decode prog_12_method_7_code 34 = .ok (.bipush 44, 2) := by decide +kernel
theorem d_T_readLaw_36 : decode prog_12_method_7_code 36 = .ok (.invokevirtual 56, 3) := by decide +kernel
theorem d_T_readLaw_39 : decode prog_12_method_7_code 39 = .ok (.aload_n 1, 1) := by decide +kernel
theorem d_T_readLaw_40 : decode prog_12_method_7_code 40 = .ok (.aload_n 0, 1) := by decide +kernel
theorem d_T_readLaw_41 : decode prog_12_method_7_code 41 = .ok (.iconst 0, 1) := by decide +kernel
theorem d_T_readLaw_42 : decode prog_12_method_7_code 42 = .ok (.iconst 3, 1) := by decide +kernel
theorem d_T_readLaw_43 : decode prog_12_method_7_code 43 = .ok (.invokevirtual 60, 3) := by decide +kernel
theorem d_T_readLaw_46 : decode prog_12_method_7_code 46 = .ok (.putfield 70, 3) := by decide +kernel
theorem d_T_readLaw_49 : decode prog_12_method_7_code 49 = .ok (.aload_n 0, 1) := by decide +kernel
theorem d_T_readLaw_50 : decode prog_12_method_7_code 50 = .ok (.bipush 59, 2) := by decide +kernel
theorem d_T_readLaw_52 : decode prog_12_method_7_code 52 = .ok (.invokevirtual 56, 3) := by decide +kernel
theorem d_T_readLaw_55 : decode prog_12_method_7_code 55 = .ok (.return_, 1) := by decide +kernel
theorem d_T_readDepths_0 : decode prog_12_method_8_code 0 = .ok (.aload_n 0, 1) := by decide +kernel
theorem d_T_readDepths_1 : decode prog_12_method_8_code 1 = .ok (.bipush 100, 2) := by decide +kernel
theorem d_T_readDepths_3 : decode prog_12_method_8_code 3 = .ok (.invokevirtual 56, 3) := by decide +kernel
theorem d_T_readDepths_6 : decode prog_12_method_8_code 6 = .ok (.iconst 0, 1) := by decide +kernel
theorem d_T_readDepths_7 : decode prog_12_method_8_code 7 = .ok (.istore_n 2, 1) := by decide +kernel
theorem d_T_readDepths_8 : decode prog_12_method_8_code 8 = .ok (.iload_n 2, 1) := by decide +kernel
theorem d_T_readDepths_9 : decode prog_12_method_8_code 9 = .ok (.bipush 24, 2) := by decide +kernel
theorem d_T_readDepths_11 : decode prog_12_method_8_code 11 = .ok (.if_icmp .ge 21, 3) := by decide +kernel
theorem d_T_readDepths_14 : decode prog_12_method_8_code 14 = .ok (.aload_n 1, 1) := by decide +kernel
theorem d_T_readDepths_15 : decode prog_12_method_8_code 15 = .ok (.getfield 73, 3) := by decide +kernel
theorem d_T_readDepths_18 : decode prog_12_method_8_code 18 = .ok (.iload_n 2, 1) := by decide +kernel
theorem d_T_readDepths_19 : decode prog_12_method_8_code 19 = .ok (.aload_n 0, 1) := by decide +kernel
theorem d_T_readDepths_20 : decode prog_12_method_8_code 20 = .ok (.invokevirtual 76, 3) := by decide +kernel
theorem d_T_readDepths_23 : decode prog_12_method_8_code 23 = .ok (.invokestatic 25, 3) := by decide +kernel
theorem d_T_readDepths_26 : decode prog_12_method_8_code 26 = .ok (.iinc 2 1, 3) := by decide +kernel
theorem d_T_readDepths_29 : decode prog_12_method_8_code 29 = .ok (.goto (-21), 3) := by decide +kernel
theorem d_T_readDepths_32 : decode prog_12_method_8_code 32 = .ok (.aload_n 0, 1) := by decide +kernel
theorem d_T_readDepths_33 : decode prog_12_method_8_code 33 = .ok (.bipush 59, 2) := by decide +kernel
theorem d_T_readDepths_35 : decode prog_12_method_8_code 35 = .ok (.invokevirtual 56, 3) := by decide +kernel
theorem d_T_readDepths_38 : decode prog_12_method_8_code 38 = .ok (.return_, 1) := by decide +kernel
theorem d_T_readBoat_0 : decode prog_12_method_9_code 0 = .ok (.aload_n 0, 1) := by decide +kernel
theorem d_T_readBoat_1 : decode prog_12_method_9_code 1 = .ok (.bipush 98, 2) := by decide +kernel
theorem d_T_readBoat_3 : decode prog_12_method_9_code 3 = .ok (.invokevirtual 56, 3) := by decide +kernel
theorem d_T_readBoat_6 : decode prog_12_method_9_code 6 = .ok (.aload_n 1, 1) := by decide +kernel
theorem d_T_readBoat_7 : decode prog_12_method_9_code 7 = .ok (.aload_n 0, 1) := by decide +kernel
theorem d_T_readBoat_8 : decode prog_12_method_9_code 8 = .ok (.iconst 0, 1) := by decide +kernel
theorem d_T_readBoat_9 : decode prog_12_method_9_code 9 = .ok (.bipush 23, 2) := by decide +kernel
theorem d_T_readBoat_11 : decode prog_12_method_9_code 11 = .ok (.invokevirtual 60, 3) := by decide +kernel
theorem d_T_readBoat_14 : decode prog_12_method_9_code 14 = .ok (.putfield 80, 3) := by decide +kernel
theorem d_T_readBoat_17 : decode prog_12_method_9_code 17 = .ok (.aload_n 0, 1) := by decide +kernel
theorem d_T_readBoat_18 : decode prog_12_method_9_code 18 = .ok (.bipush 44, 2) := by decide +kernel
theorem d_T_readBoat_20 : decode prog_12_method_9_code 20 = .ok (.invokevirtual 56, 3) := by decide +kernel
theorem d_T_readBoat_23 : decode prog_12_method_9_code 23 = .ok (.aload_n 1, 1) := by decide +kernel
theorem d_T_readBoat_24 : decode prog_12_method_9_code 24 = .ok (.aload_n 0, 1) := by decide +kernel
theorem d_T_readBoat_25 : decode prog_12_method_9_code 25 = .ok (.iconst 0, 1) := by decide +kernel
theorem d_T_readBoat_26 : decode prog_12_method_9_code 26 = .ok (.bipush 7, 2) := by decide +kernel
theorem d_T_readBoat_28 : decode prog_12_method_9_code 28 = .ok (.invokevirtual 60, 3) := by decide +kernel
theorem d_T_readBoat_31 : decode prog_12_method_9_code 31 = .ok (.putfield 83, 3) := by decide +kernel
theorem d_T_readBoat_34 : decode prog_12_method_9_code 34 = .ok (.aload_n 0, 1) := by decide +kernel
theorem d_T_readBoat_35 : decode prog_12_method_9_code 35 = .ok (.bipush 59, 2) := by decide +kernel
theorem d_T_readBoat_37 : decode prog_12_method_9_code 37 = .ok (.invokevirtual 56, 3) := by decide +kernel
theorem d_T_readBoat_40 : decode prog_12_method_9_code 40 = .ok (.return_, 1) := by decide +kernel
theorem d_T_readMoored_0 : decode prog_12_method_10_code 0 = .ok (.iconst 0, 1) := by decide +kernel
theorem d_T_readMoored_1 : decode prog_12_method_10_code 1 = .ok (.istore_n 2, 1) := by decide +kernel
theorem d_T_readMoored_2 : decode prog_12_method_10_code 2 = .ok (.iload_n 2, 1) := by decide +kernel
theorem d_T_readMoored_3 : decode prog_12_method_10_code 3 = .ok (.iconst 4, 1) := by decide +kernel
theorem d_T_readMoored_4 : decode prog_12_method_10_code 4 = .ok (.if_icmp .gt 108, 3) := by decide +kernel
theorem d_T_readMoored_7 : decode prog_12_method_10_code 7 = .ok (.aload_n 0, 1) := by decide +kernel
theorem d_T_readMoored_8 : decode prog_12_method_10_code 8 = .ok (.getfield 32, 3) := by decide +kernel
theorem d_T_readMoored_11 : decode prog_12_method_10_code 11 = .ok (.ifCond .ne 101, 3) := by decide +kernel
theorem d_T_readMoored_14 : decode prog_12_method_10_code 14 = .ok (.aload_n 0, 1) := by decide +kernel
theorem d_T_readMoored_15 : decode prog_12_method_10_code 15 = .ok (.aload_n 0, 1) := by decide +kernel
theorem d_T_readMoored_16 : decode prog_12_method_10_code 16 = .ok (.getfield 29, 3) := by decide +kernel
theorem d_T_readMoored_19 : decode prog_12_method_10_code 19 = .ok (.invokevirtual 86, 3) := by decide +kernel
theorem d_T_readMoored_22 : decode prog_12_method_10_code 22 = .ok (.bipush 109, 2) := by decide +kernel
theorem d_T_readMoored_24 : decode prog_12_method_10_code 24 = .ok (.if_icmp .ne 88, 3) := by decide +kernel
theorem d_T_readMoored_27 : decode prog_12_method_10_code 27 = .ok (.iload_n 2, 1) := by decide +kernel
theorem d_T_readMoored_28 : decode prog_12_method_10_code 28 = .ok (.iconst 4, 1) := by decide +kernel
theorem d_T_readMoored_29 : decode prog_12_method_10_code 29 = .ok (.if_icmp .ne 12, 3) := by decide +kernel
theorem d_T_readMoored_32 : decode prog_12_method_10_code 32 = .ok (.aload_n 0, 1) := by decide +kernel
theorem d_T_readMoored_33 : decode prog_12_method_10_code 33 = .ok (.iconst 3, 1) := by decide +kernel
theorem d_T_readMoored_34 : decode prog_12_method_10_code 34 = .ok (.aload_n 0, 1) := by decide +kernel
theorem d_T_readMoored_35 : decode prog_12_method_10_code 35 = .ok (.getfield 29, 3) := by decide +kernel
theorem d_T_readMoored_38 : decode prog_12_method_10_code 38 = .ok (.invokevirtual 90, 3) := by decide +kernel
theorem d_T_readMoored_41 : decode prog_12_method_10_code 41 = .ok (.aload_n 0, 1) := by decide +kernel
theorem d_T_readMoored_42 : decode prog_12_method_10_code 42 = .ok (.bipush 109, 2) := by decide +kernel
theorem d_T_readMoored_44 : decode prog_12_method_10_code 44 = .ok (.invokevirtual 56, 3) := by decide +kernel
theorem d_T_readMoored_47 : decode prog_12_method_10_code 47 = .ok (.aload_n 0, 1) := by decide +kernel
theorem d_T_readMoored_48 : decode prog_12_method_10_code 48 = .ok (.getfield 29, 3) := by decide +kernel
theorem d_T_readMoored_51 : decode prog_12_method_10_code 51 = .ok (.istore_n 3, 1) := by decide +kernel
theorem d_T_readMoored_52 : decode prog_12_method_10_code 52 = .ok (.aload_n 0, 1) := by decide +kernel
theorem d_T_readMoored_53 : decode prog_12_method_10_code 53 = .ok (.iconst 0, 1) := by decide +kernel
theorem d_T_readMoored_54 : decode prog_12_method_10_code 54 = .ok (.bipush 23, 2) := by decide +kernel
theorem d_T_readMoored_56 : decode prog_12_method_10_code 56 = .ok (.invokevirtual 60, 3) := by decide +kernel
theorem d_T_readMoored_59 : decode prog_12_method_10_code 59 = .ok (.istore 4, 2) := by decide +kernel
theorem d_T_readMoored_61 : decode prog_12_method_10_code 61 = .ok (.aload_n 0, 1) := by decide +kernel
theorem d_T_readMoored_62 : decode prog_12_method_10_code 62 = .ok (.getfield 32, 3) := by decide +kernel
theorem d_T_readMoored_65 : decode prog_12_method_10_code 65 = .ok (.ifCond .ne 22, 3) := by decide +kernel
theorem d_T_readMoored_68 : decode prog_12_method_10_code 68 = .ok (.aload_n 1, 1) := by decide +kernel
theorem d_T_readMoored_69 : decode prog_12_method_10_code 69 = .ok (.getfield 94, 3) := by decide +kernel
theorem d_T_readMoored_72 : decode prog_12_method_10_code 72 = .ok (.iload 4, 2) := by decide +kernel
theorem d_T_readMoored_74 : decode prog_12_method_10_code 74 = .ok (.invokestatic 97, 3) := by decide +kernel
theorem d_T_readMoored_77 : decode prog_12_method_10_code 77 = .ok (.iconst 1, 1) := by decide +kernel
theorem d_T_readMoored_78 : decode prog_12_method_10_code 78 = .ok (.if_icmp .ne 9, 3) := by decide +kernel
theorem d_T_readMoored_81 : decode prog_12_method_10_code 81 = .ok (.aload_n 0, 1) := by decide +kernel
theorem d_T_readMoored_82 : decode prog_12_method_10_code 82 = .ok (.iconst 2, 1) := by decide +kernel
theorem d_T_readMoored_83 : decode prog_12_method_10_code 83 = .ok (.iload_n 3, 1) := by decide +kernel
theorem d_T_readMoored_84 : decode prog_12_method_10_code 84 = .ok (.invokevirtual 90, 3) := by decide +kernel
theorem d_T_readMoored_87 : decode prog_12_method_10_code 87 = .ok (.aload_n 1, 1) := by decide +kernel
theorem d_T_readMoored_88 : decode prog_12_method_10_code 88 = .ok (.dup, 1) := by decide +kernel
theorem d_T_readMoored_89 : decode prog_12_method_10_code 89 = .ok (.getfield 94, 3) := by decide +kernel
theorem d_T_readMoored_92 : decode prog_12_method_10_code 92 = .ok (.iconst 1, 1) := by decide +kernel
theorem d_T_readMoored_93 : decode prog_12_method_10_code 93 = .ok (.iload 4, 2) := by decide +kernel
theorem d_T_readMoored_95 : decode prog_12_method_10_code 95 = .ok (.ishl, 1) := by decide +kernel
theorem d_T_readMoored_96 : decode prog_12_method_10_code 96 = .ok (.ior, 1) := by decide +kernel
theorem d_T_readMoored_97 : decode prog_12_method_10_code 97 = .ok (.putfield 94, 3) := by decide +kernel
theorem d_T_readMoored_100 : decode prog_12_method_10_code 100 = .ok (.aload_n 0, 1) := by decide +kernel
theorem d_T_readMoored_101 : decode prog_12_method_10_code 101 = .ok (.bipush 59, 2) := by decide +kernel
theorem d_T_readMoored_103 : decode prog_12_method_10_code 103 = .ok (.invokevirtual 56, 3) := by decide +kernel
theorem d_T_readMoored_106 : decode prog_12_method_10_code 106 = .ok (.iinc 2 1, 3) := by decide +kernel
theorem d_T_readMoored_109 : decode prog_12_method_10_code 109 = .ok (.goto (-107), 3) := by decide +kernel
theorem d_T_readMoored_112 : decode prog_12_method_10_code 112 = .ok (.return_, 1) := by decide +kernel
theorem d_T_readHands_0 : decode prog_12_method_11_code 0 = .ok (.iconst 0, 1) := by decide +kernel
theorem d_T_readHands_1 : decode prog_12_method_11_code 1 = .ok (.istore_n 2, 1) := by decide +kernel
theorem d_T_readHands_2 : decode prog_12_method_11_code 2 = .ok (.iload_n 2, 1) := by decide +kernel
theorem d_T_readHands_3 : decode prog_12_method_11_code 3 = .ok (.iconst 4, 1) := by decide +kernel
theorem d_T_readHands_4 : decode prog_12_method_11_code 4 = .ok (.if_icmp .gt 108, 3) := by decide +kernel
theorem d_T_readHands_7 : decode prog_12_method_11_code 7 = .ok (.aload_n 0, 1) := by decide +kernel
theorem d_T_readHands_8 : decode prog_12_method_11_code 8 = .ok (.getfield 32, 3) := by decide +kernel
theorem d_T_readHands_11 : decode prog_12_method_11_code 11 = .ok (.ifCond .ne 101, 3) := by decide +kernel
theorem d_T_readHands_14 : decode prog_12_method_11_code 14 = .ok (.aload_n 0, 1) := by decide +kernel
theorem d_T_readHands_15 : decode prog_12_method_11_code 15 = .ok (.aload_n 0, 1) := by decide +kernel
theorem d_T_readHands_16 : decode prog_12_method_11_code 16 = .ok (.getfield 29, 3) := by decide +kernel
theorem d_T_readHands_19 : decode prog_12_method_11_code 19 = .ok (.invokevirtual 86, 3) := by decide +kernel
theorem d_T_readHands_22 : decode prog_12_method_11_code 22 = .ok (.iconst (-1), 1) := by decide +kernel
theorem d_T_readHands_23 : decode prog_12_method_11_code 23 = .ok (.if_icmp .eq 89, 3) := by decide +kernel
theorem d_T_readHands_26 : decode prog_12_method_11_code 26 = .ok (.aload_n 0, 1) := by decide +kernel
theorem d_T_readHands_27 : decode prog_12_method_11_code 27 = .ok (.aload_n 0, 1) := by decide +kernel
theorem d_T_readHands_28 : decode prog_12_method_11_code 28 = .ok (.getfield 29, 3) := by decide +kernel
theorem d_T_readHands_31 : decode prog_12_method_11_code 31 = .ok (.invokevirtual 86, 3) := by decide +kernel
theorem d_T_readHands_34 : decode prog_12_method_11_code 34 = .ok (.istore_n 3, 1) := by decide +kernel
theorem d_T_readHands_35 : decode prog_12_method_11_code 35 = .ok (.iload_n 3, 1) := by decide +kernel
theorem d_T_readHands_36 : decode prog_12_method_11_code 36 = .ok (.invokestatic 100, 3) := by decide +kernel
theorem d_T_readHands_39 : decode prog_12_method_11_code 39 = .ok (.ifCond .ne 15, 3) := by decide +kernel
theorem d_T_readHands_42 : decode prog_12_method_11_code 42 = .ok (.aload_n 0, 1) := by decide +kernel
theorem d_T_readHands_43 : decode prog_12_method_11_code 43 = .ok (.iconst 1, 1) := by decide +kernel
theorem d_T_readHands_44 : decode prog_12_method_11_code 44 = .ok (.aload_n 0, 1) := by decide +kernel
theorem d_T_readHands_45 : decode prog_12_method_11_code 45 = .ok (.getfield 29, 3) := by decide +kernel
theorem d_T_readHands_48 : decode prog_12_method_11_code 48 = .ok (.invokevirtual 90, 3) := by decide +kernel
theorem d_T_readHands_51 : decode prog_12_method_11_code 51 = .ok (.goto 17, 3) := by decide +kernel
theorem d_T_readHands_54 : decode prog_12_method_11_code 54 = .ok (.iload_n 2, 1) := by decide +kernel
theorem d_T_readHands_55 : decode prog_12_method_11_code 55 = .ok (.iconst 4, 1) := by decide +kernel
theorem d_T_readHands_56 : decode prog_12_method_11_code 56 = .ok (.if_icmp .ne 12, 3) := by decide +kernel
theorem d_T_readHands_59 : decode prog_12_method_11_code 59 = .ok (.aload_n 0, 1) := by decide +kernel
theorem d_T_readHands_60 : decode prog_12_method_11_code 60 = .ok (.iconst 3, 1) := by decide +kernel
theorem d_T_readHands_61 : decode prog_12_method_11_code 61 = .ok (.aload_n 0, 1) := by decide +kernel
theorem d_T_readHands_62 : decode prog_12_method_11_code 62 = .ok (.getfield 29, 3) := by decide +kernel
theorem d_T_readHands_65 : decode prog_12_method_11_code 65 = .ok (.invokevirtual 90, 3) := by decide +kernel
theorem d_T_readHands_68 : decode prog_12_method_11_code 68 = .ok (.aload_n 0, 1) := by decide +kernel
theorem d_T_readHands_69 : decode prog_12_method_11_code 69 = .ok (.iload_n 3, 1) := by decide +kernel
theorem d_T_readHands_70 : decode prog_12_method_11_code 70 = .ok (.invokevirtual 56, 3) := by decide +kernel
theorem d_T_readHands_73 : decode prog_12_method_11_code 73 = .ok (.aload_n 0, 1) := by decide +kernel
theorem d_T_readHands_74 : decode prog_12_method_11_code 74 = .ok (.iconst 1, 1) := by decide +kernel
theorem d_T_readHands_75 : decode prog_12_method_11_code 75 = .ok (.bipush 20, 2) := by decide +kernel
theorem d_T_readHands_77 : decode prog_12_method_11_code 77 = .ok (.invokevirtual 60, 3) := by decide +kernel
theorem d_T_readHands_80 : decode prog_12_method_11_code 80 = .ok (.istore 4, 2) := by decide +kernel
theorem d_T_readHands_82 : decode prog_12_method_11_code 82 = .ok (.aload_n 0, 1) := by decide +kernel
theorem d_T_readHands_83 : decode prog_12_method_11_code 83 = .ok (.bipush 59, 2) := by decide +kernel
theorem d_T_readHands_85 : decode prog_12_method_11_code 85 = .ok (.invokevirtual 56, 3) := by decide +kernel
theorem d_T_readHands_88 : decode prog_12_method_11_code 88 = .ok (.aload_n 0, 1) := by decide +kernel
theorem d_T_readHands_89 : decode prog_12_method_11_code 89 = .ok (.getfield 32, 3) := by decide +kernel
theorem d_T_readHands_92 : decode prog_12_method_11_code 92 = .ok (.ifCond .ne 14, 3) := by decide +kernel
theorem d_T_readHands_95 : decode prog_12_method_11_code 95 = .ok (.aload_n 1, 1) := by decide +kernel
theorem d_T_readHands_96 : decode prog_12_method_11_code 96 = .ok (.iload_n 3, 1) := by decide +kernel
theorem d_T_readHands_97 : decode prog_12_method_11_code 97 = .ok (.iload_n 2, 1) := by decide +kernel
theorem d_T_readHands_98 : decode prog_12_method_11_code 98 = .ok (.iload 4, 2) := by decide +kernel
theorem d_T_readHands_100 : decode prog_12_method_11_code 100 = .ok (.invokestatic 104, 3) := by decide +kernel
theorem d_T_readHands_103 : decode prog_12_method_11_code 103 = .ok (.invokevirtual 108, 3) := by decide +kernel
theorem d_T_readHands_106 : decode prog_12_method_11_code 106 = .ok (.iinc 2 1, 3) := by decide +kernel
theorem d_T_readHands_109 : decode prog_12_method_11_code 109 = .ok (.goto (-107), 3) := by decide +kernel
theorem d_T_readHands_112 : decode prog_12_method_11_code 112 = .ok (.return_, 1) := by decide +kernel
theorem d_T_readLetter_0 : decode prog_12_method_12_code 0 = .ok (.aload_n 0, 1) := by decide +kernel
theorem d_T_readLetter_1 : decode prog_12_method_12_code 1 = .ok (.aload_n 0, 1) := by decide +kernel
theorem d_T_readLetter_2 : decode prog_12_method_12_code 2 = .ok (.getfield 29, 3) := by decide +kernel
theorem d_T_readLetter_5 : decode prog_12_method_12_code 5 = .ok (.invokevirtual 86, 3) := by decide +kernel
theorem d_T_readLetter_8 : decode prog_12_method_12_code 8 = .ok (.iload_n 1, 1) := by decide +kernel
theorem d_T_readLetter_9 : decode prog_12_method_12_code 9 = .ok (.if_icmp .eq 15, 3) := by decide +kernel
theorem d_T_readLetter_12 : decode prog_12_method_12_code 12 = .ok (.aload_n 0, 1) := by decide +kernel
theorem d_T_readLetter_13 : decode prog_12_method_12_code 13 = .ok (.iconst 1, 1) := by decide +kernel
theorem d_T_readLetter_14 : decode prog_12_method_12_code 14 = .ok (.aload_n 0, 1) := by decide +kernel
theorem d_T_readLetter_15 : decode prog_12_method_12_code 15 = .ok (.getfield 29, 3) := by decide +kernel
theorem d_T_readLetter_18 : decode prog_12_method_12_code 18 = .ok (.invokevirtual 90, 3) := by decide +kernel
theorem d_T_readLetter_21 : decode prog_12_method_12_code 21 = .ok (.goto 20, 3) := by decide +kernel
theorem d_T_readLetter_24 : decode prog_12_method_12_code 24 = .ok (.aload_n 0, 1) := by decide +kernel
theorem d_T_readLetter_25 : decode prog_12_method_12_code 25 = .ok (.getfield 32, 3) := by decide +kernel
theorem d_T_readLetter_28 : decode prog_12_method_12_code 28 = .ok (.ifCond .ne 13, 3) := by decide +kernel
theorem d_T_readLetter_31 : decode prog_12_method_12_code 31 = .ok (.aload_n 0, 1) := by decide +kernel
theorem d_T_readLetter_32 : decode prog_12_method_12_code 32 = .ok (.dup, 1) := by decide +kernel
theorem d_T_readLetter_33 : decode prog_12_method_12_code 33 = .ok (.getfield 29, 3) := by decide +kernel
theorem d_T_readLetter_36 : decode prog_12_method_12_code 36 = .ok (.iconst 1, 1) := by decide +kernel
theorem d_T_readLetter_37 : decode prog_12_method_12_code 37 = .ok (.iadd, 1) := by decide +kernel
theorem d_T_readLetter_38 : decode prog_12_method_12_code 38 = .ok (.putfield 29, 3) := by decide +kernel
theorem d_T_readLetter_41 : decode prog_12_method_12_code 41 = .ok (.return_, 1) := by decide +kernel
theorem d_T_readDepth_0 : decode prog_12_method_13_code 0 = .ok (.aload_n 0, 1) := by decide +kernel
theorem d_T_readDepth_1 : decode prog_12_method_13_code 1 = .ok (.aload_n 0, 1) := by decide +kernel
theorem d_T_readDepth_2 : decode prog_12_method_13_code 2 = .ok (.getfield 29, 3) := by decide +kernel
theorem d_T_readDepth_5 : decode prog_12_method_13_code 5 = .ok (.invokevirtual 86, 3) := by decide +kernel
theorem d_T_readDepth_8 : decode prog_12_method_13_code 8 = .ok (.bipush 97, 2) := by decide +kernel
theorem d_T_readDepth_10 : decode prog_12_method_13_code 10 = .ok (.isub, 1) := by decide +kernel
theorem d_T_readDepth_11 : decode prog_12_method_13_code 11 = .ok (.istore_n 1, 1) := by decide +kernel
theorem d_T_readDepth_12 : decode prog_12_method_13_code 12 = .ok (.iload_n 1, 1) := by decide +kernel
theorem d_T_readDepth_13 : decode prog_12_method_13_code 13 = .ok (.ifCond .lt 9, 3) := by decide +kernel
theorem d_T_readDepth_16 : decode prog_12_method_13_code 16 = .ok (.iload_n 1, 1) := by decide +kernel
theorem d_T_readDepth_17 : decode prog_12_method_13_code 17 = .ok (.bipush 9, 2) := by decide +kernel
theorem d_T_readDepth_19 : decode prog_12_method_13_code 19 = .ok (.if_icmp .le 14, 3) := by decide +kernel
theorem d_T_readDepth_22 : decode prog_12_method_13_code 22 = .ok (.aload_n 0, 1) := by decide +kernel
theorem d_T_readDepth_23 : decode prog_12_method_13_code 23 = .ok (.iconst 1, 1) := by decide +kernel
theorem d_T_readDepth_24 : decode prog_12_method_13_code 24 = .ok (.aload_n 0, 1) := by decide +kernel
theorem d_T_readDepth_25 : decode prog_12_method_13_code 25 = .ok (.getfield 29, 3) := by decide +kernel
theorem d_T_readDepth_28 : decode prog_12_method_13_code 28 = .ok (.invokevirtual 90, 3) := by decide +kernel
theorem d_T_readDepth_31 : decode prog_12_method_13_code 31 = .ok (.iconst 0, 1) := by decide +kernel
theorem d_T_readDepth_32 : decode prog_12_method_13_code 32 = .ok (.ireturn, 1) := by decide +kernel
theorem d_T_readDepth_33 : decode prog_12_method_13_code 33 = .ok (.aload_n 0, 1) := by decide +kernel
theorem d_T_readDepth_34 : decode prog_12_method_13_code 34 = .ok (.dup, 1) := by decide +kernel
theorem d_T_readDepth_35 : decode prog_12_method_13_code 35 = .ok (.getfield 29, 3) := by decide +kernel
theorem d_T_readDepth_38 : decode prog_12_method_13_code 38 = .ok (.iconst 1, 1) := by decide +kernel
theorem d_T_readDepth_39 : decode prog_12_method_13_code 39 = .ok (.iadd, 1) := by decide +kernel
theorem d_T_readDepth_40 : decode prog_12_method_13_code 40 = .ok (.putfield 29, 3) := by decide +kernel
theorem d_T_readDepth_43 : decode prog_12_method_13_code 43 = .ok (.iload_n 1, 1) := by decide +kernel
theorem d_T_readDepth_44 : decode prog_12_method_13_code 44 = .ok (.ireturn, 1) := by decide +kernel
theorem d_T_readNumber_0 : decode prog_12_method_14_code 0 = .ok (.iconst 0, 1) := by decide +kernel
theorem d_T_readNumber_1 : decode prog_12_method_14_code 1 = .ok (.istore_n 3, 1) := by decide +kernel
theorem d_T_readNumber_2 : decode prog_12_method_14_code 2 = .ok (.iconst 0, 1) := by decide +kernel
theorem d_T_readNumber_3 : decode prog_12_method_14_code 3 = .ok (.istore 4, 2) := by decide +kernel
theorem d_T_readNumber_5 : decode prog_12_method_14_code 5 = .ok (.aload_n 0, 1) := by decide +kernel
theorem d_T_readNumber_6 : decode prog_12_method_14_code 6 = .ok (.getfield 29, 3) := by decide +kernel
theorem d_T_readNumber_9 : decode prog_12_method_14_code 9 = .ok (.istore 5, 2) := by decide +kernel
theorem d_T_readNumber_11 : decode prog_12_method_14_code 11 = .ok (.iload 5, 2) := by decide +kernel
theorem d_T_readNumber_13 : decode prog_12_method_14_code 13 = .ok (.aload_n 0, 1) := by decide +kernel
theorem d_T_readNumber_14 : decode prog_12_method_14_code 14 = .ok (.getfield 29, 3) := by decide +kernel
theorem d_T_readNumber_17 : decode prog_12_method_14_code 17 = .ok (.iconst 3, 1) := by decide +kernel
theorem d_T_readNumber_18 : decode prog_12_method_14_code 18 = .ok (.iadd, 1) := by decide +kernel
theorem d_T_readNumber_19 : decode prog_12_method_14_code 19 = .ok (.if_icmp .ge 41, 3) := by decide +kernel
theorem d_T_readNumber_22 : decode prog_12_method_14_code 22 = .ok (.aload_n 0, 1) := by decide +kernel
theorem d_T_readNumber_23 : decode prog_12_method_14_code 23 = .ok (.iload 5, 2) := by decide +kernel
theorem d_T_readNumber_25 : decode prog_12_method_14_code 25 = .ok (.invokevirtual 86, 3) := by decide +kernel
theorem d_T_readNumber_28 : decode prog_12_method_14_code 28 = .ok (.invokestatic 112, 3) := by decide +kernel
theorem d_T_readNumber_31 : decode prog_12_method_14_code 31 = .ok (.ifCond .eq 29, 3) := by decide +kernel
theorem d_T_readNumber_34 : decode prog_12_method_14_code 34 = .ok (.iinc 3 1, 3) := by decide +kernel
theorem d_T_readNumber_37 : decode prog_12_method_14_code 37 = .ok (.bipush 10, 2) := by decide +kernel
theorem d_T_readNumber_39 : decode prog_12_method_14_code 39 = .ok (.iload 4, 2) := by decide +kernel
theorem d_T_readNumber_41 : decode prog_12_method_14_code 41 = .ok (.imul, 1) := by decide +kernel
theorem d_T_readNumber_42 : decode prog_12_method_14_code 42 = .ok (.aload_n 0, 1) := by decide +kernel
theorem d_T_readNumber_43 : decode prog_12_method_14_code 43 = .ok (.iload 5, 2) := by decide +kernel
theorem d_T_readNumber_45 : decode prog_12_method_14_code 45 = .ok (.invokevirtual 86, 3) := by decide +kernel
theorem d_T_readNumber_48 : decode prog_12_method_14_code 48 = .ok (.iadd, 1) := by decide +kernel
theorem d_T_readNumber_49 : decode prog_12_method_14_code 49 = .ok (.bipush 48, 2) := by decide +kernel
theorem d_T_readNumber_51 : decode prog_12_method_14_code 51 = .ok (.isub, 1) := by decide +kernel
theorem d_T_readNumber_52 : decode prog_12_method_14_code 52 = .ok (.istore 4, 2) := by decide +kernel
theorem d_T_readNumber_54 : decode prog_12_method_14_code 54 = .ok (.iinc 5 1, 3) := by decide +kernel
theorem d_T_readNumber_57 : decode prog_12_method_14_code 57 = .ok (.goto (-46), 3) := by decide +kernel
theorem d_T_readNumber_60 : decode prog_12_method_14_code 60 = .ok (.iload_n 3, 1) := by decide +kernel
theorem d_T_readNumber_61 : decode prog_12_method_14_code 61 = .ok (.ifCond .eq 8, 3) := by decide +kernel
theorem d_T_readNumber_64 : decode prog_12_method_14_code 64 = .ok (.iload_n 3, 1) := by decide +kernel
theorem d_T_readNumber_65 : decode prog_12_method_14_code 65 = .ok (.iconst 2, 1) := by decide +kernel
theorem d_T_readNumber_66 : decode prog_12_method_14_code 66 = .ok (.if_icmp .le 14, 3) := by decide +kernel
theorem d_T_readNumber_69 : decode prog_12_method_14_code 69 = .ok (.aload_n 0, 1) := by decide +kernel
theorem d_T_readNumber_70 : decode prog_12_method_14_code 70 = .ok (.iconst 1, 1) := by decide +kernel
theorem d_T_readNumber_71 : decode prog_12_method_14_code 71 = .ok (.aload_n 0, 1) := by decide +kernel
theorem d_T_readNumber_72 : decode prog_12_method_14_code 72 = .ok (.getfield 29, 3) := by decide +kernel
theorem d_T_readNumber_75 : decode prog_12_method_14_code 75 = .ok (.invokevirtual 90, 3) := by decide +kernel
theorem d_T_readNumber_78 : decode prog_12_method_14_code 78 = .ok (.iload_n 1, 1) := by decide +kernel
theorem d_T_readNumber_79 : decode prog_12_method_14_code 79 = .ok (.ireturn, 1) := by decide +kernel
theorem d_T_readNumber_80 : decode prog_12_method_14_code 80 = .ok (.iload 4, 2) := by decide +kernel
theorem d_T_readNumber_82 : decode prog_12_method_14_code 82 = .ok (.iload_n 1, 1) := by decide +kernel
theorem d_T_readNumber_83 : decode prog_12_method_14_code 83 = .ok (.if_icmp .lt 9, 3) := by decide +kernel
theorem d_T_readNumber_86 : decode prog_12_method_14_code 86 = .ok (.iload 4, 2) := by decide +kernel
theorem d_T_readNumber_88 : decode prog_12_method_14_code 88 = .ok (.iload_n 2, 1) := by decide +kernel
theorem d_T_readNumber_89 : decode prog_12_method_14_code 89 = .ok (.if_icmp .le 14, 3) := by decide +kernel
theorem d_T_readNumber_92 : decode prog_12_method_14_code 92 = .ok (.aload_n 0, 1) := by decide +kernel
theorem d_T_readNumber_93 : decode prog_12_method_14_code 93 = .ok (.iconst 2, 1) := by decide +kernel
theorem d_T_readNumber_94 : decode prog_12_method_14_code 94 = .ok (.aload_n 0, 1) := by decide +kernel
theorem d_T_readNumber_95 : decode prog_12_method_14_code 95 = .ok (.getfield 29, 3) := by decide +kernel
theorem d_T_readNumber_98 : decode prog_12_method_14_code 98 = .ok (.invokevirtual 90, 3) := by decide +kernel
theorem d_T_readNumber_101 : decode prog_12_method_14_code 101 = .ok (.iload_n 1, 1) := by decide +kernel
theorem d_T_readNumber_102 : decode prog_12_method_14_code 102 = .ok (.ireturn, 1) := by decide +kernel
theorem d_T_readNumber_103 : decode prog_12_method_14_code 103 = .ok (.aload_n 0, 1) := by decide +kernel
theorem d_T_readNumber_104 : decode prog_12_method_14_code 104 = .ok (.dup, 1) := by decide +kernel
theorem d_T_readNumber_105 : decode prog_12_method_14_code 105 = .ok (.getfield 29, 3) := by decide +kernel
theorem d_T_readNumber_108 : decode prog_12_method_14_code 108 = .ok (.iload_n 3, 1) := by decide +kernel
theorem d_T_readNumber_109 : decode prog_12_method_14_code 109 = .ok (.iadd, 1) := by decide +kernel
theorem d_T_readNumber_110 : decode prog_12_method_14_code 110 = .ok (.putfield 29, 3) := by decide +kernel
theorem d_T_readNumber_113 : decode prog_12_method_14_code 113 = .ok (.iload 4, 2) := by decide +kernel
theorem d_T_readNumber_115 : decode prog_12_method_14_code 115 = .ok (.ireturn, 1) := by decide +kernel
theorem d_T_fail_0 : decode prog_12_method_15_code 0 = .ok (.aload_n 0, 1) := by decide +kernel
theorem d_T_fail_1 : decode prog_12_method_15_code 1 = .ok (.getfield 32, 3) := by decide +kernel
theorem d_T_fail_4 : decode prog_12_method_15_code 4 = .ok (.ifCond .ne 18, 3) := by decide +kernel
theorem d_T_fail_7 : decode prog_12_method_15_code 7 = .ok (.aload_n 0, 1) := by decide +kernel
theorem d_T_fail_8 : decode prog_12_method_15_code 8 = .ok (.iload_n 1, 1) := by decide +kernel
theorem d_T_fail_9 : decode prog_12_method_15_code 9 = .ok (.putfield 32, 3) := by decide +kernel
theorem d_T_fail_12 : decode prog_12_method_15_code 12 = .ok (.aload_n 0, 1) := by decide +kernel
theorem d_T_fail_13 : decode prog_12_method_15_code 13 = .ok (.iload_n 2, 1) := by decide +kernel
theorem d_T_fail_14 : decode prog_12_method_15_code 14 = .ok (.putfield 19, 3) := by decide +kernel
theorem d_T_fail_17 : decode prog_12_method_15_code 17 = .ok (.aload_n 0, 1) := by decide +kernel
theorem d_T_fail_18 : decode prog_12_method_15_code 18 = .ok (.iload_n 1, 1) := by decide +kernel
theorem d_T_fail_19 : decode prog_12_method_15_code 19 = .ok (.putfield 22, 3) := by decide +kernel
theorem d_T_fail_22 : decode prog_12_method_15_code 22 = .ok (.return_, 1) := by decide +kernel
theorem d_T_letterAt_0 : decode prog_12_method_16_code 0 = .ok (.iload_n 1, 1) := by decide +kernel
theorem d_T_letterAt_1 : decode prog_12_method_16_code 1 = .ok (.ifCond .lt 22, 3) := by decide +kernel
theorem d_T_letterAt_4 : decode prog_12_method_16_code 4 = .ok (.iload_n 1, 1) := by decide +kernel
theorem d_T_letterAt_5 : decode prog_12_method_16_code 5 = .ok (.aload_n 0, 1) := by decide +kernel
theorem d_T_letterAt_6 : decode prog_12_method_16_code 6 = .ok (.getfield 15, 3) := by decide +kernel
theorem d_T_letterAt_9 : decode prog_12_method_16_code 9 = .ok (.if_icmp .ge 14, 3) := by decide +kernel
theorem d_T_letterAt_12 : decode prog_12_method_16_code 12 = .ok (.aload_n 0, 1) := by decide +kernel
theorem d_T_letterAt_13 : decode prog_12_method_16_code 13 = .ok (.getfield 11, 3) := by decide +kernel
theorem d_T_letterAt_16 : decode prog_12_method_16_code 16 = .ok (.iload_n 1, 1) := by decide +kernel
theorem d_T_letterAt_17 : decode prog_12_method_16_code 17 = .ok (.invokestatic 115, 3) := by decide +kernel
theorem d_T_letterAt_20 : decode prog_12_method_16_code 20 = .ok (.goto 4, 3) := by decide +kernel
theorem d_T_letterAt_23 : decode prog_12_method_16_code 23 = .ok (.iconst (-1), 1) := by decide +kernel
theorem d_T_letterAt_24 : decode prog_12_method_16_code 24 = .ok (.ireturn, 1) := by decide +kernel
theorem d_T_isFigure_0 : decode prog_12_method_17_code 0 = .ok (.iload_n 0, 1) := by decide +kernel
theorem d_T_isFigure_1 : decode prog_12_method_17_code 1 = .ok (.bipush 48, 2) := by decide +kernel
theorem d_T_isFigure_3 : decode prog_12_method_17_code 3 = .ok (.if_icmp .lt 13, 3) := by decide +kernel
theorem d_T_isFigure_6 : decode prog_12_method_17_code 6 = .ok (.iload_n 0, 1) := by decide +kernel
theorem d_T_isFigure_7 : decode prog_12_method_17_code 7 = .ok (.bipush 57, 2) := by decide +kernel
theorem d_T_isFigure_9 : decode prog_12_method_17_code 9 = .ok (.if_icmp .gt 7, 3) := by decide +kernel
theorem d_T_isFigure_12 : decode prog_12_method_17_code 12 = .ok (.iconst 1, 1) := by decide +kernel
theorem d_T_isFigure_13 : decode prog_12_method_17_code 13 = .ok (.goto 4, 3) := by decide +kernel
theorem d_T_isFigure_16 : decode prog_12_method_17_code 16 = .ok (.iconst 0, 1) := by decide +kernel
theorem d_T_isFigure_17 : decode prog_12_method_17_code 17 = .ok (.ireturn, 1) := by decide +kernel
theorem d_T_isSort_0 : decode prog_12_method_18_code 0 = .ok (.iload_n 0, 1) := by decide +kernel
theorem d_T_isSort_1 : decode prog_12_method_18_code 1 = .ok (.bipush 115, 2) := by decide +kernel
theorem d_T_isSort_3 : decode prog_12_method_18_code 3 = .ok (.if_icmp .eq 27, 3) := by decide +kernel
theorem d_T_isSort_6 : decode prog_12_method_18_code 6 = .ok (.iload_n 0, 1) := by decide +kernel
theorem d_T_isSort_7 : decode prog_12_method_18_code 7 = .ok (.bipush 112, 2) := by decide +kernel
theorem d_T_isSort_9 : decode prog_12_method_18_code 9 = .ok (.if_icmp .eq 21, 3) := by decide +kernel
theorem d_T_isSort_12 : decode prog_12_method_18_code 12 = .ok (.iload_n 0, 1) := by decide +kernel
theorem d_T_isSort_13 : decode prog_12_method_18_code 13 = .ok (.bipush 114, 2) := by decide +kernel
theorem d_T_isSort_15 : decode prog_12_method_18_code 15 = .ok (.if_icmp .eq 15, 3) := by decide +kernel
theorem d_T_isSort_18 : decode prog_12_method_18_code 18 = .ok (.iload_n 0, 1) := by decide +kernel
theorem d_T_isSort_19 : decode prog_12_method_18_code 19 = .ok (.bipush 104, 2) := by decide +kernel
theorem d_T_isSort_21 : decode prog_12_method_18_code 21 = .ok (.if_icmp .eq 9, 3) := by decide +kernel
theorem d_T_isSort_24 : decode prog_12_method_18_code 24 = .ok (.iload_n 0, 1) := by decide +kernel
theorem d_T_isSort_25 : decode prog_12_method_18_code 25 = .ok (.bipush 108, 2) := by decide +kernel
theorem d_T_isSort_27 : decode prog_12_method_18_code 27 = .ok (.if_icmp .ne 7, 3) := by decide +kernel
theorem d_T_isSort_30 : decode prog_12_method_18_code 30 = .ok (.iconst 1, 1) := by decide +kernel
theorem d_T_isSort_31 : decode prog_12_method_18_code 31 = .ok (.goto 4, 3) := by decide +kernel
theorem d_T_isSort_34 : decode prog_12_method_18_code 34 = .ok (.iconst 0, 1) := by decide +kernel
theorem d_T_isSort_35 : decode prog_12_method_18_code 35 = .ok (.ireturn, 1) := by decide +kernel
theorem d_T_handOf_0 : decode prog_12_method_19_code 0 = .ok (.iload_n 0, 1) := by decide +kernel
theorem d_T_handOf_1 : decode prog_12_method_19_code 1 = .ok (.lookupswitch 84 #[(104, 74), (112, 54), (114, 64), (115, 43)], 43) := by decide +kernel
theorem d_T_handOf_44 : decode prog_12_method_19_code 44 = .ok (.new 119, 3) := by decide +kernel
theorem d_T_handOf_47 : decode prog_12_method_19_code 47 = .ok (.dup, 1) := by decide +kernel
theorem d_T_handOf_48 : decode prog_12_method_19_code 48 = .ok (.iload_n 1, 1) := by decide +kernel
theorem d_T_handOf_49 : decode prog_12_method_19_code 49 = .ok (.iload_n 2, 1) := by decide +kernel
theorem d_T_handOf_50 : decode prog_12_method_19_code 50 = .ok (.iconst 3, 1) := by decide +kernel
theorem d_T_handOf_51 : decode prog_12_method_19_code 51 = .ok (.invokespecial 121, 3) := by decide +kernel
theorem d_T_handOf_54 : decode prog_12_method_19_code 54 = .ok (.areturn, 1) := by decide +kernel
theorem d_T_handOf_55 : decode prog_12_method_19_code 55 = .ok (.new 124, 3) := by decide +kernel
theorem d_T_handOf_58 : decode prog_12_method_19_code 58 = .ok (.dup, 1) := by decide +kernel
theorem d_T_handOf_59 : decode prog_12_method_19_code 59 = .ok (.iload_n 1, 1) := by decide +kernel
theorem d_T_handOf_60 : decode prog_12_method_19_code 60 = .ok (.iload_n 2, 1) := by decide +kernel
theorem d_T_handOf_61 : decode prog_12_method_19_code 61 = .ok (.invokespecial 126, 3) := by decide +kernel
theorem d_T_handOf_64 : decode prog_12_method_19_code 64 = .ok (.areturn, 1) := by decide +kernel
theorem d_T_handOf_65 : decode prog_12_method_19_code 65 = .ok (.new 128, 3) := by decide +kernel
theorem d_T_handOf_68 : decode prog_12_method_19_code 68 = .ok (.dup, 1) := by decide +kernel
theorem d_T_handOf_69 : decode prog_12_method_19_code 69 = .ok (.iload_n 1, 1) := by decide +kernel
theorem d_T_handOf_70 : decode prog_12_method_19_code 70 = .ok (.iload_n 2, 1) := by decide +kernel
theorem d_T_handOf_71 : decode prog_12_method_19_code 71 = .ok (.invokespecial 130, 3) := by decide +kernel
theorem d_T_handOf_74 : decode prog_12_method_19_code 74 = .ok (.areturn, 1) := by decide +kernel
theorem d_T_handOf_75 : decode prog_12_method_19_code 75 = .ok (.new 131, 3) := by decide +kernel
theorem d_T_handOf_78 : decode prog_12_method_19_code 78 = .ok (.dup, 1) := by decide +kernel
theorem d_T_handOf_79 : decode prog_12_method_19_code 79 = .ok (.iload_n 1, 1) := by decide +kernel
theorem d_T_handOf_80 : decode prog_12_method_19_code 80 = .ok (.iload_n 2, 1) := by decide +kernel
theorem d_T_handOf_81 : decode prog_12_method_19_code 81 = .ok (.invokespecial 133, 3) := by decide +kernel
theorem d_T_handOf_84 : decode prog_12_method_19_code 84 = .ok (.areturn, 1) := by decide +kernel
theorem d_T_handOf_85 : decode prog_12_method_19_code 85 = .ok (.new 134, 3) := by decide +kernel
theorem d_T_handOf_88 : decode prog_12_method_19_code 88 = .ok (.dup, 1) := by decide +kernel
theorem d_T_handOf_89 : decode prog_12_method_19_code 89 = .ok (.iload_n 1, 1) := by decide +kernel
theorem d_T_handOf_90 : decode prog_12_method_19_code 90 = .ok (.iload_n 2, 1) := by decide +kernel
theorem d_T_handOf_91 : decode prog_12_method_19_code 91 = .ok (.invokespecial 136, 3) := by decide +kernel
theorem d_T_handOf_94 : decode prog_12_method_19_code 94 = .ok (.areturn, 1) := by decide +kernel
theorem d_C_init_0 : decode prog_1_method_1_code 0 = .ok (.aload_n 0, 1) := by decide +kernel
theorem d_C_init_1 : decode prog_1_method_1_code 1 = .ok (.invokespecial 1, 3) := by decide +kernel
theorem d_C_init_4 : decode prog_1_method_1_code 4 = .ok (.aload_n 0, 1) := by decide +kernel
theorem d_C_init_5 : decode prog_1_method_1_code 5 = .ok (.new 7, 3) := by decide +kernel
theorem d_C_init_8 : decode prog_1_method_1_code 8 = .ok (.dup, 1) := by decide +kernel
theorem d_C_init_9 : decode prog_1_method_1_code 9 = .ok (.invokespecial 9, 3) := by decide +kernel
theorem d_C_init_12 : decode prog_1_method_1_code 12 = .ok (.putfield 10, 3) := by decide +kernel
theorem d_C_init_15 : decode prog_1_method_1_code 15 = .ok (.aload_n 0, 1) := by decide +kernel
theorem d_C_init_16 : decode prog_1_method_1_code 16 = .ok (.new 16, 3) := by decide +kernel
theorem d_C_init_19 : decode prog_1_method_1_code 19 = .ok (.dup, 1) := by decide +kernel
theorem d_C_init_20 : decode prog_1_method_1_code 20 = .ok (.invokespecial 18, 3) := by decide +kernel
theorem d_C_init_23 : decode prog_1_method_1_code 23 = .ok (.putfield 19, 3) := by decide +kernel
theorem d_C_init_26 : decode prog_1_method_1_code 26 = .ok (.aload_n 0, 1) := by decide +kernel
theorem d_C_init_27 : decode prog_1_method_1_code 27 = .ok (.new 23, 3) := by decide +kernel
theorem d_C_init_30 : decode prog_1_method_1_code 30 = .ok (.dup, 1) := by decide +kernel
theorem d_C_init_31 : decode prog_1_method_1_code 31 = .ok (.invokespecial 25, 3) := by decide +kernel
theorem d_C_init_34 : decode prog_1_method_1_code 34 = .ok (.putfield 26, 3) := by decide +kernel
theorem d_C_init_37 : decode prog_1_method_1_code 37 = .ok (.aload_n 0, 1) := by decide +kernel
theorem d_C_init_38 : decode prog_1_method_1_code 38 = .ok (.new 30, 3) := by decide +kernel
theorem d_C_init_41 : decode prog_1_method_1_code 41 = .ok (.dup, 1) := by decide +kernel
theorem d_C_init_42 : decode prog_1_method_1_code 42 = .ok (.invokespecial 32, 3) := by decide +kernel
theorem d_C_init_45 : decode prog_1_method_1_code 45 = .ok (.putfield 33, 3) := by decide +kernel
theorem d_C_init_48 : decode prog_1_method_1_code 48 = .ok (.aload_n 0, 1) := by decide +kernel
theorem d_C_init_49 : decode prog_1_method_1_code 49 = .ok (.new 37, 3) := by decide +kernel
theorem d_C_init_52 : decode prog_1_method_1_code 52 = .ok (.dup, 1) := by decide +kernel
theorem d_C_init_53 : decode prog_1_method_1_code 53 = .ok (.invokespecial 39, 3) := by decide +kernel
theorem d_C_init_56 : decode prog_1_method_1_code 56 = .ok (.putfield 40, 3) := by decide +kernel
theorem d_C_init_59 : decode prog_1_method_1_code 59 = .ok (.aload_n 0, 1) := by decide +kernel
theorem d_C_init_60 : decode prog_1_method_1_code 60 = .ok (.new 37, 3) := by decide +kernel
theorem d_C_init_63 : decode prog_1_method_1_code 63 = .ok (.dup, 1) := by decide +kernel
theorem d_C_init_64 : decode prog_1_method_1_code 64 = .ok (.invokespecial 39, 3) := by decide +kernel
theorem d_C_init_67 : decode prog_1_method_1_code 67 = .ok (.putfield 44, 3) := by decide +kernel
theorem d_C_init_70 : decode prog_1_method_1_code 70 = .ok (.aload_n 0, 1) := by decide +kernel
theorem d_C_init_71 : decode prog_1_method_1_code 71 = .ok (.iconst 2, 1) := by decide +kernel
theorem d_C_init_72 : decode prog_1_method_1_code 72 = .ok (.anewarray 37, 3) := by decide +kernel
theorem d_C_init_75 : decode prog_1_method_1_code 75 = .ok (.putfield 47, 3) := by decide +kernel
theorem d_C_init_78 : decode prog_1_method_1_code 78 = .ok (.aload_n 0, 1) := by decide +kernel
theorem d_C_init_79 : decode prog_1_method_1_code 79 = .ok (.bipush 17, 2) := by decide +kernel
theorem d_C_init_81 : decode prog_1_method_1_code 81 = .ok (.newarray .int, 2) := by decide +kernel
theorem d_C_init_83 : decode prog_1_method_1_code 83 = .ok (.putfield 51, 3) := by decide +kernel
theorem d_C_init_86 : decode prog_1_method_1_code 86 = .ok (.return_, 1) := by decide +kernel
theorem d_C_row_0 : decode prog_1_method_2_code 0 = .ok (.iload_n 1, 1) := by decide +kernel
theorem d_C_row_1 : decode prog_1_method_2_code 1 = .ok (.invokestatic 55, 3) := by decide +kernel
theorem d_C_row_4 : decode prog_1_method_2_code 4 = .ok (.ifCond .eq 17, 3) := by decide +kernel
theorem d_C_row_7 : decode prog_1_method_2_code 7 = .ok (.iload_n 2, 1) := by decide +kernel
theorem d_C_row_8 : decode prog_1_method_2_code 8 = .ok (.iconst 3, 1) := by decide +kernel
theorem d_C_row_9 : decode prog_1_method_2_code 9 = .ok (.invokestatic 59, 3) := by decide +kernel
theorem d_C_row_12 : decode prog_1_method_2_code 12 = .ok (.ifCond .eq 9, 3) := by decide +kernel
theorem d_C_row_15 : decode prog_1_method_2_code 15 = .ok (.iload_n 3, 1) := by decide +kernel
theorem d_C_row_16 : decode prog_1_method_2_code 16 = .ok (.bipush 40, 2) := by decide +kernel
theorem d_C_row_18 : decode prog_1_method_2_code 18 = .ok (.if_icmp .le 6, 3) := by decide +kernel
theorem d_C_row_21 : decode prog_1_method_2_code 21 = .ok (.ldc 63, 2) := by decide +kernel
theorem d_C_row_23 : decode prog_1_method_2_code 23 = .ok (.ireturn, 1) := by decide +kernel
theorem d_C_row_24 : decode prog_1_method_2_code 24 = .ok (.iload_n 3, 1) := by decide +kernel
theorem d_C_row_25 : decode prog_1_method_2_code 25 = .ok (.ifCond .ge 9, 3) := by decide +kernel
theorem d_C_row_28 : decode prog_1_method_2_code 28 = .ok (.aload_n 0, 1) := by decide +kernel
theorem d_C_row_29 : decode prog_1_method_2_code 29 = .ok (.iconst 4, 1) := by decide +kernel
theorem d_C_row_30 : decode prog_1_method_2_code 30 = .ok (.invokevirtual 64, 3) := by decide +kernel
theorem d_C_row_33 : decode prog_1_method_2_code 33 = .ok (.ireturn, 1) := by decide +kernel
theorem d_C_row_34 : decode prog_1_method_2_code 34 = .ok (.aload_n 0, 1) := by decide +kernel
theorem d_C_row_35 : decode prog_1_method_2_code 35 = .ok (.getfield 10, 3) := by decide +kernel
theorem d_C_row_38 : decode prog_1_method_2_code 38 = .ok (.iload_n 1, 1) := by decide +kernel
theorem d_C_row_39 : decode prog_1_method_2_code 39 = .ok (.iload_n 2, 1) := by decide +kernel
theorem d_C_row_40 : decode prog_1_method_2_code 40 = .ok (.iload_n 3, 1) := by decide +kernel
theorem d_C_row_41 : decode prog_1_method_2_code 41 = .ok (.invokevirtual 68, 3) := by decide +kernel
theorem d_C_row_44 : decode prog_1_method_2_code 44 = .ok (.aload_n 0, 1) := by decide +kernel
theorem d_C_row_45 : decode prog_1_method_2_code 45 = .ok (.iload_n 3, 1) := by decide +kernel
theorem d_C_row_46 : decode prog_1_method_2_code 46 = .ok (.invokevirtual 72, 3) := by decide +kernel
theorem d_C_row_49 : decode prog_1_method_2_code 49 = .ok (.ireturn, 1) := by decide +kernel
theorem d_C_set_0 : decode prog_1_method_3_code 0 = .ok (.iload_n 1, 1) := by decide +kernel
theorem d_C_set_1 : decode prog_1_method_3_code 1 = .ok (.invokestatic 55, 3) := by decide +kernel
theorem d_C_set_4 : decode prog_1_method_3_code 4 = .ok (.ifCond .ne 6, 3) := by decide +kernel
theorem d_C_set_7 : decode prog_1_method_3_code 7 = .ok (.ldc 63, 2) := by decide +kernel
theorem d_C_set_9 : decode prog_1_method_3_code 9 = .ok (.ireturn, 1) := by decide +kernel
theorem d_C_set_10 : decode prog_1_method_3_code 10 = .ok (.aload_n 0, 1) := by decide +kernel
theorem d_C_set_11 : decode prog_1_method_3_code 11 = .ok (.getfield 10, 3) := by decide +kernel
theorem d_C_set_14 : decode prog_1_method_3_code 14 = .ok (.iload_n 1, 1) := by decide +kernel
theorem d_C_set_15 : decode prog_1_method_3_code 15 = .ok (.invokevirtual 75, 3) := by decide +kernel
theorem d_C_set_18 : decode prog_1_method_3_code 18 = .ok (.ifCond .eq 9, 3) := by decide +kernel
theorem d_C_set_21 : decode prog_1_method_3_code 21 = .ok (.aload_n 0, 1) := by decide +kernel
theorem d_C_set_22 : decode prog_1_method_3_code 22 = .ok (.iconst 1, 1) := by decide +kernel
theorem d_C_set_23 : decode prog_1_method_3_code 23 = .ok (.invokevirtual 64, 3) := by decide +kernel
theorem d_C_set_26 : decode prog_1_method_3_code 26 = .ok (.ireturn, 1) := by decide +kernel
theorem d_C_set_27 : decode prog_1_method_3_code 27 = .ok (.aload_n 0, 1) := by decide +kernel
theorem d_C_set_28 : decode prog_1_method_3_code 28 = .ok (.getfield 10, 3) := by decide +kernel
theorem d_C_set_31 : decode prog_1_method_3_code 31 = .ok (.iload_n 1, 1) := by decide +kernel
theorem d_C_set_32 : decode prog_1_method_3_code 32 = .ok (.iload_n 2, 1) := by decide +kernel
theorem d_C_set_33 : decode prog_1_method_3_code 33 = .ok (.iconst 1, 1) := by decide +kernel
theorem d_C_set_34 : decode prog_1_method_3_code 34 = .ok (.invokevirtual 78, 3) := by decide +kernel
theorem d_C_set_37 : decode prog_1_method_3_code 37 = .ok (.ifCond .ne 9, 3) := by decide +kernel
theorem d_C_set_40 : decode prog_1_method_3_code 40 = .ok (.aload_n 0, 1) := by decide +kernel
theorem d_C_set_41 : decode prog_1_method_3_code 41 = .ok (.iconst 2, 1) := by decide +kernel
theorem d_C_set_42 : decode prog_1_method_3_code 42 = .ok (.invokevirtual 64, 3) := by decide +kernel
theorem d_C_set_45 : decode prog_1_method_3_code 45 = .ok (.ireturn, 1) := by decide +kernel
theorem d_C_set_46 : decode prog_1_method_3_code 46 = .ok (.aload_n 0, 1) := by decide +kernel
theorem d_C_set_47 : decode prog_1_method_3_code 47 = .ok (.aload_n 0, 1) := by decide +kernel
theorem d_C_set_48 : decode prog_1_method_3_code 48 = .ok (.getfield 10, 3) := by decide +kernel
theorem d_C_set_51 : decode prog_1_method_3_code 51 = .ok (.iload_n 1, 1) := by decide +kernel
theorem d_C_set_52 : decode prog_1_method_3_code 52 = .ok (.iload_n 2, 1) := by decide +kernel
theorem d_C_set_53 : decode prog_1_method_3_code 53 = .ok (.iload_n 3, 1) := by decide +kernel
theorem d_C_set_54 : decode prog_1_method_3_code 54 = .ok (.invokevirtual 82, 3) := by decide +kernel
theorem d_C_set_57 : decode prog_1_method_3_code 57 = .ok (.invokevirtual 72, 3) := by decide +kernel
theorem d_C_set_60 : decode prog_1_method_3_code 60 = .ok (.ireturn, 1) := by decide +kernel
theorem d_C_copy_0 : decode prog_1_method_4_code 0 = .ok (.iload_n 1, 1) := by decide +kernel
theorem d_C_copy_1 : decode prog_1_method_4_code 1 = .ok (.invokestatic 55, 3) := by decide +kernel
theorem d_C_copy_4 : decode prog_1_method_4_code 4 = .ok (.ifCond .eq 10, 3) := by decide +kernel
theorem d_C_copy_7 : decode prog_1_method_4_code 7 = .ok (.iload_n 3, 1) := by decide +kernel
theorem d_C_copy_8 : decode prog_1_method_4_code 8 = .ok (.invokestatic 55, 3) := by decide +kernel
theorem d_C_copy_11 : decode prog_1_method_4_code 11 = .ok (.ifCond .ne 6, 3) := by decide +kernel
theorem d_C_copy_14 : decode prog_1_method_4_code 14 = .ok (.ldc 63, 2) := by decide +kernel
theorem d_C_copy_16 : decode prog_1_method_4_code 16 = .ok (.ireturn, 1) := by decide +kernel
theorem d_C_copy_17 : decode prog_1_method_4_code 17 = .ok (.aload_n 0, 1) := by decide +kernel
theorem d_C_copy_18 : decode prog_1_method_4_code 18 = .ok (.getfield 10, 3) := by decide +kernel
theorem d_C_copy_21 : decode prog_1_method_4_code 21 = .ok (.iload_n 1, 1) := by decide +kernel
theorem d_C_copy_22 : decode prog_1_method_4_code 22 = .ok (.invokevirtual 75, 3) := by decide +kernel
theorem d_C_copy_25 : decode prog_1_method_4_code 25 = .ok (.ifCond .ne 14, 3) := by decide +kernel
theorem d_C_copy_28 : decode prog_1_method_4_code 28 = .ok (.aload_n 0, 1) := by decide +kernel
theorem d_C_copy_29 : decode prog_1_method_4_code 29 = .ok (.getfield 10, 3) := by decide +kernel
theorem d_C_copy_32 : decode prog_1_method_4_code 32 = .ok (.iload_n 3, 1) := by decide +kernel
theorem d_C_copy_33 : decode prog_1_method_4_code 33 = .ok (.invokevirtual 75, 3) := by decide +kernel
theorem d_C_copy_36 : decode prog_1_method_4_code 36 = .ok (.ifCond .eq 9, 3) := by decide +kernel
theorem d_C_copy_39 : decode prog_1_method_4_code 39 = .ok (.aload_n 0, 1) := by decide +kernel
theorem d_C_copy_40 : decode prog_1_method_4_code 40 = .ok (.iconst 1, 1) := by decide +kernel
theorem d_C_copy_41 : decode prog_1_method_4_code 41 = .ok (.invokevirtual 64, 3) := by decide +kernel
theorem d_C_copy_44 : decode prog_1_method_4_code 44 = .ok (.ireturn, 1) := by decide +kernel
theorem d_C_copy_45 : decode prog_1_method_4_code 45 = .ok (.aload_n 0, 1) := by decide +kernel
theorem d_C_copy_46 : decode prog_1_method_4_code 46 = .ok (.getfield 10, 3) := by decide +kernel
theorem d_C_copy_49 : decode prog_1_method_4_code 49 = .ok (.iload_n 1, 1) := by decide +kernel
theorem d_C_copy_50 : decode prog_1_method_4_code 50 = .ok (.iload_n 3, 1) := by decide +kernel
theorem d_C_copy_51 : decode prog_1_method_4_code 51 = .ok (.invokevirtual 86, 3) := by decide +kernel
theorem d_C_copy_54 : decode prog_1_method_4_code 54 = .ok (.ifCond .ne 9, 3) := by decide +kernel
theorem d_C_copy_57 : decode prog_1_method_4_code 57 = .ok (.aload_n 0, 1) := by decide +kernel
theorem d_C_copy_58 : decode prog_1_method_4_code 58 = .ok (.iconst 5, 1) := by decide +kernel
theorem d_C_copy_59 : decode prog_1_method_4_code 59 = .ok (.invokevirtual 64, 3) := by decide +kernel
theorem d_C_copy_62 : decode prog_1_method_4_code 62 = .ok (.ireturn, 1) := by decide +kernel
theorem d_C_copy_63 : decode prog_1_method_4_code 63 = .ok (.aload_n 0, 1) := by decide +kernel
theorem d_C_copy_64 : decode prog_1_method_4_code 64 = .ok (.getfield 10, 3) := by decide +kernel
theorem d_C_copy_67 : decode prog_1_method_4_code 67 = .ok (.iload_n 1, 1) := by decide +kernel
theorem d_C_copy_68 : decode prog_1_method_4_code 68 = .ok (.iload_n 2, 1) := by decide +kernel
theorem d_C_copy_69 : decode prog_1_method_4_code 69 = .ok (.iload 5, 2) := by decide +kernel
theorem d_C_copy_71 : decode prog_1_method_4_code 71 = .ok (.invokevirtual 78, 3) := by decide +kernel
theorem d_C_copy_74 : decode prog_1_method_4_code 74 = .ok (.ifCond .eq 18, 3) := by decide +kernel
theorem d_C_copy_77 : decode prog_1_method_4_code 77 = .ok (.aload_n 0, 1) := by decide +kernel
theorem d_C_copy_78 : decode prog_1_method_4_code 78 = .ok (.getfield 10, 3) := by decide +kernel
theorem d_C_copy_81 : decode prog_1_method_4_code 81 = .ok (.iload_n 3, 1) := by decide +kernel
theorem d_C_copy_82 : decode prog_1_method_4_code 82 = .ok (.iload 4, 2) := by decide +kernel
theorem d_C_copy_84 : decode prog_1_method_4_code 84 = .ok (.iload 5, 2) := by decide +kernel
theorem d_C_copy_86 : decode prog_1_method_4_code 86 = .ok (.invokevirtual 78, 3) := by decide +kernel
theorem d_C_copy_89 : decode prog_1_method_4_code 89 = .ok (.ifCond .ne 9, 3) := by decide +kernel
theorem d_C_copy_92 : decode prog_1_method_4_code 92 = .ok (.aload_n 0, 1) := by decide +kernel
theorem d_C_copy_93 : decode prog_1_method_4_code 93 = .ok (.iconst 2, 1) := by decide +kernel
theorem d_C_copy_94 : decode prog_1_method_4_code 94 = .ok (.invokevirtual 64, 3) := by decide +kernel
theorem d_C_copy_97 : decode prog_1_method_4_code 97 = .ok (.ireturn, 1) := by decide +kernel
theorem d_C_copy_98 : decode prog_1_method_4_code 98 = .ok (.aload_n 0, 1) := by decide +kernel
theorem d_C_copy_99 : decode prog_1_method_4_code 99 = .ok (.getfield 10, 3) := by decide +kernel
theorem d_C_copy_102 : decode prog_1_method_4_code 102 = .ok (.iload_n 1, 1) := by decide +kernel
theorem d_C_copy_103 : decode prog_1_method_4_code 103 = .ok (.iload_n 2, 1) := by decide +kernel
theorem d_C_copy_104 : decode prog_1_method_4_code 104 = .ok (.iload_n 3, 1) := by decide +kernel
theorem d_C_copy_105 : decode prog_1_method_4_code 105 = .ok (.iload 4, 2) := by decide +kernel
theorem d_C_copy_107 : decode prog_1_method_4_code 107 = .ok (.iload 5, 2) := by decide +kernel
theorem d_C_copy_109 : decode prog_1_method_4_code 109 = .ok (.invokevirtual 89, 3) := by decide +kernel
theorem d_C_copy_112 : decode prog_1_method_4_code 112 = .ok (.aload_n 0, 1) := by decide +kernel
theorem d_C_copy_113 : decode prog_1_method_4_code 113 = .ok (.iload 5, 2) := by decide +kernel
theorem d_C_copy_115 : decode prog_1_method_4_code 115 = .ok (.invokevirtual 72, 3) := by decide +kernel
theorem d_C_copy_118 : decode prog_1_method_4_code 118 = .ok (.ireturn, 1) := by decide +kernel
theorem d_C_drop_0 : decode prog_1_method_5_code 0 = .ok (.iload_n 1, 1) := by decide +kernel
theorem d_C_drop_1 : decode prog_1_method_5_code 1 = .ok (.invokestatic 55, 3) := by decide +kernel
theorem d_C_drop_4 : decode prog_1_method_5_code 4 = .ok (.ifCond .ne 6, 3) := by decide +kernel
theorem d_C_drop_7 : decode prog_1_method_5_code 7 = .ok (.ldc 63, 2) := by decide +kernel
theorem d_C_drop_9 : decode prog_1_method_5_code 9 = .ok (.ireturn, 1) := by decide +kernel
theorem d_C_drop_10 : decode prog_1_method_5_code 10 = .ok (.aload_n 0, 1) := by decide +kernel
theorem d_C_drop_11 : decode prog_1_method_5_code 11 = .ok (.getfield 10, 3) := by decide +kernel
theorem d_C_drop_14 : decode prog_1_method_5_code 14 = .ok (.iload_n 1, 1) := by decide +kernel
theorem d_C_drop_15 : decode prog_1_method_5_code 15 = .ok (.invokevirtual 75, 3) := by decide +kernel
theorem d_C_drop_18 : decode prog_1_method_5_code 18 = .ok (.ifCond .eq 9, 3) := by decide +kernel
theorem d_C_drop_21 : decode prog_1_method_5_code 21 = .ok (.aload_n 0, 1) := by decide +kernel
theorem d_C_drop_22 : decode prog_1_method_5_code 22 = .ok (.iconst 1, 1) := by decide +kernel
theorem d_C_drop_23 : decode prog_1_method_5_code 23 = .ok (.invokevirtual 64, 3) := by decide +kernel
theorem d_C_drop_26 : decode prog_1_method_5_code 26 = .ok (.ireturn, 1) := by decide +kernel
theorem d_C_drop_27 : decode prog_1_method_5_code 27 = .ok (.aload_n 0, 1) := by decide +kernel
theorem d_C_drop_28 : decode prog_1_method_5_code 28 = .ok (.aload_n 0, 1) := by decide +kernel
theorem d_C_drop_29 : decode prog_1_method_5_code 29 = .ok (.getfield 10, 3) := by decide +kernel
theorem d_C_drop_32 : decode prog_1_method_5_code 32 = .ok (.iload_n 1, 1) := by decide +kernel
theorem d_C_drop_33 : decode prog_1_method_5_code 33 = .ok (.invokevirtual 93, 3) := by decide +kernel
theorem d_C_drop_36 : decode prog_1_method_5_code 36 = .ok (.invokevirtual 72, 3) := by decide +kernel
theorem d_C_drop_39 : decode prog_1_method_5_code 39 = .ok (.ireturn, 1) := by decide +kernel
theorem d_C_feed_0 : decode prog_1_method_6_code 0 = .ok (.iload_n 1, 1) := by decide +kernel
theorem d_C_feed_1 : decode prog_1_method_6_code 1 = .ok (.ifCond .lt 10, 3) := by decide +kernel
theorem d_C_feed_4 : decode prog_1_method_6_code 4 = .ok (.iload_n 1, 1) := by decide +kernel
theorem d_C_feed_5 : decode prog_1_method_6_code 5 = .ok (.sipush 255, 3) := by decide +kernel
theorem d_C_feed_8 : decode prog_1_method_6_code 8 = .ok (.if_icmp .le 6, 3) := by decide +kernel
theorem d_C_feed_11 : decode prog_1_method_6_code 11 = .ok (.ldc 63, 2) := by decide +kernel
theorem d_C_feed_13 : decode prog_1_method_6_code 13 = .ok (.ireturn, 1) := by decide +kernel
theorem d_C_feed_14 : decode prog_1_method_6_code 14 = .ok (.aload_n 0, 1) := by decide +kernel
theorem d_C_feed_15 : decode prog_1_method_6_code 15 = .ok (.getfield 19, 3) := by decide +kernel
theorem d_C_feed_18 : decode prog_1_method_6_code 18 = .ok (.iload_n 1, 1) := by decide +kernel
theorem d_C_feed_19 : decode prog_1_method_6_code 19 = .ok (.invokevirtual 96, 3) := by decide +kernel
theorem d_C_feed_22 : decode prog_1_method_6_code 22 = .ok (.ifCond .eq 13, 3) := by decide +kernel
theorem d_C_feed_25 : decode prog_1_method_6_code 25 = .ok (.aload_n 0, 1) := by decide +kernel
theorem d_C_feed_26 : decode prog_1_method_6_code 26 = .ok (.getfield 19, 3) := by decide +kernel
theorem d_C_feed_29 : decode prog_1_method_6_code 29 = .ok (.invokevirtual 99, 3) := by decide +kernel
theorem d_C_feed_32 : decode prog_1_method_6_code 32 = .ok (.goto 5, 3) := by decide +kernel
theorem d_C_feed_35 : decode prog_1_method_6_code 35 = .ok (.ldc 103, 2) := by decide +kernel
theorem d_C_feed_37 : decode prog_1_method_6_code 37 = .ok (.ireturn, 1) := by decide +kernel
theorem d_C_basin_0 : decode prog_1_method_7_code 0 = .ok (.aload_n 0, 1) := by decide +kernel
theorem d_C_basin_1 : decode prog_1_method_7_code 1 = .ok (.getfield 19, 3) := by decide +kernel
theorem d_C_basin_4 : decode prog_1_method_7_code 4 = .ok (.aload_n 0, 1) := by decide +kernel
theorem d_C_basin_5 : decode prog_1_method_7_code 5 = .ok (.getfield 44, 3) := by decide +kernel
theorem d_C_basin_8 : decode prog_1_method_7_code 8 = .ok (.invokevirtual 104, 3) := by decide +kernel
theorem d_C_basin_11 : decode prog_1_method_7_code 11 = .ok (.ifCond .ne 14, 3) := by decide +kernel
theorem d_C_basin_14 : decode prog_1_method_7_code 14 = .ok (.ldc 108, 2) := by decide +kernel
theorem d_C_basin_16 : decode prog_1_method_7_code 16 = .ok (.aload_n 0, 1) := by decide +kernel
theorem d_C_basin_17 : decode prog_1_method_7_code 17 = .ok (.getfield 19, 3) := by decide +kernel
theorem d_C_basin_20 : decode prog_1_method_7_code 20 = .ok (.invokevirtual 109, 3) := by decide +kernel
theorem d_C_basin_23 : decode prog_1_method_7_code 23 = .ok (.isub, 1) := by decide +kernel
theorem d_C_basin_24 : decode prog_1_method_7_code 24 = .ok (.ireturn, 1) := by decide +kernel
theorem d_C_basin_25 : decode prog_1_method_7_code 25 = .ok (.aload_n 0, 1) := by decide +kernel
theorem d_C_basin_26 : decode prog_1_method_7_code 26 = .ok (.getfield 40, 3) := by decide +kernel
theorem d_C_basin_29 : decode prog_1_method_7_code 29 = .ok (.aload_n 0, 1) := by decide +kernel
theorem d_C_basin_30 : decode prog_1_method_7_code 30 = .ok (.getfield 44, 3) := by decide +kernel
theorem d_C_basin_33 : decode prog_1_method_7_code 33 = .ok (.invokevirtual 112, 3) := by decide +kernel
theorem d_C_basin_36 : decode prog_1_method_7_code 36 = .ok (.aload_n 0, 1) := by decide +kernel
theorem d_C_basin_37 : decode prog_1_method_7_code 37 = .ok (.iconst 1, 1) := by decide +kernel
theorem d_C_basin_38 : decode prog_1_method_7_code 38 = .ok (.putfield 116, 3) := by decide +kernel
theorem d_C_basin_41 : decode prog_1_method_7_code 41 = .ok (.aload_n 0, 1) := by decide +kernel
theorem d_C_basin_42 : decode prog_1_method_7_code 42 = .ok (.getfield 26, 3) := by decide +kernel
theorem d_C_basin_45 : decode prog_1_method_7_code 45 = .ok (.invokevirtual 120, 3) := by decide +kernel
theorem d_C_basin_48 : decode prog_1_method_7_code 48 = .ok (.aload_n 0, 1) := by decide +kernel
theorem d_C_basin_49 : decode prog_1_method_7_code 49 = .ok (.getfield 40, 3) := by decide +kernel
theorem d_C_basin_52 : decode prog_1_method_7_code 52 = .ok (.getfield 123, 3) := by decide +kernel
theorem d_C_basin_55 : decode prog_1_method_7_code 55 = .ok (.ireturn, 1) := by decide +kernel
theorem d_C_fault_0 : decode prog_1_method_8_code 0 = .ok (.aload_n 0, 1) := by decide +kernel
theorem d_C_fault_1 : decode prog_1_method_8_code 1 = .ok (.getfield 19, 3) := by decide +kernel
theorem d_C_fault_4 : decode prog_1_method_8_code 4 = .ok (.invokevirtual 127, 3) := by decide +kernel
theorem d_C_fault_7 : decode prog_1_method_8_code 7 = .ok (.ireturn, 1) := by decide +kernel
theorem d_C_undo_0 : decode prog_1_method_9_code 0 = .ok (.aload_n 0, 1) := by decide +kernel
theorem d_C_undo_1 : decode prog_1_method_9_code 1 = .ok (.getfield 26, 3) := by decide +kernel
theorem d_C_undo_4 : decode prog_1_method_9_code 4 = .ok (.invokevirtual 130, 3) := by decide +kernel
theorem d_C_undo_7 : decode prog_1_method_9_code 7 = .ok (.ifCond .ne 6, 3) := by decide +kernel
theorem d_C_undo_10 : decode prog_1_method_9_code 10 = .ok (.ldc 133, 2) := by decide +kernel
theorem d_C_undo_12 : decode prog_1_method_9_code 12 = .ok (.ireturn, 1) := by decide +kernel
theorem d_C_undo_13 : decode prog_1_method_9_code 13 = .ok (.aload_n 0, 1) := by decide +kernel
theorem d_C_undo_14 : decode prog_1_method_9_code 14 = .ok (.getfield 26, 3) := by decide +kernel
theorem d_C_undo_17 : decode prog_1_method_9_code 17 = .ok (.aload_n 0, 1) := by decide +kernel
theorem d_C_undo_18 : decode prog_1_method_9_code 18 = .ok (.getfield 40, 3) := by decide +kernel
theorem d_C_undo_21 : decode prog_1_method_9_code 21 = .ok (.invokevirtual 134, 3) := by decide +kernel
theorem d_C_undo_24 : decode prog_1_method_9_code 24 = .ok (.aload_n 0, 1) := by decide +kernel
theorem d_C_undo_25 : decode prog_1_method_9_code 25 = .ok (.getfield 26, 3) := by decide +kernel
theorem d_C_undo_28 : decode prog_1_method_9_code 28 = .ok (.invokevirtual 130, 3) := by decide +kernel
theorem d_C_undo_31 : decode prog_1_method_9_code 31 = .ok (.ireturn, 1) := by decide +kernel
theorem d_C_move_0 : decode prog_1_method_10_code 0 = .ok (.aload_n 0, 1) := by decide +kernel
theorem d_C_move_1 : decode prog_1_method_10_code 1 = .ok (.getfield 40, 3) := by decide +kernel
theorem d_C_move_4 : decode prog_1_method_10_code 4 = .ok (.iload_n 1, 1) := by decide +kernel
theorem d_C_move_5 : decode prog_1_method_10_code 5 = .ok (.invokevirtual 137, 3) := by decide +kernel
theorem d_C_move_8 : decode prog_1_method_10_code 8 = .ok (.astore_n 3, 1) := by decide +kernel
theorem d_C_move_9 : decode prog_1_method_10_code 9 = .ok (.aload_n 3, 1) := by decide +kernel
theorem d_C_move_10 : decode prog_1_method_10_code 10 = .ok (.ifnull 12, 3) := by decide +kernel
theorem d_C_move_13 : decode prog_1_method_10_code 13 = .ok (.iload_n 2, 1) := by decide +kernel
theorem d_C_move_14 : decode prog_1_method_10_code 14 = .ok (.bipush 8, 2) := by decide +kernel
theorem d_C_move_16 : decode prog_1_method_10_code 16 = .ok (.invokestatic 59, 3) := by decide +kernel
theorem d_C_move_19 : decode prog_1_method_10_code 19 = .ok (.ifCond .ne 6, 3) := by decide +kernel
theorem d_C_move_22 : decode prog_1_method_10_code 22 = .ok (.ldc 63, 2) := by decide +kernel
theorem d_C_move_24 : decode prog_1_method_10_code 24 = .ok (.ireturn, 1) := by decide +kernel
theorem d_C_move_25 : decode prog_1_method_10_code 25 = .ok (.aload_n 0, 1) := by decide +kernel
theorem d_C_move_26 : decode prog_1_method_10_code 26 = .ok (.getfield 40, 3) := by decide +kernel
theorem d_C_move_29 : decode prog_1_method_10_code 29 = .ok (.aload_n 3, 1) := by decide +kernel
theorem d_C_move_30 : decode prog_1_method_10_code 30 = .ok (.iload_n 2, 1) := by decide +kernel
theorem d_C_move_31 : decode prog_1_method_10_code 31 = .ok (.invokevirtual 141, 3) := by decide +kernel
theorem d_C_move_34 : decode prog_1_method_10_code 34 = .ok (.ifCond .ne 6, 3) := by decide +kernel
theorem d_C_move_37 : decode prog_1_method_10_code 37 = .ok (.ldc 133, 2) := by decide +kernel
theorem d_C_move_39 : decode prog_1_method_10_code 39 = .ok (.ireturn, 1) := by decide +kernel
theorem d_C_move_40 : decode prog_1_method_10_code 40 = .ok (.aload_n 0, 1) := by decide +kernel
theorem d_C_move_41 : decode prog_1_method_10_code 41 = .ok (.getfield 40, 3) := by decide +kernel
theorem d_C_move_44 : decode prog_1_method_10_code 44 = .ok (.getfield 145, 3) := by decide +kernel
theorem d_C_move_47 : decode prog_1_method_10_code 47 = .ok (.sipush 999, 3) := by decide +kernel
theorem d_C_move_50 : decode prog_1_method_10_code 50 = .ok (.if_icmp .lt 6, 3) := by decide +kernel
theorem d_C_move_53 : decode prog_1_method_10_code 53 = .ok (.ldc 103, 2) := by decide +kernel
theorem d_C_move_55 : decode prog_1_method_10_code 55 = .ok (.ireturn, 1) := by decide +kernel
theorem d_C_move_56 : decode prog_1_method_10_code 56 = .ok (.aload_n 0, 1) := by decide +kernel
theorem d_C_move_57 : decode prog_1_method_10_code 57 = .ok (.getfield 26, 3) := by decide +kernel
theorem d_C_move_60 : decode prog_1_method_10_code 60 = .ok (.aload_n 0, 1) := by decide +kernel
theorem d_C_move_61 : decode prog_1_method_10_code 61 = .ok (.getfield 40, 3) := by decide +kernel
theorem d_C_move_64 : decode prog_1_method_10_code 64 = .ok (.iconst 0, 1) := by decide +kernel
theorem d_C_move_65 : decode prog_1_method_10_code 65 = .ok (.invokevirtual 148, 3) := by decide +kernel
theorem d_C_move_68 : decode prog_1_method_10_code 68 = .ok (.aload_n 0, 1) := by decide +kernel
theorem d_C_move_69 : decode prog_1_method_10_code 69 = .ok (.getfield 40, 3) := by decide +kernel
theorem d_C_move_72 : decode prog_1_method_10_code 72 = .ok (.iload_n 2, 1) := by decide +kernel
theorem d_C_move_73 : decode prog_1_method_10_code 73 = .ok (.invokevirtual 152, 3) := by decide +kernel
theorem d_C_move_76 : decode prog_1_method_10_code 76 = .ok (.aload_n 3, 1) := by decide +kernel
theorem d_C_move_77 : decode prog_1_method_10_code 77 = .ok (.iload_n 2, 1) := by decide +kernel
theorem d_C_move_78 : decode prog_1_method_10_code 78 = .ok (.invokevirtual 155, 3) := by decide +kernel
theorem d_C_move_81 : decode prog_1_method_10_code 81 = .ok (.ireturn, 1) := by decide +kernel
theorem d_C_laden_0 : decode prog_1_method_11_code 0 = .ok (.aload_n 0, 1) := by decide +kernel
theorem d_C_laden_1 : decode prog_1_method_11_code 1 = .ok (.getfield 116, 3) := by decide +kernel
theorem d_C_laden_4 : decode prog_1_method_11_code 4 = .ok (.ifCond .ne 6, 3) := by decide +kernel
theorem d_C_laden_7 : decode prog_1_method_11_code 7 = .ok (.ldc 133, 2) := by decide +kernel
theorem d_C_laden_9 : decode prog_1_method_11_code 9 = .ok (.ireturn, 1) := by decide +kernel
theorem d_C_laden_10 : decode prog_1_method_11_code 10 = .ok (.iload_n 1, 1) := by decide +kernel
theorem d_C_laden_11 : decode prog_1_method_11_code 11 = .ok (.iconst 2, 1) := by decide +kernel
theorem d_C_laden_12 : decode prog_1_method_11_code 12 = .ok (.invokestatic 59, 3) := by decide +kernel
theorem d_C_laden_15 : decode prog_1_method_11_code 15 = .ok (.ifCond .ne 6, 3) := by decide +kernel
theorem d_C_laden_18 : decode prog_1_method_11_code 18 = .ok (.ldc 63, 2) := by decide +kernel
theorem d_C_laden_20 : decode prog_1_method_11_code 20 = .ok (.ireturn, 1) := by decide +kernel
theorem d_C_laden_21 : decode prog_1_method_11_code 21 = .ok (.aload_n 0, 1) := by decide +kernel
theorem d_C_laden_22 : decode prog_1_method_11_code 22 = .ok (.getfield 40, 3) := by decide +kernel
theorem d_C_laden_25 : decode prog_1_method_11_code 25 = .ok (.getfield 160, 3) := by decide +kernel
theorem d_C_laden_28 : decode prog_1_method_11_code 28 = .ok (.iload_n 1, 1) := by decide +kernel
theorem d_C_laden_29 : decode prog_1_method_11_code 29 = .ok (.if_icmp .ne 6, 3) := by decide +kernel
theorem d_C_laden_32 : decode prog_1_method_11_code 32 = .ok (.ldc 133, 2) := by decide +kernel
theorem d_C_laden_34 : decode prog_1_method_11_code 34 = .ok (.ireturn, 1) := by decide +kernel
theorem d_C_laden_35 : decode prog_1_method_11_code 35 = .ok (.aload_n 0, 1) := by decide +kernel
theorem d_C_laden_36 : decode prog_1_method_11_code 36 = .ok (.getfield 26, 3) := by decide +kernel
theorem d_C_laden_39 : decode prog_1_method_11_code 39 = .ok (.aload_n 0, 1) := by decide +kernel
theorem d_C_laden_40 : decode prog_1_method_11_code 40 = .ok (.getfield 40, 3) := by decide +kernel
theorem d_C_laden_43 : decode prog_1_method_11_code 43 = .ok (.iconst 0, 1) := by decide +kernel
theorem d_C_laden_44 : decode prog_1_method_11_code 44 = .ok (.invokevirtual 148, 3) := by decide +kernel
theorem d_C_laden_47 : decode prog_1_method_11_code 47 = .ok (.aload_n 0, 1) := by decide +kernel
theorem d_C_laden_48 : decode prog_1_method_11_code 48 = .ok (.getfield 40, 3) := by decide +kernel
theorem d_C_laden_51 : decode prog_1_method_11_code 51 = .ok (.iload_n 1, 1) := by decide +kernel
theorem d_C_laden_52 : decode prog_1_method_11_code 52 = .ok (.putfield 160, 3) := by decide +kernel
theorem d_C_laden_55 : decode prog_1_method_11_code 55 = .ok (.aload_n 0, 1) := by decide +kernel
theorem d_C_laden_56 : decode prog_1_method_11_code 56 = .ok (.getfield 40, 3) := by decide +kernel
theorem d_C_laden_59 : decode prog_1_method_11_code 59 = .ok (.invokevirtual 163, 3) := by decide +kernel
theorem d_C_laden_62 : decode prog_1_method_11_code 62 = .ok (.ireturn, 1) := by decide +kernel
theorem d_C_moor_0 : decode prog_1_method_12_code 0 = .ok (.aload_n 0, 1) := by decide +kernel
theorem d_C_moor_1 : decode prog_1_method_12_code 1 = .ok (.getfield 116, 3) := by decide +kernel
theorem d_C_moor_4 : decode prog_1_method_12_code 4 = .ok (.ifCond .ne 6, 3) := by decide +kernel
theorem d_C_moor_7 : decode prog_1_method_12_code 7 = .ok (.ldc 133, 2) := by decide +kernel
theorem d_C_moor_9 : decode prog_1_method_12_code 9 = .ok (.ireturn, 1) := by decide +kernel
theorem d_C_moor_10 : decode prog_1_method_12_code 10 = .ok (.iload_n 1, 1) := by decide +kernel
theorem d_C_moor_11 : decode prog_1_method_12_code 11 = .ok (.bipush 24, 2) := by decide +kernel
theorem d_C_moor_13 : decode prog_1_method_12_code 13 = .ok (.invokestatic 59, 3) := by decide +kernel
theorem d_C_moor_16 : decode prog_1_method_12_code 16 = .ok (.ifCond .eq 11, 3) := by decide +kernel
theorem d_C_moor_19 : decode prog_1_method_12_code 19 = .ok (.iload_n 2, 1) := by decide +kernel
theorem d_C_moor_20 : decode prog_1_method_12_code 20 = .ok (.iconst 2, 1) := by decide +kernel
theorem d_C_moor_21 : decode prog_1_method_12_code 21 = .ok (.invokestatic 59, 3) := by decide +kernel
theorem d_C_moor_24 : decode prog_1_method_12_code 24 = .ok (.ifCond .ne 6, 3) := by decide +kernel
theorem d_C_moor_27 : decode prog_1_method_12_code 27 = .ok (.ldc 63, 2) := by decide +kernel
theorem d_C_moor_29 : decode prog_1_method_12_code 29 = .ok (.ireturn, 1) := by decide +kernel
theorem d_C_moor_30 : decode prog_1_method_12_code 30 = .ok (.aload_n 0, 1) := by decide +kernel
theorem d_C_moor_31 : decode prog_1_method_12_code 31 = .ok (.getfield 40, 3) := by decide +kernel
theorem d_C_moor_34 : decode prog_1_method_12_code 34 = .ok (.getfield 166, 3) := by decide +kernel
theorem d_C_moor_37 : decode prog_1_method_12_code 37 = .ok (.iload_n 1, 1) := by decide +kernel
theorem d_C_moor_38 : decode prog_1_method_12_code 38 = .ok (.invokestatic 169, 3) := by decide +kernel
theorem d_C_moor_41 : decode prog_1_method_12_code 41 = .ok (.iload_n 2, 1) := by decide +kernel
theorem d_C_moor_42 : decode prog_1_method_12_code 42 = .ok (.if_icmp .eq 23, 3) := by decide +kernel
theorem d_C_moor_45 : decode prog_1_method_12_code 45 = .ok (.iload_n 2, 1) := by decide +kernel
theorem d_C_moor_46 : decode prog_1_method_12_code 46 = .ok (.iconst 1, 1) := by decide +kernel
theorem d_C_moor_47 : decode prog_1_method_12_code 47 = .ok (.if_icmp .ne 21, 3) := by decide +kernel
theorem d_C_moor_50 : decode prog_1_method_12_code 50 = .ok (.aload_n 0, 1) := by decide +kernel
theorem d_C_moor_51 : decode prog_1_method_12_code 51 = .ok (.getfield 40, 3) := by decide +kernel
theorem d_C_moor_54 : decode prog_1_method_12_code 54 = .ok (.invokevirtual 173, 3) := by decide +kernel
theorem d_C_moor_57 : decode prog_1_method_12_code 57 = .ok (.iload_n 1, 1) := by decide +kernel
theorem d_C_moor_58 : decode prog_1_method_12_code 58 = .ok (.invokestatic 169, 3) := by decide +kernel
theorem d_C_moor_61 : decode prog_1_method_12_code 61 = .ok (.iconst 1, 1) := by decide +kernel
theorem d_C_moor_62 : decode prog_1_method_12_code 62 = .ok (.if_icmp .ne 6, 3) := by decide +kernel
theorem d_C_moor_65 : decode prog_1_method_12_code 65 = .ok (.ldc 133, 2) := by decide +kernel
theorem d_C_moor_67 : decode prog_1_method_12_code 67 = .ok (.ireturn, 1) := by decide +kernel
theorem d_C_moor_68 : decode prog_1_method_12_code 68 = .ok (.iload_n 2, 1) := by decide +kernel
theorem d_C_moor_69 : decode prog_1_method_12_code 69 = .ok (.iconst 1, 1) := by decide +kernel
theorem d_C_moor_70 : decode prog_1_method_12_code 70 = .ok (.if_icmp .ne 20, 3) := by decide +kernel
theorem d_C_moor_73 : decode prog_1_method_12_code 73 = .ok (.aload_n 0, 1) := by decide +kernel
theorem d_C_moor_74 : decode prog_1_method_12_code 74 = .ok (.getfield 40, 3) := by decide +kernel
theorem d_C_moor_77 : decode prog_1_method_12_code 77 = .ok (.getfield 166, 3) := by decide +kernel
theorem d_C_moor_80 : decode prog_1_method_12_code 80 = .ok (.invokestatic 176, 3) := by decide +kernel
theorem d_C_moor_83 : decode prog_1_method_12_code 83 = .ok (.iconst 4, 1) := by decide +kernel
theorem d_C_moor_84 : decode prog_1_method_12_code 84 = .ok (.if_icmp .lt 6, 3) := by decide +kernel
theorem d_C_moor_87 : decode prog_1_method_12_code 87 = .ok (.ldc 103, 2) := by decide +kernel
theorem d_C_moor_89 : decode prog_1_method_12_code 89 = .ok (.ireturn, 1) := by decide +kernel
theorem d_C_moor_90 : decode prog_1_method_12_code 90 = .ok (.aload_n 0, 1) := by decide +kernel
theorem d_C_moor_91 : decode prog_1_method_12_code 91 = .ok (.getfield 26, 3) := by decide +kernel
theorem d_C_moor_94 : decode prog_1_method_12_code 94 = .ok (.aload_n 0, 1) := by decide +kernel
theorem d_C_moor_95 : decode prog_1_method_12_code 95 = .ok (.getfield 40, 3) := by decide +kernel
theorem d_C_moor_98 : decode prog_1_method_12_code 98 = .ok (.iconst 0, 1) := by decide +kernel
theorem d_C_moor_99 : decode prog_1_method_12_code 99 = .ok (.invokevirtual 148, 3) := by decide +kernel
theorem d_C_moor_102 : decode prog_1_method_12_code 102 = .ok (.aload_n 0, 1) := by decide +kernel
theorem d_C_moor_103 : decode prog_1_method_12_code 103 = .ok (.getfield 40, 3) := by decide +kernel
theorem d_C_moor_106 : decode prog_1_method_12_code 106 = .ok (.dup, 1) := by decide +kernel
theorem d_C_moor_107 : decode prog_1_method_12_code 107 = .ok (.getfield 166, 3) := by decide +kernel
theorem d_C_moor_110 : decode prog_1_method_12_code 110 = .ok (.iconst 1, 1) := by decide +kernel
theorem d_C_moor_111 : decode prog_1_method_12_code 111 = .ok (.iload_n 1, 1) := by decide +kernel
theorem d_C_moor_112 : decode prog_1_method_12_code 112 = .ok (.ishl, 1) := by decide +kernel
theorem d_C_moor_113 : decode prog_1_method_12_code 113 = .ok (.ixor, 1) := by decide +kernel
theorem d_C_moor_114 : decode prog_1_method_12_code 114 = .ok (.putfield 166, 3) := by decide +kernel
theorem d_C_moor_117 : decode prog_1_method_12_code 117 = .ok (.aload_n 0, 1) := by decide +kernel
theorem d_C_moor_118 : decode prog_1_method_12_code 118 = .ok (.getfield 40, 3) := by decide +kernel
theorem d_C_moor_121 : decode prog_1_method_12_code 121 = .ok (.getfield 166, 3) := by decide +kernel
theorem d_C_moor_124 : decode prog_1_method_12_code 124 = .ok (.invokestatic 176, 3) := by decide +kernel
theorem d_C_moor_127 : decode prog_1_method_12_code 127 = .ok (.ireturn, 1) := by decide +kernel
theorem d_C_silt_0 : decode prog_1_method_13_code 0 = .ok (.aload_n 0, 1) := by decide +kernel
theorem d_C_silt_1 : decode prog_1_method_13_code 1 = .ok (.getfield 116, 3) := by decide +kernel
theorem d_C_silt_4 : decode prog_1_method_13_code 4 = .ok (.ifCond .ne 6, 3) := by decide +kernel
theorem d_C_silt_7 : decode prog_1_method_13_code 7 = .ok (.ldc 133, 2) := by decide +kernel
theorem d_C_silt_9 : decode prog_1_method_13_code 9 = .ok (.ireturn, 1) := by decide +kernel
theorem d_C_silt_10 : decode prog_1_method_13_code 10 = .ok (.aload_n 0, 1) := by decide +kernel
theorem d_C_silt_11 : decode prog_1_method_13_code 11 = .ok (.getfield 26, 3) := by decide +kernel
theorem d_C_silt_14 : decode prog_1_method_13_code 14 = .ok (.aload_n 0, 1) := by decide +kernel
theorem d_C_silt_15 : decode prog_1_method_13_code 15 = .ok (.getfield 40, 3) := by decide +kernel
theorem d_C_silt_18 : decode prog_1_method_13_code 18 = .ok (.aload_n 0, 1) := by decide +kernel
theorem d_C_silt_19 : decode prog_1_method_13_code 19 = .ok (.getfield 40, 3) := by decide +kernel
theorem d_C_silt_22 : decode prog_1_method_13_code 22 = .ok (.invokevirtual 181, 3) := by decide +kernel
theorem d_C_silt_25 : decode prog_1_method_13_code 25 = .ok (.invokevirtual 148, 3) := by decide +kernel
theorem d_C_silt_28 : decode prog_1_method_13_code 28 = .ok (.aload_n 0, 1) := by decide +kernel
theorem d_C_silt_29 : decode prog_1_method_13_code 29 = .ok (.getfield 40, 3) := by decide +kernel
theorem d_C_silt_32 : decode prog_1_method_13_code 32 = .ok (.invokevirtual 184, 3) := by decide +kernel
theorem d_C_silt_35 : decode prog_1_method_13_code 35 = .ok (.ifCond .eq 7, 3) := by decide +kernel
theorem d_C_silt_38 : decode prog_1_method_13_code 38 = .ok (.iconst 1, 1) := by decide +kernel
theorem d_C_silt_39 : decode prog_1_method_13_code 39 = .ok (.goto 4, 3) := by decide +kernel
theorem d_C_silt_42 : decode prog_1_method_13_code 42 = .ok (.iconst 0, 1) := by decide +kernel
theorem d_C_silt_43 : decode prog_1_method_13_code 43 = .ok (.ireturn, 1) := by decide +kernel
theorem d_C_boat_0 : decode prog_1_method_14_code 0 = .ok (.aload_n 0, 1) := by decide +kernel
theorem d_C_boat_1 : decode prog_1_method_14_code 1 = .ok (.getfield 116, 3) := by decide +kernel
theorem d_C_boat_4 : decode prog_1_method_14_code 4 = .ok (.ifCond .ne 6, 3) := by decide +kernel
theorem d_C_boat_7 : decode prog_1_method_14_code 7 = .ok (.ldc 133, 2) := by decide +kernel
theorem d_C_boat_9 : decode prog_1_method_14_code 9 = .ok (.ireturn, 1) := by decide +kernel
theorem d_C_boat_10 : decode prog_1_method_14_code 10 = .ok (.iload_n 1, 1) := by decide +kernel
theorem d_C_boat_11 : decode prog_1_method_14_code 11 = .ok (.tableswitch 93 0 5 #[37, 45, 53, 61, 69, 85], 37) := by decide +kernel
theorem d_C_boat_48 : decode prog_1_method_14_code 48 = .ok (.aload_n 0, 1) := by decide +kernel
theorem d_C_boat_49 : decode prog_1_method_14_code 49 = .ok (.getfield 40, 3) := by decide +kernel
theorem d_C_boat_52 : decode prog_1_method_14_code 52 = .ok (.getfield 188, 3) := by decide +kernel
theorem d_C_boat_55 : decode prog_1_method_14_code 55 = .ok (.ireturn, 1) := by decide +kernel
theorem d_C_boat_56 : decode prog_1_method_14_code 56 = .ok (.aload_n 0, 1) := by decide +kernel
theorem d_C_boat_57 : decode prog_1_method_14_code 57 = .ok (.getfield 40, 3) := by decide +kernel
theorem d_C_boat_60 : decode prog_1_method_14_code 60 = .ok (.getfield 191, 3) := by decide +kernel
theorem d_C_boat_63 : decode prog_1_method_14_code 63 = .ok (.ireturn, 1) := by decide +kernel
theorem d_C_boat_64 : decode prog_1_method_14_code 64 = .ok (.aload_n 0, 1) := by decide +kernel
theorem d_C_boat_65 : decode prog_1_method_14_code 65 = .ok (.getfield 40, 3) := by decide +kernel
theorem d_C_boat_68 : decode prog_1_method_14_code 68 = .ok (.invokevirtual 163, 3) := by decide +kernel
theorem d_C_boat_71 : decode prog_1_method_14_code 71 = .ok (.ireturn, 1) := by decide +kernel
theorem d_C_boat_72 : decode prog_1_method_14_code 72 = .ok (.aload_n 0, 1) := by decide +kernel
theorem d_C_boat_73 : decode prog_1_method_14_code 73 = .ok (.getfield 40, 3) := by decide +kernel
theorem d_C_boat_76 : decode prog_1_method_14_code 76 = .ok (.getfield 145, 3) := by decide +kernel
theorem d_C_boat_79 : decode prog_1_method_14_code 79 = .ok (.ireturn, 1) := by decide +kernel
theorem d_C_boat_80 : decode prog_1_method_14_code 80 = .ok (.aload_n 0, 1) := by decide +kernel
theorem d_C_boat_81 : decode prog_1_method_14_code 81 = .ok (.getfield 40, 3) := by decide +kernel
theorem d_C_boat_84 : decode prog_1_method_14_code 84 = .ok (.invokevirtual 184, 3) := by decide +kernel
theorem d_C_boat_87 : decode prog_1_method_14_code 87 = .ok (.ifCond .eq 7, 3) := by decide +kernel
theorem d_C_boat_90 : decode prog_1_method_14_code 90 = .ok (.iconst 1, 1) := by decide +kernel
theorem d_C_boat_91 : decode prog_1_method_14_code 91 = .ok (.goto 4, 3) := by decide +kernel
theorem d_C_boat_94 : decode prog_1_method_14_code 94 = .ok (.iconst 0, 1) := by decide +kernel
theorem d_C_boat_95 : decode prog_1_method_14_code 95 = .ok (.ireturn, 1) := by decide +kernel
theorem d_C_boat_96 : decode prog_1_method_14_code 96 = .ok (.aload_n 0, 1) := by decide +kernel
theorem d_C_boat_97 : decode prog_1_method_14_code 97 = .ok (.getfield 40, 3) := by decide +kernel
theorem d_C_boat_100 : decode prog_1_method_14_code 100 = .ok (.invokevirtual 173, 3) := by decide +kernel
theorem d_C_boat_103 : decode prog_1_method_14_code 103 = .ok (.ireturn, 1) := by decide +kernel
theorem d_C_boat_104 : decode prog_1_method_14_code 104 = .ok (.ldc 63, 2) := by decide +kernel
theorem d_C_boat_106 : decode prog_1_method_14_code 106 = .ok (.ireturn, 1) := by decide +kernel
theorem d_C_cell_0 : decode prog_1_method_15_code 0 = .ok (.aload_n 0, 1) := by decide +kernel
theorem d_C_cell_1 : decode prog_1_method_15_code 1 = .ok (.getfield 116, 3) := by decide +kernel
theorem d_C_cell_4 : decode prog_1_method_15_code 4 = .ok (.ifCond .ne 6, 3) := by decide +kernel
theorem d_C_cell_7 : decode prog_1_method_15_code 7 = .ok (.ldc 133, 2) := by decide +kernel
theorem d_C_cell_9 : decode prog_1_method_15_code 9 = .ok (.ireturn, 1) := by decide +kernel
theorem d_C_cell_10 : decode prog_1_method_15_code 10 = .ok (.iload_n 1, 1) := by decide +kernel
theorem d_C_cell_11 : decode prog_1_method_15_code 11 = .ok (.bipush 24, 2) := by decide +kernel
theorem d_C_cell_13 : decode prog_1_method_15_code 13 = .ok (.invokestatic 59, 3) := by decide +kernel
theorem d_C_cell_16 : decode prog_1_method_15_code 16 = .ok (.ifCond .eq 11, 3) := by decide +kernel
theorem d_C_cell_19 : decode prog_1_method_15_code 19 = .ok (.iload_n 2, 1) := by decide +kernel
theorem d_C_cell_20 : decode prog_1_method_15_code 20 = .ok (.iconst 2, 1) := by decide +kernel
theorem d_C_cell_21 : decode prog_1_method_15_code 21 = .ok (.invokestatic 59, 3) := by decide +kernel
theorem d_C_cell_24 : decode prog_1_method_15_code 24 = .ok (.ifCond .ne 6, 3) := by decide +kernel
theorem d_C_cell_27 : decode prog_1_method_15_code 27 = .ok (.ldc 63, 2) := by decide +kernel
theorem d_C_cell_29 : decode prog_1_method_15_code 29 = .ok (.ireturn, 1) := by decide +kernel
theorem d_C_cell_30 : decode prog_1_method_15_code 30 = .ok (.iload_n 2, 1) := by decide +kernel
theorem d_C_cell_31 : decode prog_1_method_15_code 31 = .ok (.ifCond .ne 17, 3) := by decide +kernel
theorem d_C_cell_34 : decode prog_1_method_15_code 34 = .ok (.aload_n 0, 1) := by decide +kernel
theorem d_C_cell_35 : decode prog_1_method_15_code 35 = .ok (.getfield 40, 3) := by decide +kernel
theorem d_C_cell_38 : decode prog_1_method_15_code 38 = .ok (.getfield 194, 3) := by decide +kernel
theorem d_C_cell_41 : decode prog_1_method_15_code 41 = .ok (.iload_n 1, 1) := by decide +kernel
theorem d_C_cell_42 : decode prog_1_method_15_code 42 = .ok (.invokestatic 197, 3) := by decide +kernel
theorem d_C_cell_45 : decode prog_1_method_15_code 45 = .ok (.goto 14, 3) := by decide +kernel
theorem d_C_cell_48 : decode prog_1_method_15_code 48 = .ok (.aload_n 0, 1) := by decide +kernel
theorem d_C_cell_49 : decode prog_1_method_15_code 49 = .ok (.getfield 40, 3) := by decide +kernel
theorem d_C_cell_52 : decode prog_1_method_15_code 52 = .ok (.getfield 166, 3) := by decide +kernel
theorem d_C_cell_55 : decode prog_1_method_15_code 55 = .ok (.iload_n 1, 1) := by decide +kernel
theorem d_C_cell_56 : decode prog_1_method_15_code 56 = .ok (.invokestatic 169, 3) := by decide +kernel
theorem d_C_cell_59 : decode prog_1_method_15_code 59 = .ok (.ireturn, 1) := by decide +kernel
theorem d_C_hand_0 : decode prog_1_method_16_code 0 = .ok (.aload_n 0, 1) := by decide +kernel
theorem d_C_hand_1 : decode prog_1_method_16_code 1 = .ok (.getfield 40, 3) := by decide +kernel
theorem d_C_hand_4 : decode prog_1_method_16_code 4 = .ok (.iload_n 1, 1) := by decide +kernel
theorem d_C_hand_5 : decode prog_1_method_16_code 5 = .ok (.invokevirtual 137, 3) := by decide +kernel
theorem d_C_hand_8 : decode prog_1_method_16_code 8 = .ok (.astore_n 3, 1) := by decide +kernel
theorem d_C_hand_9 : decode prog_1_method_16_code 9 = .ok (.aload_n 3, 1) := by decide +kernel
theorem d_C_hand_10 : decode prog_1_method_16_code 10 = .ok (.ifnull 12, 3) := by decide +kernel
theorem d_C_hand_13 : decode prog_1_method_16_code 13 = .ok (.iload_n 2, 1) := by decide +kernel
theorem d_C_hand_14 : decode prog_1_method_16_code 14 = .ok (.bipush 8, 2) := by decide +kernel
theorem d_C_hand_16 : decode prog_1_method_16_code 16 = .ok (.invokestatic 59, 3) := by decide +kernel
theorem d_C_hand_19 : decode prog_1_method_16_code 19 = .ok (.ifCond .ne 6, 3) := by decide +kernel
theorem d_C_hand_22 : decode prog_1_method_16_code 22 = .ok (.ldc 63, 2) := by decide +kernel
theorem d_C_hand_24 : decode prog_1_method_16_code 24 = .ok (.ireturn, 1) := by decide +kernel
theorem d_C_hand_25 : decode prog_1_method_16_code 25 = .ok (.aload_n 3, 1) := by decide +kernel
theorem d_C_hand_26 : decode prog_1_method_16_code 26 = .ok (.iload_n 2, 1) := by decide +kernel
theorem d_C_hand_27 : decode prog_1_method_16_code 27 = .ok (.invokevirtual 155, 3) := by decide +kernel
theorem d_C_hand_30 : decode prog_1_method_16_code 30 = .ok (.ireturn, 1) := by decide +kernel
theorem d_C_way_0 : decode prog_1_method_17_code 0 = .ok (.aload_n 0, 1) := by decide +kernel
theorem d_C_way_1 : decode prog_1_method_17_code 1 = .ok (.getfield 116, 3) := by decide +kernel
theorem d_C_way_4 : decode prog_1_method_17_code 4 = .ok (.ifCond .ne 6, 3) := by decide +kernel
theorem d_C_way_7 : decode prog_1_method_17_code 7 = .ok (.ldc 133, 2) := by decide +kernel
theorem d_C_way_9 : decode prog_1_method_17_code 9 = .ok (.ireturn, 1) := by decide +kernel
theorem d_C_way_10 : decode prog_1_method_17_code 10 = .ok (.iload_n 1, 1) := by decide +kernel
theorem d_C_way_11 : decode prog_1_method_17_code 11 = .ok (.bipush 24, 2) := by decide +kernel
theorem d_C_way_13 : decode prog_1_method_17_code 13 = .ok (.invokestatic 59, 3) := by decide +kernel
theorem d_C_way_16 : decode prog_1_method_17_code 16 = .ok (.ifCond .eq 20, 3) := by decide +kernel
theorem d_C_way_19 : decode prog_1_method_17_code 19 = .ok (.iload_n 2, 1) := by decide +kernel
theorem d_C_way_20 : decode prog_1_method_17_code 20 = .ok (.bipush 8, 2) := by decide +kernel
theorem d_C_way_22 : decode prog_1_method_17_code 22 = .ok (.invokestatic 59, 3) := by decide +kernel
theorem d_C_way_25 : decode prog_1_method_17_code 25 = .ok (.ifCond .eq 11, 3) := by decide +kernel
theorem d_C_way_28 : decode prog_1_method_17_code 28 = .ok (.iload_n 3, 1) := by decide +kernel
theorem d_C_way_29 : decode prog_1_method_17_code 29 = .ok (.iconst 2, 1) := by decide +kernel
theorem d_C_way_30 : decode prog_1_method_17_code 30 = .ok (.invokestatic 59, 3) := by decide +kernel
theorem d_C_way_33 : decode prog_1_method_17_code 33 = .ok (.ifCond .ne 6, 3) := by decide +kernel
theorem d_C_way_36 : decode prog_1_method_17_code 36 = .ok (.ldc 63, 2) := by decide +kernel
theorem d_C_way_38 : decode prog_1_method_17_code 38 = .ok (.ireturn, 1) := by decide +kernel
theorem d_C_way_39 : decode prog_1_method_17_code 39 = .ok (.aload_n 0, 1) := by decide +kernel
theorem d_C_way_40 : decode prog_1_method_17_code 40 = .ok (.getfield 33, 3) := by decide +kernel
theorem d_C_way_43 : decode prog_1_method_17_code 43 = .ok (.aload_n 0, 1) := by decide +kernel
theorem d_C_way_44 : decode prog_1_method_17_code 44 = .ok (.getfield 40, 3) := by decide +kernel
theorem d_C_way_47 : decode prog_1_method_17_code 47 = .ok (.aload_n 0, 1) := by decide +kernel
theorem d_C_way_48 : decode prog_1_method_17_code 48 = .ok (.getfield 40, 3) := by decide +kernel
theorem d_C_way_51 : decode prog_1_method_17_code 51 = .ok (.invokevirtual 163, 3) := by decide +kernel
theorem d_C_way_54 : decode prog_1_method_17_code 54 = .ok (.iconst (-1), 1) := by decide +kernel
theorem d_C_way_55 : decode prog_1_method_17_code 55 = .ok (.invokevirtual 201, 3) := by decide +kernel
theorem d_C_way_58 : decode prog_1_method_17_code 58 = .ok (.aload_n 0, 1) := by decide +kernel
theorem d_C_way_59 : decode prog_1_method_17_code 59 = .ok (.getfield 33, 3) := by decide +kernel
theorem d_C_way_62 : decode prog_1_method_17_code 62 = .ok (.iload_n 1, 1) := by decide +kernel
theorem d_C_way_63 : decode prog_1_method_17_code 63 = .ok (.iload_n 1, 1) := by decide +kernel
theorem d_C_way_64 : decode prog_1_method_17_code 64 = .ok (.iload_n 2, 1) := by decide +kernel
theorem d_C_way_65 : decode prog_1_method_17_code 65 = .ok (.invokevirtual 205, 3) := by decide +kernel
theorem d_C_way_68 : decode prog_1_method_17_code 68 = .ok (.iload_n 3, 1) := by decide +kernel
theorem d_C_way_69 : decode prog_1_method_17_code 69 = .ok (.ifCond .ne 13, 3) := by decide +kernel
theorem d_C_way_72 : decode prog_1_method_17_code 72 = .ok (.aload_n 0, 1) := by decide +kernel
theorem d_C_way_73 : decode prog_1_method_17_code 73 = .ok (.getfield 33, 3) := by decide +kernel
theorem d_C_way_76 : decode prog_1_method_17_code 76 = .ok (.getfield 208, 3) := by decide +kernel
theorem d_C_way_79 : decode prog_1_method_17_code 79 = .ok (.goto 10, 3) := by decide +kernel
theorem d_C_way_82 : decode prog_1_method_17_code 82 = .ok (.aload_n 0, 1) := by decide +kernel
theorem d_C_way_83 : decode prog_1_method_17_code 83 = .ok (.getfield 33, 3) := by decide +kernel
theorem d_C_way_86 : decode prog_1_method_17_code 86 = .ok (.getfield 211, 3) := by decide +kernel
theorem d_C_way_89 : decode prog_1_method_17_code 89 = .ok (.ireturn, 1) := by decide +kernel
theorem d_C_turned_0 : decode prog_1_method_18_code 0 = .ok (.aload_n 0, 1) := by decide +kernel
theorem d_C_turned_1 : decode prog_1_method_18_code 1 = .ok (.getfield 116, 3) := by decide +kernel
theorem d_C_turned_4 : decode prog_1_method_18_code 4 = .ok (.ifCond .ne 6, 3) := by decide +kernel
theorem d_C_turned_7 : decode prog_1_method_18_code 7 = .ok (.ldc 133, 2) := by decide +kernel
theorem d_C_turned_9 : decode prog_1_method_18_code 9 = .ok (.ireturn, 1) := by decide +kernel
theorem d_C_turned_10 : decode prog_1_method_18_code 10 = .ok (.iload_n 1, 1) := by decide +kernel
theorem d_C_turned_11 : decode prog_1_method_18_code 11 = .ok (.iconst 2, 1) := by decide +kernel
theorem d_C_turned_12 : decode prog_1_method_18_code 12 = .ok (.invokestatic 59, 3) := by decide +kernel
theorem d_C_turned_15 : decode prog_1_method_18_code 15 = .ok (.ifCond .ne 6, 3) := by decide +kernel
theorem d_C_turned_18 : decode prog_1_method_18_code 18 = .ok (.ldc 63, 2) := by decide +kernel
theorem d_C_turned_20 : decode prog_1_method_18_code 20 = .ok (.ireturn, 1) := by decide +kernel
theorem d_C_turned_21 : decode prog_1_method_18_code 21 = .ok (.aload_n 0, 1) := by decide +kernel
theorem d_C_turned_22 : decode prog_1_method_18_code 22 = .ok (.getfield 33, 3) := by decide +kernel
theorem d_C_turned_25 : decode prog_1_method_18_code 25 = .ok (.aload_n 0, 1) := by decide +kernel
theorem d_C_turned_26 : decode prog_1_method_18_code 26 = .ok (.getfield 40, 3) := by decide +kernel
theorem d_C_turned_29 : decode prog_1_method_18_code 29 = .ok (.aload_n 0, 1) := by decide +kernel
theorem d_C_turned_30 : decode prog_1_method_18_code 30 = .ok (.getfield 40, 3) := by decide +kernel
theorem d_C_turned_33 : decode prog_1_method_18_code 33 = .ok (.invokevirtual 163, 3) := by decide +kernel
theorem d_C_turned_36 : decode prog_1_method_18_code 36 = .ok (.invokevirtual 214, 3) := by decide +kernel
theorem d_C_turned_39 : decode prog_1_method_18_code 39 = .ok (.istore_n 2, 1) := by decide +kernel
theorem d_C_turned_40 : decode prog_1_method_18_code 40 = .ok (.iload_n 1, 1) := by decide +kernel
theorem d_C_turned_41 : decode prog_1_method_18_code 41 = .ok (.ifCond .ne 7, 3) := by decide +kernel
theorem d_C_turned_44 : decode prog_1_method_18_code 44 = .ok (.iload_n 2, 1) := by decide +kernel
theorem d_C_turned_45 : decode prog_1_method_18_code 45 = .ok (.goto 10, 3) := by decide +kernel
theorem d_C_turned_48 : decode prog_1_method_18_code 48 = .ok (.aload_n 0, 1) := by decide +kernel
theorem d_C_turned_49 : decode prog_1_method_18_code 49 = .ok (.getfield 33, 3) := by decide +kernel
theorem d_C_turned_52 : decode prog_1_method_18_code 52 = .ok (.getfield 211, 3) := by decide +kernel
theorem d_C_turned_55 : decode prog_1_method_18_code 55 = .ok (.ireturn, 1) := by decide +kernel
theorem d_C_inches_0 : decode prog_1_method_19_code 0 = .ok (.aload_n 0, 1) := by decide +kernel
theorem d_C_inches_1 : decode prog_1_method_19_code 1 = .ok (.getfield 116, 3) := by decide +kernel
theorem d_C_inches_4 : decode prog_1_method_19_code 4 = .ok (.ifCond .ne 6, 3) := by decide +kernel
theorem d_C_inches_7 : decode prog_1_method_19_code 7 = .ok (.ldc 133, 2) := by decide +kernel
theorem d_C_inches_9 : decode prog_1_method_19_code 9 = .ok (.ireturn, 1) := by decide +kernel
theorem d_C_inches_10 : decode prog_1_method_19_code 10 = .ok (.iconst 0, 1) := by decide +kernel
theorem d_C_inches_11 : decode prog_1_method_19_code 11 = .ok (.istore_n 1, 1) := by decide +kernel
theorem d_C_inches_12 : decode prog_1_method_19_code 12 = .ok (.iload_n 1, 1) := by decide +kernel
theorem d_C_inches_13 : decode prog_1_method_19_code 13 = .ok (.iconst 5, 1) := by decide +kernel
theorem d_C_inches_14 : decode prog_1_method_19_code 14 = .ok (.if_icmp .gt 40, 3) := by decide +kernel
theorem d_C_inches_17 : decode prog_1_method_19_code 17 = .ok (.aload_n 0, 1) := by decide +kernel
theorem d_C_inches_18 : decode prog_1_method_19_code 18 = .ok (.getfield 33, 3) := by decide +kernel
theorem d_C_inches_21 : decode prog_1_method_19_code 21 = .ok (.aload_n 0, 1) := by decide +kernel
theorem d_C_inches_22 : decode prog_1_method_19_code 22 = .ok (.getfield 40, 3) := by decide +kernel
theorem d_C_inches_25 : decode prog_1_method_19_code 25 = .ok (.iconst 0, 1) := by decide +kernel
theorem d_C_inches_26 : decode prog_1_method_19_code 26 = .ok (.aload_n 0, 1) := by decide +kernel
theorem d_C_inches_27 : decode prog_1_method_19_code 27 = .ok (.getfield 40, 3) := by decide +kernel
theorem d_C_inches_30 : decode prog_1_method_19_code 30 = .ok (.invokevirtual 163, 3) := by decide +kernel
theorem d_C_inches_33 : decode prog_1_method_19_code 33 = .ok (.iload_n 1, 1) := by decide +kernel
theorem d_C_inches_34 : decode prog_1_method_19_code 34 = .ok (.isub, 1) := by decide +kernel
theorem d_C_inches_35 : decode prog_1_method_19_code 35 = .ok (.invokestatic 218, 3) := by decide +kernel
theorem d_C_inches_38 : decode prog_1_method_19_code 38 = .ok (.invokevirtual 214, 3) := by decide +kernel
theorem d_C_inches_41 : decode prog_1_method_19_code 41 = .ok (.ldc 223, 2) := by decide +kernel
theorem d_C_inches_43 : decode prog_1_method_19_code 43 = .ok (.if_icmp .eq 5, 3) := by decide +kernel
theorem d_C_inches_46 : decode prog_1_method_19_code 46 = .ok (.iload_n 1, 1) := by decide +kernel
theorem d_C_inches_47 : decode prog_1_method_19_code 47 = .ok (.ireturn, 1) := by decide +kernel
theorem d_C_inches_48 : decode prog_1_method_19_code 48 = .ok (.iinc 1 1, 3) := by decide +kernel
theorem d_C_inches_51 : decode prog_1_method_19_code 51 = .ok (.goto (-39), 3) := by decide +kernel
theorem d_C_inches_54 : decode prog_1_method_19_code 54 = .ok (.ldc 223, 2) := by decide +kernel
theorem d_C_inches_56 : decode prog_1_method_19_code 56 = .ok (.ireturn, 1) := by decide +kernel
theorem d_C_inTheWay_0 : decode prog_1_method_20_code 0 = .ok (.aload_n 0, 1) := by decide +kernel
theorem d_C_inTheWay_1 : decode prog_1_method_20_code 1 = .ok (.getfield 116, 3) := by decide +kernel
theorem d_C_inTheWay_4 : decode prog_1_method_20_code 4 = .ok (.ifCond .ne 6, 3) := by decide +kernel
theorem d_C_inTheWay_7 : decode prog_1_method_20_code 7 = .ok (.ldc 133, 2) := by decide +kernel
theorem d_C_inTheWay_9 : decode prog_1_method_20_code 9 = .ok (.ireturn, 1) := by decide +kernel
theorem d_C_inTheWay_10 : decode prog_1_method_20_code 10 = .ok (.iload_n 1, 1) := by decide +kernel
theorem d_C_inTheWay_11 : decode prog_1_method_20_code 11 = .ok (.iconst 2, 1) := by decide +kernel
theorem d_C_inTheWay_12 : decode prog_1_method_20_code 12 = .ok (.invokestatic 59, 3) := by decide +kernel
theorem d_C_inTheWay_15 : decode prog_1_method_20_code 15 = .ok (.ifCond .eq 12, 3) := by decide +kernel
theorem d_C_inTheWay_18 : decode prog_1_method_20_code 18 = .ok (.aload_n 0, 1) := by decide +kernel
theorem d_C_inTheWay_19 : decode prog_1_method_20_code 19 = .ok (.iconst 0, 1) := by decide +kernel
theorem d_C_inTheWay_20 : decode prog_1_method_20_code 20 = .ok (.iload_n 1, 1) := by decide +kernel
theorem d_C_inTheWay_21 : decode prog_1_method_20_code 21 = .ok (.invokevirtual 224, 3) := by decide +kernel
theorem d_C_inTheWay_24 : decode prog_1_method_20_code 24 = .ok (.goto 5, 3) := by decide +kernel
theorem d_C_inTheWay_27 : decode prog_1_method_20_code 27 = .ok (.ldc 63, 2) := by decide +kernel
theorem d_C_inTheWay_29 : decode prog_1_method_20_code 29 = .ok (.ireturn, 1) := by decide +kernel
theorem d_C_dig_0 : decode prog_1_method_21_code 0 = .ok (.aload_n 0, 1) := by decide +kernel
theorem d_C_dig_1 : decode prog_1_method_21_code 1 = .ok (.getfield 116, 3) := by decide +kernel
theorem d_C_dig_4 : decode prog_1_method_21_code 4 = .ok (.ifCond .ne 6, 3) := by decide +kernel
theorem d_C_dig_7 : decode prog_1_method_21_code 7 = .ok (.ldc 133, 2) := by decide +kernel
theorem d_C_dig_9 : decode prog_1_method_21_code 9 = .ok (.ireturn, 1) := by decide +kernel
theorem d_C_dig_10 : decode prog_1_method_21_code 10 = .ok (.iload_n 1, 1) := by decide +kernel
theorem d_C_dig_11 : decode prog_1_method_21_code 11 = .ok (.iconst 2, 1) := by decide +kernel
theorem d_C_dig_12 : decode prog_1_method_21_code 12 = .ok (.invokestatic 59, 3) := by decide +kernel
theorem d_C_dig_15 : decode prog_1_method_21_code 15 = .ok (.ifCond .eq 12, 3) := by decide +kernel
theorem d_C_dig_18 : decode prog_1_method_21_code 18 = .ok (.aload_n 0, 1) := by decide +kernel
theorem d_C_dig_19 : decode prog_1_method_21_code 19 = .ok (.iconst 1, 1) := by decide +kernel
theorem d_C_dig_20 : decode prog_1_method_21_code 20 = .ok (.iload_n 1, 1) := by decide +kernel
theorem d_C_dig_21 : decode prog_1_method_21_code 21 = .ok (.invokevirtual 224, 3) := by decide +kernel
theorem d_C_dig_24 : decode prog_1_method_21_code 24 = .ok (.goto 5, 3) := by decide +kernel
theorem d_C_dig_27 : decode prog_1_method_21_code 27 = .ok (.ldc 63, 2) := by decide +kernel
theorem d_C_dig_29 : decode prog_1_method_21_code 29 = .ok (.ireturn, 1) := by decide +kernel
theorem d_C_years_0 : decode prog_1_method_22_code 0 = .ok (.aload_n 0, 1) := by decide +kernel
theorem d_C_years_1 : decode prog_1_method_22_code 1 = .ok (.getfield 116, 3) := by decide +kernel
theorem d_C_years_4 : decode prog_1_method_22_code 4 = .ok (.ifCond .ne 6, 3) := by decide +kernel
theorem d_C_years_7 : decode prog_1_method_22_code 7 = .ok (.ldc 133, 2) := by decide +kernel
theorem d_C_years_9 : decode prog_1_method_22_code 9 = .ok (.ireturn, 1) := by decide +kernel
theorem d_C_years_10 : decode prog_1_method_22_code 10 = .ok (.aload_n 0, 1) := by decide +kernel
theorem d_C_years_11 : decode prog_1_method_22_code 11 = .ok (.getfield 44, 3) := by decide +kernel
theorem d_C_years_14 : decode prog_1_method_22_code 14 = .ok (.aload_n 0, 1) := by decide +kernel
theorem d_C_years_15 : decode prog_1_method_22_code 15 = .ok (.getfield 40, 3) := by decide +kernel
theorem d_C_years_18 : decode prog_1_method_22_code 18 = .ok (.invokevirtual 112, 3) := by decide +kernel
theorem d_C_years_21 : decode prog_1_method_22_code 21 = .ok (.iconst 0, 1) := by decide +kernel
theorem d_C_years_22 : decode prog_1_method_22_code 22 = .ok (.istore_n 1, 1) := by decide +kernel
theorem d_C_years_23 : decode prog_1_method_22_code 23 = .ok (.iload_n 1, 1) := by decide +kernel
theorem d_C_years_24 : decode prog_1_method_22_code 24 = .ok (.bipush 10, 2) := by decide +kernel
theorem d_C_years_26 : decode prog_1_method_22_code 26 = .ok (.if_icmp .gt 42, 3) := by decide +kernel
theorem d_C_years_29 : decode prog_1_method_22_code 29 = .ok (.aload_n 0, 1) := by decide +kernel
theorem d_C_years_30 : decode prog_1_method_22_code 30 = .ok (.getfield 33, 3) := by decide +kernel
theorem d_C_years_33 : decode prog_1_method_22_code 33 = .ok (.aload_n 0, 1) := by decide +kernel
theorem d_C_years_34 : decode prog_1_method_22_code 34 = .ok (.getfield 44, 3) := by decide +kernel
theorem d_C_years_37 : decode prog_1_method_22_code 37 = .ok (.aload_n 0, 1) := by decide +kernel
theorem d_C_years_38 : decode prog_1_method_22_code 38 = .ok (.getfield 44, 3) := by decide +kernel
theorem d_C_years_41 : decode prog_1_method_22_code 41 = .ok (.invokevirtual 163, 3) := by decide +kernel
theorem d_C_years_44 : decode prog_1_method_22_code 44 = .ok (.invokevirtual 214, 3) := by decide +kernel
theorem d_C_years_47 : decode prog_1_method_22_code 47 = .ok (.ldc 223, 2) := by decide +kernel
theorem d_C_years_49 : decode prog_1_method_22_code 49 = .ok (.if_icmp .ne 5, 3) := by decide +kernel
theorem d_C_years_52 : decode prog_1_method_22_code 52 = .ok (.iload_n 1, 1) := by decide +kernel
theorem d_C_years_53 : decode prog_1_method_22_code 53 = .ok (.ireturn, 1) := by decide +kernel
theorem d_C_years_54 : decode prog_1_method_22_code 54 = .ok (.aload_n 0, 1) := by decide +kernel
theorem d_C_years_55 : decode prog_1_method_22_code 55 = .ok (.getfield 44, 3) := by decide +kernel
theorem d_C_years_58 : decode prog_1_method_22_code 58 = .ok (.invokevirtual 181, 3) := by decide +kernel
theorem d_C_years_61 : decode prog_1_method_22_code 61 = .ok (.pop, 1) := by decide +kernel
theorem d_C_years_62 : decode prog_1_method_22_code 62 = .ok (.iinc 1 1, 3) := by decide +kernel
theorem d_C_years_65 : decode prog_1_method_22_code 65 = .ok (.goto (-42), 3) := by decide +kernel
theorem d_C_years_68 : decode prog_1_method_22_code 68 = .ok (.ldc 223, 2) := by decide +kernel
theorem d_C_years_70 : decode prog_1_method_22_code 70 = .ok (.ireturn, 1) := by decide +kernel
theorem d_C_better_0 : decode prog_1_method_23_code 0 = .ok (.aload_n 0, 1) := by decide +kernel
theorem d_C_better_1 : decode prog_1_method_23_code 1 = .ok (.getfield 116, 3) := by decide +kernel
theorem d_C_better_4 : decode prog_1_method_23_code 4 = .ok (.ifCond .ne 6, 3) := by decide +kernel
theorem d_C_better_7 : decode prog_1_method_23_code 7 = .ok (.ldc 133, 2) := by decide +kernel
theorem d_C_better_9 : decode prog_1_method_23_code 9 = .ok (.ireturn, 1) := by decide +kernel
theorem d_C_better_10 : decode prog_1_method_23_code 10 = .ok (.aload_n 0, 1) := by decide +kernel
theorem d_C_better_11 : decode prog_1_method_23_code 11 = .ok (.iconst 0, 1) := by decide +kernel
theorem d_C_better_12 : decode prog_1_method_23_code 12 = .ok (.invokevirtual 228, 3) := by decide +kernel
theorem d_C_better_15 : decode prog_1_method_23_code 15 = .ok (.istore_n 1, 1) := by decide +kernel
theorem d_C_better_16 : decode prog_1_method_23_code 16 = .ok (.aload_n 0, 1) := by decide +kernel
theorem d_C_better_17 : decode prog_1_method_23_code 17 = .ok (.iconst 1, 1) := by decide +kernel
theorem d_C_better_18 : decode prog_1_method_23_code 18 = .ok (.invokevirtual 228, 3) := by decide +kernel
theorem d_C_better_21 : decode prog_1_method_23_code 21 = .ok (.istore_n 2, 1) := by decide +kernel
theorem d_C_better_22 : decode prog_1_method_23_code 22 = .ok (.iload_n 1, 1) := by decide +kernel
theorem d_C_better_23 : decode prog_1_method_23_code 23 = .ok (.iload_n 2, 1) := by decide +kernel
theorem d_C_better_24 : decode prog_1_method_23_code 24 = .ok (.if_icmp .ne 15, 3) := by decide +kernel
theorem d_C_better_27 : decode prog_1_method_23_code 27 = .ok (.iload_n 1, 1) := by decide +kernel
theorem d_C_better_28 : decode prog_1_method_23_code 28 = .ok (.ldc 223, 2) := by decide +kernel
theorem d_C_better_30 : decode prog_1_method_23_code 30 = .ok (.if_icmp .ne 7, 3) := by decide +kernel
theorem d_C_better_33 : decode prog_1_method_23_code 33 = .ok (.iconst 3, 1) := by decide +kernel
theorem d_C_better_34 : decode prog_1_method_23_code 34 = .ok (.goto 4, 3) := by decide +kernel
theorem d_C_better_37 : decode prog_1_method_23_code 37 = .ok (.iconst 2, 1) := by decide +kernel
theorem d_C_better_38 : decode prog_1_method_23_code 38 = .ok (.ireturn, 1) := by decide +kernel
theorem d_C_better_39 : decode prog_1_method_23_code 39 = .ok (.iload_n 1, 1) := by decide +kernel
theorem d_C_better_40 : decode prog_1_method_23_code 40 = .ok (.ldc 223, 2) := by decide +kernel
theorem d_C_better_42 : decode prog_1_method_23_code 42 = .ok (.if_icmp .eq 9, 3) := by decide +kernel
theorem d_C_better_45 : decode prog_1_method_23_code 45 = .ok (.iload_n 2, 1) := by decide +kernel
theorem d_C_better_46 : decode prog_1_method_23_code 46 = .ok (.ldc 223, 2) := by decide +kernel
theorem d_C_better_48 : decode prog_1_method_23_code 48 = .ok (.if_icmp .ne 15, 3) := by decide +kernel
theorem d_C_better_51 : decode prog_1_method_23_code 51 = .ok (.iload_n 1, 1) := by decide +kernel
theorem d_C_better_52 : decode prog_1_method_23_code 52 = .ok (.ldc 223, 2) := by decide +kernel
theorem d_C_better_54 : decode prog_1_method_23_code 54 = .ok (.if_icmp .ne 7, 3) := by decide +kernel
theorem d_C_better_57 : decode prog_1_method_23_code 57 = .ok (.iconst 1, 1) := by decide +kernel
theorem d_C_better_58 : decode prog_1_method_23_code 58 = .ok (.goto 4, 3) := by decide +kernel
end
