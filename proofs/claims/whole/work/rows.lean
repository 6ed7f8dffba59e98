section
-- ===== PART A: goes FIRST, ahead of the names: the tables' words, and 'selects' of the private methods out of them =====
/-- a private method of a class that the tables say can be made, by its rows of tables_1 -/
def lw_okq (q : MethodName × Nat) : Prop := (q.1.cls ≠ "java/lang/invoke/MethodHandle" ∧ q.1.cls ≠ "java/lang/invoke/VarHandle") ∧ Cond.instantiable q.1.cls q.2 ∈ tables_1 ∧ Cond.privateMethod q.1 ∈ tables_1 ∧ Cond.instanceMethod q.1 ∈ tables_1
theorem lw_p0 : lw_okq (⟨"ThreePoints$Tape", "endOfToken", "(I)I"⟩, 6) := ⟨⟨by decide +kernel, by decide +kernel⟩, List.mem_of_getElem? (i := 118) (by decide +kernel), List.mem_of_getElem? (i := 331) (by decide +kernel), List.mem_of_getElem? (i := 332) (by decide +kernel)⟩
theorem lw_p1 : lw_okq (⟨"ThreePoints$Tape", "byteAt", "(I)I"⟩, 6) := ⟨⟨by decide +kernel, by decide +kernel⟩, List.mem_of_getElem? (i := 118) (by decide +kernel), List.mem_of_getElem? (i := 335) (by decide +kernel), List.mem_of_getElem? (i := 336) (by decide +kernel)⟩
theorem lw_p2 : lw_okq (⟨"ThreePoints$Tape", "numberAt", "(II)I"⟩, 6) := ⟨⟨by decide +kernel, by decide +kernel⟩, List.mem_of_getElem? (i := 118) (by decide +kernel), List.mem_of_getElem? (i := 348) (by decide +kernel), List.mem_of_getElem? (i := 349) (by decide +kernel)⟩
theorem lw_p3 : lw_okq (⟨"ThreePoints$Tape", "nameAt", "(II)I"⟩, 6) := ⟨⟨by decide +kernel, by decide +kernel⟩, List.mem_of_getElem? (i := 118) (by decide +kernel), List.mem_of_getElem? (i := 352) (by decide +kernel), List.mem_of_getElem? (i := 353) (by decide +kernel)⟩
theorem lw_p4 : lw_okq (⟨"ThreePoints$Tape", "spells", "(IILjava/lang/String;)Z"⟩, 6) := ⟨⟨by decide +kernel, by decide +kernel⟩, List.mem_of_getElem? (i := 118) (by decide +kernel), List.mem_of_getElem? (i := 357) (by decide +kernel), List.mem_of_getElem? (i := 358) (by decide +kernel)⟩
theorem lw_p5 : lw_okq (⟨"ThreePoints$Tape", "kindAt", "(II)I"⟩, 6) := ⟨⟨by decide +kernel, by decide +kernel⟩, List.mem_of_getElem? (i := 118) (by decide +kernel), List.mem_of_getElem? (i := 366) (by decide +kernel), List.mem_of_getElem? (i := 367) (by decide +kernel)⟩
theorem lw_p6 : lw_okq (⟨"ThreePoints$Tape", "wordKindAt", "(II)I"⟩, 6) := ⟨⟨by decide +kernel, by decide +kernel⟩, List.mem_of_getElem? (i := 118) (by decide +kernel), List.mem_of_getElem? (i := 370) (by decide +kernel), List.mem_of_getElem? (i := 371) (by decide +kernel)⟩
theorem lw_p7 : lw_okq (⟨"ThreePoints$Reader", "goTo", "(I)V"⟩, 5) := ⟨⟨by decide +kernel, by decide +kernel⟩, List.mem_of_getElem? (i := 112) (by decide +kernel), List.mem_of_getElem? (i := 448) (by decide +kernel), List.mem_of_getElem? (i := 449) (by decide +kernel)⟩
theorem lw_p8 : lw_okq (⟨"ThreePoints$Reader", "readPart", "(II)Z"⟩, 5) := ⟨⟨by decide +kernel, by decide +kernel⟩, List.mem_of_getElem? (i := 112) (by decide +kernel), List.mem_of_getElem? (i := 456) (by decide +kernel), List.mem_of_getElem? (i := 457) (by decide +kernel)⟩
theorem lw_p9 : lw_okq (⟨"ThreePoints$Reader", "readOr", "()Z"⟩, 5) := ⟨⟨by decide +kernel, by decide +kernel⟩, List.mem_of_getElem? (i := 112) (by decide +kernel), List.mem_of_getElem? (i := 460) (by decide +kernel), List.mem_of_getElem? (i := 461) (by decide +kernel)⟩
theorem lw_p10 : lw_okq (⟨"ThreePoints$Reader", "readAnd", "()Z"⟩, 5) := ⟨⟨by decide +kernel, by decide +kernel⟩, List.mem_of_getElem? (i := 112) (by decide +kernel), List.mem_of_getElem? (i := 464) (by decide +kernel), List.mem_of_getElem? (i := 465) (by decide +kernel)⟩
theorem lw_p11 : lw_okq (⟨"ThreePoints$Reader", "readNot", "()Z"⟩, 5) := ⟨⟨by decide +kernel, by decide +kernel⟩, List.mem_of_getElem? (i := 112) (by decide +kernel), List.mem_of_getElem? (i := 468) (by decide +kernel), List.mem_of_getElem? (i := 469) (by decide +kernel)⟩
theorem lw_p12 : lw_okq (⟨"ThreePoints$Reader", "readComparison", "()Z"⟩, 5) := ⟨⟨by decide +kernel, by decide +kernel⟩, List.mem_of_getElem? (i := 112) (by decide +kernel), List.mem_of_getElem? (i := 472) (by decide +kernel), List.mem_of_getElem? (i := 473) (by decide +kernel)⟩
theorem lw_p13 : lw_okq (⟨"ThreePoints$Reader", "readSum", "()Z"⟩, 5) := ⟨⟨by decide +kernel, by decide +kernel⟩, List.mem_of_getElem? (i := 112) (by decide +kernel), List.mem_of_getElem? (i := 476) (by decide +kernel), List.mem_of_getElem? (i := 477) (by decide +kernel)⟩
theorem lw_p14 : lw_okq (⟨"ThreePoints$Reader", "readTerm", "()Z"⟩, 5) := ⟨⟨by decide +kernel, by decide +kernel⟩, List.mem_of_getElem? (i := 112) (by decide +kernel), List.mem_of_getElem? (i := 480) (by decide +kernel), List.mem_of_getElem? (i := 481) (by decide +kernel)⟩
theorem lw_p15 : lw_okq (⟨"ThreePoints$Reader", "readOne", "()Z"⟩, 5) := ⟨⟨by decide +kernel, by decide +kernel⟩, List.mem_of_getElem? (i := 112) (by decide +kernel), List.mem_of_getElem? (i := 484) (by decide +kernel), List.mem_of_getElem? (i := 485) (by decide +kernel)⟩
def lw_privs_1 : List (MethodName × Nat) := [(⟨"ThreePoints$Tape", "endOfToken", "(I)I"⟩, 6), (⟨"ThreePoints$Tape", "byteAt", "(I)I"⟩, 6), (⟨"ThreePoints$Tape", "numberAt", "(II)I"⟩, 6), (⟨"ThreePoints$Tape", "nameAt", "(II)I"⟩, 6), (⟨"ThreePoints$Tape", "spells", "(IILjava/lang/String;)Z"⟩, 6), (⟨"ThreePoints$Tape", "kindAt", "(II)I"⟩, 6), (⟨"ThreePoints$Tape", "wordKindAt", "(II)I"⟩, 6), (⟨"ThreePoints$Reader", "goTo", "(I)V"⟩, 5), (⟨"ThreePoints$Reader", "readPart", "(II)Z"⟩, 5), (⟨"ThreePoints$Reader", "readOr", "()Z"⟩, 5), (⟨"ThreePoints$Reader", "readAnd", "()Z"⟩, 5), (⟨"ThreePoints$Reader", "readNot", "()Z"⟩, 5), (⟨"ThreePoints$Reader", "readComparison", "()Z"⟩, 5), (⟨"ThreePoints$Reader", "readSum", "()Z"⟩, 5), (⟨"ThreePoints$Reader", "readTerm", "()Z"⟩, 5), (⟨"ThreePoints$Reader", "readOne", "()Z"⟩, 5)]
theorem lw_r1 : ∀ q ∈ lw_privs_1, lw_okq q := List.forall_mem_cons.mpr ⟨lw_p0, List.forall_mem_cons.mpr ⟨lw_p1, List.forall_mem_cons.mpr ⟨lw_p2, List.forall_mem_cons.mpr ⟨lw_p3, List.forall_mem_cons.mpr ⟨lw_p4, List.forall_mem_cons.mpr ⟨lw_p5, List.forall_mem_cons.mpr ⟨lw_p6, List.forall_mem_cons.mpr ⟨lw_p7, List.forall_mem_cons.mpr ⟨lw_p8, List.forall_mem_cons.mpr ⟨lw_p9, List.forall_mem_cons.mpr ⟨lw_p10, List.forall_mem_cons.mpr ⟨lw_p11, List.forall_mem_cons.mpr ⟨lw_p12, List.forall_mem_cons.mpr ⟨lw_p13, List.forall_mem_cons.mpr ⟨lw_p14, List.forall_mem_cons.mpr ⟨lw_p15, fun _ h => absurd h List.not_mem_nil⟩⟩⟩⟩⟩⟩⟩⟩⟩⟩⟩⟩⟩⟩⟩⟩
theorem lw_p16 : lw_okq (⟨"ThreePoints$Reader", "mayOpen", "()Z"⟩, 5) := ⟨⟨by decide +kernel, by decide +kernel⟩, List.mem_of_getElem? (i := 112) (by decide +kernel), List.mem_of_getElem? (i := 496) (by decide +kernel), List.mem_of_getElem? (i := 497) (by decide +kernel)⟩
theorem lw_p17 : lw_okq (⟨"ThreePoints", "think", "(I)V"⟩, 9) := ⟨⟨by decide +kernel, by decide +kernel⟩, List.mem_of_getElem? (i := 21) (by decide +kernel), List.mem_of_getElem? (i := 559) (by decide +kernel), List.mem_of_getElem? (i := 560) (by decide +kernel)⟩
theorem lw_p18 : lw_okq (⟨"ThreePoints", "isVehicle", "(I)Z"⟩, 9) := ⟨⟨by decide +kernel, by decide +kernel⟩, List.mem_of_getElem? (i := 21) (by decide +kernel), List.mem_of_getElem? (i := 567) (by decide +kernel), List.mem_of_getElem? (i := 568) (by decide +kernel)⟩
theorem lw_p19 : lw_okq (⟨"ThreePoints", "isPlaceHeading", "(I)Z"⟩, 9) := ⟨⟨by decide +kernel, by decide +kernel⟩, List.mem_of_getElem? (i := 21) (by decide +kernel), List.mem_of_getElem? (i := 639) (by decide +kernel), List.mem_of_getElem? (i := 640) (by decide +kernel)⟩
theorem lw_p20 : lw_okq (⟨"ThreePoints", "isPlace", "(I)Z"⟩, 9) := ⟨⟨by decide +kernel, by decide +kernel⟩, List.mem_of_getElem? (i := 21) (by decide +kernel), List.mem_of_getElem? (i := 643) (by decide +kernel), List.mem_of_getElem? (i := 644) (by decide +kernel)⟩
theorem lw_p21 : lw_okq (⟨"ThreePoints", "addVehicle", "(II)I"⟩, 9) := ⟨⟨by decide +kernel, by decide +kernel⟩, List.mem_of_getElem? (i := 21) (by decide +kernel), List.mem_of_getElem? (i := 655) (by decide +kernel), List.mem_of_getElem? (i := 656) (by decide +kernel)⟩
theorem lw_p22 : lw_okq (⟨"ThreePoints$Search", "lower", "(II)V"⟩, 8) := ⟨⟨by decide +kernel, by decide +kernel⟩, List.mem_of_getElem? (i := 214) (by decide +kernel), List.mem_of_getElem? (i := 725) (by decide +kernel), List.mem_of_getElem? (i := 726) (by decide +kernel)⟩
theorem lw_p23 : lw_okq (⟨"ThreePoints$Search", "unlink", "(I)V"⟩, 8) := ⟨⟨by decide +kernel, by decide +kernel⟩, List.mem_of_getElem? (i := 214) (by decide +kernel), List.mem_of_getElem? (i := 729) (by decide +kernel), List.mem_of_getElem? (i := 730) (by decide +kernel)⟩
theorem lw_p24 : lw_okq (⟨"ThreePoints$Search", "lowerAhead", "(LThreePoints$Ride;II)V"⟩, 8) := ⟨⟨by decide +kernel, by decide +kernel⟩, List.mem_of_getElem? (i := 214) (by decide +kernel), List.mem_of_getElem? (i := 734) (by decide +kernel), List.mem_of_getElem? (i := 735) (by decide +kernel)⟩
theorem lw_p25 : lw_okq (⟨"ThreePoints$Search", "addBehind", "(LThreePoints$Ride;III)I"⟩, 8) := ⟨⟨by decide +kernel, by decide +kernel⟩, List.mem_of_getElem? (i := 214) (by decide +kernel), List.mem_of_getElem? (i := 771) (by decide +kernel), List.mem_of_getElem? (i := 772) (by decide +kernel)⟩
theorem lw_p26 : lw_okq (⟨"ThreePoints", "refusalOfMoves", "(II)I"⟩, 9) := ⟨⟨by decide +kernel, by decide +kernel⟩, List.mem_of_getElem? (i := 21) (by decide +kernel), List.mem_of_getElem? (i := 783) (by decide +kernel), List.mem_of_getElem? (i := 784) (by decide +kernel)⟩
theorem lw_p27 : lw_okq (⟨"ThreePointsModel", "next", "()V"⟩, 39) := ⟨⟨by decide +kernel, by decide +kernel⟩, List.mem_of_getElem? (i := 910) (by decide +kernel), List.mem_of_getElem? (i := 920) (by decide +kernel), List.mem_of_getElem? (i := 921) (by decide +kernel)⟩
theorem lw_p28 : lw_okq (⟨"ThreePointsModel", "wordFrom", "(II)I"⟩, 39) := ⟨⟨by decide +kernel, by decide +kernel⟩, List.mem_of_getElem? (i := 910) (by decide +kernel), List.mem_of_getElem? (i := 927) (by decide +kernel), List.mem_of_getElem? (i := 928) (by decide +kernel)⟩
theorem lw_p29 : lw_okq (⟨"ThreePointsModel", "eRead", "()Z"⟩, 39) := ⟨⟨by decide +kernel, by decide +kernel⟩, List.mem_of_getElem? (i := 910) (by decide +kernel), List.mem_of_getElem? (i := 931) (by decide +kernel), List.mem_of_getElem? (i := 932) (by decide +kernel)⟩
theorem lw_p30 : lw_okq (⟨"ThreePointsModel", "puts", "(I)V"⟩, 39) := ⟨⟨by decide +kernel, by decide +kernel⟩, List.mem_of_getElem? (i := 910) (by decide +kernel), List.mem_of_getElem? (i := 936) (by decide +kernel), List.mem_of_getElem? (i := 937) (by decide +kernel)⟩
theorem lw_p31 : lw_okq (⟨"ThreePointsModel", "unwinds", "(I)V"⟩, 39) := ⟨⟨by decide +kernel, by decide +kernel⟩, List.mem_of_getElem? (i := 910) (by decide +kernel), List.mem_of_getElem? (i := 940) (by decide +kernel), List.mem_of_getElem? (i := 941) (by decide +kernel)⟩
def lw_privs_2 : List (MethodName × Nat) := [(⟨"ThreePoints$Reader", "mayOpen", "()Z"⟩, 5), (⟨"ThreePoints", "think", "(I)V"⟩, 9), (⟨"ThreePoints", "isVehicle", "(I)Z"⟩, 9), (⟨"ThreePoints", "isPlaceHeading", "(I)Z"⟩, 9), (⟨"ThreePoints", "isPlace", "(I)Z"⟩, 9), (⟨"ThreePoints", "addVehicle", "(II)I"⟩, 9), (⟨"ThreePoints$Search", "lower", "(II)V"⟩, 8), (⟨"ThreePoints$Search", "unlink", "(I)V"⟩, 8), (⟨"ThreePoints$Search", "lowerAhead", "(LThreePoints$Ride;II)V"⟩, 8), (⟨"ThreePoints$Search", "addBehind", "(LThreePoints$Ride;III)I"⟩, 8), (⟨"ThreePoints", "refusalOfMoves", "(II)I"⟩, 9), (⟨"ThreePointsModel", "next", "()V"⟩, 39), (⟨"ThreePointsModel", "wordFrom", "(II)I"⟩, 39), (⟨"ThreePointsModel", "eRead", "()Z"⟩, 39), (⟨"ThreePointsModel", "puts", "(I)V"⟩, 39), (⟨"ThreePointsModel", "unwinds", "(I)V"⟩, 39)]
theorem lw_r2 : ∀ q ∈ lw_privs_2, lw_okq q := List.forall_mem_cons.mpr ⟨lw_p16, List.forall_mem_cons.mpr ⟨lw_p17, List.forall_mem_cons.mpr ⟨lw_p18, List.forall_mem_cons.mpr ⟨lw_p19, List.forall_mem_cons.mpr ⟨lw_p20, List.forall_mem_cons.mpr ⟨lw_p21, List.forall_mem_cons.mpr ⟨lw_p22, List.forall_mem_cons.mpr ⟨lw_p23, List.forall_mem_cons.mpr ⟨lw_p24, List.forall_mem_cons.mpr ⟨lw_p25, List.forall_mem_cons.mpr ⟨lw_p26, List.forall_mem_cons.mpr ⟨lw_p27, List.forall_mem_cons.mpr ⟨lw_p28, List.forall_mem_cons.mpr ⟨lw_p29, List.forall_mem_cons.mpr ⟨lw_p30, List.forall_mem_cons.mpr ⟨lw_p31, fun _ h => absurd h List.not_mem_nil⟩⟩⟩⟩⟩⟩⟩⟩⟩⟩⟩⟩⟩⟩⟩⟩
theorem lw_p32 : lw_okq (⟨"ThreePointsModel", "opensOne", "(I)Z"⟩, 39) := ⟨⟨by decide +kernel, by decide +kernel⟩, List.mem_of_getElem? (i := 910) (by decide +kernel), List.mem_of_getElem? (i := 947) (by decide +kernel), List.mem_of_getElem? (i := 948) (by decide +kernel)⟩
theorem lw_p33 : lw_okq (⟨"ThreePointsModel", "holds", "(I)V"⟩, 39) := ⟨⟨by decide +kernel, by decide +kernel⟩, List.mem_of_getElem? (i := 910) (by decide +kernel), List.mem_of_getElem? (i := 951) (by decide +kernel), List.mem_of_getElem? (i := 952) (by decide +kernel)⟩
theorem lw_p34 : lw_okq (⟨"ThreePointsModel", "signOf", "()I"⟩, 39) := ⟨⟨by decide +kernel, by decide +kernel⟩, List.mem_of_getElem? (i := 910) (by decide +kernel), List.mem_of_getElem? (i := 955) (by decide +kernel), List.mem_of_getElem? (i := 956) (by decide +kernel)⟩
theorem lw_p35 : lw_okq (⟨"ThreePointsModel", "between", "(I)Z"⟩, 39) := ⟨⟨by decide +kernel, by decide +kernel⟩, List.mem_of_getElem? (i := 910) (by decide +kernel), List.mem_of_getElem? (i := 959) (by decide +kernel), List.mem_of_getElem? (i := 960) (by decide +kernel)⟩
theorem lw_p36 : lw_okq (⟨"ThreePointsModel", "doAllFit", "()Z"⟩, 39) := ⟨⟨by decide +kernel, by decide +kernel⟩, List.mem_of_getElem? (i := 910) (by decide +kernel), List.mem_of_getElem? (i := 1089) (by decide +kernel), List.mem_of_getElem? (i := 1090) (by decide +kernel)⟩
theorem lw_p37 : lw_okq (⟨"ThreePointsModel", "isPlace", "(I)Z"⟩, 39) := ⟨⟨by decide +kernel, by decide +kernel⟩, List.mem_of_getElem? (i := 910) (by decide +kernel), List.mem_of_getElem? (i := 1093) (by decide +kernel), List.mem_of_getElem? (i := 1094) (by decide +kernel)⟩
theorem lw_p38 : lw_okq (⟨"ThreePointsModel", "fitsAt", "(III)Z"⟩, 39) := ⟨⟨by decide +kernel, by decide +kernel⟩, List.mem_of_getElem? (i := 910) (by decide +kernel), List.mem_of_getElem? (i := 1097) (by decide +kernel), List.mem_of_getElem? (i := 1098) (by decide +kernel)⟩
theorem lw_p39 : lw_okq (⟨"ThreePointsModel", "frontOf", "(I)I"⟩, 39) := ⟨⟨by decide +kernel, by decide +kernel⟩, List.mem_of_getElem? (i := 910) (by decide +kernel), List.mem_of_getElem? (i := 1101) (by decide +kernel), List.mem_of_getElem? (i := 1102) (by decide +kernel)⟩
theorem lw_p40 : lw_okq (⟨"ThreePointsModel", "backOf", "(I)I"⟩, 39) := ⟨⟨by decide +kernel, by decide +kernel⟩, List.mem_of_getElem? (i := 910) (by decide +kernel), List.mem_of_getElem? (i := 1105) (by decide +kernel), List.mem_of_getElem? (i := 1106) (by decide +kernel)⟩
theorem lw_p41 : lw_okq (⟨"ThreePointsModel", "asksOf", "(IIIIII)I"⟩, 39) := ⟨⟨by decide +kernel, by decide +kernel⟩, List.mem_of_getElem? (i := 910) (by decide +kernel), List.mem_of_getElem? (i := 1109) (by decide +kernel), List.mem_of_getElem? (i := 1110) (by decide +kernel)⟩
theorem lw_p42 : lw_okq (⟨"ThreePointsModel", "says", "(I)I"⟩, 39) := ⟨⟨by decide +kernel, by decide +kernel⟩, List.mem_of_getElem? (i := 910) (by decide +kernel), List.mem_of_getElem? (i := 1113) (by decide +kernel), List.mem_of_getElem? (i := 1114) (by decide +kernel)⟩
theorem lw_p43 : lw_okq (⟨"ThreePointsModel", "isVehicle", "(I)Z"⟩, 39) := ⟨⟨by decide +kernel, by decide +kernel⟩, List.mem_of_getElem? (i := 910) (by decide +kernel), List.mem_of_getElem? (i := 1139) (by decide +kernel), List.mem_of_getElem? (i := 1140) (by decide +kernel)⟩
theorem lw_p44 : lw_okq (⟨"ThreePointsModel", "isBoth", "(I)Z"⟩, 39) := ⟨⟨by decide +kernel, by decide +kernel⟩, List.mem_of_getElem? (i := 910) (by decide +kernel), List.mem_of_getElem? (i := 1143) (by decide +kernel), List.mem_of_getElem? (i := 1144) (by decide +kernel)⟩
theorem lw_p45 : lw_okq (⟨"ThreePointsModel", "canGo", "(III)Z"⟩, 39) := ⟨⟨by decide +kernel, by decide +kernel⟩, List.mem_of_getElem? (i := 910) (by decide +kernel), List.mem_of_getElem? (i := 1163) (by decide +kernel), List.mem_of_getElem? (i := 1164) (by decide +kernel)⟩
theorem lw_p46 : lw_okq (⟨"ThreePointsModel", "placeBy", "(III)I"⟩, 39) := ⟨⟨by decide +kernel, by decide +kernel⟩, List.mem_of_getElem? (i := 910) (by decide +kernel), List.mem_of_getElem? (i := 1167) (by decide +kernel), List.mem_of_getElem? (i := 1168) (by decide +kernel)⟩
theorem lw_p47 : lw_okq (⟨"ThreePointsModel", "headingBy", "(IIII)I"⟩, 39) := ⟨⟨by decide +kernel, by decide +kernel⟩, List.mem_of_getElem? (i := 910) (by decide +kernel), List.mem_of_getElem? (i := 1171) (by decide +kernel), List.mem_of_getElem? (i := 1172) (by decide +kernel)⟩
def lw_privs_3 : List (MethodName × Nat) := [(⟨"ThreePointsModel", "opensOne", "(I)Z"⟩, 39), (⟨"ThreePointsModel", "holds", "(I)V"⟩, 39), (⟨"ThreePointsModel", "signOf", "()I"⟩, 39), (⟨"ThreePointsModel", "between", "(I)Z"⟩, 39), (⟨"ThreePointsModel", "doAllFit", "()Z"⟩, 39), (⟨"ThreePointsModel", "isPlace", "(I)Z"⟩, 39), (⟨"ThreePointsModel", "fitsAt", "(III)Z"⟩, 39), (⟨"ThreePointsModel", "frontOf", "(I)I"⟩, 39), (⟨"ThreePointsModel", "backOf", "(I)I"⟩, 39), (⟨"ThreePointsModel", "asksOf", "(IIIIII)I"⟩, 39), (⟨"ThreePointsModel", "says", "(I)I"⟩, 39), (⟨"ThreePointsModel", "isVehicle", "(I)Z"⟩, 39), (⟨"ThreePointsModel", "isBoth", "(I)Z"⟩, 39), (⟨"ThreePointsModel", "canGo", "(III)Z"⟩, 39), (⟨"ThreePointsModel", "placeBy", "(III)I"⟩, 39), (⟨"ThreePointsModel", "headingBy", "(IIII)I"⟩, 39)]
theorem lw_r3 : ∀ q ∈ lw_privs_3, lw_okq q := List.forall_mem_cons.mpr ⟨lw_p32, List.forall_mem_cons.mpr ⟨lw_p33, List.forall_mem_cons.mpr ⟨lw_p34, List.forall_mem_cons.mpr ⟨lw_p35, List.forall_mem_cons.mpr ⟨lw_p36, List.forall_mem_cons.mpr ⟨lw_p37, List.forall_mem_cons.mpr ⟨lw_p38, List.forall_mem_cons.mpr ⟨lw_p39, List.forall_mem_cons.mpr ⟨lw_p40, List.forall_mem_cons.mpr ⟨lw_p41, List.forall_mem_cons.mpr ⟨lw_p42, List.forall_mem_cons.mpr ⟨lw_p43, List.forall_mem_cons.mpr ⟨lw_p44, List.forall_mem_cons.mpr ⟨lw_p45, List.forall_mem_cons.mpr ⟨lw_p46, List.forall_mem_cons.mpr ⟨lw_p47, fun _ h => absurd h List.not_mem_nil⟩⟩⟩⟩⟩⟩⟩⟩⟩⟩⟩⟩⟩⟩⟩⟩
theorem lw_p48 : lw_okq (⟨"ThreePointsModel", "turnsOf", "(III)I"⟩, 39) := ⟨⟨by decide +kernel, by decide +kernel⟩, List.mem_of_getElem? (i := 910) (by decide +kernel), List.mem_of_getElem? (i := 1175) (by decide +kernel), List.mem_of_getElem? (i := 1176) (by decide +kernel)⟩
theorem lw_p49 : lw_okq (⟨"ThreePointsModel", "goes", "(III)V"⟩, 39) := ⟨⟨by decide +kernel, by decide +kernel⟩, List.mem_of_getElem? (i := 910) (by decide +kernel), List.mem_of_getElem? (i := 1179) (by decide +kernel), List.mem_of_getElem? (i := 1180) (by decide +kernel)⟩
theorem lw_p50 : lw_okq (⟨"ThreePointsModel", "tellsLane", "(IZ)V"⟩, 39) := ⟨⟨by decide +kernel, by decide +kernel⟩, List.mem_of_getElem? (i := 910) (by decide +kernel), List.mem_of_getElem? (i := 1194) (by decide +kernel), List.mem_of_getElem? (i := 1195) (by decide +kernel)⟩
theorem lw_p51 : lw_okq (⟨"ThreePointsModel", "firstStep", "(II)I"⟩, 39) := ⟨⟨by decide +kernel, by decide +kernel⟩, List.mem_of_getElem? (i := 910) (by decide +kernel), List.mem_of_getElem? (i := 1198) (by decide +kernel), List.mem_of_getElem? (i := 1199) (by decide +kernel)⟩
theorem lw_p52 : lw_okq (⟨"ThreePointsModel", "stateOf", "(I)I"⟩, 39) := ⟨⟨by decide +kernel, by decide +kernel⟩, List.mem_of_getElem? (i := 910) (by decide +kernel), List.mem_of_getElem? (i := 1203) (by decide +kernel), List.mem_of_getElem? (i := 1204) (by decide +kernel)⟩
theorem lw_p53 : lw_okq (⟨"ThreePointsModel", "stateBehind", "(IIII)I"⟩, 39) := ⟨⟨by decide +kernel, by decide +kernel⟩, List.mem_of_getElem? (i := 910) (by decide +kernel), List.mem_of_getElem? (i := 1207) (by decide +kernel), List.mem_of_getElem? (i := 1208) (by decide +kernel)⟩
theorem lw_p54 : lw_okq (⟨"ThreePointsModel", "seeks", "(III)V"⟩, 39) := ⟨⟨by decide +kernel, by decide +kernel⟩, List.mem_of_getElem? (i := 910) (by decide +kernel), List.mem_of_getElem? (i := 1211) (by decide +kernel), List.mem_of_getElem? (i := 1212) (by decide +kernel)⟩
theorem lw_p55 : lw_okq (⟨"ThreePointsModel", "costsStep", "(IIII)I"⟩, 39) := ⟨⟨by decide +kernel, by decide +kernel⟩, List.mem_of_getElem? (i := 910) (by decide +kernel), List.mem_of_getElem? (i := 1215) (by decide +kernel), List.mem_of_getElem? (i := 1216) (by decide +kernel)⟩
theorem lw_p56 : lw_okq (⟨"ThreePointsModel", "otherOf", "(I)I"⟩, 39) := ⟨⟨by decide +kernel, by decide +kernel⟩, List.mem_of_getElem? (i := 910) (by decide +kernel), List.mem_of_getElem? (i := 1219) (by decide +kernel), List.mem_of_getElem? (i := 1220) (by decide +kernel)⟩
theorem lw_p57 : lw_okq (⟨"ThreePointsModel", "leastTo", "(I)I"⟩, 39) := ⟨⟨by decide +kernel, by decide +kernel⟩, List.mem_of_getElem? (i := 910) (by decide +kernel), List.mem_of_getElem? (i := 1223) (by decide +kernel), List.mem_of_getElem? (i := 1224) (by decide +kernel)⟩
theorem lw_p58 : lw_okq (⟨"ThreePointsModel", "fromBegin", "(III)I"⟩, 39) := ⟨⟨by decide +kernel, by decide +kernel⟩, List.mem_of_getElem? (i := 910) (by decide +kernel), List.mem_of_getElem? (i := 1234) (by decide +kernel), List.mem_of_getElem? (i := 1235) (by decide +kernel)⟩
theorem lw_p59 : lw_okq (⟨"ThreePointsModel", "sheetWrong", "(II)I"⟩, 39) := ⟨⟨by decide +kernel, by decide +kernel⟩, List.mem_of_getElem? (i := 910) (by decide +kernel), List.mem_of_getElem? (i := 1258) (by decide +kernel), List.mem_of_getElem? (i := 1259) (by decide +kernel)⟩
theorem lw_p60 : lw_okq (⟨"ThreePointsModel", "firstWrong", "(II)I"⟩, 39) := ⟨⟨by decide +kernel, by decide +kernel⟩, List.mem_of_getElem? (i := 910) (by decide +kernel), List.mem_of_getElem? (i := 1262) (by decide +kernel), List.mem_of_getElem? (i := 1263) (by decide +kernel)⟩
theorem lw_p61 : lw_okq (⟨"ThreePointsModel", "keeps", "(I)V"⟩, 39) := ⟨⟨by decide +kernel, by decide +kernel⟩, List.mem_of_getElem? (i := 910) (by decide +kernel), List.mem_of_getElem? (i := 1266) (by decide +kernel), List.mem_of_getElem? (i := 1267) (by decide +kernel)⟩
theorem lw_p62 : lw_okq (⟨"ThreePointsModel", "laysBack", "(I)V"⟩, 39) := ⟨⟨by decide +kernel, by decide +kernel⟩, List.mem_of_getElem? (i := 910) (by decide +kernel), List.mem_of_getElem? (i := 1270) (by decide +kernel), List.mem_of_getElem? (i := 1271) (by decide +kernel)⟩
theorem lw_p63 : lw_okq (⟨"ThreePointsModel", "driveBy", "(III)V"⟩, 39) := ⟨⟨by decide +kernel, by decide +kernel⟩, List.mem_of_getElem? (i := 910) (by decide +kernel), List.mem_of_getElem? (i := 1295) (by decide +kernel), List.mem_of_getElem? (i := 1296) (by decide +kernel)⟩
def lw_privs_4 : List (MethodName × Nat) := [(⟨"ThreePointsModel", "turnsOf", "(III)I"⟩, 39), (⟨"ThreePointsModel", "goes", "(III)V"⟩, 39), (⟨"ThreePointsModel", "tellsLane", "(IZ)V"⟩, 39), (⟨"ThreePointsModel", "firstStep", "(II)I"⟩, 39), (⟨"ThreePointsModel", "stateOf", "(I)I"⟩, 39), (⟨"ThreePointsModel", "stateBehind", "(IIII)I"⟩, 39), (⟨"ThreePointsModel", "seeks", "(III)V"⟩, 39), (⟨"ThreePointsModel", "costsStep", "(IIII)I"⟩, 39), (⟨"ThreePointsModel", "otherOf", "(I)I"⟩, 39), (⟨"ThreePointsModel", "leastTo", "(I)I"⟩, 39), (⟨"ThreePointsModel", "fromBegin", "(III)I"⟩, 39), (⟨"ThreePointsModel", "sheetWrong", "(II)I"⟩, 39), (⟨"ThreePointsModel", "firstWrong", "(II)I"⟩, 39), (⟨"ThreePointsModel", "keeps", "(I)V"⟩, 39), (⟨"ThreePointsModel", "laysBack", "(I)V"⟩, 39), (⟨"ThreePointsModel", "driveBy", "(III)V"⟩, 39)]
theorem lw_r4 : ∀ q ∈ lw_privs_4, lw_okq q := List.forall_mem_cons.mpr ⟨lw_p48, List.forall_mem_cons.mpr ⟨lw_p49, List.forall_mem_cons.mpr ⟨lw_p50, List.forall_mem_cons.mpr ⟨lw_p51, List.forall_mem_cons.mpr ⟨lw_p52, List.forall_mem_cons.mpr ⟨lw_p53, List.forall_mem_cons.mpr ⟨lw_p54, List.forall_mem_cons.mpr ⟨lw_p55, List.forall_mem_cons.mpr ⟨lw_p56, List.forall_mem_cons.mpr ⟨lw_p57, List.forall_mem_cons.mpr ⟨lw_p58, List.forall_mem_cons.mpr ⟨lw_p59, List.forall_mem_cons.mpr ⟨lw_p60, List.forall_mem_cons.mpr ⟨lw_p61, List.forall_mem_cons.mpr ⟨lw_p62, List.forall_mem_cons.mpr ⟨lw_p63, fun _ h => absurd h List.not_mem_nil⟩⟩⟩⟩⟩⟩⟩⟩⟩⟩⟩⟩⟩⟩⟩⟩
def lw_privs : List (MethodName × Nat) := lw_privs_1 ++ (lw_privs_2 ++ (lw_privs_3 ++ (lw_privs_4)))
def lw_tbl : List Cond := k2_sels lw_privs ++ tables_1
theorem lw_privs_ok : ∀ q ∈ lw_privs, lw_okq q := by
  show ∀ q ∈ lw_privs_1 ++ (lw_privs_2 ++ (lw_privs_3 ++ (lw_privs_4))), lw_okq q
  exact List.forall_mem_append.mpr ⟨lw_r1, List.forall_mem_append.mpr ⟨lw_r2, List.forall_mem_append.mpr ⟨lw_r3, lw_r4⟩⟩⟩
end
section
/-! Names of the classes, their fields; the kinds of objects (a kind and a number in it), where static pointers lead. Printed by wip/gen/gen02.py. -/
/-- the tables' words that hold in every state of the run -/
def xtbl : List Cond := lw_tbl.filter goodWord
theorem xtbl_in {w : Cond} (h : w ∈ xtbl) : w ∈ lw_tbl := (List.mem_filter.mp h).1
theorem xtbl_of {w : Cond} (h : w ∈ lw_tbl) (hg : goodWord w = true) : w ∈ xtbl := List.mem_filter.mpr ⟨h, hg⟩
/-- a word of the tables, by its place (behind the private methods' words) -/
theorem xtbl_at {w : Cond} (i : Nat) (h : lw_tbl[i]? = some w) (hg : goodWord w = true) : w ∈ xtbl := xtbl_of (List.mem_of_getElem? h) hg
def xR_Main : String := "ThreePoints"
def xT_Main : u_T := fun k => match k with
  | 0 => ("ThreePoints", "yard", "LThreePoints$Yard;", true)
  | 1 => ("ThreePoints", "kept", "LThreePoints$Yard;", true)
  | 2 => ("ThreePoints", "hasImage", "Z", false)
  | 3 => ("ThreePoints", "reader", "LThreePoints$Reader;", true)
  | 4 => ("ThreePoints", "texts", "[LThreePoints$Text;", true)
  | 5 => ("ThreePoints", "textCount", "I", false)
  | 6 => ("ThreePoints", "sheets", "[LThreePoints$Sheet;", true)
  | 7 => ("ThreePoints", "ride", "LThreePoints$Ride;", true)
  | _ => ("ThreePoints", "search", "LThreePoints$Search;", true)
def xy_Main : Nat → FieldType := fun k => match k with
  | 0 => .object "ThreePoints$Yard"
  | 1 => .object "ThreePoints$Yard"
  | 2 => .boolean
  | 3 => .object "ThreePoints$Reader"
  | 4 => .array (.object "ThreePoints$Text")
  | 5 => .int
  | 6 => .array (.object "ThreePoints$Sheet")
  | 7 => .object "ThreePoints$Ride"
  | _ => .object "ThreePoints$Search"
theorem xn_Main : ∀ a, a < 9 → ∀ b, b < 9 → a ≠ b → (xT_Main a).2.1 ≠ (xT_Main b).2.1 := by decide +kernel
theorem xy_Main_ok : ∀ k, k < 9 → parseFieldDescriptor (xT_Main k).2.2.1 = some (xy_Main k) := by decide +kernel
theorem xi_Main : ∀ w ∈ u_ws "ThreePoints" xT_Main 9, w ∈ xtbl := fun w h => xtbl_of ((by decide +kernel : ∀ w ∈ u_ws "ThreePoints" xT_Main 9, w ∈ lw_tbl) w h) ((by decide +kernel : ∀ w ∈ u_ws "ThreePoints" xT_Main 9, goodWord w = true) w h)
def xR_Yard : String := "ThreePoints$Yard"
def xT_Yard : u_T := fun k => match k with
  | 0 => ("ThreePoints$Yard", "lane", "LThreePoints$Lane;", true)
  | 1 => ("ThreePoints$Yard", "vehicles", "[LThreePoints$Vehicle;", true)
  | _ => ("ThreePoints$Yard", "count", "I", false)
def xy_Yard : Nat → FieldType := fun k => match k with
  | 0 => .object "ThreePoints$Lane"
  | 1 => .array (.object "ThreePoints$Vehicle")
  | _ => .int
theorem xn_Yard : ∀ a, a < 3 → ∀ b, b < 3 → a ≠ b → (xT_Yard a).2.1 ≠ (xT_Yard b).2.1 := by decide +kernel
theorem xy_Yard_ok : ∀ k, k < 3 → parseFieldDescriptor (xT_Yard k).2.2.1 = some (xy_Yard k) := by decide +kernel
theorem xi_Yard : ∀ w ∈ u_ws "ThreePoints$Yard" xT_Yard 3, w ∈ xtbl := fun w h => xtbl_of ((by decide +kernel : ∀ w ∈ u_ws "ThreePoints$Yard" xT_Yard 3, w ∈ lw_tbl) w h) ((by decide +kernel : ∀ w ∈ u_ws "ThreePoints$Yard" xT_Yard 3, goodWord w = true) w h)
def xR_Lane : String := "ThreePoints$Lane"
def xT_Lane : u_T := fun k => match k with
  | 0 => ("ThreePoints$Lane", "width", "I", false)
  | 1 => ("ThreePoints$Lane", "opening", "I", false)
  | _ => ("ThreePoints$Lane", "law", "I", false)
def xy_Lane : Nat → FieldType := fun k => match k with
  | 0 => .int
  | 1 => .int
  | _ => .int
theorem xn_Lane : ∀ a, a < 3 → ∀ b, b < 3 → a ≠ b → (xT_Lane a).2.1 ≠ (xT_Lane b).2.1 := by decide +kernel
theorem xy_Lane_ok : ∀ k, k < 3 → parseFieldDescriptor (xT_Lane k).2.2.1 = some (xy_Lane k) := by decide +kernel
theorem xi_Lane : ∀ w ∈ u_ws "ThreePoints$Lane" xT_Lane 3, w ∈ xtbl := fun w h => xtbl_of ((by decide +kernel : ∀ w ∈ u_ws "ThreePoints$Lane" xT_Lane 3, w ∈ lw_tbl) w h) ((by decide +kernel : ∀ w ∈ u_ws "ThreePoints$Lane" xT_Lane 3, goodWord w = true) w h)
def xR_Vehicle : String := "ThreePoints$Vehicle"
def xT_Vehicle : u_T := fun k => match k with
  | 0 => ("ThreePoints$Vehicle", "kind", "I", false)
  | 1 => ("ThreePoints$Vehicle", "more", "I", false)
  | 2 => ("ThreePoints$Vehicle", "place", "I", false)
  | 3 => ("ThreePoints$Vehicle", "heading", "I", false)
  | 4 => ("ThreePoints$Vehicle", "points", "I", false)
  | 5 => ("ThreePoints$Vehicle", "wear", "I", false)
  | _ => ("ThreePoints$Vehicle", "last", "I", false)
def xy_Vehicle : Nat → FieldType := fun k => match k with
  | 0 => .int
  | 1 => .int
  | 2 => .int
  | 3 => .int
  | 4 => .int
  | 5 => .int
  | _ => .int
theorem xn_Vehicle : ∀ a, a < 7 → ∀ b, b < 7 → a ≠ b → (xT_Vehicle a).2.1 ≠ (xT_Vehicle b).2.1 := by decide +kernel
theorem xy_Vehicle_ok : ∀ k, k < 7 → parseFieldDescriptor (xT_Vehicle k).2.2.1 = some (xy_Vehicle k) := by decide +kernel
theorem xi_Vehicle : ∀ w ∈ u_ws "ThreePoints$Vehicle" xT_Vehicle 7, w ∈ xtbl := fun w h => xtbl_of ((by decide +kernel : ∀ w ∈ u_ws "ThreePoints$Vehicle" xT_Vehicle 7, w ∈ lw_tbl) w h) ((by decide +kernel : ∀ w ∈ u_ws "ThreePoints$Vehicle" xT_Vehicle 7, goodWord w = true) w h)
def xR_Reader : String := "ThreePoints$Reader"
def xT_Reader : u_T := fun k => match k with
  | 0 => ("ThreePoints$Reader", "tape", "LThreePoints$Tape;", true)
  | 1 => ("ThreePoints$Reader", "draft", "LThreePoints$Text;", true)
  | 2 => ("ThreePoints$Reader", "now", "I", false)
  | 3 => ("ThreePoints$Reader", "token", "I", false)
  | _ => ("ThreePoints$Reader", "open", "I", false)
def xy_Reader : Nat → FieldType := fun k => match k with
  | 0 => .object "ThreePoints$Tape"
  | 1 => .object "ThreePoints$Text"
  | 2 => .int
  | 3 => .int
  | _ => .int
theorem xn_Reader : ∀ a, a < 5 → ∀ b, b < 5 → a ≠ b → (xT_Reader a).2.1 ≠ (xT_Reader b).2.1 := by decide +kernel
theorem xy_Reader_ok : ∀ k, k < 5 → parseFieldDescriptor (xT_Reader k).2.2.1 = some (xy_Reader k) := by decide +kernel
theorem xi_Reader : ∀ w ∈ u_ws "ThreePoints$Reader" xT_Reader 5, w ∈ xtbl := fun w h => xtbl_of ((by decide +kernel : ∀ w ∈ u_ws "ThreePoints$Reader" xT_Reader 5, w ∈ lw_tbl) w h) ((by decide +kernel : ∀ w ∈ u_ws "ThreePoints$Reader" xT_Reader 5, goodWord w = true) w h)
def xR_Tape : String := "ThreePoints$Tape"
def xT_Tape : u_T := fun k => match k with
  | 0 => ("ThreePoints$Tape", "bytes", "[I", true)
  | 1 => ("ThreePoints$Tape", "size", "I", false)
  | 2 => ("ThreePoints$Tape", "kinds", "[I", true)
  | 3 => ("ThreePoints$Tape", "starts", "[I", true)
  | 4 => ("ThreePoints$Tape", "values", "[I", true)
  | _ => ("ThreePoints$Tape", "tokens", "I", false)
def xy_Tape : Nat → FieldType := fun k => match k with
  | 0 => .array .int
  | 1 => .int
  | 2 => .array .int
  | 3 => .array .int
  | 4 => .array .int
  | _ => .int
theorem xn_Tape : ∀ a, a < 6 → ∀ b, b < 6 → a ≠ b → (xT_Tape a).2.1 ≠ (xT_Tape b).2.1 := by decide +kernel
theorem xy_Tape_ok : ∀ k, k < 6 → parseFieldDescriptor (xT_Tape k).2.2.1 = some (xy_Tape k) := by decide +kernel
theorem xi_Tape : ∀ w ∈ u_ws "ThreePoints$Tape" xT_Tape 6, w ∈ xtbl := fun w h => xtbl_of ((by decide +kernel : ∀ w ∈ u_ws "ThreePoints$Tape" xT_Tape 6, w ∈ lw_tbl) w h) ((by decide +kernel : ∀ w ∈ u_ws "ThreePoints$Tape" xT_Tape 6, goodWord w = true) w h)
def xR_Text : String := "ThreePoints$Text"
def xT_Text : u_T := fun k => match k with
  | 0 => ("ThreePoints$Text", "code", "[I", true)
  | 1 => ("ThreePoints$Text", "size", "I", false)
  | 2 => ("ThreePoints$Text", "partEnds", "[I", true)
  | _ => ("ThreePoints$Text", "stack", "[I", true)
def xy_Text : Nat → FieldType := fun k => match k with
  | 0 => .array .int
  | 1 => .int
  | 2 => .array .int
  | _ => .array .int
theorem xn_Text : ∀ a, a < 4 → ∀ b, b < 4 → a ≠ b → (xT_Text a).2.1 ≠ (xT_Text b).2.1 := by decide +kernel
theorem xy_Text_ok : ∀ k, k < 4 → parseFieldDescriptor (xT_Text k).2.2.1 = some (xy_Text k) := by decide +kernel
theorem xi_Text : ∀ w ∈ u_ws "ThreePoints$Text" xT_Text 4, w ∈ xtbl := fun w h => xtbl_of ((by decide +kernel : ∀ w ∈ u_ws "ThreePoints$Text" xT_Text 4, w ∈ lw_tbl) w h) ((by decide +kernel : ∀ w ∈ u_ws "ThreePoints$Text" xT_Text 4, goodWord w = true) w h)
def xR_Sheet : String := "ThreePoints$Sheet"
def xT_Sheet : u_T := fun k => match k with
  | 0 => ("ThreePoints$Sheet", "numbers", "[I", true)
  | 1 => ("ThreePoints$Sheet", "sort", "I", false)
  | _ => ("ThreePoints$Sheet", "size", "I", false)
def xy_Sheet : Nat → FieldType := fun k => match k with
  | 0 => .array .int
  | 1 => .int
  | _ => .int
theorem xn_Sheet : ∀ a, a < 3 → ∀ b, b < 3 → a ≠ b → (xT_Sheet a).2.1 ≠ (xT_Sheet b).2.1 := by decide +kernel
theorem xy_Sheet_ok : ∀ k, k < 3 → parseFieldDescriptor (xT_Sheet k).2.2.1 = some (xy_Sheet k) := by decide +kernel
theorem xi_Sheet : ∀ w ∈ u_ws "ThreePoints$Sheet" xT_Sheet 3, w ∈ xtbl := fun w h => xtbl_of ((by decide +kernel : ∀ w ∈ u_ws "ThreePoints$Sheet" xT_Sheet 3, w ∈ lw_tbl) w h) ((by decide +kernel : ∀ w ∈ u_ws "ThreePoints$Sheet" xT_Sheet 3, goodWord w = true) w h)
def xR_Ride : String := "ThreePoints$Ride"
def xT_Ride : u_T := fun k => match k with
  | 0 => ("ThreePoints$Ride", "lane", "LThreePoints$Lane;", true)
  | 1 => ("ThreePoints$Ride", "vehicle", "LThreePoints$Vehicle;", true)
  | 2 => ("ThreePoints$Ride", "law", "LThreePoints$Text;", false)
  | _ => ("ThreePoints$Ride", "names", "[I", true)
def xy_Ride : Nat → FieldType := fun k => match k with
  | 0 => .object "ThreePoints$Lane"
  | 1 => .object "ThreePoints$Vehicle"
  | 2 => .object "ThreePoints$Text"
  | _ => .array .int
theorem xn_Ride : ∀ a, a < 4 → ∀ b, b < 4 → a ≠ b → (xT_Ride a).2.1 ≠ (xT_Ride b).2.1 := by decide +kernel
theorem xy_Ride_ok : ∀ k, k < 4 → parseFieldDescriptor (xT_Ride k).2.2.1 = some (xy_Ride k) := by decide +kernel
theorem xi_Ride : ∀ w ∈ u_ws "ThreePoints$Ride" xT_Ride 4, w ∈ xtbl := fun w h => xtbl_of ((by decide +kernel : ∀ w ∈ u_ws "ThreePoints$Ride" xT_Ride 4, w ∈ lw_tbl) w h) ((by decide +kernel : ∀ w ∈ u_ws "ThreePoints$Ride" xT_Ride 4, goodWord w = true) w h)
def xR_Search : String := "ThreePoints$Search"
def xT_Search : u_T := fun k => match k with
  | 0 => ("ThreePoints$Search", "goal", "I", false)
  | 1 => ("ThreePoints$Search", "fitting", "[Z", true)
  | 2 => ("ThreePoints$Search", "costs", "[I", true)
  | 3 => ("ThreePoints$Search", "heads", "[I", true)
  | 4 => ("ThreePoints$Search", "nexts", "[I", true)
  | 5 => ("ThreePoints$Search", "previous", "[I", true)
  | 6 => ("ThreePoints$Search", "waiting", "I", false)
  | _ => ("ThreePoints$Search", "firstStep", "I", false)
def xy_Search : Nat → FieldType := fun k => match k with
  | 0 => .int
  | 1 => .array .boolean
  | 2 => .array .int
  | 3 => .array .int
  | 4 => .array .int
  | 5 => .array .int
  | 6 => .int
  | _ => .int
theorem xn_Search : ∀ a, a < 8 → ∀ b, b < 8 → a ≠ b → (xT_Search a).2.1 ≠ (xT_Search b).2.1 := by decide +kernel
theorem xy_Search_ok : ∀ k, k < 8 → parseFieldDescriptor (xT_Search k).2.2.1 = some (xy_Search k) := by decide +kernel
theorem xi_Search : ∀ w ∈ u_ws "ThreePoints$Search" xT_Search 8, w ∈ xtbl := fun w h => xtbl_of ((by decide +kernel : ∀ w ∈ u_ws "ThreePoints$Search" xT_Search 8, w ∈ lw_tbl) w h) ((by decide +kernel : ∀ w ∈ u_ws "ThreePoints$Search" xT_Search 8, goodWord w = true) w h)
def xR_Model : String := "ThreePointsModel"
def xT_Model : u_T := fun k => match k with
  | 0 => ("ThreePointsModel", "across", "[I", true)
  | 1 => ("ThreePointsModel", "width", "I", false)
  | 2 => ("ThreePointsModel", "opening", "I", false)
  | 3 => ("ThreePointsModel", "vehicles", "I", false)
  | 4 => ("ThreePointsModel", "kind", "[I", true)
  | 5 => ("ThreePointsModel", "moreOf", "[I", true)
  | 6 => ("ThreePointsModel", "rows", "[I", true)
  | 7 => ("ThreePointsModel", "tape", "[I", true)
  | 8 => ("ThreePointsModel", "taped", "I", false)
  | 9 => ("ThreePointsModel", "codes", "[I", true)
  | 10 => ("ThreePointsModel", "starts", "[I", true)
  | 11 => ("ThreePointsModel", "texts", "I", false)
  | 12 => ("ThreePointsModel", "rule", "I", false)
  | 13 => ("ThreePointsModel", "hasImage", "Z", false)
  | 14 => ("ThreePointsModel", "imageRows", "[I", true)
  | 15 => ("ThreePointsModel", "imageHeld", "[I", true)
  | 16 => ("ThreePointsModel", "sheetSort", "[I", true)
  | 17 => ("ThreePointsModel", "sheetSize", "[I", true)
  | 18 => ("ThreePointsModel", "cells", "[I", true)
  | 19 => ("ThreePointsModel", "law", "[I", true)
  | 20 => ("ThreePointsModel", "at", "I", false)
  | 21 => ("ThreePointsModel", "begun", "I", false)
  | 22 => ("ThreePointsModel", "token", "I", false)
  | 23 => ("ThreePointsModel", "value", "I", false)
  | 24 => ("ThreePointsModel", "words", "[I", true)
  | 25 => ("ThreePointsModel", "held", "[I", true)
  | 26 => ("ThreePointsModel", "heldMany", "I", false)
  | 27 => ("ThreePointsModel", "opens", "I", false)
  | 28 => ("ThreePointsModel", "out", "I", false)
  | 29 => ("ThreePointsModel", "stack", "[I", true)
  | 30 => ("ThreePointsModel", "named", "[I", true)
  | 31 => ("ThreePointsModel", "fitsIn", "[Z", true)
  | 32 => ("ThreePointsModel", "wearIn", "[I", true)
  | 33 => ("ThreePointsModel", "dist", "[I", true)
  | 34 => ("ThreePointsModel", "queued", "[Z", true)
  | 35 => ("ThreePointsModel", "queue", "[I", true)
  | 36 => ("ThreePointsModel", "kept", "[I", true)
  | 37 => ("ThreePointsModel", "last", "[I", true)
  | _ => ("ThreePointsModel", "hitsIn", "I", false)
def xy_Model : Nat → FieldType := fun k => match k with
  | 0 => .array .int
  | 1 => .int
  | 2 => .int
  | 3 => .int
  | 4 => .array .int
  | 5 => .array .int
  | 6 => .array .int
  | 7 => .array .int
  | 8 => .int
  | 9 => .array .int
  | 10 => .array .int
  | 11 => .int
  | 12 => .int
  | 13 => .boolean
  | 14 => .array .int
  | 15 => .array .int
  | 16 => .array .int
  | 17 => .array .int
  | 18 => .array .int
  | 19 => .array .int
  | 20 => .int
  | 21 => .int
  | 22 => .int
  | 23 => .int
  | 24 => .array .int
  | 25 => .array .int
  | 26 => .int
  | 27 => .int
  | 28 => .int
  | 29 => .array .int
  | 30 => .array .int
  | 31 => .array .boolean
  | 32 => .array .int
  | 33 => .array .int
  | 34 => .array .boolean
  | 35 => .array .int
  | 36 => .array .int
  | 37 => .array .int
  | _ => .int
theorem xn_Model : ∀ a, a < 39 → ∀ b, b < 39 → a ≠ b → (xT_Model a).2.1 ≠ (xT_Model b).2.1 := by decide +kernel
theorem xy_Model_ok : ∀ k, k < 39 → parseFieldDescriptor (xT_Model k).2.2.1 = some (xy_Model k) := by decide +kernel
theorem xi_Model : ∀ w ∈ u_ws "ThreePointsModel" xT_Model 39, w ∈ xtbl := fun w h => xtbl_of ((by decide +kernel : ∀ w ∈ u_ws "ThreePointsModel" xT_Model 39, w ∈ lw_tbl) w h) ((by decide +kernel : ∀ w ∈ u_ws "ThreePointsModel" xT_Model 39, goodWord w = true) w h)
def xcl : List vw_C := [("ThreePoints", xT_Main, 9), ("ThreePoints$Yard", xT_Yard, 3), ("ThreePoints$Lane", xT_Lane, 3), ("ThreePoints$Vehicle", xT_Vehicle, 7), ("ThreePoints$Reader", xT_Reader, 5), ("ThreePoints$Tape", xT_Tape, 6), ("ThreePoints$Text", xT_Text, 4), ("ThreePoints$Sheet", xT_Sheet, 3), ("ThreePoints$Ride", xT_Ride, 4), ("ThreePoints$Search", xT_Search, 8), ("ThreePointsModel", xT_Model, 39)]
/-- what a kind is: 0 an object of class a with n fields, 1 a row of n ints, 2 of n booleans, 3 .. 5 of n references -/
def xsh (kd : Nat) : Nat × Nat × Nat := match kd with
  | 0 => (0, 0, 9)
  | 1 => (0, 1, 3)
  | 2 => (0, 2, 3)
  | 3 => (0, 3, 7)
  | 4 => (3, 0, 4)
  | 5 => (0, 4, 5)
  | 6 => (0, 5, 6)
  | 7 => (1, 0, 160)
  | 8 => (1, 0, 160)
  | 9 => (1, 0, 160)
  | 10 => (1, 0, 160)
  | 11 => (0, 6, 4)
  | 12 => (1, 0, 160)
  | 13 => (1, 0, 3)
  | 14 => (1, 0, 160)
  | 15 => (4, 0, 6)
  | 16 => (0, 7, 3)
  | 17 => (1, 0, 40)
  | 18 => (5, 0, 4)
  | 19 => (0, 8, 4)
  | 20 => (1, 0, 6)
  | 21 => (0, 9, 8)
  | 22 => (2, 0, 976)
  | 23 => (1, 0, 1952)
  | 24 => (1, 0, 128)
  | 25 => (1, 0, 1952)
  | 26 => (1, 0, 1952)
  | 30 => (0, 10, 39)
  | 31 => (1, 0, 16)
  | 32 => (1, 0, 4)
  | 33 => (1, 0, 4)
  | 34 => (1, 0, 20)
  | 35 => (1, 0, 160)
  | 36 => (1, 0, 1200)
  | 37 => (1, 0, 24)
  | 38 => (1, 0, 20)
  | 39 => (1, 0, 4)
  | 40 => (1, 0, 4)
  | 41 => (1, 0, 4)
  | 42 => (1, 0, 160)
  | 43 => (1, 0, 39)
  | 44 => (1, 0, 96)
  | 45 => (1, 0, 200)
  | 46 => (1, 0, 200)
  | 47 => (1, 0, 6)
  | 48 => (2, 0, 976)
  | 49 => (1, 0, 1952)
  | 50 => (1, 0, 2928)
  | 51 => (2, 0, 2928)
  | 52 => (1, 0, 2928)
  | 53 => (1, 0, 5)
  | 54 => (1, 0, 5)
  | _ => (9, 0, 0)
/-- where the final reference in field k of kind kd leads: a kind, and a number by the number -/
def xsp (kd k : Nat) : Option (Nat × (Nat → Nat)) := match kd, k with
  | 0, 0 => some (1, fun _ => 0)
  | 0, 1 => some (1, fun _ => 1)
  | 0, 3 => some (5, fun _ => 0)
  | 0, 4 => some (15, fun _ => 0)
  | 0, 6 => some (18, fun _ => 0)
  | 0, 7 => some (19, fun _ => 0)
  | 0, 8 => some (21, fun _ => 0)
  | 1, 0 => some (2, fun i => i)
  | 1, 1 => some (4, fun i => i)
  | 5, 0 => some (6, fun _ => 0)
  | 5, 1 => some (11, fun _ => 6)
  | 6, 0 => some (7, fun _ => 0)
  | 6, 2 => some (8, fun _ => 0)
  | 6, 3 => some (9, fun _ => 0)
  | 6, 4 => some (10, fun _ => 0)
  | 11, 0 => some (12, fun i => i)
  | 11, 2 => some (13, fun i => i)
  | 11, 3 => some (14, fun i => i)
  | 16, 0 => some (17, fun i => i)
  | 19, 0 => some (2, fun _ => 2)
  | 19, 1 => some (3, fun _ => 8)
  | 19, 3 => some (20, fun _ => 0)
  | 21, 1 => some (22, fun _ => 0)
  | 21, 2 => some (23, fun _ => 0)
  | 21, 3 => some (24, fun _ => 0)
  | 21, 4 => some (25, fun _ => 0)
  | 21, 5 => some (26, fun _ => 0)
  | 30, 0 => some (31, fun _ => 0)
  | 30, 4 => some (32, fun _ => 0)
  | 30, 5 => some (33, fun _ => 0)
  | 30, 6 => some (34, fun _ => 0)
  | 30, 7 => some (35, fun _ => 0)
  | 30, 9 => some (36, fun _ => 0)
  | 30, 10 => some (37, fun _ => 0)
  | 30, 14 => some (38, fun _ => 0)
  | 30, 15 => some (39, fun _ => 0)
  | 30, 16 => some (40, fun _ => 0)
  | 30, 17 => some (41, fun _ => 0)
  | 30, 18 => some (42, fun _ => 0)
  | 30, 19 => some (43, fun _ => 0)
  | 30, 24 => some (44, fun _ => 0)
  | 30, 25 => some (45, fun _ => 0)
  | 30, 29 => some (46, fun _ => 0)
  | 30, 30 => some (47, fun _ => 0)
  | 30, 31 => some (48, fun _ => 0)
  | 30, 32 => some (49, fun _ => 0)
  | 30, 33 => some (50, fun _ => 0)
  | 30, 34 => some (51, fun _ => 0)
  | 30, 35 => some (52, fun _ => 0)
  | 30, 36 => some (53, fun _ => 0)
  | 30, 37 => some (54, fun _ => 0)
  | _, _ => none
/-- the kind of what a row of references holds, and the number at j -/
def xra (kd : Nat) : Nat × (Nat → Nat → Nat) := match kd with
  | 4 => (3, fun i j => 4 * i + j)
  | 15 => (11, fun _ j => j)
  | 18 => (16, fun _ j => j)
  | _ => (99, fun _ j => j)
def xLC : List (Nat × Nat) := [(0, 0), (1, 0), (1, 1), (2, 0), (2, 1), (2, 2), (3, 0), (3, 1), (3, 2), (3, 3), (3, 4), (3, 5), (3, 6), (3, 7), (3, 8), (4, 0), (4, 1), (5, 0), (6, 0), (7, 0), (8, 0), (9, 0), (10, 0), (11, 0), (11, 1), (11, 2), (11, 3), (11, 4), (11, 5), (11, 6), (12, 0), (12, 1), (12, 2), (12, 3), (12, 4), (12, 5), (12, 6), (13, 0), (13, 1), (13, 2), (13, 3), (13, 4), (13, 5), (13, 6), (14, 0), (14, 1), (14, 2), (14, 3), (14, 4), (14, 5), (14, 6), (15, 0), (16, 0), (16, 1), (16, 2), (16, 3), (17, 0), (17, 1), (17, 2), (17, 3), (18, 0), (19, 0), (20, 0), (21, 0), (22, 0), (23, 0), (24, 0), (25, 0), (26, 0)]
def xLM : List (Nat × Nat) := [(30, 0), (31, 0), (32, 0), (33, 0), (34, 0), (35, 0), (36, 0), (37, 0), (38, 0), (39, 0), (40, 0), (41, 0), (42, 0), (43, 0), (44, 0), (45, 0), (46, 0), (47, 0), (48, 0), (49, 0), (50, 0), (51, 0), (52, 0), (53, 0), (54, 0)]
end
section
/-! THE MACHINE'S STATE AS PURE VALUES: a value is an int, a long, null or a reference (a kind, a number in it); the heap is a function of kind, number, slot. 'Gp' says of a place in a method: from any machine state that looks so, the method goes on and returns, with Q of its value and the heap. The rules g_.. turn Gp at an instruction into Gp at the next. -/
abbrev AV : Type := Int32 ⊕ (Int64 ⊕ Option (Nat × Nat))
abbrev HH : Type := Nat → Nat → Nat → Int32
abbrev vi (x : Int32) : AV := Sum.inl x
abbrev vl (x : Int64) : AV := Sum.inr (Sum.inl x)
abbrev vn : AV := Sum.inr (Sum.inr none)
abbrev vr (k i : Nat) : AV := Sum.inr (Sum.inr (some (k, i)))
def cv (ad : Nat → Nat → Nat) (v : AV) : Value := match v with
  | .inl x => .int x
  | .inr (.inl x) => .long x
  | .inr (.inr none) => .null
  | .inr (.inr (some (k, i))) => .ref (ad k i)
/-- one slot of one object becomes x -/
def hu (H : HH) (kd ix k : Nat) (x : Int32) : HH := fun a b c => if a = kd ∧ b = ix ∧ c = k then x else H a b c
/-- one object's slots become f -/
def hrow (H : HH) (kd ix : Nat) (f : Nat → Int32) : HH := fun a b => if a = kd ∧ b = ix then f else H a b
/-- what field k of an object holds, as a value -/
def xld (kd ix k : Nat) (x : Int32) : AV := match xsp kd k with
  | some t => vr t.1 (t.2 ix)
  | none => if kd = 19 ∧ k = 2 then (if 0 < x ∧ x < 8 then vr 11 (x.toNatClampNeg - 1) else vn) else vi x
def xcell (cid : Nat → ClassId) (ad : Nat → Nat → Nat) (kd ix : Nat) (f : Nat → Int32) : va_E := match xsh kd with
  | (0, ci, n) => .inr (ci, (List.range n).map fun k => cv ad (xld kd ix k (f k)))
  | (1, _, n) => .inl (cid 0, n, .inl f)
  | (2, _, n) => .inl (cid 1, n, .inl f)
  | (t, _, n) => .inl (cid (t - 1), n, .inr (.inr (.inr (.inr fun j => some (ad (xra kd).1 ((xra kd).2 ix j))))))
def xw (cid : Nat → ClassId) (ad : Nat → Nat → Nat) (Lc : List (Nat × Nat)) (H : HH) : va_W := Lc.map fun q => (ad q.1 q.2, xcell cid ad q.1 q.2 (H q.1 q.2))
def xtys (cid : Nat → ClassId) : List (ClassId × FieldType) := [(cid 0, .int), (cid 1, .boolean), (cid 2, .object "ThreePoints$Vehicle"), (cid 3, .object "ThreePoints$Text"), (cid 4, .object "ThreePoints$Sheet")]
def xrm (d : Nat) : Room := { frames := d, cells := 0, slots := 0, locals := d * 64 }
/-- rows that never change: which kinds they are (62 ACROSS, 63 BOUNDS, 64 ABOVE; 60 the texts, 61 their bytes) -/
def xACR : List Int32 := [0, 3, 6, 7, 8, 7, 6, 3, 0, -3, -6, -7, -8, -7, -6, -3]
def xBND : List Int32 := [9, 99, 100]
def xABV : List Int32 := [-1, 0, 0, 1, 2, 0]
abbrev vstr (a b c d e f g h i j k l m n : List Int32) : List (List Int32) := [a, b, c, d, e, f, g, h, i, j, k, l, m, n]
section STAT
variable (ad : Nat → Nat → Nat) (tx : List (List Int32))
def xStat (A : Nat → Prop) (U : State) (H : Heap) : Prop :=
  va_Z "ThreePoints" "ACROSS" "[I" (.ref (ad 62 0)) A U H ∧ va_T .int (ad 62 0) 16 (fun j => .int (xACR.getD j 0)) A U H ∧
  va_Z "ThreePoints$Text" "BOUNDS" "[I" (.ref (ad 63 0)) A U H ∧ va_T .int (ad 63 0) 3 (fun j => .int (xBND.getD j 0)) A U H ∧
  va_Z "ThreePoints$Vehicle" "ABOVE" "[I" (.ref (ad 64 0)) A U H ∧ va_T .int (ad 64 0) 6 (fun j => .int (xABV.getD j 0)) A U H ∧
  va_Z "java/lang/String" "COMPACT_STRINGS" "Z" (.int 1) A U H ∧ vk_S tx.length (tx.map List.length) tx (ad 60) (ad 61) A U H
theorem xStat.moved {A : Nat → Prop} {u U : State} {H : Heap} (hvm : u.vm.Alike U.vm) (h : xStat ad tx A u H) : xStat ad tx A U H := by
  obtain ⟨h1, h2, h3, h4, h5, h6, h7, h8⟩ := h
  exact ⟨h1.moved hvm, h2.moved hvm, h3.moved hvm, h4.moved hvm, h5.moved hvm, h6.moved hvm, h7.moved hvm, h8.moved hvm⟩
theorem xStat.kept {A : Nat → Prop} {U : State} {H H1 : Heap} (h : xStat ad tx A U H) (hq : ∀ a : Nat, a < H.size → ¬ A a → H1[a]? = H[a]?) : xStat ad tx A U H1 := by
  obtain ⟨h1, h2, h3, h4, h5, h6, h7, h8⟩ := h
  exact ⟨h1.kept hq, h2.kept hq, h3.kept hq, h4.kept hq, h5.kept hq, h6.kept hq, h7.kept hq, h8.kept hq⟩
theorem xStat.narrow {A B : Nat → Prop} {U : State} {H : Heap} (h : xStat ad tx A U H) (hAB : ∀ q, B q → A q) : xStat ad tx B U H := by
  obtain ⟨h1, h2, h3, h4, h5, h6, h7, h8⟩ := h
  exact ⟨h1.narrow hAB, h2.narrow hAB, h3.narrow hAB, h4.narrow hAB, h5.narrow hAB, h6.narrow hAB, h7.narrow hAB, h8.narrow hAB⟩
end STAT
/-- the locals, by place: a value that is held, or nothing that is known -/
def lcv (ad : Nat → Nat → Nat) : Nat → List (Option AV) → List (Nat × Value)
  | _, [] => []
  | i, some v :: r => (i, cv ad v) :: lcv ad (i + 1) r
  | i, none :: r => lcv ad (i + 1) r
theorem mem_lcv {ad : Nat → Nat → Nat} {q : Nat × Value} : ∀ {ls : List (Option AV)} {j : Nat}, q ∈ lcv ad j ls ↔ ∃ (k : Nat) (v : AV), ls[k]? = some (some v) ∧ q = (j + k, cv ad v) := by
  intro ls
  induction ls with
  | nil => intro j; simp [lcv]
  | cons o r ih =>
    intro j
    cases o with
    | none =>
      rw [lcv, ih]
      constructor
      · rintro ⟨k, v, h, e⟩
        exact ⟨k + 1, v, by simpa using h, by rw [e]; congr 1; omega⟩
      · rintro ⟨k, v, h, e⟩
        cases k with
        | zero => simp at h
        | succ k => exact ⟨k, v, by simpa using h, by rw [e]; congr 1; omega⟩
    | some w =>
      rw [lcv, List.mem_cons, ih]
      constructor
      · rintro (rfl | ⟨k, v, h, e⟩)
        · exact ⟨0, w, by simp, rfl⟩
        · exact ⟨k + 1, v, by simpa using h, by rw [e]; congr 1; omega⟩
      · rintro ⟨k, v, h, e⟩
        cases k with
        | zero =>
          have hv : w = v := by simpa using h
          subst hv
          exact Or.inl e
        | succ k => exact Or.inr ⟨k, v, by simpa using h, by rw [e]; congr 1; omega⟩
theorem lv_mono {ls : Array Slot} {nL : Nat} {l l' : List (Nat × Value)} (h : lv_has ls nL l) (hs : ∀ q ∈ l', q ∈ l) : lv_has ls nL l' := ⟨h.1, h.2.1, fun q hq => h.2.2 q (hs q hq)⟩
/-- is the value at place i - 1 no long -/
def xnl (ls : List (Option AV)) (i : Nat) : Bool := match i with
  | 0 => true
  | k + 1 => match ls[k]? with
    | some (some (.inr (.inl _))) => false
    | _ => true
theorem cv_cat {ad : Nat → Nat → Nat} {v : AV} (h : (cv ad v).category = 2) : ∃ x, v = vl x := by
  rcases v with x | x | _ | ⟨k, i⟩
  · simp [cv, Value.category] at h
  · exact ⟨x, rfl⟩
  · simp [cv, Value.category] at h
  · simp [cv, Value.category] at h
theorem lcv_store {ad : Nat → Nat → Nat} {ls : List (Option AV)} {i : Nat} {v : AV} (hnl : xnl ls i = true) : ∀ q ∈ lcv ad 0 (ls.set i (some v)), q ∈ (i, cv ad v) :: (lcv ad 0 ls).filter (fun q => !(q.1 == i) && !(q.1 + 1 == i && q.2.category == 2)) := by
  intro q hq
  obtain ⟨k, w, h, rfl⟩ := mem_lcv.mp hq
  rw [Nat.zero_add]
  by_cases hk : i = k
  · subst hk
    rw [List.getElem?_set] at h
    by_cases hl : i < ls.length
    · simp [hl] at h
      subst h
      exact List.mem_cons_self
    · simp [hl] at h
  · rw [List.getElem?_set_ne hk] at h
    refine List.mem_cons_of_mem _ (List.mem_filter.mpr ⟨mem_lcv.mpr ⟨k, w, h, by rw [Nat.zero_add]⟩, ?_⟩)
    have h1 : ¬ k = i := fun e => hk e.symm
    simp only [Bool.and_eq_true, Bool.not_eq_true', beq_eq_false_iff_ne, ne_eq, h1, not_false_eq_true, true_and, Bool.and_eq_false_iff]
    by_cases h2 : k + 1 = i
    · right
      by_cases hc : (cv ad w).category = 2
      · obtain ⟨x, rfl⟩ := cv_cat hc
        subst h2
        simp [xnl, h] at hnl
      · simp [hc]
    · left
      exact h2
theorem lcv_store2 {ad : Nat → Nat → Nat} {ls : List (Option AV)} {i : Nat} {v : AV} (hnl : xnl ls i = true) : ∀ q ∈ lcv ad 0 ((ls.set i (some v)).set (i + 1) none), q ∈ (i, cv ad v) :: (lcv ad 0 ls).filter (fun q => !(q.1 == i) && (!(q.1 == i + 1) && !(q.1 + 1 == i && q.2.category == 2))) := by
  intro q hq
  obtain ⟨k, w, h, rfl⟩ := mem_lcv.mp hq
  have hk1 : ¬ i + 1 = k := by
    intro e
    subst e
    rw [List.getElem?_set] at h
    by_cases hl : i + 1 < (ls.set i (some v)).length
    · simp [hl] at h
    · simp [hl] at h
  rw [List.getElem?_set_ne hk1] at h
  have hm := lcv_store (ad := ad) hnl _ (mem_lcv.mpr ⟨k, w, h, rfl⟩)
  rcases List.mem_cons.mp hm with e | hm
  · rw [e]; exact List.mem_cons_self
  · refine List.mem_cons_of_mem _ (List.mem_filter.mpr ⟨(List.mem_filter.mp hm).1, ?_⟩)
    have h2 := (List.mem_filter.mp hm).2
    have h1 : ¬ (0 + k = i + 1) := by omega
    simp only [Bool.and_eq_true] at h2 ⊢
    refine ⟨h2.1, ?_, h2.2⟩
    simpa using (show ¬ k = i + 1 by omega)
/-- a method's locals at its start: a long takes two places -/
def xent : List AV → List (Option AV)
  | [] => []
  | .inr (.inl x) :: r => some (vl x) :: none :: xent r
  | v :: r => some v :: xent r
theorem xent_args {ad : Nat → Nat → Nat} : ∀ (vs : List AV) (i : Nat), lcv ad i (xent vs) = lv_args i (vs.map (cv ad)) := by
  intro vs
  induction vs with
  | nil => intro i; rfl
  | cons v r ih =>
    intro i
    rcases v with x | x | _ | ⟨k, j⟩
    · show _ :: lcv ad (i + 1) (xent r) = _
      rw [ih]
      simp [lv_args, cv, Value.category]
    · show _ :: lcv ad (i + 1 + 1) (xent r) = _
      rw [ih]
      simp [lv_args, cv, Value.category]
    · show _ :: lcv ad (i + 1) (xent r) = _
      rw [ih]
      simp [lv_args, cv, Value.category]
    · show _ :: lcv ad (i + 1) (xent r) = _
      rw [ih]
      simp [lv_args, cv, Value.category]
end
section
/-! 'Gp': from any machine state that looks like (pc, ls, st, H) in a frame of that method, it goes on and returns, with Q of its value and the heap; its room is xrm d. -/
def xok (Lc : List (Nat × Nat)) (nT : Nat) (v : AV) : Prop := match v with
  | .inr (.inr (some (k, i))) => (k, i) ∈ Lc ∨ (60 ≤ k ∧ k ≤ 61 ∧ i < nT) ∨ (62 ≤ k ∧ i = 0)
  | _ => True
def xoks (Lc : List (Nat × Nat)) (nT : Nat) (ls : List (Option AV)) (st : List AV) : Prop := (∀ v, some v ∈ ls → xok Lc nT v) ∧ ∀ v ∈ st, xok Lc nT v
theorem xoks.push {Lc : List (Nat × Nat)} {nT : Nat} {ls : List (Option AV)} {st : List AV} {v : AV} (h : xoks Lc nT ls st) (hv : xok Lc nT v) : xoks Lc nT ls (v :: st) := ⟨h.1, fun w hw => (List.mem_cons.mp hw).elim (fun e => e ▸ hv) (h.2 w)⟩
theorem xoks.pop {Lc : List (Nat × Nat)} {nT : Nat} {ls : List (Option AV)} {st : List AV} {v : AV} (h : xoks Lc nT ls (v :: st)) : xoks Lc nT ls st := ⟨h.1, fun w hw => h.2 w (List.mem_cons_of_mem _ hw)⟩
theorem xoks.top {Lc : List (Nat × Nat)} {nT : Nat} {ls : List (Option AV)} {st : List AV} {v : AV} (h : xoks Lc nT ls (v :: st)) : xok Lc nT v := h.2 v List.mem_cons_self
theorem xoks.loc {Lc : List (Nat × Nat)} {nT : Nat} {ls : List (Option AV)} {st : List AV} {v : AV} {i : Nat} (h : xoks Lc nT ls st) (hi : ls[i]? = some (some v)) : xok Lc nT v := h.1 v (List.mem_of_getElem? hi)
theorem xoks.set {Lc : List (Nat × Nat)} {nT : Nat} {ls : List (Option AV)} {st : List AV} {v : AV} {i : Nat} (h : xoks Lc nT ls st) (hv : xok Lc nT v) : xoks Lc nT (ls.set i (some v)) st := by
  refine ⟨fun w hw => ?_, h.2⟩
  rcases List.mem_or_eq_of_mem_set hw with q | q
  · exact h.1 w q
  · cases q
    exact hv
theorem xoks.unset {Lc : List (Nat × Nat)} {nT : Nat} {ls : List (Option AV)} {st : List AV} {i : Nat} (h : xoks Lc nT ls st) : xoks Lc nT (ls.set i none) st := by
  refine ⟨fun w hw => ?_, h.2⟩
  rcases List.mem_or_eq_of_mem_set hw with q | q
  · exact h.1 w q
  · cases q
/-- the layout: no object twice, kinds under 60, where references lead is in it -/
def xclo (Lc : List (Nat × Nat)) (nT : Nat) : Prop := Lc.Nodup ∧ (∀ q ∈ Lc, q.1 < 60) ∧ (∀ q ∈ Lc, ∀ k x, xok Lc nT (xld q.1 q.2 k x)) ∧ ∀ q ∈ Lc, 3 ≤ (xsh q.1).1 → ∀ j, j < (xsh q.1).2.2 → xok Lc nT (vr (xra q.1).1 ((xra q.1).2 q.2 j))
/-- nest mates' methods that are called: whose entry, which, what, the host -/
def xNST : List (String × Nat × MethodName × String) := [("ThreePoints$Ride", 49, ⟨"ThreePoints", "across", "(I)I"⟩, "ThreePoints"), ("ThreePoints$Sheet", 41, ⟨"ThreePoints", "isWithin", "(III)Z"⟩, "ThreePoints")]
section GP
variable (l : Launch) (cid : Nat → ClassId) (D : va_G) (ad : Nat → Nat → Nat) (tx : List (List Int32)) (rf : List (String × Nat × String)) (Lc : List (Nat × Nat))
def xRefs (U : State) : Prop := (∀ i r, rf[i]? = some r → vk_R r.1 r.2.1 r.2.2 (ad 60 i) U) ∧ ∀ q ∈ xNST, va_Nw (.methodLinkNest q.1 q.2.1 q.2.2.1 q.2.2.2) U
def xC (p : Program) (c : Code) (meth : Method) (s : State) (m : MethodId) (args : Array Value) (R : Room) (A : Nat → Prop) (d : Nat) (own : String) (b : ByteArray) (nL : Nat) (ret : Option FieldType) : Prop :=
  p.tables.exec = Jvm.exec ∧ c.code = b ∧ c.maxLocals = nL ∧ meth.sig.returnType = ret ∧ s.vm.findClass own = some m.cls ∧ meth.locks = false ∧ (∀ w ∈ xtbl, w.before args s = true) ∧ R = xrm d ∧
  va_K D xcl (xtys cid) s ∧ xStat ad tx A s s.heap ∧ xRefs ad rf s ∧ (∀ q, s.heap.size ≤ q → A q) ∧ xclo Lc tx.length
def xrt (ret : Option FieldType) (v : AV) : Option Value := match ret with
  | none => none
  | some _ => some (cv ad v)
def xQ (ret : Option FieldType) (Q : AV → HH → Prop) (A : Nat → Prop) : Array Value → State → Outcome → State → Prop := fun _ st oc t =>
  ∃ v H', oc = .returned (xrt ad ret v) ∧ xok Lc tx.length v ∧ Q v H' ∧ va_P D xcl (xw cid ad Lc H') t.heap ∧ va_F A st t
def Gp (d : Nat) (own : String) (b : ByteArray) (nL : Nat) (ret : Option FieldType) (pc : Nat) (ls : List (Option AV)) (st : List AV) (H : HH) (Q : AV → HH → Prop) : Prop :=
  ∀ (p : Program) (e : Env) (R : Room) (s : State) (m : MethodId) (args : Array Value) (below : List Frame) (meth : Method) (c : Code) (Hc : Heap) (locs : List Loc) (lsC : Array Slot) (A : Nat → Prop),
    xC cid D ad tx rf Lc p c meth s m args R A d own b nL ret → xoks Lc tx.length ls st → va_P D xcl (xw cid ad Lc H) Hc → va_D A (xw cid ad Lc H) → va_S A s.heap Hc locs → lv_has lsC nL (lcv ad 0 ls) →
    W p l e R s m args below meth c Hc locs 0 0 (MQ below (xQ cid D ad tx Lc ret Q A) args s 0 0 A) (F0 m pc lsC (st.map (cv ad)))
end GP
section XW
variable {cid : Nat → ClassId} {D : va_G} {ad : Nat → Nat → Nat} {Lc : List (Nat × Nat)} {H : HH} {A : Nat → Prop} {Hc : Heap}
theorem xw_at {kd ix : Nat} (h : (kd, ix) ∈ Lc) : ∃ q0 : Nat, Lc[q0]? = some (kd, ix) ∧ (xw cid ad Lc H)[q0]? = some (ad kd ix, xcell cid ad kd ix (H kd ix)) := by
  obtain ⟨i, hi⟩ := List.mem_iff_getElem?.mp h
  exact ⟨i, hi, by simp [xw, hi]⟩
theorem xw_D {H' : HH} (h : va_D A (xw cid ad Lc H)) : va_D A (xw cid ad Lc H') := by
  refine ⟨fun i j p q hp hq e => ?_, fun k q hq => ?_⟩
  · simp only [xw, List.getElem?_map, Option.map_eq_some_iff] at hp hq
    obtain ⟨a, ha, rfl⟩ := hp
    obtain ⟨b, hb, rfl⟩ := hq
    exact h.1 i j (ad a.1 a.2, xcell cid ad a.1 a.2 (H a.1 a.2)) (ad b.1 b.2, xcell cid ad b.1 b.2 (H b.1 b.2)) (by simp only [xw, List.getElem?_map, ha, Option.map_some]) (by simp only [xw, List.getElem?_map, hb, Option.map_some]) e
  · simp only [xw, List.getElem?_map, Option.map_eq_some_iff] at hq
    obtain ⟨a, ha, rfl⟩ := hq
    exact h.2 k (ad a.1 a.2, xcell cid ad a.1 a.2 (H a.1 a.2)) (by simp only [xw, List.getElem?_map, ha, Option.map_some])
theorem xw_set {kd ix q0 : Nat} (hn : Lc.Nodup) (hq : Lc[q0]? = some (kd, ix)) (f : Nat → Int32) : (xw cid ad Lc H).set q0 (ad kd ix, xcell cid ad kd ix f) = xw cid ad Lc (hrow H kd ix f) := by
  apply List.ext_getElem?
  intro i
  by_cases hi : q0 = i
  · subst hi
    have hl : q0 < Lc.length := (List.getElem?_eq_some_iff.mp hq).1
    rw [List.getElem?_set_self (by simpa [xw] using hl)]
    simp [xw, hq, hrow]
  · rw [List.getElem?_set_ne hi]
    simp only [xw, List.getElem?_map]
    cases ha : Lc[i]? with
    | none => rfl
    | some a =>
      have hne : ¬ (a.1 = kd ∧ a.2 = ix) := by
        rintro ⟨h1, h2⟩
        have ea : a = (kd, ix) := by rw [← h1, ← h2]
        subst ea
        exact hi ((List.getElem?_inj (List.getElem?_eq_some_iff.mp hq).1 hn).mp (hq.trans ha.symm))
      simp [hrow, hne]
theorem hrow_upd (H : HH) (kd ix k : Nat) (x : Int32) : hrow H kd ix (upd (H kd ix) k x) = hu H kd ix k x := by
  funext a b c
  show (if a = kd ∧ b = ix then upd (H kd ix) k x else H a b) c = if a = kd ∧ b = ix ∧ c = k then x else H a b c
  by_cases h : a = kd ∧ b = ix
  · obtain ⟨rfl, rfl⟩ := h
    rw [if_pos ⟨rfl, rfl⟩]
    show (if c = k then x else H a b c) = _
    by_cases hc : c = k
    · rw [if_pos hc, if_pos ⟨rfl, rfl, hc⟩]
    · rw [if_neg hc, if_neg (fun q => hc q.2.2)]
  · rw [if_neg h, if_neg (fun q => h ⟨q.1, q.2.1⟩)]
end XW
end
section
/-! RULES: constants, locals, stack, arithmetic, branches. Printed by wip/gen/gen05.py. -/
section RUL
variable {l : Launch} {cid : Nat → ClassId} {D : va_G} {ad : Nat → Nat → Nat} {tx : List (List Int32)} {rf : List (String × Nat × String)} {Lc : List (Nat × Nat)} {d : Nat} {own : String} {b : ByteArray} {nL : Nat} {ret : Option FieldType} {pc : Nat} {ls : List (Option AV)} {st : List AV} {H : HH} {Q : AV → HH → Prop}
theorem g_iconst {n : Int} {v : Int32} (hd : decode b pc = .ok (.iconst n, 1)) (hv : Int32.ofInt n = v) (k : Gp l cid D ad tx rf Lc d own b nL ret (pc + 1) ls (vi v :: st) H Q) : Gp l cid D ad tx rf Lc d own b nL ret pc ls (st) H Q := by
  intro p e R s m args below meth c Hc locs lsC A hC ho hP hD hS hl
  exact lv_iconst hC.1 hC.2.1 hd hv (k p e R s m args below meth c Hc locs lsC A hC (ho.push trivial) hP hD hS hl)
theorem g_bipush {n : Int} {v : Int32} (hd : decode b pc = .ok (.bipush n, 2)) (hv : (Int8.ofInt n).toInt32 = v) (k : Gp l cid D ad tx rf Lc d own b nL ret (pc + 2) ls (vi v :: st) H Q) : Gp l cid D ad tx rf Lc d own b nL ret pc ls (st) H Q := by
  intro p e R s m args below meth c Hc locs lsC A hC ho hP hD hS hl
  exact lv_bipush hC.1 hC.2.1 hd hv (k p e R s m args below meth c Hc locs lsC A hC (ho.push trivial) hP hD hS hl)
theorem g_sipush {n : Int} {v : Int32} (hd : decode b pc = .ok (.sipush n, 3)) (hv : (Int16.ofInt n).toInt32 = v) (k : Gp l cid D ad tx rf Lc d own b nL ret (pc + 3) ls (vi v :: st) H Q) : Gp l cid D ad tx rf Lc d own b nL ret pc ls (st) H Q := by
  intro p e R s m args below meth c Hc locs lsC A hC ho hP hD hS hl
  exact lv_sipush hC.1 hC.2.1 hd hv (k p e R s m args below meth c Hc locs lsC A hC (ho.push trivial) hP hD hS hl)
theorem g_lconst {n : Fin 2} {v : Int64} (hd : decode b pc = .ok (.lconst n, 1)) (hv : Int64.ofNat (n : Nat) = v) (k : Gp l cid D ad tx rf Lc d own b nL ret (pc + 1) ls (vl v :: st) H Q) : Gp l cid D ad tx rf Lc d own b nL ret pc ls (st) H Q := by
  intro p e R s m args below meth c Hc locs lsC A hC ho hP hD hS hl
  exact lv_lconst hC.1 hC.2.1 hd hv (k p e R s m args below meth c Hc locs lsC A hC (ho.push trivial) hP hD hS hl)
theorem g_ldc {index : Nat} {v : Int32} (hd : decode b pc = .ok (.ldc index, 2)) (hm : Cond.constant own index v ∈ xtbl) (k : Gp l cid D ad tx rf Lc d own b nL ret (pc + 2) ls (vi v :: st) H Q) : Gp l cid D ad tx rf Lc d own b nL ret pc ls (st) H Q := by
  intro p e R s m args below meth c Hc locs lsC A hC ho hP hD hS hl
  exact lv_ldc hC.1 hC.2.1 hC.2.2.2.2.1 (hC.2.2.2.2.2.2.1 _ hm) hd (k p e R s m args below meth c Hc locs lsC A hC (ho.push trivial) hP hD hS hl)
theorem g_ldcw {index : Nat} {v : Int32} (hd : decode b pc = .ok (.ldc_w index, 3)) (hm : Cond.constant own index v ∈ xtbl) (k : Gp l cid D ad tx rf Lc d own b nL ret (pc + 3) ls (vi v :: st) H Q) : Gp l cid D ad tx rf Lc d own b nL ret pc ls (st) H Q := by
  intro p e R s m args below meth c Hc locs lsC A hC ho hP hD hS hl
  exact lv_ldcw hC.1 hC.2.1 hC.2.2.2.2.1 (hC.2.2.2.2.2.2.1 _ hm) hd (k p e R s m args below meth c Hc locs lsC A hC (ho.push trivial) hP hD hS hl)
theorem g_ldc2 {index : Nat} {v : Int64} (hd : decode b pc = .ok (.ldc2_w index, 3)) (hm : Cond.constantLong own index v ∈ xtbl) (k : Gp l cid D ad tx rf Lc d own b nL ret (pc + 3) ls (vl v :: st) H Q) : Gp l cid D ad tx rf Lc d own b nL ret pc ls (st) H Q := by
  intro p e R s m args below meth c Hc locs lsC A hC ho hP hD hS hl
  exact lv_ldc2 hC.1 hC.2.1 hC.2.2.2.2.1 (hC.2.2.2.2.2.2.1 _ hm) hd (k p e R s m args below meth c Hc locs lsC A hC (ho.push trivial) hP hD hS hl)
theorem g_null (hd : decode b pc = .ok (.aconst_null, 1)) (k : Gp l cid D ad tx rf Lc d own b nL ret (pc + 1) ls (vn :: st) H Q) : Gp l cid D ad tx rf Lc d own b nL ret pc ls (st) H Q := by
  intro p e R s m args below meth c Hc locs lsC A hC ho hP hD hS hl
  exact lv_null hC.1 hC.2.1 hd (k p e R s m args below meth c Hc locs lsC A hC (ho.push trivial) hP hD hS hl)
theorem lv_at1 {ls : List (Option AV)} {ad : Nat → Nat → Nat} {lsC : Array Slot} {nL i : Nat} {v : AV} (hl : lv_has lsC nL (lcv ad 0 ls)) (h : ls[i]? = some (some v)) : lsC[i]? = some (.val (cv ad v)) := hl.2.2 (i, cv ad v) (mem_lcv.mpr ⟨i, v, h, by rw [Nat.zero_add]⟩)
theorem g_iload_n {q : Fin 4} {i : Nat} {x : Int32} (hd : decode b pc = .ok (.iload_n q, 1)) (hi : (q : Nat) = i) (h : ls[i]? = some (some (vi x))) (k : Gp l cid D ad tx rf Lc d own b nL ret (pc + 1) ls (vi x :: st) H Q) : Gp l cid D ad tx rf Lc d own b nL ret pc ls (st) H Q := by
  intro p e R s m args below meth c Hc locs lsC A hC ho hP hD hS hl
  exact lv_iload_n hC.1 hC.2.1 hd hi (lv_at1 hl h) (k p e R s m args below meth c Hc locs lsC A hC (ho.push trivial) hP hD hS hl)
theorem g_iload {i : Nat} {x : Int32} (hd : decode b pc = .ok (.iload i, 2)) (h : ls[i]? = some (some (vi x))) (k : Gp l cid D ad tx rf Lc d own b nL ret (pc + 2) ls (vi x :: st) H Q) : Gp l cid D ad tx rf Lc d own b nL ret pc ls (st) H Q := by
  intro p e R s m args below meth c Hc locs lsC A hC ho hP hD hS hl
  exact lv_iload hC.1 hC.2.1 hd (lv_at1 hl h) (k p e R s m args below meth c Hc locs lsC A hC (ho.push trivial) hP hD hS hl)
theorem g_lload_n {q : Fin 4} {i : Nat} {x : Int64} (hd : decode b pc = .ok (.lload_n q, 1)) (hi : (q : Nat) = i) (h : ls[i]? = some (some (vl x))) (k : Gp l cid D ad tx rf Lc d own b nL ret (pc + 1) ls (vl x :: st) H Q) : Gp l cid D ad tx rf Lc d own b nL ret pc ls (st) H Q := by
  intro p e R s m args below meth c Hc locs lsC A hC ho hP hD hS hl
  exact lv_lload_n hC.1 hC.2.1 hd hi (lv_at1 hl h) (k p e R s m args below meth c Hc locs lsC A hC (ho.push trivial) hP hD hS hl)
theorem g_lload {i : Nat} {x : Int64} (hd : decode b pc = .ok (.lload i, 2)) (h : ls[i]? = some (some (vl x))) (k : Gp l cid D ad tx rf Lc d own b nL ret (pc + 2) ls (vl x :: st) H Q) : Gp l cid D ad tx rf Lc d own b nL ret pc ls (st) H Q := by
  intro p e R s m args below meth c Hc locs lsC A hC ho hP hD hS hl
  exact lv_lload hC.1 hC.2.1 hd (lv_at1 hl h) (k p e R s m args below meth c Hc locs lsC A hC (ho.push trivial) hP hD hS hl)
theorem g_aload_n {q : Fin 4} {i : Nat} {kd ix : Nat} (hd : decode b pc = .ok (.aload_n q, 1)) (hi : (q : Nat) = i) (h : ls[i]? = some (some (vr kd ix))) (k : Gp l cid D ad tx rf Lc d own b nL ret (pc + 1) ls (vr kd ix :: st) H Q) : Gp l cid D ad tx rf Lc d own b nL ret pc ls (st) H Q := by
  intro p e R s m args below meth c Hc locs lsC A hC ho hP hD hS hl
  exact lv_aload_n hC.1 hC.2.1 hd hi (lv_at1 hl h) (k p e R s m args below meth c Hc locs lsC A hC (ho.push (ho.loc h)) hP hD hS hl)
theorem g_aload {i : Nat} {kd ix : Nat} (hd : decode b pc = .ok (.aload i, 2)) (h : ls[i]? = some (some (vr kd ix))) (k : Gp l cid D ad tx rf Lc d own b nL ret (pc + 2) ls (vr kd ix :: st) H Q) : Gp l cid D ad tx rf Lc d own b nL ret pc ls (st) H Q := by
  intro p e R s m args below meth c Hc locs lsC A hC ho hP hD hS hl
  exact lv_aload hC.1 hC.2.1 hd (lv_at1 hl h) (k p e R s m args below meth c Hc locs lsC A hC (ho.push (ho.loc h)) hP hD hS hl)
theorem g_istore_n {q : Fin 4} {i : Nat} {x : Int32} {ls2 : List (Option AV)} (hd : decode b pc = .ok (.istore_n q, 1)) (hi : (q : Nat) = i) (hn : i < nL) (hb : xnl ls i = true) (e : (ls.set i (some (vi x))) = ls2) (k : Gp l cid D ad tx rf Lc d own b nL ret (pc + 1) ls2 st H Q) : Gp l cid D ad tx rf Lc d own b nL ret pc ls (vi x :: st) H Q := by
  subst e
  intro p e R s m args below meth c Hc locs lsC A hC ho hP hD hS hl
  exact lv_istore_n hC.1 hC.2.1 hd hi hl hn rfl (fun lsC2 hl2 => k p e R s m args below meth c Hc locs lsC2 A hC (ho.pop.set ho.top) hP hD hS (lv_mono hl2 (lcv_store hb)))
theorem g_istore {i : Nat} {x : Int32} {ls2 : List (Option AV)} (hd : decode b pc = .ok (.istore i, 2)) (hn : i < nL) (hb : xnl ls i = true) (e : (ls.set i (some (vi x))) = ls2) (k : Gp l cid D ad tx rf Lc d own b nL ret (pc + 2) ls2 st H Q) : Gp l cid D ad tx rf Lc d own b nL ret pc ls (vi x :: st) H Q := by
  subst e
  intro p e R s m args below meth c Hc locs lsC A hC ho hP hD hS hl
  exact lv_istore hC.1 hC.2.1 hd hl hn rfl (fun lsC2 hl2 => k p e R s m args below meth c Hc locs lsC2 A hC (ho.pop.set ho.top) hP hD hS (lv_mono hl2 (lcv_store hb)))
theorem g_lstore_n {q : Fin 4} {i : Nat} {x : Int64} {ls2 : List (Option AV)} (hd : decode b pc = .ok (.lstore_n q, 1)) (hi : (q : Nat) = i) (hn : i + 1 < nL) (hb : xnl ls i = true) (e : ((ls.set i (some (vl x))).set (i + 1) none) = ls2) (k : Gp l cid D ad tx rf Lc d own b nL ret (pc + 1) ls2 st H Q) : Gp l cid D ad tx rf Lc d own b nL ret pc ls (vl x :: st) H Q := by
  subst e
  intro p e R s m args below meth c Hc locs lsC A hC ho hP hD hS hl
  exact lv_lstore_n hC.1 hC.2.1 hd hi hl hn rfl (fun lsC2 hl2 => k p e R s m args below meth c Hc locs lsC2 A hC ((ho.pop.set ho.top).unset) hP hD hS (lv_mono hl2 (lcv_store2 hb)))
theorem g_lstore {i : Nat} {x : Int64} {ls2 : List (Option AV)} (hd : decode b pc = .ok (.lstore i, 2)) (hn : i + 1 < nL) (hb : xnl ls i = true) (e : ((ls.set i (some (vl x))).set (i + 1) none) = ls2) (k : Gp l cid D ad tx rf Lc d own b nL ret (pc + 2) ls2 st H Q) : Gp l cid D ad tx rf Lc d own b nL ret pc ls (vl x :: st) H Q := by
  subst e
  intro p e R s m args below meth c Hc locs lsC A hC ho hP hD hS hl
  exact lv_lstore hC.1 hC.2.1 hd hl hn rfl (fun lsC2 hl2 => k p e R s m args below meth c Hc locs lsC2 A hC ((ho.pop.set ho.top).unset) hP hD hS (lv_mono hl2 (lcv_store2 hb)))
theorem g_astore_n {q : Fin 4} {i : Nat} {kd ix : Nat} {ls2 : List (Option AV)} (hd : decode b pc = .ok (.astore_n q, 1)) (hi : (q : Nat) = i) (hn : i < nL) (hb : xnl ls i = true) (e : (ls.set i (some (vr kd ix))) = ls2) (k : Gp l cid D ad tx rf Lc d own b nL ret (pc + 1) ls2 st H Q) : Gp l cid D ad tx rf Lc d own b nL ret pc ls (vr kd ix :: st) H Q := by
  subst e
  intro p e R s m args below meth c Hc locs lsC A hC ho hP hD hS hl
  exact lv_astore_n hC.1 hC.2.1 hd hi hl hn rfl (fun lsC2 hl2 => k p e R s m args below meth c Hc locs lsC2 A hC (ho.pop.set ho.top) hP hD hS (lv_mono hl2 (lcv_store hb)))
theorem g_astore {i : Nat} {kd ix : Nat} {ls2 : List (Option AV)} (hd : decode b pc = .ok (.astore i, 2)) (hn : i < nL) (hb : xnl ls i = true) (e : (ls.set i (some (vr kd ix))) = ls2) (k : Gp l cid D ad tx rf Lc d own b nL ret (pc + 2) ls2 st H Q) : Gp l cid D ad tx rf Lc d own b nL ret pc ls (vr kd ix :: st) H Q := by
  subst e
  intro p e R s m args below meth c Hc locs lsC A hC ho hP hD hS hl
  exact lv_astore hC.1 hC.2.1 hd hl hn rfl (fun lsC2 hl2 => k p e R s m args below meth c Hc locs lsC2 A hC (ho.pop.set ho.top) hP hD hS (lv_mono hl2 (lcv_store hb)))
theorem g_iinc {i : Nat} {n : Int} {x v : Int32} {ls2 : List (Option AV)} (hd : decode b pc = .ok (.iinc i n, 3)) (h : ls[i]? = some (some (vi x))) (hv : x + Int32.ofInt n = v) (hn : i < nL) (hb : xnl ls i = true) (e : ls.set i (some (vi v)) = ls2) (k : Gp l cid D ad tx rf Lc d own b nL ret (pc + 3) ls2 st H Q) : Gp l cid D ad tx rf Lc d own b nL ret pc ls st H Q := by
  subst e
  intro p e R s m args below meth c Hc locs lsC A hC ho hP hD hS hl
  obtain ⟨k0, hk0⟩ := List.mem_iff_getElem?.mp (mem_lcv (ad := ad) (j := 0) (q := (i, Value.int x)) |>.mpr ⟨i, vi x, h, by rw [Nat.zero_add]; rfl⟩)
  exact lv_iinc hC.1 hC.2.1 hd hl hk0 hv hn rfl (fun lsC2 hl2 => k p e R s m args below meth c Hc locs lsC2 A hC (ho.set trivial) hP hD hS (lv_mono hl2 (lcv_store hb)))
theorem g_iadd {x y : Int32} (hd : decode b pc = .ok (.iadd, 1)) (k : Gp l cid D ad tx rf Lc d own b nL ret (pc + 1) ls (vi (x + y) :: st) H Q) : Gp l cid D ad tx rf Lc d own b nL ret pc ls (vi y :: vi x :: st) H Q := by
  intro p e R s m args below meth c Hc locs lsC A hC ho hP hD hS hl
  exact lv_iadd hC.1 hC.2.1 hd (k p e R s m args below meth c Hc locs lsC A hC (ho.pop.pop.push trivial) hP hD hS hl)
theorem g_isub {x y : Int32} (hd : decode b pc = .ok (.isub, 1)) (k : Gp l cid D ad tx rf Lc d own b nL ret (pc + 1) ls (vi (x - y) :: st) H Q) : Gp l cid D ad tx rf Lc d own b nL ret pc ls (vi y :: vi x :: st) H Q := by
  intro p e R s m args below meth c Hc locs lsC A hC ho hP hD hS hl
  exact lv_isub hC.1 hC.2.1 hd (k p e R s m args below meth c Hc locs lsC A hC (ho.pop.pop.push trivial) hP hD hS hl)
theorem g_imul {x y : Int32} (hd : decode b pc = .ok (.imul, 1)) (k : Gp l cid D ad tx rf Lc d own b nL ret (pc + 1) ls (vi (x * y) :: st) H Q) : Gp l cid D ad tx rf Lc d own b nL ret pc ls (vi y :: vi x :: st) H Q := by
  intro p e R s m args below meth c Hc locs lsC A hC ho hP hD hS hl
  exact lv_imul hC.1 hC.2.1 hd (k p e R s m args below meth c Hc locs lsC A hC (ho.pop.pop.push trivial) hP hD hS hl)
theorem g_iand {x y : Int32} (hd : decode b pc = .ok (.iand, 1)) (k : Gp l cid D ad tx rf Lc d own b nL ret (pc + 1) ls (vi (x &&& y) :: st) H Q) : Gp l cid D ad tx rf Lc d own b nL ret pc ls (vi y :: vi x :: st) H Q := by
  intro p e R s m args below meth c Hc locs lsC A hC ho hP hD hS hl
  exact lv_iand hC.1 hC.2.1 hd (k p e R s m args below meth c Hc locs lsC A hC (ho.pop.pop.push trivial) hP hD hS hl)
theorem g_ior {x y : Int32} (hd : decode b pc = .ok (.ior, 1)) (k : Gp l cid D ad tx rf Lc d own b nL ret (pc + 1) ls (vi (x ||| y) :: st) H Q) : Gp l cid D ad tx rf Lc d own b nL ret pc ls (vi y :: vi x :: st) H Q := by
  intro p e R s m args below meth c Hc locs lsC A hC ho hP hD hS hl
  exact lv_ior hC.1 hC.2.1 hd (k p e R s m args below meth c Hc locs lsC A hC (ho.pop.pop.push trivial) hP hD hS hl)
theorem g_ishl {x y : Int32} (hd : decode b pc = .ok (.ishl, 1)) (k : Gp l cid D ad tx rf Lc d own b nL ret (pc + 1) ls (vi (x <<< (y &&& 31)) :: st) H Q) : Gp l cid D ad tx rf Lc d own b nL ret pc ls (vi y :: vi x :: st) H Q := by
  intro p e R s m args below meth c Hc locs lsC A hC ho hP hD hS hl
  exact lv_ishl hC.1 hC.2.1 hd (k p e R s m args below meth c Hc locs lsC A hC (ho.pop.pop.push trivial) hP hD hS hl)
theorem g_ishr {x y : Int32} (hd : decode b pc = .ok (.ishr, 1)) (k : Gp l cid D ad tx rf Lc d own b nL ret (pc + 1) ls (vi (x >>> (y &&& 31)) :: st) H Q) : Gp l cid D ad tx rf Lc d own b nL ret pc ls (vi y :: vi x :: st) H Q := by
  intro p e R s m args below meth c Hc locs lsC A hC ho hP hD hS hl
  exact lv_ishr hC.1 hC.2.1 hd (k p e R s m args below meth c Hc locs lsC A hC (ho.pop.pop.push trivial) hP hD hS hl)
theorem g_idiv {x y : Int32} (hd : decode b pc = .ok (.idiv, 1)) (hne : ¬ y = 0) (k : Gp l cid D ad tx rf Lc d own b nL ret (pc + 1) ls (vi (x / y) :: st) H Q) : Gp l cid D ad tx rf Lc d own b nL ret pc ls (vi y :: vi x :: st) H Q := by
  intro p e R s m args below meth c Hc locs lsC A hC ho hP hD hS hl
  exact lv_idiv hC.1 hC.2.1 hd hne (k p e R s m args below meth c Hc locs lsC A hC (ho.pop.pop.push trivial) hP hD hS hl)
theorem g_irem {x y : Int32} (hd : decode b pc = .ok (.irem, 1)) (hne : ¬ y = 0) (k : Gp l cid D ad tx rf Lc d own b nL ret (pc + 1) ls (vi (x - x / y * y) :: st) H Q) : Gp l cid D ad tx rf Lc d own b nL ret pc ls (vi y :: vi x :: st) H Q := by
  intro p e R s m args below meth c Hc locs lsC A hC ho hP hD hS hl
  exact lv_irem hC.1 hC.2.1 hd hne (k p e R s m args below meth c Hc locs lsC A hC (ho.pop.pop.push trivial) hP hD hS hl)
theorem g_iushr {x y v : Int32} (hd : decode b pc = .ok (.iushr, 1)) (hv : (x.toUInt32 >>> (y.toUInt32 &&& Int32.toUInt32 31)).toInt32 = v) (k : Gp l cid D ad tx rf Lc d own b nL ret (pc + 1) ls (vi v :: st) H Q) : Gp l cid D ad tx rf Lc d own b nL ret pc ls (vi y :: vi x :: st) H Q := by
  intro p e R s m args below meth c Hc locs lsC A hC ho hP hD hS hl
  exact lv_iushr hC.1 hC.2.1 hd hv (k p e R s m args below meth c Hc locs lsC A hC (ho.pop.pop.push trivial) hP hD hS hl)
theorem g_ineg {x : Int32} (hd : decode b pc = .ok (.ineg, 1)) (k : Gp l cid D ad tx rf Lc d own b nL ret (pc + 1) ls (vi (-x) :: st) H Q) : Gp l cid D ad tx rf Lc d own b nL ret pc ls (vi x :: st) H Q := by
  intro p e R s m args below meth c Hc locs lsC A hC ho hP hD hS hl
  exact lv_ineg hC.1 hC.2.1 hd (k p e R s m args below meth c Hc locs lsC A hC (ho.pop.push trivial) hP hD hS hl)
theorem g_i2b {x : Int32} (hd : decode b pc = .ok (.i2b, 1)) (k : Gp l cid D ad tx rf Lc d own b nL ret (pc + 1) ls (vi (x.toInt8.toInt32) :: st) H Q) : Gp l cid D ad tx rf Lc d own b nL ret pc ls (vi x :: st) H Q := by
  intro p e R s m args below meth c Hc locs lsC A hC ho hP hD hS hl
  exact lv_i2b hC.1 hC.2.1 hd rfl (k p e R s m args below meth c Hc locs lsC A hC (ho.pop.push trivial) hP hD hS hl)
theorem g_i2s {x : Int32} (hd : decode b pc = .ok (.i2s, 1)) (k : Gp l cid D ad tx rf Lc d own b nL ret (pc + 1) ls (vi (x.toInt16.toInt32) :: st) H Q) : Gp l cid D ad tx rf Lc d own b nL ret pc ls (vi x :: st) H Q := by
  intro p e R s m args below meth c Hc locs lsC A hC ho hP hD hS hl
  exact lv_i2s hC.1 hC.2.1 hd rfl (k p e R s m args below meth c Hc locs lsC A hC (ho.pop.push trivial) hP hD hS hl)
theorem g_i2c {x : Int32} (hd : decode b pc = .ok (.i2c, 1)) (k : Gp l cid D ad tx rf Lc d own b nL ret (pc + 1) ls (vi ((x.toUInt32 % 65536).toInt32) :: st) H Q) : Gp l cid D ad tx rf Lc d own b nL ret pc ls (vi x :: st) H Q := by
  intro p e R s m args below meth c Hc locs lsC A hC ho hP hD hS hl
  exact lv_i2c hC.1 hC.2.1 hd rfl (k p e R s m args below meth c Hc locs lsC A hC (ho.pop.push trivial) hP hD hS hl)
theorem g_i2l {x : Int32} (hd : decode b pc = .ok (.i2l, 1)) (k : Gp l cid D ad tx rf Lc d own b nL ret (pc + 1) ls (vl x.toInt64 :: st) H Q) : Gp l cid D ad tx rf Lc d own b nL ret pc ls (vi x :: st) H Q := by
  intro p e R s m args below meth c Hc locs lsC A hC ho hP hD hS hl
  exact lv_i2l hC.1 hC.2.1 hd rfl (k p e R s m args below meth c Hc locs lsC A hC (ho.pop.push trivial) hP hD hS hl)
theorem g_l2i {x : Int64} (hd : decode b pc = .ok (.l2i, 1)) (k : Gp l cid D ad tx rf Lc d own b nL ret (pc + 1) ls (vi x.toInt32 :: st) H Q) : Gp l cid D ad tx rf Lc d own b nL ret pc ls (vl x :: st) H Q := by
  intro p e R s m args below meth c Hc locs lsC A hC ho hP hD hS hl
  exact lv_l2i hC.1 hC.2.1 hd rfl (k p e R s m args below meth c Hc locs lsC A hC (ho.pop.push trivial) hP hD hS hl)
theorem g_ladd {x y : Int64} (hd : decode b pc = .ok (.ladd, 1)) (k : Gp l cid D ad tx rf Lc d own b nL ret (pc + 1) ls (vl (x + y) :: st) H Q) : Gp l cid D ad tx rf Lc d own b nL ret pc ls (vl y :: vl x :: st) H Q := by
  intro p e R s m args below meth c Hc locs lsC A hC ho hP hD hS hl
  exact lv_ladd hC.1 hC.2.1 hd (k p e R s m args below meth c Hc locs lsC A hC (ho.pop.pop.push trivial) hP hD hS hl)
theorem g_lmul {x y : Int64} (hd : decode b pc = .ok (.lmul, 1)) (k : Gp l cid D ad tx rf Lc d own b nL ret (pc + 1) ls (vl (x * y) :: st) H Q) : Gp l cid D ad tx rf Lc d own b nL ret pc ls (vl y :: vl x :: st) H Q := by
  intro p e R s m args below meth c Hc locs lsC A hC ho hP hD hS hl
  exact lv_lmul hC.1 hC.2.1 hd (k p e R s m args below meth c Hc locs lsC A hC (ho.pop.pop.push trivial) hP hD hS hl)
theorem g_ldiv {x y : Int64} (hd : decode b pc = .ok (.ldiv, 1)) (hne : ¬ y = 0) (k : Gp l cid D ad tx rf Lc d own b nL ret (pc + 1) ls (vl (x / y) :: st) H Q) : Gp l cid D ad tx rf Lc d own b nL ret pc ls (vl y :: vl x :: st) H Q := by
  intro p e R s m args below meth c Hc locs lsC A hC ho hP hD hS hl
  exact lv_ldiv hC.1 hC.2.1 hd hne (k p e R s m args below meth c Hc locs lsC A hC (ho.pop.pop.push trivial) hP hD hS hl)
theorem g_lrem {x y : Int64} (hd : decode b pc = .ok (.lrem, 1)) (hne : ¬ y = 0) (k : Gp l cid D ad tx rf Lc d own b nL ret (pc + 1) ls (vl (x - x / y * y) :: st) H Q) : Gp l cid D ad tx rf Lc d own b nL ret pc ls (vl y :: vl x :: st) H Q := by
  intro p e R s m args below meth c Hc locs lsC A hC ho hP hD hS hl
  exact lv_lrem hC.1 hC.2.1 hd hne (k p e R s m args below meth c Hc locs lsC A hC (ho.pop.pop.push trivial) hP hD hS hl)
theorem g_lcmp {x y : Int64} (hd : decode b pc = .ok (.lcmp, 1)) (k : Gp l cid D ad tx rf Lc d own b nL ret (pc + 1) ls (vi (lg_cmp x y) :: st) H Q) : Gp l cid D ad tx rf Lc d own b nL ret pc ls (vl y :: vl x :: st) H Q := by
  intro p e R s m args below meth c Hc locs lsC A hC ho hP hD hS hl
  exact W.lcmp hC.1 hC.2.1 hd (k p e R s m args below meth c Hc locs lsC A hC (ho.pop.pop.push trivial) hP hD hS hl)
theorem g_dup {v : AV} (hd : decode b pc = .ok (.dup, 1)) (hv : (cv ad v).category = 1) (k : Gp l cid D ad tx rf Lc d own b nL ret (pc + 1) ls (v :: v :: st) H Q) : Gp l cid D ad tx rf Lc d own b nL ret pc ls (v :: st) H Q := by
  intro p e R s m args below meth c Hc locs lsC A hC ho hP hD hS hl
  exact lv_dup hC.1 hC.2.1 hd hv (k p e R s m args below meth c Hc locs lsC A hC (ho.push ho.top) hP hD hS hl)
theorem g_pop {v : AV} (hd : decode b pc = .ok (.pop, 1)) (hv : (cv ad v).category = 1) (k : Gp l cid D ad tx rf Lc d own b nL ret (pc + 1) ls (st) H Q) : Gp l cid D ad tx rf Lc d own b nL ret pc ls (v :: st) H Q := by
  intro p e R s m args below meth c Hc locs lsC A hC ho hP hD hS hl
  exact lv_pop hC.1 hC.2.1 hd hv (k p e R s m args below meth c Hc locs lsC A hC (ho.pop) hP hD hS hl)
theorem g_if_eq {x : Int32} {off : Int} {tgt : Nat} (hd : decode b pc = .ok (.ifCond .eq off, 3)) (ht : (pc : Int) + off = (tgt : Int)) (kt : x = 0 → Gp l cid D ad tx rf Lc d own b nL ret tgt ls st H Q) (kf : ¬ x = 0 → Gp l cid D ad tx rf Lc d own b nL ret (pc + 3) ls st H Q) : Gp l cid D ad tx rf Lc d own b nL ret pc ls (vi x :: st) H Q := by
  intro p e R s m args below meth c Hc locs lsC A hC ho hP hD hS hl
  exact lv_if_eq hC.1 hC.2.1 hd ht (fun h => kt h p e R s m args below meth c Hc locs lsC A hC ho.pop hP hD hS hl) (fun h => kf h p e R s m args below meth c Hc locs lsC A hC ho.pop hP hD hS hl)
theorem g_icmp_eq {x y : Int32} {off : Int} {tgt : Nat} (hd : decode b pc = .ok (.if_icmp .eq off, 3)) (ht : (pc : Int) + off = (tgt : Int)) (kt : x = y → Gp l cid D ad tx rf Lc d own b nL ret tgt ls st H Q) (kf : ¬ x = y → Gp l cid D ad tx rf Lc d own b nL ret (pc + 3) ls st H Q) : Gp l cid D ad tx rf Lc d own b nL ret pc ls (vi y :: vi x :: st) H Q := by
  intro p e R s m args below meth c Hc locs lsC A hC ho hP hD hS hl
  exact lv_icmp_eq hC.1 hC.2.1 hd ht (fun h => kt h p e R s m args below meth c Hc locs lsC A hC ho.pop.pop hP hD hS hl) (fun h => kf h p e R s m args below meth c Hc locs lsC A hC ho.pop.pop hP hD hS hl)
theorem g_if_ne {x : Int32} {off : Int} {tgt : Nat} (hd : decode b pc = .ok (.ifCond .ne off, 3)) (ht : (pc : Int) + off = (tgt : Int)) (kt : ¬ x = 0 → Gp l cid D ad tx rf Lc d own b nL ret tgt ls st H Q) (kf : x = 0 → Gp l cid D ad tx rf Lc d own b nL ret (pc + 3) ls st H Q) : Gp l cid D ad tx rf Lc d own b nL ret pc ls (vi x :: st) H Q := by
  intro p e R s m args below meth c Hc locs lsC A hC ho hP hD hS hl
  exact lv_if_ne hC.1 hC.2.1 hd ht (fun h => kt h p e R s m args below meth c Hc locs lsC A hC ho.pop hP hD hS hl) (fun h => kf h p e R s m args below meth c Hc locs lsC A hC ho.pop hP hD hS hl)
theorem g_icmp_ne {x y : Int32} {off : Int} {tgt : Nat} (hd : decode b pc = .ok (.if_icmp .ne off, 3)) (ht : (pc : Int) + off = (tgt : Int)) (kt : ¬ x = y → Gp l cid D ad tx rf Lc d own b nL ret tgt ls st H Q) (kf : x = y → Gp l cid D ad tx rf Lc d own b nL ret (pc + 3) ls st H Q) : Gp l cid D ad tx rf Lc d own b nL ret pc ls (vi y :: vi x :: st) H Q := by
  intro p e R s m args below meth c Hc locs lsC A hC ho hP hD hS hl
  exact lv_icmp_ne hC.1 hC.2.1 hd ht (fun h => kt h p e R s m args below meth c Hc locs lsC A hC ho.pop.pop hP hD hS hl) (fun h => kf h p e R s m args below meth c Hc locs lsC A hC ho.pop.pop hP hD hS hl)
theorem g_if_lt {x : Int32} {off : Int} {tgt : Nat} (hd : decode b pc = .ok (.ifCond .lt off, 3)) (ht : (pc : Int) + off = (tgt : Int)) (kt : x < 0 → Gp l cid D ad tx rf Lc d own b nL ret tgt ls st H Q) (kf : ¬ x < 0 → Gp l cid D ad tx rf Lc d own b nL ret (pc + 3) ls st H Q) : Gp l cid D ad tx rf Lc d own b nL ret pc ls (vi x :: st) H Q := by
  intro p e R s m args below meth c Hc locs lsC A hC ho hP hD hS hl
  exact lv_if_lt hC.1 hC.2.1 hd ht (fun h => kt h p e R s m args below meth c Hc locs lsC A hC ho.pop hP hD hS hl) (fun h => kf h p e R s m args below meth c Hc locs lsC A hC ho.pop hP hD hS hl)
theorem g_icmp_lt {x y : Int32} {off : Int} {tgt : Nat} (hd : decode b pc = .ok (.if_icmp .lt off, 3)) (ht : (pc : Int) + off = (tgt : Int)) (kt : x < y → Gp l cid D ad tx rf Lc d own b nL ret tgt ls st H Q) (kf : ¬ x < y → Gp l cid D ad tx rf Lc d own b nL ret (pc + 3) ls st H Q) : Gp l cid D ad tx rf Lc d own b nL ret pc ls (vi y :: vi x :: st) H Q := by
  intro p e R s m args below meth c Hc locs lsC A hC ho hP hD hS hl
  exact lv_icmp_lt hC.1 hC.2.1 hd ht (fun h => kt h p e R s m args below meth c Hc locs lsC A hC ho.pop.pop hP hD hS hl) (fun h => kf h p e R s m args below meth c Hc locs lsC A hC ho.pop.pop hP hD hS hl)
theorem g_if_ge {x : Int32} {off : Int} {tgt : Nat} (hd : decode b pc = .ok (.ifCond .ge off, 3)) (ht : (pc : Int) + off = (tgt : Int)) (kt : 0 ≤ x → Gp l cid D ad tx rf Lc d own b nL ret tgt ls st H Q) (kf : ¬ 0 ≤ x → Gp l cid D ad tx rf Lc d own b nL ret (pc + 3) ls st H Q) : Gp l cid D ad tx rf Lc d own b nL ret pc ls (vi x :: st) H Q := by
  intro p e R s m args below meth c Hc locs lsC A hC ho hP hD hS hl
  exact lv_if_ge hC.1 hC.2.1 hd ht (fun h => kt h p e R s m args below meth c Hc locs lsC A hC ho.pop hP hD hS hl) (fun h => kf h p e R s m args below meth c Hc locs lsC A hC ho.pop hP hD hS hl)
theorem g_icmp_ge {x y : Int32} {off : Int} {tgt : Nat} (hd : decode b pc = .ok (.if_icmp .ge off, 3)) (ht : (pc : Int) + off = (tgt : Int)) (kt : y ≤ x → Gp l cid D ad tx rf Lc d own b nL ret tgt ls st H Q) (kf : ¬ y ≤ x → Gp l cid D ad tx rf Lc d own b nL ret (pc + 3) ls st H Q) : Gp l cid D ad tx rf Lc d own b nL ret pc ls (vi y :: vi x :: st) H Q := by
  intro p e R s m args below meth c Hc locs lsC A hC ho hP hD hS hl
  exact lv_icmp_ge hC.1 hC.2.1 hd ht (fun h => kt h p e R s m args below meth c Hc locs lsC A hC ho.pop.pop hP hD hS hl) (fun h => kf h p e R s m args below meth c Hc locs lsC A hC ho.pop.pop hP hD hS hl)
theorem g_if_gt {x : Int32} {off : Int} {tgt : Nat} (hd : decode b pc = .ok (.ifCond .gt off, 3)) (ht : (pc : Int) + off = (tgt : Int)) (kt : 0 < x → Gp l cid D ad tx rf Lc d own b nL ret tgt ls st H Q) (kf : ¬ 0 < x → Gp l cid D ad tx rf Lc d own b nL ret (pc + 3) ls st H Q) : Gp l cid D ad tx rf Lc d own b nL ret pc ls (vi x :: st) H Q := by
  intro p e R s m args below meth c Hc locs lsC A hC ho hP hD hS hl
  exact lv_if_gt hC.1 hC.2.1 hd ht (fun h => kt h p e R s m args below meth c Hc locs lsC A hC ho.pop hP hD hS hl) (fun h => kf h p e R s m args below meth c Hc locs lsC A hC ho.pop hP hD hS hl)
theorem g_icmp_gt {x y : Int32} {off : Int} {tgt : Nat} (hd : decode b pc = .ok (.if_icmp .gt off, 3)) (ht : (pc : Int) + off = (tgt : Int)) (kt : y < x → Gp l cid D ad tx rf Lc d own b nL ret tgt ls st H Q) (kf : ¬ y < x → Gp l cid D ad tx rf Lc d own b nL ret (pc + 3) ls st H Q) : Gp l cid D ad tx rf Lc d own b nL ret pc ls (vi y :: vi x :: st) H Q := by
  intro p e R s m args below meth c Hc locs lsC A hC ho hP hD hS hl
  exact lv_icmp_gt hC.1 hC.2.1 hd ht (fun h => kt h p e R s m args below meth c Hc locs lsC A hC ho.pop.pop hP hD hS hl) (fun h => kf h p e R s m args below meth c Hc locs lsC A hC ho.pop.pop hP hD hS hl)
theorem g_if_le {x : Int32} {off : Int} {tgt : Nat} (hd : decode b pc = .ok (.ifCond .le off, 3)) (ht : (pc : Int) + off = (tgt : Int)) (kt : x ≤ 0 → Gp l cid D ad tx rf Lc d own b nL ret tgt ls st H Q) (kf : ¬ x ≤ 0 → Gp l cid D ad tx rf Lc d own b nL ret (pc + 3) ls st H Q) : Gp l cid D ad tx rf Lc d own b nL ret pc ls (vi x :: st) H Q := by
  intro p e R s m args below meth c Hc locs lsC A hC ho hP hD hS hl
  exact lv_if_le hC.1 hC.2.1 hd ht (fun h => kt h p e R s m args below meth c Hc locs lsC A hC ho.pop hP hD hS hl) (fun h => kf h p e R s m args below meth c Hc locs lsC A hC ho.pop hP hD hS hl)
theorem g_icmp_le {x y : Int32} {off : Int} {tgt : Nat} (hd : decode b pc = .ok (.if_icmp .le off, 3)) (ht : (pc : Int) + off = (tgt : Int)) (kt : x ≤ y → Gp l cid D ad tx rf Lc d own b nL ret tgt ls st H Q) (kf : ¬ x ≤ y → Gp l cid D ad tx rf Lc d own b nL ret (pc + 3) ls st H Q) : Gp l cid D ad tx rf Lc d own b nL ret pc ls (vi y :: vi x :: st) H Q := by
  intro p e R s m args below meth c Hc locs lsC A hC ho hP hD hS hl
  exact lv_icmp_le hC.1 hC.2.1 hd ht (fun h => kt h p e R s m args below meth c Hc locs lsC A hC ho.pop.pop hP hD hS hl) (fun h => kf h p e R s m args below meth c Hc locs lsC A hC ho.pop.pop hP hD hS hl)
theorem g_goto {off : Int} {tgt : Nat} (hd : decode b pc = .ok (.goto off, 3)) (ht : (pc : Int) + off = (tgt : Int)) (k : Gp l cid D ad tx rf Lc d own b nL ret tgt ls st H Q) : Gp l cid D ad tx rf Lc d own b nL ret pc ls st H Q := by
  intro p e R s m args below meth c Hc locs lsC A hC ho hP hD hS hl
  exact lv_goto hC.1 hC.2.1 hd ht (k p e R s m args below meth c Hc locs lsC A hC ho hP hD hS hl)
theorem g_nonnullR {kd ix : Nat} {off : Int} {tgt : Nat} (hd : decode b pc = .ok (.ifnonnull off, 3)) (ht : (pc : Int) + off = (tgt : Int)) (k : Gp l cid D ad tx rf Lc d own b nL ret tgt ls st H Q) : Gp l cid D ad tx rf Lc d own b nL ret pc ls (vr kd ix :: st) H Q := by
  intro p e R s m args below meth c Hc locs lsC A hC ho hP hD hS hl
  exact lv_ifnonnull hC.1 hC.2.1 hd ht (k p e R s m args below meth c Hc locs lsC A hC ho.pop hP hD hS hl)
theorem g_nonnullN {off : Int} (hd : decode b pc = .ok (.ifnonnull off, 3)) (k : Gp l cid D ad tx rf Lc d own b nL ret (pc + 3) ls st H Q) : Gp l cid D ad tx rf Lc d own b nL ret pc ls (vn :: st) H Q := by
  intro p e R s m args below meth c Hc locs lsC A hC ho hP hD hS hl
  exact lv_ifnonnullN hC.1 hC.2.1 hd (k p e R s m args below meth c Hc locs lsC A hC ho.pop hP hD hS hl)
theorem g_tableIn {dflt lo hi : Int} {offs : Array Int} {len : Nat} {x : Int32} {off : Int} {tgt : Nat} (hd : decode b pc = .ok (.tableswitch dflt lo hi offs, len)) (h1 : ¬ x.toInt < lo) (h2 : ¬ hi < x.toInt) (hof : offs[(x.toInt - lo).toNat]? = some off) (ht : (pc : Int) + off = (tgt : Int)) (k : Gp l cid D ad tx rf Lc d own b nL ret tgt ls st H Q) : Gp l cid D ad tx rf Lc d own b nL ret pc ls (vi x :: st) H Q := by
  intro p e R s m args below meth c Hc locs lsC A hC ho hP hD hS hl
  exact lv_tableIn hC.1 hC.2.1 hd h1 h2 hof ht (k p e R s m args below meth c Hc locs lsC A hC ho.pop hP hD hS hl)
theorem g_tableOut {dflt lo hi : Int} {offs : Array Int} {len : Nat} {x : Int32} {tgt : Nat} (hd : decode b pc = .ok (.tableswitch dflt lo hi offs, len)) (h : x.toInt < lo ∨ hi < x.toInt) (ht : (pc : Int) + dflt = (tgt : Int)) (k : Gp l cid D ad tx rf Lc d own b nL ret tgt ls st H Q) : Gp l cid D ad tx rf Lc d own b nL ret pc ls (vi x :: st) H Q := by
  intro p e R s m args below meth c Hc locs lsC A hC ho hP hD hS hl
  exact lv_tableOut hC.1 hC.2.1 hd h ht (k p e R s m args below meth c Hc locs lsC A hC ho.pop hP hD hS hl)
theorem g_iret {x : Int32} (hd : decode b pc = .ok (.ireturn, 1)) (hr : ret = some .int) (hq : Q (vi x) H) : Gp l cid D ad tx rf Lc d own b nL ret pc ls [vi x] H Q := by
  subst hr
  intro p e R s m args below meth c Hc locs lsC A hC ho hP hD hS hl
  exact W.iret hC.1 hC.2.1 hC.2.2.2.1 (fun t ht _ => ⟨vi x, H, rfl, trivial, hq, by rw [ht]; exact hP, hS.F ht⟩) hS.2.2 hd hC.2.2.2.2.2.1
theorem g_lret {x : Int64} (hd : decode b pc = .ok (.lreturn, 1)) (hr : ret = some .long) (hq : Q (vl x) H) : Gp l cid D ad tx rf Lc d own b nL ret pc ls [vl x] H Q := by
  subst hr
  intro p e R s m args below meth c Hc locs lsC A hC ho hP hD hS hl
  exact W.lret hC.1 hC.2.1 hC.2.2.2.1 (fun t ht _ => ⟨vl x, H, rfl, trivial, hq, by rw [ht]; exact hP, hS.F ht⟩) hS.2.2 hd hC.2.2.2.2.2.1
theorem g_zret {x : Int32} {ty : FieldType} (hd : decode b pc = .ok (.ireturn, 1)) (hr : ret = some ty) (hn : narrow ty (.int x) = .int x) (hq : Q (vi x) H) : Gp l cid D ad tx rf Lc d own b nL ret pc ls [vi x] H Q := by
  subst hr
  intro p e R s m args below meth c Hc locs lsC A hC ho hP hD hS hl
  exact W.zret hC.1 hC.2.1 hC.2.2.2.1 hn (fun t ht _ => ⟨vi x, H, rfl, trivial, hq, by rw [ht]; exact hP, hS.F ht⟩) hS.2.2 hd hC.2.2.2.2.2.1
theorem g_vret (hd : decode b pc = .ok (.return_, 1)) (hr : ret = none) (hq : Q (vi 0) H) : Gp l cid D ad tx rf Lc d own b nL ret pc ls [] H Q := by
  subst hr
  intro p e R s m args below meth c Hc locs lsC A hC ho hP hD hS hl
  exact W.vret hC.1 hC.2.1 hC.2.2.2.1 (fun t ht _ => ⟨vi 0, H, rfl, trivial, hq, by rw [ht]; exact hP, hS.F ht⟩) hS.2.2 hd hC.2.2.2.2.2.1
/-- fewer locals are known -/
def xless : List (Option AV) → List (Option AV) → Prop
  | [], _ => True
  | none :: a, _ :: b => xless a b
  | some v :: a, w :: b => w = some v ∧ xless a b
  | none :: a, [] => xless a []
  | some _ :: _, [] => False
theorem xless_get : ∀ {a c : List (Option AV)} (_ : xless a c) {i : Nat} {v : AV}, a[i]? = some (some v) → c[i]? = some (some v) := by
  intro a
  induction a with
  | nil => intro c _ i v h; simp at h
  | cons x a ih =>
    intro c hl i v h
    cases c with
    | nil =>
      cases x with
      | none => cases i with
        | zero => simp at h
        | succ i => exact absurd (ih (c := []) hl (i := i) (v := v) (by simpa using h)) (by simp)
      | some x => exact hl.elim
    | cons y c =>
      cases x with
      | none => cases i with
        | zero => simp at h
        | succ i => simpa using ih hl (i := i) (v := v) (by simpa using h)
      | some x =>
        obtain ⟨rfl, hl⟩ := hl
        cases i with
        | zero => simpa using h
        | succ i => simpa using ih hl (i := i) (v := v) (by simpa using h)
theorem g_drop {ls2 : List (Option AV)} (h : xless ls2 ls) (k : Gp l cid D ad tx rf Lc d own b nL ret pc ls2 st H Q) : Gp l cid D ad tx rf Lc d own b nL ret pc ls st H Q := by
  intro p e R s m args below meth c Hc locs lsC A hC ho hP hD hS hl
  refine k p e R s m args below meth c Hc locs lsC A hC ⟨fun v hv => ?_, ho.2⟩ hP hD hS (lv_mono hl fun q hq => ?_)
  · obtain ⟨i, hi⟩ := List.mem_iff_getElem?.mp hv
    exact ho.1 v (List.mem_of_getElem? (xless_get h hi))
  · obtain ⟨i, v, hi, rfl⟩ := mem_lcv.mp hq
    exact mem_lcv.mpr ⟨i, v, xless_get h hi, rfl⟩
theorem Gp.mono {Q2 : AV → HH → Prop} (h : Gp l cid D ad tx rf Lc d own b nL ret pc ls st H Q) (hq : ∀ v H2, Q v H2 → Q2 v H2) : Gp l cid D ad tx rf Lc d own b nL ret pc ls st H Q2 := by
  intro p e R s m args below meth c Hc locs lsC A hC ho hP hD hS hl
  intro T hT X
  obtain ⟨t, a1, o, b1, b2, ⟨v, H2, c1, c2, c3, c4⟩, b4⟩ := h p e R s m args below meth c Hc locs lsC A hC ho hP hD hS hl T hT X
  exact ⟨t, a1, o, b1, b2, ⟨v, H2, c1, c2, hq _ _ c3, c4⟩, b4⟩
end RUL
end
section
/-! RULES: fields, rows, statics, texts. -/
section HRU
variable {l : Launch} {cid : Nat → ClassId} {D : va_G} {ad : Nat → Nat → Nat} {tx : List (List Int32)} {rf : List (String × Nat × String)} {Lc : List (Nat × Nat)} {d : Nat} {own : String} {b : ByteArray} {nL : Nat} {ret : Option FieldType} {pc : Nat} {ls : List (Option AV)} {st : List AV} {H : HH} {Q : AV → HH → Prop}
theorem xok_in {nT kd ix : Nat} (h : xok Lc nT (vr kd ix)) (hk : kd < 60) : (kd, ix) ∈ Lc := by
  rcases h with h | h | h
  · exact h
  · exact absurd h.1 (by omega)
  · exact absurd h.1 (by omega)
theorem xcell_o {kd ci N ix : Nat} (h : xsh kd = (0, ci, N)) (f : Nat → Int32) : xcell cid ad kd ix f = .inr (ci, (List.range N).map fun k => cv ad (xld kd ix k (f k))) := by
  unfold xcell; rw [h]; rfl
theorem xcell_i {kd N ix a : Nat} (h : xsh kd = (1, a, N)) (f : Nat → Int32) : xcell cid ad kd ix f = .inl (cid 0, N, .inl f) := by
  unfold xcell; rw [h]; rfl
theorem xcell_z {kd N ix a : Nat} (h : xsh kd = (2, a, N)) (f : Nat → Int32) : xcell cid ad kd ix f = .inl (cid 1, N, .inl f) := by
  unfold xcell; rw [h]; rfl
theorem xcell_q {kd t N ix a : Nat} (h : xsh kd = (t + 3, a, N)) (f : Nat → Int32) : xcell cid ad kd ix f = .inl (cid (t + 2), N, .inr (.inr (.inr (.inr fun j => some (ad (xra kd).1 ((xra kd).2 ix j)))))) := by
  unfold xcell; rw [h]; rfl
theorem g_get {kd ix ci N k index : Nat} {C : String} {T : u_T} {v : AV} (hd : decode b pc = .ok (.getfield index, 3)) (h60 : kd < 60) (hsh : xsh kd = (0, ci, N)) (hc : xcl[ci]? = some (C, T, N)) (hin : ∀ w ∈ u_ws C T N, w ∈ xtbl) (hk : k < N)
    (hm : Cond.fieldLink own index (T k).1 (T k).2.1 (T k).2.2.1 ∈ xtbl) (hv : xld kd ix k (H kd ix k) = v) (kk : Gp l cid D ad tx rf Lc d own b nL ret (pc + 3) ls (v :: st) H Q) : Gp l cid D ad tx rf Lc d own b nL ret pc ls (vr kd ix :: st) H Q := by
  intro p e R s m args below meth c Hc locs lsC A hC ho hP hD hS hl
  subst hv
  obtain ⟨hx, hb, hml, hr, hown, hlk, hts, hR, hK, hZ, hrf, hA, hcl⟩ := id hC
  have hi := xok_in ho.top h60
  obtain ⟨q0, hq, hw⟩ := xw_at (cid := cid) (ad := ad) (H := H) hi
  rw [xcell_o hsh] at hw
  refine va_get (T := T) (ref := (T k).1) hx hb hts hin hown hK hP q0 hw hc k hk (hts _ hm) (fun x h => h) (v := cv ad (xld kd ix k (H kd ix k))) (by simp [hk]) hd ?_
  exact kk p e R s m args below meth c Hc locs lsC A hC (ho.pop.push (hcl.2.2.1 _ hi k _)) hP hD hS hl
/-- putfield: what is behind it, in Lean's words -/
theorem xset_o {kd ix ci N k q0 : Nat} {x : Int32} {v : AV} (hsh : xsh kd = (0, ci, N)) (hn : Lc.Nodup) (hq : Lc[q0]? = some (kd, ix)) (hv : xld kd ix k x = v) :
    (xw cid ad Lc H).set q0 (ad kd ix, .inr (ci, ((List.range N).map fun j => cv ad (xld kd ix j (H kd ix j))).set k (cv ad v))) = xw cid ad Lc (hu H kd ix k x) := by
  rw [← hrow_upd, ← xw_set hn hq, xcell_o hsh]
  congr 4
  apply List.ext_getElem?
  intro i
  by_cases hi : k = i
  · subst hi
    by_cases hl : k < N
    · rw [List.getElem?_set_self (by simpa using hl)]
      simp [hl, upd, hv]
    · rw [List.getElem?_eq_none (by simpa using hl), List.getElem?_eq_none (by simpa using hl)]
  · rw [List.getElem?_set_ne hi]
    simp only [List.getElem?_map]
    cases hj : (List.range N)[i]? with
    | none => rfl
    | some j =>
      have hij : j = i := by
        obtain ⟨h1, h2⟩ := List.getElem?_eq_some_iff.mp hj
        rw [← h2]; simp
      subst hij
      have hne : ¬ j = k := fun e => hi e.symm
      simp [upd, hne]
theorem g_putG {kd ix ci N k index : Nat} {C : String} {T : u_T} {v : AV} {x : Int32} {ty : FieldType} (ty0 : Nat → FieldType) (hd : decode b pc = .ok (.putfield index, 3)) (h60 : kd < 60) (hsh : xsh kd = (0, ci, N)) (hc : xcl[ci]? = some (C, T, N)) (hin : ∀ w ∈ u_ws C T N, w ∈ xtbl) (hty : ∀ k, k < N → parseFieldDescriptor (T k).2.2.1 = some (ty0 k)) (hnm : ∀ a, a < N → ∀ b, b < N → a ≠ b → (T a).2.1 ≠ (T b).2.1) (hk : k < N)
    (hm : Cond.fieldLink own index (T k).1 (T k).2.1 (T k).2.2.1 ∈ xtbl) (hfin : (T k).2.2.2 = false) (hpd : parseFieldDescriptor (T k).2.2.1 = some ty) (hv : xld kd ix k x = v) (hnr : narrow ty (cv ad v) = cv ad v) (hfit : fits ty (cv ad v) = true) (kk : Gp l cid D ad tx rf Lc d own b nL ret (pc + 3) ls st (hu H kd ix k x) Q) : Gp l cid D ad tx rf Lc d own b nL ret pc ls (v :: vr kd ix :: st) H Q := by
  intro p e R s m args below meth c Hc locs lsC A hC ho hP hD hS hl
  obtain ⟨hx, hb, hml, hr, hown, hlk, hts, hR, hK, hZ, hrf, hA, hcl⟩ := id hC
  have hi := xok_in ho.pop.top h60
  obtain ⟨q0, hq, hw⟩ := xw_at (cid := cid) (ad := ad) (H := H) hi
  rw [xcell_o hsh] at hw
  refine va_put (T := T) (ref := (T k).1) hx hb hts hin ty0 hty hnm hown hK hP hD hS q0 hw hc k hk (hts _ hm) (fun x h => h) hfin hpd hnr hfit (by simpa using hk) hd (fun H1 locs1 hP1 hD1 hS1 => ?_)
  rw [xset_o hsh hcl.1 hq hv] at hP1
  exact kk p e R s m args below meth c H1 locs1 lsC A hC ho.pop.pop hP1 (xw_D hD) hS1 hl
/-- an int field -/
theorem g_put {kd ix ci N k index : Nat} {C : String} {T : u_T} {x : Int32} (ty0 : Nat → FieldType) (hd : decode b pc = .ok (.putfield index, 3)) (h60 : kd < 60) (hsh : xsh kd = (0, ci, N)) (hc : xcl[ci]? = some (C, T, N)) (hin : ∀ w ∈ u_ws C T N, w ∈ xtbl) (hty : ∀ k, k < N → parseFieldDescriptor (T k).2.2.1 = some (ty0 k)) (hnm : ∀ a, a < N → ∀ b, b < N → a ≠ b → (T a).2.1 ≠ (T b).2.1) (hk : k < N)
    (hm : Cond.fieldLink own index (T k).1 (T k).2.1 (T k).2.2.1 ∈ xtbl) (hfin : (T k).2.2.2 = false) (hpd : parseFieldDescriptor (T k).2.2.1 = some .int) (hv : ∀ y, xld kd ix k y = vi y) (kk : Gp l cid D ad tx rf Lc d own b nL ret (pc + 3) ls st (hu H kd ix k x) Q) : Gp l cid D ad tx rf Lc d own b nL ret pc ls (vi x :: vr kd ix :: st) H Q :=
  g_putG ty0 hd h60 hsh hc hin hty hnm hk hm hfin hpd (hv x) rfl rfl kk
/-- a boolean field -/
theorem g_putZ {kd ix ci N k index : Nat} {C : String} {T : u_T} {x : Int32} (ty0 : Nat → FieldType) (hd : decode b pc = .ok (.putfield index, 3)) (h60 : kd < 60) (hsh : xsh kd = (0, ci, N)) (hc : xcl[ci]? = some (C, T, N)) (hin : ∀ w ∈ u_ws C T N, w ∈ xtbl) (hty : ∀ k, k < N → parseFieldDescriptor (T k).2.2.1 = some (ty0 k)) (hnm : ∀ a, a < N → ∀ b, b < N → a ≠ b → (T a).2.1 ≠ (T b).2.1) (hk : k < N)
    (hm : Cond.fieldLink own index (T k).1 (T k).2.1 (T k).2.2.1 ∈ xtbl) (hfin : (T k).2.2.2 = false) (hpd : parseFieldDescriptor (T k).2.2.1 = some .boolean) (hv : ∀ y, xld kd ix k y = vi y) (h01 : x = 0 ∨ x = 1) (kk : Gp l cid D ad tx rf Lc d own b nL ret (pc + 3) ls st (hu H kd ix k x) Q) : Gp l cid D ad tx rf Lc d own b nL ret pc ls (vi x :: vr kd ix :: st) H Q :=
  g_putG ty0 hd h60 hsh hc hin hty hnm hk hm hfin hpd (hv x) (by rcases h01 with rfl | rfl <;> rfl) (by rcases h01 with rfl | rfl <;> rfl) kk
/-- the law of a ride: none -/
theorem g_putN {index : Nat} (hd : decode b pc = .ok (.putfield index, 3)) (hm : Cond.fieldLink own index "ThreePoints$Ride" "law" "LThreePoints$Text;" ∈ xtbl) {ix : Nat} (kk : Gp l cid D ad tx rf Lc d own b nL ret (pc + 3) ls st (hu H 19 ix 2 0) Q) : Gp l cid D ad tx rf Lc d own b nL ret pc ls (vn :: vr 19 ix :: st) H Q :=
  g_putG (T := xT_Ride) (k := 2) (N := 4) (ci := 8) (C := "ThreePoints$Ride") (ty := .object "ThreePoints$Text") xy_Ride hd (by decide) rfl rfl xi_Ride xy_Ride_ok xn_Ride (by decide) hm rfl (by decide +kernel) rfl rfl rfl kk
/-- the law of a ride: a text -/
theorem g_putT {index : Nat} (hd : decode b pc = .ok (.putfield index, 3)) (hm : Cond.fieldLink own index "ThreePoints$Ride" "law" "LThreePoints$Text;" ∈ xtbl) {ix t : Nat} (ht : t < 7) (kk : Gp l cid D ad tx rf Lc d own b nL ret (pc + 3) ls st (hu H 19 ix 2 (nI (t + 1))) Q) : Gp l cid D ad tx rf Lc d own b nL ret pc ls (vr 11 t :: vr 19 ix :: st) H Q := by
  refine g_putG (T := xT_Ride) (k := 2) (N := 4) (ci := 8) (C := "ThreePoints$Ride") (ty := .object "ThreePoints$Text") xy_Ride hd (by decide) rfl rfl xi_Ride xy_Ride_ok xn_Ride (by decide) hm rfl (by decide +kernel) ?_ rfl rfl kk
  rcases (show t = 0 ∨ t = 1 ∨ t = 2 ∨ t = 3 ∨ t = 4 ∨ t = 5 ∨ t = 6 by omega) with rfl | rfl | rfl | rfl | rfl | rfl | rfl <;> rfl
-- rows
theorem g_iald {kd ix N a : Nat} {i : Int32} (hd : decode b pc = .ok (.iaload, 1)) (h60 : kd < 60) (hsh : xsh kd = (1, a, N)) (hin : vp_in i N) (kk : Gp l cid D ad tx rf Lc d own b nL ret (pc + 1) ls (vi (H kd ix i.toNatClampNeg) :: st) H Q) : Gp l cid D ad tx rf Lc d own b nL ret pc ls (vi i :: vr kd ix :: st) H Q := by
  intro p e R s m args below meth c Hc locs lsC A hC ho hP hD hS hl
  obtain ⟨hx, hb, hml, hr, hown, hlk, hts, hR, hK, hZ, hrf, hA, hcl⟩ := id hC
  have hi := xok_in ho.pop.top h60
  obtain ⟨q0, hq, hw⟩ := xw_at (cid := cid) (ad := ad) (H := H) hi
  rw [xcell_i hsh] at hw
  exact va_iald hx hb hK hP q0 0 hw rfl hin hd (kk p e R s m args below meth c Hc locs lsC A hC (ho.pop.pop.push trivial) hP hD hS hl)
theorem g_zald {kd ix N a : Nat} {i : Int32} (hd : decode b pc = .ok (.baload, 1)) (h60 : kd < 60) (hsh : xsh kd = (2, a, N)) (hin : vp_in i N) (kk : Gp l cid D ad tx rf Lc d own b nL ret (pc + 1) ls (vi (H kd ix i.toNatClampNeg) :: st) H Q) : Gp l cid D ad tx rf Lc d own b nL ret pc ls (vi i :: vr kd ix :: st) H Q := by
  intro p e R s m args below meth c Hc locs lsC A hC ho hP hD hS hl
  obtain ⟨hx, hb, hml, hr, hown, hlk, hts, hR, hK, hZ, hrf, hA, hcl⟩ := id hC
  have hi := xok_in ho.pop.top h60
  obtain ⟨q0, hq, hw⟩ := xw_at (cid := cid) (ad := ad) (H := H) hi
  rw [xcell_z hsh] at hw
  exact va_zald hx hb hK hP q0 1 hw rfl hin hd (kk p e R s m args below meth c Hc locs lsC A hC (ho.pop.pop.push trivial) hP hD hS hl)
theorem g_aald {kd ix N t a : Nat} {i : Int32} (hd : decode b pc = .ok (.aaload, 1)) (h60 : kd < 60) (hsh : xsh kd = (t + 3, a, N)) (ht : t < 3) (hin : vp_in i N) {v : AV} (hv : vr (xra kd).1 ((xra kd).2 ix i.toNatClampNeg) = v) (kk : Gp l cid D ad tx rf Lc d own b nL ret (pc + 1) ls (v :: st) H Q) : Gp l cid D ad tx rf Lc d own b nL ret pc ls (vi i :: vr kd ix :: st) H Q := by
  intro p e R s m args below meth c Hc locs lsC A hC ho hP hD hS hl
  subst hv
  obtain ⟨hx, hb, hml, hr, hown, hlk, hts, hR, hK, hZ, hrf, hA, hcl⟩ := id hC
  have hi := xok_in ho.pop.top h60
  obtain ⟨q0, hq, hw⟩ := xw_at (cid := cid) (ad := ad) (H := H) hi
  rw [xcell_q hsh] at hw
  have hok := hcl.2.2.2 _ hi (by show 3 ≤ (xsh kd).1; rw [hsh]; exact Nat.le_add_left 3 t) i.toNatClampNeg (by
    show i.toNatClampNeg < (xsh kd).2.2
    rw [hsh]
    exact Nat.lt_of_not_le fun z => hin (Or.inr z))
  have kk' := kk p e R s m args below meth c Hc locs lsC A hC (ho.pop.pop.push hok) hP hD hS hl
  rcases (show t = 0 ∨ t = 1 ∨ t = 2 by omega) with rfl | rfl | rfl
  · exact va_aldq hx hb hK hP q0 2 hw rfl hin hd kk'
  · exact va_aldq hx hb hK hP q0 3 hw rfl hin hd kk'
  · exact va_aldq hx hb hK hP q0 4 hw rfl hin hd kk'
theorem g_iast {kd ix N a : Nat} {i x : Int32} (hd : decode b pc = .ok (.iastore, 1)) (h60 : kd < 60) (hsh : xsh kd = (1, a, N)) (hin : vp_in i N) (kk : Gp l cid D ad tx rf Lc d own b nL ret (pc + 1) ls st (hu H kd ix i.toNatClampNeg x) Q) : Gp l cid D ad tx rf Lc d own b nL ret pc ls (vi x :: vi i :: vr kd ix :: st) H Q := by
  intro p e R s m args below meth c Hc locs lsC A hC ho hP hD hS hl
  obtain ⟨hx, hb, hml, hr, hown, hlk, hts, hR, hK, hZ, hrf, hA, hcl⟩ := id hC
  have hi := xok_in ho.pop.pop.top h60
  obtain ⟨q0, hq, hw⟩ := xw_at (cid := cid) (ad := ad) (H := H) hi
  rw [xcell_i hsh] at hw
  refine va_iast hx hb hK hP hD hS q0 0 hw rfl hin hd (fun H1 locs1 hP1 hD1 hS1 => ?_)
  rw [← xcell_i (cid := cid) (ad := ad) (ix := ix) hsh, xw_set hcl.1 hq, hrow_upd] at hP1
  exact kk p e R s m args below meth c H1 locs1 lsC A hC ho.pop.pop.pop hP1 (xw_D hD) hS1 hl
theorem g_zast {kd ix N a : Nat} {i x : Int32} (hd : decode b pc = .ok (.bastore, 1)) (h60 : kd < 60) (hsh : xsh kd = (2, a, N)) (hin : vp_in i N) (h01 : x = 0 ∨ x = 1) (kk : Gp l cid D ad tx rf Lc d own b nL ret (pc + 1) ls st (hu H kd ix i.toNatClampNeg x) Q) : Gp l cid D ad tx rf Lc d own b nL ret pc ls (vi x :: vi i :: vr kd ix :: st) H Q := by
  intro p e R s m args below meth c Hc locs lsC A hC ho hP hD hS hl
  obtain ⟨hx, hb, hml, hr, hown, hlk, hts, hR, hK, hZ, hrf, hA, hcl⟩ := id hC
  have hi := xok_in ho.pop.pop.top h60
  obtain ⟨q0, hq, hw⟩ := xw_at (cid := cid) (ad := ad) (H := H) hi
  rw [xcell_z hsh] at hw
  have hx1 : vp_nar .boolean x = x := by rcases h01 with rfl | rfl <;> rfl
  refine va_zast hx hb hK hP hD hS q0 1 hw rfl hin hd (fun H1 locs1 hP1 hD1 hS1 => ?_)
  rw [hx1, ← xcell_z (cid := cid) (ad := ad) (ix := ix) hsh, xw_set hcl.1 hq, hrow_upd] at hP1
  exact kk p e R s m args below meth c H1 locs1 lsC A hC ho.pop.pop.pop hP1 (xw_D hD) hS1 hl
theorem g_alen {kd ix N a : Nat} {v : Int32} (hd : decode b pc = .ok (.arraylength, 1)) (h60 : kd < 60) (hsh : xsh kd = (1, a, N)) (hv : Int32.ofNat N = v) (kk : Gp l cid D ad tx rf Lc d own b nL ret (pc + 1) ls (vi v :: st) H Q) : Gp l cid D ad tx rf Lc d own b nL ret pc ls (vr kd ix :: st) H Q := by
  intro p e R s m args below meth c Hc locs lsC A hC ho hP hD hS hl
  obtain ⟨hx, hb, hml, hr, hown, hlk, hts, hR, hK, hZ, hrf, hA, hcl⟩ := id hC
  have hi := xok_in ho.top h60
  obtain ⟨q0, hq, hw⟩ := xw_at (cid := cid) (ad := ad) (H := H) hi
  rw [xcell_i hsh] at hw
  exact va_alen hx hb hK hP q0 0 hw rfl hv hd (kk p e R s m args below meth c Hc locs lsC A hC (ho.pop.push trivial) hP hD hS hl)
-- statics
theorem g_gsACR {index : Nat} (hd : decode b pc = .ok (.getstatic index, 3)) (hm : Cond.fieldLink own index "ThreePoints" "ACROSS" "[I" ∈ xtbl) (kk : Gp l cid D ad tx rf Lc d own b nL ret (pc + 3) ls (vr 62 0 :: st) H Q) : Gp l cid D ad tx rf Lc d own b nL ret pc ls st H Q := by
  intro p e R s m args below meth c Hc locs lsC A hC ho hP hD hS hl
  obtain ⟨hx, hb, hml, hr, hown, hlk, hts, hR, hK, hZ, hrf, hA, hcl⟩ := id hC
  exact va_gets hx hb hZ.1 hS hown (hts _ hm) (fun x h => h) hd (kk p e R s m args below meth c Hc locs lsC A hC (ho.push (Or.inr (Or.inr ⟨by omega, rfl⟩))) hP hD hS hl)
theorem g_gsBND {index : Nat} (hd : decode b pc = .ok (.getstatic index, 3)) (hm : Cond.fieldLink own index "ThreePoints$Text" "BOUNDS" "[I" ∈ xtbl) (kk : Gp l cid D ad tx rf Lc d own b nL ret (pc + 3) ls (vr 63 0 :: st) H Q) : Gp l cid D ad tx rf Lc d own b nL ret pc ls st H Q := by
  intro p e R s m args below meth c Hc locs lsC A hC ho hP hD hS hl
  obtain ⟨hx, hb, hml, hr, hown, hlk, hts, hR, hK, hZ, hrf, hA, hcl⟩ := id hC
  exact va_gets hx hb hZ.2.2.1 hS hown (hts _ hm) (fun x h => h) hd (kk p e R s m args below meth c Hc locs lsC A hC (ho.push (Or.inr (Or.inr ⟨by omega, rfl⟩))) hP hD hS hl)
theorem g_gsABV {index : Nat} (hd : decode b pc = .ok (.getstatic index, 3)) (hm : Cond.fieldLink own index "ThreePoints$Vehicle" "ABOVE" "[I" ∈ xtbl) (kk : Gp l cid D ad tx rf Lc d own b nL ret (pc + 3) ls (vr 64 0 :: st) H Q) : Gp l cid D ad tx rf Lc d own b nL ret pc ls st H Q := by
  intro p e R s m args below meth c Hc locs lsC A hC ho hP hD hS hl
  obtain ⟨hx, hb, hml, hr, hown, hlk, hts, hR, hK, hZ, hrf, hA, hcl⟩ := id hC
  exact va_gets hx hb hZ.2.2.2.2.1 hS hown (hts _ hm) (fun x h => h) hd (kk p e R s m args below meth c Hc locs lsC A hC (ho.push (Or.inr (Or.inr ⟨by omega, rfl⟩))) hP hD hS hl)
theorem g_gsCMP {index : Nat} (hd : decode b pc = .ok (.getstatic index, 3)) (hm : Cond.fieldLink own index "java/lang/String" "COMPACT_STRINGS" "Z" ∈ xtbl) (kk : Gp l cid D ad tx rf Lc d own b nL ret (pc + 3) ls (vi 1 :: st) H Q) : Gp l cid D ad tx rf Lc d own b nL ret pc ls st H Q := by
  intro p e R s m args below meth c Hc locs lsC A hC ho hP hD hS hl
  obtain ⟨hx, hb, hml, hr, hown, hlk, hts, hR, hK, hZ, hrf, hA, hcl⟩ := id hC
  exact va_gets hx hb hZ.2.2.2.2.2.2.1 hS hown (hts _ hm) (fun x h => h) hd (kk p e R s m args below meth c Hc locs lsC A hC (ho.push trivial) hP hD hS hl)
theorem g_ialdACR {i : Int32} (hd : decode b pc = .ok (.iaload, 1)) (hin : vp_in i 16) (kk : Gp l cid D ad tx rf Lc d own b nL ret (pc + 1) ls (vi (xACR.getD i.toNatClampNeg 0) :: st) H Q) : Gp l cid D ad tx rf Lc d own b nL ret pc ls (vi i :: vr 62 0 :: st) H Q := by
  intro p e R s m args below meth c Hc locs lsC A hC ho hP hD hS hl
  obtain ⟨hx, hb, hml, hr, hown, hlk, hts, hR, hK, hZ, hrf, hA, hcl⟩ := id hC
  exact va_ti hx hb hZ.2.1 hS hin rfl hd (kk p e R s m args below meth c Hc locs lsC A hC (ho.pop.pop.push trivial) hP hD hS hl)
theorem g_ialdBND {i : Int32} (hd : decode b pc = .ok (.iaload, 1)) (hin : vp_in i 3) (kk : Gp l cid D ad tx rf Lc d own b nL ret (pc + 1) ls (vi (xBND.getD i.toNatClampNeg 0) :: st) H Q) : Gp l cid D ad tx rf Lc d own b nL ret pc ls (vi i :: vr 63 0 :: st) H Q := by
  intro p e R s m args below meth c Hc locs lsC A hC ho hP hD hS hl
  obtain ⟨hx, hb, hml, hr, hown, hlk, hts, hR, hK, hZ, hrf, hA, hcl⟩ := id hC
  exact va_ti hx hb hZ.2.2.2.1 hS hin rfl hd (kk p e R s m args below meth c Hc locs lsC A hC (ho.pop.pop.push trivial) hP hD hS hl)
theorem g_ialdABV {i : Int32} (hd : decode b pc = .ok (.iaload, 1)) (hin : vp_in i 6) (kk : Gp l cid D ad tx rf Lc d own b nL ret (pc + 1) ls (vi (xABV.getD i.toNatClampNeg 0) :: st) H Q) : Gp l cid D ad tx rf Lc d own b nL ret pc ls (vi i :: vr 64 0 :: st) H Q := by
  intro p e R s m args below meth c Hc locs lsC A hC ho hP hD hS hl
  obtain ⟨hx, hb, hml, hr, hown, hlk, hts, hR, hK, hZ, hrf, hA, hcl⟩ := id hC
  exact va_ti hx hb hZ.2.2.2.2.2.1 hS hin rfl hd (kk p e R s m args below meth c Hc locs lsC A hC (ho.pop.pop.push trivial) hP hD hS hl)
-- texts
theorem xok_tx {nT kd i : Nat} (hcl : xclo Lc nT) (h : xok Lc nT (vr kd i)) (h1 : 60 ≤ kd) (h2 : kd ≤ 61) : i < nT := by
  rcases h with h | h | h
  · exact absurd (hcl.2.1 _ h) (by show ¬ kd < 60; omega)
  · exact h.2.2
  · exact absurd h.1 (by omega)
theorem g_ldcS {index i : Nat} {t : String} (hd : decode b pc = .ok (.ldc index, 2)) (hi : rf[i]? = some (own, index, t)) (hlt : i < tx.length) (kk : Gp l cid D ad tx rf Lc d own b nL ret (pc + 2) ls (vr 60 i :: st) H Q) : Gp l cid D ad tx rf Lc d own b nL ret pc ls st H Q := by
  intro p e R s m args below meth c Hc locs lsC A hC ho hP hD hS hl
  obtain ⟨hx, hb, hml, hr, hown, hlk, hts, hR, hK, hZ, hrf, hA, hcl⟩ := id hC
  exact va_ldcS hx hb hown (hrf.1 i _ hi) hd (kk p e R s m args below meth c Hc locs lsC A hC (ho.push (Or.inr (Or.inl ⟨by omega, by omega, hlt⟩))) hP hD hS hl)
theorem g_strV {index i : Nat} (hd : decode b pc = .ok (.getfield index, 3)) (hm : Cond.fieldLink own index "java/lang/String" "value" "[B" ∈ xtbl) (kk : Gp l cid D ad tx rf Lc d own b nL ret (pc + 3) ls (vr 61 i :: st) H Q) : Gp l cid D ad tx rf Lc d own b nL ret pc ls (vr 60 i :: st) H Q := by
  intro p e R s m args below meth c Hc locs lsC A hC ho hP hD hS hl
  obtain ⟨hx, hb, hml, hr, hown, hlk, hts, hR, hK, hZ, hrf, hA, hcl⟩ := id hC
  have hi := xok_tx hcl ho.top (by omega) (by omega)
  exact vk_getf hx hb (hZ.2.2.2.2.2.2.2.1 i hi).2.2.1 hS hown (hts _ hm) (fun x h => h) hd (kk p e R s m args below meth c Hc locs lsC A hC (ho.pop.push (Or.inr (Or.inl ⟨by omega, by omega, hi⟩))) hP hD hS hl)
theorem g_strC {index i : Nat} (hd : decode b pc = .ok (.getfield index, 3)) (hm : Cond.fieldLink own index "java/lang/String" "coder" "B" ∈ xtbl) (kk : Gp l cid D ad tx rf Lc d own b nL ret (pc + 3) ls (vi 0 :: st) H Q) : Gp l cid D ad tx rf Lc d own b nL ret pc ls (vr 60 i :: st) H Q := by
  intro p e R s m args below meth c Hc locs lsC A hC ho hP hD hS hl
  obtain ⟨hx, hb, hml, hr, hown, hlk, hts, hR, hK, hZ, hrf, hA, hcl⟩ := id hC
  have hi := xok_tx hcl ho.top (by omega) (by omega)
  exact vk_getf hx hb (hZ.2.2.2.2.2.2.2.1 i hi).2.1 hS hown (hts _ hm) (fun x h => h) hd (kk p e R s m args below meth c Hc locs lsC A hC (ho.pop.push trivial) hP hD hS hl)
theorem g_bald {i : Nat} {j : Int32} (hd : decode b pc = .ok (.baload, 1)) (hin : vp_in j (tx.getD i []).length) (kk : Gp l cid D ad tx rf Lc d own b nL ret (pc + 1) ls (vi ((tx.getD i []).getD j.toNatClampNeg 0) :: st) H Q) : Gp l cid D ad tx rf Lc d own b nL ret pc ls (vi j :: vr 61 i :: st) H Q := by
  intro p e R s m args below meth c Hc locs lsC A hC ho hP hD hS hl
  obtain ⟨hx, hb, hml, hr, hown, hlk, hts, hR, hK, hZ, hrf, hA, hcl⟩ := id hC
  have hi := xok_tx hcl ho.pop.top (by omega) (by omega)
  have hT := (hZ.2.2.2.2.2.2.2.1 i hi).2.2.2
  have hlen : (tx.map List.length).getD i 0 = (tx.getD i []).length := by simp [List.getD, hi]
  rw [hlen] at hT
  exact va_tb hx hb hT hS hin rfl hd (kk p e R s m args below meth c Hc locs lsC A hC (ho.pop.pop.push trivial) hP hD hS hl)
theorem g_blen {i : Nat} (hd : decode b pc = .ok (.arraylength, 1)) (kk : Gp l cid D ad tx rf Lc d own b nL ret (pc + 1) ls (vi (nI (tx.getD i []).length) :: st) H Q) : Gp l cid D ad tx rf Lc d own b nL ret pc ls (vr 61 i :: st) H Q := by
  intro p e R s m args below meth c Hc locs lsC A hC ho hP hD hS hl
  obtain ⟨hx, hb, hml, hr, hown, hlk, hts, hR, hK, hZ, hrf, hA, hcl⟩ := id hC
  have hi := xok_tx hcl ho.top (by omega) (by omega)
  have hT := (hZ.2.2.2.2.2.2.2.1 i hi).2.2.2
  have hlen : (tx.map List.length).getD i 0 = (tx.getD i []).length := by simp [List.getD, hi]
  rw [hlen] at hT
  exact va_tlen hx hb hT hS rfl hd (kk p e R s m args below meth c Hc locs lsC A hC (ho.pop.push trivial) hP hD hS hl)
end HRU
end
section
/-! RULES: calls. -/
def xpu (ret : Option FieldType) (v : AV) (st : List AV) : List AV := match ret with
  | none => st
  | some _ => v :: st
def xcat (v : AV) : Nat := match v with
  | .inr (.inl _) => 2
  | _ => 1
theorem xcat_eq {ad : Nat → Nat → Nat} (v : AV) : (cv ad v).category = xcat v := by
  rcases v with x | x | _ | ⟨k, i⟩ <;> rfl
theorem xcats {ad : Nat → Nat → Nat} (st : List AV) : (st.map (cv ad)).map (fun v => v.category) = st.map xcat := by
  rw [List.map_map]
  exact List.map_congr_left fun v _ => xcat_eq v
section CRU
variable {l : Launch} {cid : Nat → ClassId} {D : va_G} {ad : Nat → Nat → Nat} {tx : List (List Int32)} {rf : List (String × Nat × String)} {Lc : List (Nat × Nat)} {d : Nat} {own : String} {b : ByteArray} {nL : Nat} {ret : Option FieldType} {pc : Nat} {ls : List (Option AV)} {st : List AV} {H : HH} {Q Q2 : AV → HH → Prop}
theorem xgood {y : MethodName} {b2 : ByteArray} {n2 : Nat} {r2 : Option FieldType} (hc : Cond.code y b2 n2 r2 ∈ xtbl) : GoodIn xtbl (Cond.code y b2 n2 r2 :: xtbl) := by
  have hall : ∀ w ∈ xtbl, w ∈ xtbl ∧ ((w.onTables && w.keeps) = true ∨ ∃ ty, w = .arrayClass ty) := fun w h => ⟨h, good_of_word (List.mem_filter.mp h).2⟩
  intro w h
  rcases List.mem_cons.mp h with rfl | h
  · exact hall _ hc
  · exact hall _ h
variable (cid D ad tx rf Lc) in
/-- a contract's start: the world is the heap's picture -/
def xPc (vs : List AV) (H : HH) (sz : Nat) : Array Value → State → Prop := va_Pc (vs.map (cv ad)) (fun U => U.heap.size = sz ∧ va_P D xcl (xw cid ad Lc H) U.heap ∧ va_K D xcl (xtys cid) U ∧ va_D (fun _ => True) (xw cid ad Lc H) ∧ xStat ad tx (va_A (xw cid ad Lc H) sz) U U.heap ∧ xRefs ad rf U)
theorem xmet {y : MethodName} {vs : List AV} {sz : Nat} (hcl : xclo Lc tx.length) (hy : plainName y.cls = true) (h : Gp l cid D ad tx rf Lc d y.cls b nL ret 0 (xent vs) [] H Q) (hok : ∀ v ∈ vs, xok Lc tx.length v) (hn : (vs.map xcat).sum ≤ nL) :
    Met l y (Cond.code y b nL ret :: xtbl) (xrm d) (xPc cid D ad tx rf Lc vs H sz) (xQ cid D ad tx Lc ret Q (va_A (xw cid ad Lc H) sz)) 0 0 (va_A (xw cid ad Lc H) sz) := by
  refine Met.ofW (cc := b) (maxL := nL) (ret := ret) hy rfl ?_
  intro p e s m args below meth c s₁ B hml hv
  obtain ⟨rfl, hsz, hP, hK, hD0, hZ, hrf⟩ := hv
  have hx := B.exec
  have hb := B.bytes
  have hr := B.returns
  have hts := atoms_spec (ws := Cond.code y b nL ret :: xtbl) B.pre
  have hown : s.vm.findClass y.cls = some m.cls := findClass_of_methodNamed B.named
  have hlocks := B.notSynchronized
  subst hsz
  have hD := hD0.self (sz := s.heap.size)
  have hlen : (lg_sl (vs.map (cv ad))).length ≤ nL := by
    refine Nat.le_trans (Nat.le_of_eq ?_) hn
    clear h hok hn hts B hx hb hr hown hlocks hD hD0 hZ hrf hP hK hml
    induction vs with
    | nil => rfl
    | cons v r ih =>
      have e : lg_sl (List.map (cv ad) (v :: r)) = (if (cv ad v).category = 2 then [Slot.val (cv ad v), .second] else [Slot.val (cv ad v)]) ++ lg_sl (r.map (cv ad)) := by simp [lg_sl]
      rw [e, List.length_append, ih]
      rcases v with x | x | _ | ⟨k, i⟩ <;> simp [cv, Value.category, xcat]
  have hl := lv_entry (vs.map (cv ad)) (n := nL) hlen
  rw [lg_entry_eq]
  generalize (lg_sl (vs.map (cv ad)) ++ List.replicate (nL - (lg_sl (vs.map (cv ad))).length) Slot.unset).toArray = lsC at hl ⊢
  rw [← xent_args] at hl
  exact h p e _ s m _ below meth c s.heap [] lsC _ ⟨hx, hb, hml, hr, hown, hlocks, fun w hw => hts w (List.mem_cons_of_mem _ hw), rfl, hK, hZ, hrf, fun q hq => Or.inr hq, hcl⟩
    ⟨fun v hv => by
      obtain ⟨i, hi⟩ := List.mem_iff_getElem?.mp hv
      have aux : ∀ (ws : List AV) (i : Nat), (xent ws)[i]? = some (some v) → v ∈ ws := by
        intro ws
        induction ws with
        | nil => intro i h; simp [xent] at h
        | cons w r ih =>
          intro i h
          rcases w with x | x | _ | ⟨k, j⟩
          · cases i with
            | zero => simp [xent] at h; rw [← h]; exact List.mem_cons_self
            | succ i => exact List.mem_cons_of_mem _ (ih i (by simpa [xent] using h))
          · cases i with
            | zero => simp [xent] at h; rw [← h]; exact List.mem_cons_self
            | succ i => cases i with
              | zero => simp [xent] at h
              | succ i => exact List.mem_cons_of_mem _ (ih i (by simpa [xent] using h))
          · cases i with
            | zero => simp [xent] at h; rw [← h]; exact List.mem_cons_self
            | succ i => exact List.mem_cons_of_mem _ (ih i (by simpa [xent] using h))
          · cases i with
            | zero => simp [xent] at h; rw [← h]; exact List.mem_cons_self
            | succ i => exact List.mem_cons_of_mem _ (ih i (by simpa [xent] using h))
      exact hok v (aux vs i hi), fun v hv => by cases hv⟩ hP hD va_S.rf hl
theorem xblind {vs : List AV} {sz : Nat} : FrameBlind (xPc cid D ad tx rf Lc vs H sz) := by
  intro a U g mk q
  obtain ⟨q0, q1, qP, qK, qD, qZ, qR⟩ := q
  exact ⟨q0, q1, qP, va_K.moved (u := U) (U := U.calling g mk a) (Vm.Alike.refl U.vm) qK, qD, xStat.moved ad tx (u := U) (U := U.calling g mk a) (Vm.Alike.refl U.vm) qZ, ⟨fun i r h => vk_R.same (u := U) rfl (qR.1 i r h), fun q h => va_Nw.same rfl (u := U) rfl (qR.2 q h)⟩⟩
/-- behind a call's run -/
theorem xback {p : Program} {e : Env} {R : Room} {s : State} {m : MethodId} {args : Array Value} {below : List Frame} {meth : Method} {c : Code} {Hc : Heap} {locs : List Loc} {lsC : Array Slot} {A : Nat → Prop} {st0 : List Value} {r2 : Option FieldType} {a : Array Value} {H2 : HH}
    (hr : va_Run p l e R s m args below meth c Hc locs 0 0 0 0 (F0 m pc lsC st0) (st.map (cv ad)) (xQ cid D ad tx Lc r2 Q2 (va_A (xw cid ad Lc H2) Hc.size) a) (va_A (xw cid ad Lc H2) Hc.size))
    (hC : xC cid D ad tx rf Lc p c meth s m args R A d own b nL ret) (ho : xoks Lc tx.length ls st) (hD : va_D A (xw cid ad Lc H2)) (hS : va_S A s.heap Hc locs) (hl : lv_has lsC nL (lcv ad 0 ls))
    (kk : ∀ v H', Q2 v H' → Gp l cid D ad tx rf Lc d own b nL ret (pc + 3) ls (xpu r2 v st) H' Q) : W p l e R s m args below meth c Hc locs 0 0 (MQ below (xQ cid D ad tx Lc ret Q A) args s 0 0 A) (F0 m pc lsC st0) := by
  have hA1 : ∀ q, va_A (xw cid ad Lc H2) Hc.size q → A q := by
    intro q h
    rcases h with ⟨k, e, h⟩ | h
    · exact hD.2 k (q, e) h
    · exact hC.2.2.2.2.2.2.2.2.2.2.2.1 q (Nat.le_trans hS.1 h)
  intro T hT X
  obtain ⟨v, st₀, t, T', L, h0, X', hL, e1, e2, ⟨v', H', hv, hok, hq, hP1, hz, hk⟩, stp⟩ := hr T hT X
  rw [h0] at hz hk
  have W1 := kk v' H' hq p e R s m args below meth c T'.heap (locs ++ L) lsC A hC
    (by
      cases r2 with
      | none => exact ho
      | some _ => exact ho.push hok)
    (by rw [e1]; exact hP1) (xw_D hD)
    ⟨Nat.le_trans hS.1 (by rw [e1]; exact hz), fun q h1 h2 => by rw [e1, hk q (Nat.lt_of_lt_of_le h1 hS.1) (fun z => h2 (hA1 q z))]; exact hS.2.1 q h1 h2, fun q hq => by
      rcases List.mem_append.mp hq with h | h
      · exact hS.2.2 q h
      · exact hA1 _ (hL q h)⟩ hl
  obtain ⟨t2, a1, b1⟩ := W1 T' rfl X'
  refine ⟨t2, stp t2 ?_, b1⟩
  have hst : v.toList ++ st.map (cv ad) = (xpu r2 v' st).map (cv ad) := by
    cases r2 with
    | none => cases hv; rfl
    | some _ => cases hv; rfl
  show Steps p.tables e below (T'.setTop { method := m, pc := pc + 3, locals := lsC, stack := v.toList ++ st.map (cv ad), locked := none }) t2
  rw [hst]
  exact a1
theorem xprec {s : State} {Hc : Heap} {A : Nat → Prop} {locs : List Loc} {vs : List AV} (hK : va_K D xcl (xtys cid) s) (hP : va_P D xcl (xw cid ad Lc H) Hc) (hD : va_D A (xw cid ad Lc H)) (hZ : xStat ad tx A s s.heap) (hrf : xRefs ad rf s) (hS : va_S A s.heap Hc locs) (hA : ∀ q, s.heap.size ≤ q → A q) :
    ∀ U : State, U.heap = Hc → s.WarmedH U.vm → xPc cid D ad tx rf Lc vs H Hc.size (vs.map (cv ad)).toArray U := by
  intro U hU hW
  refine ⟨rfl, by rw [hU], by rw [hU]; exact hP, va_K.moved hW.alike hK, hD.weaken (fun _ _ _ _ => trivial), ?_, ⟨fun i r h => vk_R.warm hW (hrf.1 i r h), fun q h => va_Nw.warmM hW (hrf.2 q h)⟩⟩
  rw [hU]
  refine ((hZ.kept ad tx hS.2.1).moved ad tx hW.alike).narrow ad tx fun q h => ?_
  rcases h with ⟨k, e, h⟩ | h
  · exact hD.2 k (q, e) h
  · exact hA q (Nat.le_trans hS.1 h)
/-- the words of a method that is called -/
def xM (y : MethodName) (b2 : ByteArray) (n2 : Nat) (r2 : Option FieldType) (n : Nat) : Prop := Cond.code y b2 n2 r2 ∈ xtbl ∧ Cond.initialized y.cls ∈ xtbl ∧ plainName y.cls = true ∧ (y.cls ≠ "java/lang/invoke/MethodHandle" ∧ y.cls ≠ "java/lang/invoke/VarHandle" ∧ (parseMethodDescriptor y.desc).map (fun d => d.parameters.length) = some n) ∧ n2 ≤ 20
theorem g_callV {y : MethodName} {b2 : ByteArray} {n2 n ci N kd ix index : Nat} {r2 : Option FieldType} {T : u_T} {vs : List AV} {st0 : List AV} (hd : decode b pc = .ok (.invokevirtual index, 3)) (hM : xM y b2 n2 r2 n) (hlink : Cond.methodLink own index y ∈ xtbl) (hinst : Cond.instanceMethod y ∈ xtbl) (hsel : Cond.selects y.cls y y ∈ xtbl)
    (h60 : kd < 60) (hsh : xsh kd = (0, ci, N)) (hc : xcl[ci]? = some (y.cls, T, N)) (hlen : vs.length = n) (hst : st0 = vs.reverse ++ vr kd ix :: st) (hcat : (st.map xcat).sum ≤ 8) (hsum : ((vr kd ix :: vs).map xcat).sum ≤ n2)
    (h : Gp l cid D ad tx rf Lc d y.cls b2 n2 r2 0 (xent (vr kd ix :: vs)) [] H Q2) (kk : ∀ v H', Q2 v H' → Gp l cid D ad tx rf Lc (d + 1) own b nL ret (pc + 3) ls (xpu r2 v st) H' Q) : Gp l cid D ad tx rf Lc (d + 1) own b nL ret pc ls st0 H Q := by
  subst hst
  intro p e R s m args below meth c Hc locs lsC A hC ho hP hD hS hl
  obtain ⟨hx, hb, hml, hr, hown, hlk, hts, hR, hK, hZ, hrf, hA, hcl⟩ := id hC
  have hov : xok Lc tx.length (vr kd ix) := ho.2 _ (by simp)
  obtain ⟨q0, hq, hw⟩ := xw_at (cid := cid) (ad := ad) (H := H) (xok_in hov h60)
  rw [xcell_o hsh] at hw
  have hmet := xmet (sz := Hc.size) (y := y) (vs := vr kd ix :: vs) hcl hM.2.2.1 h (fun v hv => by
    rcases List.mem_cons.mp hv with rfl | hv
    · exact hov
    · exact ho.2 _ (by simp [hv])) hsum
  have hrun := va_runV (C := y.cls) (As := vs.map (cv ad)) (rest := st.map (cv ad)) (b := ad kd ix) (g := F0 m pc lsC ((vs.reverse ++ vr kd ix :: st).map (cv ad))) (H := Hc) (locs := locs) (cells := 0) (slots := 0) (p := p) (e := e) (R := R) (below := below) (meth := meth) (index := index) ⟨hx, hb, hml, hown, hts⟩ hmet
    ⟨callB_of n hts (xgood hM.1) rfl rfl rfl (hts _ hM.2.1) (hts _ hlink) hM.2.2.2.1 (by subst hR; have := hM.2.2.2.2; simp only [xrm]; omega), hts _ hinst, hts _ hsel⟩
    ⟨xblind, va_recv hK hP hc hw, xprec hK hP hD hZ hrf hS hA⟩ rfl (by simpa using hlen) hl.1 (by simp [cv]) (by rw [xcats]; exact (by simpa [JFrame.monitorRoom] using hcat)) hd ⟨Nat.zero_le _, Nat.zero_le _⟩
  exact xback hrun hC ⟨ho.1, fun v hv => ho.2 v (by simp [hv])⟩ hD hS hl kk
theorem g_callStr {y : MethodName} {b2 : ByteArray} {n2 n i index : Nat} {r2 : Option FieldType} {vs : List AV} {st0 : List AV} (hd : decode b pc = .ok (.invokevirtual index, 3)) (hM : xM y b2 n2 r2 n) (hlink : Cond.methodLink own index y ∈ xtbl) (hinst : Cond.instanceMethod y ∈ xtbl) (hsel : Cond.selects y.cls y y ∈ xtbl)
    (hc : y.cls = "java/lang/String") (hlen : vs.length = n) (hst : st0 = vs.reverse ++ vr 60 i :: st) (hcat : (st.map xcat).sum ≤ 8) (hsum : ((vr 60 i :: vs).map xcat).sum ≤ n2)
    (h : Gp l cid D ad tx rf Lc d y.cls b2 n2 r2 0 (xent (vr 60 i :: vs)) [] H Q2) (kk : ∀ v H', Q2 v H' → Gp l cid D ad tx rf Lc (d + 1) own b nL ret (pc + 3) ls (xpu r2 v st) H' Q) : Gp l cid D ad tx rf Lc (d + 1) own b nL ret pc ls st0 H Q := by
  subst hst
  intro p e R s m args below meth c Hc locs lsC A hC ho hP hD hS hl
  obtain ⟨hx, hb, hml, hr, hown, hlk, hts, hR, hK, hZ, hrf, hA, hcl⟩ := id hC
  have hov : xok Lc tx.length (vr 60 i) := ho.2 _ (by simp)
  have hi := xok_tx hcl hov (by omega) (by omega)
  have hmet := xmet (sz := Hc.size) (y := y) (vs := vr 60 i :: vs) hcl hM.2.2.1 h (fun v hv => by
    rcases List.mem_cons.mp hv with rfl | hv
    · exact hov
    · exact ho.2 _ (by simp [hv])) hsum
  have hrun := va_runV (C := y.cls) (As := vs.map (cv ad)) (rest := st.map (cv ad)) (b := ad 60 i) (g := F0 m pc lsC ((vs.reverse ++ vr 60 i :: st).map (cv ad))) (H := Hc) (locs := locs) (cells := 0) (slots := 0) (p := p) (e := e) (R := R) (below := below) (meth := meth) (index := index) ⟨hx, hb, hml, hown, hts⟩ hmet
    ⟨callB_of n hts (xgood hM.1) rfl rfl rfl (hts _ hM.2.1) (hts _ hlink) hM.2.2.2.1 (by subst hR; have := hM.2.2.2.2; simp only [xrm]; omega), hts _ hinst, hts _ hsel⟩
    ⟨xblind, by rw [hc]; exact vk_recv hZ.2.2.2.2.2.2.2 hi hS, xprec hK hP hD hZ hrf hS hA⟩ rfl (by simpa using hlen) hl.1 (by simp [cv]) (by rw [xcats]; exact (by simpa [JFrame.monitorRoom] using hcat)) hd ⟨Nat.zero_le _, Nat.zero_le _⟩
  exact xback hrun hC ⟨ho.1, fun v hv => ho.2 v (by simp [hv])⟩ hD hS hl kk
theorem g_callS {y : MethodName} {b2 : ByteArray} {n2 n index : Nat} {r2 : Option FieldType} {vs : List AV} {st0 : List AV} (hd : decode b pc = .ok (.invokestatic index, 3)) (hM : xM y b2 n2 r2 n) (hlink : Cond.methodLink own index y ∈ xtbl) (hstat : Cond.static y ∈ xtbl)
    (hlen : vs.length = n) (hst : st0 = vs.reverse ++ st) (hcat : (st.map xcat).sum ≤ 8) (hsum : (vs.map xcat).sum ≤ n2)
    (h : Gp l cid D ad tx rf Lc d y.cls b2 n2 r2 0 (xent vs) [] H Q2) (kk : ∀ v H', Q2 v H' → Gp l cid D ad tx rf Lc (d + 1) own b nL ret (pc + 3) ls (xpu r2 v st) H' Q) : Gp l cid D ad tx rf Lc (d + 1) own b nL ret pc ls st0 H Q := by
  subst hst
  intro p e R s m args below meth c Hc locs lsC A hC ho hP hD hS hl
  obtain ⟨hx, hb, hml, hr, hown, hlk, hts, hR, hK, hZ, hrf, hA, hcl⟩ := id hC
  have hmet := xmet (sz := Hc.size) (y := y) (vs := vs) hcl hM.2.2.1 h (fun v hv => ho.2 _ (by simp [hv])) hsum
  have hrun := va_runS (As := vs.map (cv ad)) (rest := st.map (cv ad)) (g := F0 m pc lsC ((vs.reverse ++ st).map (cv ad))) (H := Hc) (locs := locs) (cells := 0) (slots := 0) (p := p) (e := e) (R := R) (below := below) (meth := meth) (index := index) ⟨hx, hb, hml, hown, hts⟩ hmet
    ⟨callB_of n hts (xgood hM.1) rfl rfl rfl (hts _ hM.2.1) (hts _ hlink) hM.2.2.2.1 (by subst hR; have := hM.2.2.2.2; simp only [xrm]; omega), hts _ hstat⟩
    ⟨xblind, xprec hK hP hD hZ hrf hS hA⟩ rfl (by simpa using hlen) hl.1 (by simp) (by rw [xcats]; exact (by simpa [JFrame.monitorRoom] using hcat)) hd ⟨Nat.zero_le _, Nat.zero_le _⟩
  exact xback hrun hC ⟨ho.1, fun v hv => ho.2 v (by simp [hv])⟩ hD hS hl kk
/-- a static method of a nest mate -/
theorem g_callSN {y : MethodName} {b2 : ByteArray} {n2 n index : Nat} {r2 : Option FieldType} {host : String} {vs : List AV} {st0 : List AV} (hd : decode b pc = .ok (.invokestatic index, 3)) (hM : xM y b2 n2 r2 n) (hlink : (own, index, y, host) ∈ xNST) (hstat : Cond.static y ∈ xtbl)
    (hlen : vs.length = n) (hst : st0 = vs.reverse ++ st) (hcat : (st.map xcat).sum ≤ 8) (hsum : (vs.map xcat).sum ≤ n2)
    (h : Gp l cid D ad tx rf Lc d y.cls b2 n2 r2 0 (xent vs) [] H Q2) (kk : ∀ v H', Q2 v H' → Gp l cid D ad tx rf Lc (d + 1) own b nL ret (pc + 3) ls (xpu r2 v st) H' Q) : Gp l cid D ad tx rf Lc (d + 1) own b nL ret pc ls st0 H Q := by
  subst hst
  intro p e R s m args below meth c Hc locs lsC A hC ho hP hD hS hl
  obtain ⟨hx, hb, hml, hr, hown, hlk, hts, hR, hK, hZ, hrf, hA, hcl⟩ := id hC
  have hmet := xmet (sz := Hc.size) (y := y) (vs := vs) hcl hM.2.2.1 h (fun v hv => ho.2 _ (by simp [hv])) hsum
  have hrun := va_runSN (host := host) (As := vs.map (cv ad)) (rest := st.map (cv ad)) (g := F0 m pc lsC ((vs.reverse ++ st).map (cv ad))) (H := Hc) (locs := locs) (cells := 0) (slots := 0) (p := p) (e := e) (R := R) (below := below) (meth := meth) (index := index) ⟨hx, hb, hml, hown, hts⟩ hmet
    ⟨va_cnB n hts (xgood hM.1) rfl rfl rfl (hrf.2 _ hlink) (hts _ hM.2.1) hM.2.2.2.1 (by subst hR; have := hM.2.2.2.2; simp only [xrm]; omega), hts _ hstat, trivial⟩
    ⟨xblind, xprec hK hP hD hZ hrf hS hA⟩ rfl (by simpa using hlen) hl.1 (by simp) (by rw [xcats]; exact (by simpa [JFrame.monitorRoom] using hcat)) hd ⟨Nat.zero_le _, Nat.zero_le _⟩
  exact xback hrun hC ⟨ho.1, fun v hv => ho.2 v (by simp [hv])⟩ hD hS hl kk
end CRU
end
section
/-! RULES: names, loops, Math.max, Math.min, System.arraycopy; what stands for both sides of the law. -/
abbrev xrem (x y : Int32) : Int32 := x - x / y * y
theorem vp_lit {i : Int32} {n : Nat} (h : (decide (i < 0) || decide (n ≤ i.toNatClampNeg)) = false) : vp_in i n := by
  intro q
  rcases q with q | q
  · simp [q] at h
  · simp [q] at h
section MRU
variable {l : Launch} {cid : Nat → ClassId} {D : va_G} {ad : Nat → Nat → Nat} {tx : List (List Int32)} {rf : List (String × Nat × String)} {Lc : List (Nat × Nat)} {d : Nat} {own : String} {b : ByteArray} {nL : Nat} {ret : Option FieldType} {pc : Nat} {ls : List (Option AV)} {st : List AV} {H : HH} {Q Q2 : AV → HH → Prop}
theorem g_topi {x : Int32} (k : ∀ y, y = x → Gp l cid D ad tx rf Lc d own b nL ret pc ls (vi y :: st) H Q) : Gp l cid D ad tx rf Lc d own b nL ret pc ls (vi x :: st) H Q := k x rfl
theorem g_topl {x : Int64} (k : ∀ y, y = x → Gp l cid D ad tx rf Lc d own b nL ret pc ls (vl y :: st) H Q) : Gp l cid D ad tx rf Lc d own b nL ret pc ls (vl x :: st) H Q := k x rfl
theorem g_heap (k : ∀ H1, H1 = H → Gp l cid D ad tx rf Lc d own b nL ret pc ls st H1 Q) : Gp l cid D ad tx rf Lc d own b nL ret pc ls st H Q := k H rfl
theorem g_mmax {index : Nat} {x y : Int32} (hd : decode b pc = .ok (.invokestatic index, 3)) (hm : Cond.methodLink own index Lib.Math.max.name ∈ xtbl) (h1 : Cond.static Lib.Math.max.name ∈ xtbl) (h2 : Cond.initialized "java/lang/Math" ∈ xtbl) (h3 : Cond.code Lib.Math.max.name Lib.Math.max.code 2 (some .int) ∈ xtbl) (hcat : (st.map xcat).sum ≤ 8)
    (k : Gp l cid D ad tx rf Lc (d + 1) own b nL ret (pc + 3) ls (vi (if x < y then y else x) :: st) H Q) : Gp l cid D ad tx rf Lc (d + 1) own b nL ret pc ls (vi y :: vi x :: st) H Q := by
  intro p e R s m args below meth c Hc locs lsC A hC ho hP hD hS hl
  obtain ⟨hx, hb, hml, hr, hown, hlk, hts, hR, hK, hZ, hrf, hA, hcl⟩ := id hC
  subst hR
  exact va_mmax hx hb (hml.trans hl.1.symm) hown (hts _ hm) (hts _ h1) (hts _ h2) (hts _ h3) (by simp only [xrm]; omega) (by rw [xcats]; simp only [xrm]; omega) (Nat.zero_le _) (Nat.zero_le _) hd (k p e _ s m args below meth c Hc locs lsC A hC (ho.pop.pop.push trivial) hP hD hS hl)
theorem g_mmin {index : Nat} {x y : Int32} (hd : decode b pc = .ok (.invokestatic index, 3)) (hm : Cond.methodLink own index Lib.Math.min.name ∈ xtbl) (h1 : Cond.static Lib.Math.min.name ∈ xtbl) (h2 : Cond.initialized "java/lang/Math" ∈ xtbl) (h3 : Cond.code Lib.Math.min.name Lib.Math.min.code 2 (some .int) ∈ xtbl) (hcat : (st.map xcat).sum ≤ 8)
    (k : Gp l cid D ad tx rf Lc (d + 1) own b nL ret (pc + 3) ls (vi (if y < x then y else x) :: st) H Q) : Gp l cid D ad tx rf Lc (d + 1) own b nL ret pc ls (vi y :: vi x :: st) H Q := by
  intro p e R s m args below meth c Hc locs lsC A hC ho hP hD hS hl
  obtain ⟨hx, hb, hml, hr, hown, hlk, hts, hR, hK, hZ, hrf, hA, hcl⟩ := id hC
  subst hR
  exact va_mmin hx hb (hml.trans hl.1.symm) hown (hts _ hm) (hts _ h1) (hts _ h2) (hts _ h3) (by simp only [xrm]; omega) (by rw [xcats]; simp only [xrm]; omega) (Nat.zero_le _) (Nat.zero_le _) hd (k p e _ s m args below meth c Hc locs lsC A hC (ho.pop.pop.push trivial) hP hD hS hl)
/-- System.arraycopy between rows of ints -/
theorem g_copy {index : Nat} {k0 i0 k1 i1 a0 a1 n0 n1 : Nat} {sp dp n : Int32} (hd : decode b pc = .ok (.invokestatic index, 3)) (hm : Cond.methodLink own index arraycopyName ∈ xtbl) (h1 : Cond.native arraycopyName ∈ xtbl) (h2 : Cond.static arraycopyName ∈ xtbl) (h3 : Cond.initialized "java/lang/System" ∈ xtbl) (hcat : (st.map xcat).sum ≤ 8)
    (hk0 : k0 < 60) (hk1 : k1 < 60) (hs0 : xsh k0 = (1, a0, n0)) (hs1 : xsh k1 = (1, a1, n1)) (q1 : ¬ sp < 0) (q2 : ¬ dp < 0) (q3 : ¬ n < 0) (q4 : sp.toNatClampNeg + n.toNatClampNeg ≤ n0) (q5 : dp.toNatClampNeg + n.toNatClampNeg ≤ n1)
    (k : Gp l cid D ad tx rf Lc (d + 1) own b nL ret (pc + 3) ls st (hrow H k1 i1 (va_cpy (H k0 i0) (H k1 i1) sp.toNatClampNeg dp.toNatClampNeg n.toNatClampNeg)) Q) : Gp l cid D ad tx rf Lc (d + 1) own b nL ret pc ls (vi n :: vi dp :: vr k1 i1 :: vi sp :: vr k0 i0 :: st) H Q := by
  intro p e R s m args below meth c Hc locs lsC A hC ho hP hD hS hl
  obtain ⟨hx, hb, hml, hr, hown, hlk, hts, hR, hK, hZ, hrf, hA, hcl⟩ := id hC
  subst hR
  obtain ⟨p0, hp0, hw0⟩ := xw_at (cid := cid) (ad := ad) (H := H) (xok_in (ho.2 (vr k0 i0) (by simp)) hk0)
  obtain ⟨p1, hp1, hw1⟩ := xw_at (cid := cid) (ad := ad) (H := H) (xok_in (ho.2 (vr k1 i1) (by simp)) hk1)
  rw [xcell_i hs0] at hw0
  rw [xcell_i hs1] at hw1
  have hnf : nativeFrameWords "java/lang/System" "arraycopy" 5 ≤ 30 := by decide +kernel
  refine va_copyi hx hb (hml.trans hl.1.symm) hown (hts _ hm) (hts _ h1) (hts _ h2) (hts _ h3) hK hP hD hS p0 p1 0 0 hw0 hw1 rfl rfl rfl q1 q2 q3 q4 q5 (fun _ _ => rfl) (by simp only [xrm]; omega) (by rw [xcats]; simp only [xrm]; omega) hd (fun H1 locs1 hP1 hD1 hS1 => ?_)
  rw [← xcell_i (cid := cid) (ad := ad) (ix := i1) hs1, xw_set hcl.1 hp1] at hP1
  exact k p e _ s m args below meth c H1 locs1 lsC A hC ⟨ho.1, fun v hv => ho.2 v (by simp [hv])⟩ hP1 (xw_D hD) hS1 hl
end MRU
/-- a loop: an invariant, a measure that falls -/
theorem xloop {σ : Type} (I : σ → HH → Prop) (μ : σ → HH → Nat) (G : σ → HH → Prop) (h : ∀ x H, I x H → (∀ y H1, I y H1 → μ y H1 < μ x H → G y H1) → G x H) : ∀ x H, I x H → G x H := by
  have key : ∀ n x H, μ x H < n → I x H → G x H := by
    intro n
    induction n with
    | zero => intro x H q; exact absurd q (Nat.not_lt_zero _)
    | succ n ih => exact fun x H q hI => h x H hI fun y H1 hy hlt => ih y H1 (by omega) hy
  exact fun x H hI => key _ x H (Nat.lt_succ_self _) hI
theorem xsw {x : Int32} {m : Int} (hm : (Int32.ofInt m).toInt = m) (h : ¬ x = Int32.ofInt m) : ¬ x.toInt = m := fun e => h (Int32.toInt_inj.mp (e.trans hm.symm))
def qi (Q : Int32 → HH → Prop) : AV → HH → Prop := fun v H => ∃ r, v = vi r ∧ Q r H
def ql (Q : Int64 → HH → Prop) : AV → HH → Prop := fun v H => ∃ r, v = vl r ∧ Q r H
def qv (Q : HH → Prop) : AV → HH → Prop := fun _ H => Q H
abbrev XE : Type := Launch × (Nat → ClassId) × va_G × (Nat → Nat → Nat)
/-- the texts that the class holds as constants: whose, which entry, what; their bytes -/
def xRF : List (String × Nat × String) := [("ThreePoints", 58, "clears 1 ; wears 1 + steers ; sure 90 ;"), ("ThreePoints$Tape", 101, "more"), ("ThreePoints$Tape", 105, "wall"), ("ThreePoints$Tape", 107, "heading"), ("ThreePoints$Tape", 109, "place"), ("ThreePoints$Tape", 111, "width"), ("ThreePoints$Tape", 113, "steers"), ("ThreePoints$Tape", 85, "clears"), ("ThreePoints$Tape", 91, "wears"), ("ThreePoints$Tape", 93, "sure"), ("ThreePoints$Tape", 95, "or"), ("ThreePoints$Tape", 97, "and"), ("ThreePoints$Tape", 99, "not"), ("ThreePoints$Tape", 80, "();+-*<=")]
def xTX : List (List Int32) := [[99, 108, 101, 97, 114, 115, 32, 49, 32, 59, 32, 119, 101, 97, 114, 115, 32, 49, 32, 43, 32, 115, 116, 101, 101, 114, 115, 32, 59, 32, 115, 117, 114, 101, 32, 57, 48, 32, 59], [109, 111, 114, 101], [119, 97, 108, 108], [104, 101, 97, 100, 105, 110, 103], [112, 108, 97, 99, 101], [119, 105, 100, 116, 104], [115, 116, 101, 101, 114, 115], [99, 108, 101, 97, 114, 115], [119, 101, 97, 114, 115], [115, 117, 114, 101], [111, 114], [97, 110, 100], [110, 111, 116], [40, 41, 59, 43, 45, 42, 60, 61]]
section MR2
variable {l : Launch} {cid : Nat → ClassId} {D : va_G} {ad : Nat → Nat → Nat} {tx : List (List Int32)} {rf : List (String × Nat × String)} {Lc : List (Nat × Nat)} {d : Nat} {own : String} {b : ByteArray} {nL : Nat} {ret : Option FieldType} {pc : Nat} {ls : List (Option AV)} {st : List AV} {H : HH} {Q Q2 : AV → HH → Prop}
theorem g_topE {x y : Int32} (e : x = y) (k : Gp l cid D ad tx rf Lc d own b nL ret pc ls (vi y :: st) H Q) : Gp l cid D ad tx rf Lc d own b nL ret pc ls (vi x :: st) H Q := e ▸ k
theorem g_heapE {H1 : HH} (e : H = H1) (k : Gp l cid D ad tx rf Lc d own b nL ret pc ls st H1 Q) : Gp l cid D ad tx rf Lc d own b nL ret pc ls st H Q := e ▸ k
end MR2
abbrev xmax (x y : Int32) : Int32 := if x < y then y else x
abbrev xmin (x y : Int32) : Int32 := if y < x then y else x
theorem nbool {x : Int32} (h : x = 0 ∨ x = 1) : narrow .boolean (.int x) = .int x := by rcases h with rfl | rfl <;> rfl
end
section
/-! Arrays.fill over a row of ints -/
abbrev g_fill (E : XE) (d pc : Nat) (ls : List (Option AV)) (st : List AV) (H : HH) (Q : AV → HH → Prop) : Prop := Gp E.1 E.2.1 E.2.2.1 E.2.2.2 xTX xRF xLC d "java/util/Arrays" prog_19_method_103_code 4 none pc ls st H Q
def c_fill (E : XE) (d kd _N ix : Nat) (v : Int32) (H : HH) (Q : HH → Prop) : Prop := g_fill E d 0 (xent [vr kd ix, vi v]) [] H (qv Q)
set_option maxRecDepth 20000 in
theorem xm_fill : xM ⟨"java/util/Arrays", "fill", "([II)V"⟩ prog_19_method_103_code 4 none 2 := ⟨xtbl_at 510 rfl rfl, xtbl_at 81 rfl (by decide +kernel), by decide +kernel, by decide +kernel, by decide⟩
end
section
/-! words of the tables, by their places; printed by wip/gen/emitall.py -/
set_option maxRecDepth 20000 in
theorem kw_0 : Cond.selects "ThreePoints$Tape" ⟨"ThreePoints$Tape", "endOfToken", "(I)I"⟩ ⟨"ThreePoints$Tape", "endOfToken", "(I)I"⟩ ∈ xtbl := xtbl_at 0 rfl (by decide +kernel)
set_option maxRecDepth 20000 in
theorem kw_1 : Cond.selects "ThreePoints$Tape" ⟨"ThreePoints$Tape", "byteAt", "(I)I"⟩ ⟨"ThreePoints$Tape", "byteAt", "(I)I"⟩ ∈ xtbl := xtbl_at 1 rfl (by decide +kernel)
set_option maxRecDepth 20000 in
theorem kw_2 : Cond.selects "ThreePoints$Tape" ⟨"ThreePoints$Tape", "numberAt", "(II)I"⟩ ⟨"ThreePoints$Tape", "numberAt", "(II)I"⟩ ∈ xtbl := xtbl_at 2 rfl (by decide +kernel)
set_option maxRecDepth 20000 in
theorem kw_3 : Cond.selects "ThreePoints$Tape" ⟨"ThreePoints$Tape", "nameAt", "(II)I"⟩ ⟨"ThreePoints$Tape", "nameAt", "(II)I"⟩ ∈ xtbl := xtbl_at 3 rfl (by decide +kernel)
set_option maxRecDepth 20000 in
theorem kw_4 : Cond.selects "ThreePoints$Tape" ⟨"ThreePoints$Tape", "spells", "(IILjava/lang/String;)Z"⟩ ⟨"ThreePoints$Tape", "spells", "(IILjava/lang/String;)Z"⟩ ∈ xtbl := xtbl_at 4 rfl (by decide +kernel)
set_option maxRecDepth 20000 in
theorem kw_5 : Cond.selects "ThreePoints$Tape" ⟨"ThreePoints$Tape", "kindAt", "(II)I"⟩ ⟨"ThreePoints$Tape", "kindAt", "(II)I"⟩ ∈ xtbl := xtbl_at 5 rfl (by decide +kernel)
set_option maxRecDepth 20000 in
theorem kw_6 : Cond.selects "ThreePoints$Tape" ⟨"ThreePoints$Tape", "wordKindAt", "(II)I"⟩ ⟨"ThreePoints$Tape", "wordKindAt", "(II)I"⟩ ∈ xtbl := xtbl_at 6 rfl (by decide +kernel)
set_option maxRecDepth 20000 in
theorem kw_7 : Cond.selects "ThreePoints$Reader" ⟨"ThreePoints$Reader", "goTo", "(I)V"⟩ ⟨"ThreePoints$Reader", "goTo", "(I)V"⟩ ∈ xtbl := xtbl_at 7 rfl (by decide +kernel)
set_option maxRecDepth 20000 in
theorem kw_8 : Cond.selects "ThreePoints$Reader" ⟨"ThreePoints$Reader", "readPart", "(II)Z"⟩ ⟨"ThreePoints$Reader", "readPart", "(II)Z"⟩ ∈ xtbl := xtbl_at 8 rfl (by decide +kernel)
set_option maxRecDepth 20000 in
theorem kw_9 : Cond.selects "ThreePoints$Reader" ⟨"ThreePoints$Reader", "readOr", "()Z"⟩ ⟨"ThreePoints$Reader", "readOr", "()Z"⟩ ∈ xtbl := xtbl_at 9 rfl (by decide +kernel)
set_option maxRecDepth 20000 in
theorem kw_10 : Cond.selects "ThreePoints$Reader" ⟨"ThreePoints$Reader", "readAnd", "()Z"⟩ ⟨"ThreePoints$Reader", "readAnd", "()Z"⟩ ∈ xtbl := xtbl_at 10 rfl (by decide +kernel)
set_option maxRecDepth 20000 in
theorem kw_11 : Cond.selects "ThreePoints$Reader" ⟨"ThreePoints$Reader", "readNot", "()Z"⟩ ⟨"ThreePoints$Reader", "readNot", "()Z"⟩ ∈ xtbl := xtbl_at 11 rfl (by decide +kernel)
set_option maxRecDepth 20000 in
theorem kw_12 : Cond.selects "ThreePoints$Reader" ⟨"ThreePoints$Reader", "readComparison", "()Z"⟩ ⟨"ThreePoints$Reader", "readComparison", "()Z"⟩ ∈ xtbl := xtbl_at 12 rfl (by decide +kernel)
set_option maxRecDepth 20000 in
theorem kw_13 : Cond.selects "ThreePoints$Reader" ⟨"ThreePoints$Reader", "readSum", "()Z"⟩ ⟨"ThreePoints$Reader", "readSum", "()Z"⟩ ∈ xtbl := xtbl_at 13 rfl (by decide +kernel)
set_option maxRecDepth 20000 in
theorem kw_14 : Cond.selects "ThreePoints$Reader" ⟨"ThreePoints$Reader", "readTerm", "()Z"⟩ ⟨"ThreePoints$Reader", "readTerm", "()Z"⟩ ∈ xtbl := xtbl_at 14 rfl (by decide +kernel)
set_option maxRecDepth 20000 in
theorem kw_15 : Cond.selects "ThreePoints$Reader" ⟨"ThreePoints$Reader", "readOne", "()Z"⟩ ⟨"ThreePoints$Reader", "readOne", "()Z"⟩ ∈ xtbl := xtbl_at 15 rfl (by decide +kernel)
set_option maxRecDepth 20000 in
theorem kw_16 : Cond.selects "ThreePoints$Reader" ⟨"ThreePoints$Reader", "mayOpen", "()Z"⟩ ⟨"ThreePoints$Reader", "mayOpen", "()Z"⟩ ∈ xtbl := xtbl_at 16 rfl (by decide +kernel)
set_option maxRecDepth 20000 in
theorem kw_17 : Cond.selects "ThreePoints" ⟨"ThreePoints", "think", "(I)V"⟩ ⟨"ThreePoints", "think", "(I)V"⟩ ∈ xtbl := xtbl_at 17 rfl (by decide +kernel)
set_option maxRecDepth 20000 in
theorem kw_18 : Cond.selects "ThreePoints" ⟨"ThreePoints", "isVehicle", "(I)Z"⟩ ⟨"ThreePoints", "isVehicle", "(I)Z"⟩ ∈ xtbl := xtbl_at 18 rfl (by decide +kernel)
set_option maxRecDepth 20000 in
theorem kw_19 : Cond.selects "ThreePoints" ⟨"ThreePoints", "isPlaceHeading", "(I)Z"⟩ ⟨"ThreePoints", "isPlaceHeading", "(I)Z"⟩ ∈ xtbl := xtbl_at 19 rfl (by decide +kernel)
set_option maxRecDepth 20000 in
theorem kw_20 : Cond.selects "ThreePoints" ⟨"ThreePoints", "isPlace", "(I)Z"⟩ ⟨"ThreePoints", "isPlace", "(I)Z"⟩ ∈ xtbl := xtbl_at 20 rfl (by decide +kernel)
set_option maxRecDepth 20000 in
theorem kw_21 : Cond.selects "ThreePoints" ⟨"ThreePoints", "addVehicle", "(II)I"⟩ ⟨"ThreePoints", "addVehicle", "(II)I"⟩ ∈ xtbl := xtbl_at 21 rfl (by decide +kernel)
set_option maxRecDepth 20000 in
theorem kw_22 : Cond.selects "ThreePoints$Search" ⟨"ThreePoints$Search", "lower", "(II)V"⟩ ⟨"ThreePoints$Search", "lower", "(II)V"⟩ ∈ xtbl := xtbl_at 22 rfl (by decide +kernel)
set_option maxRecDepth 20000 in
theorem kw_23 : Cond.selects "ThreePoints$Search" ⟨"ThreePoints$Search", "unlink", "(I)V"⟩ ⟨"ThreePoints$Search", "unlink", "(I)V"⟩ ∈ xtbl := xtbl_at 23 rfl (by decide +kernel)
set_option maxRecDepth 20000 in
theorem kw_24 : Cond.selects "ThreePoints$Search" ⟨"ThreePoints$Search", "lowerAhead", "(LThreePoints$Ride;II)V"⟩ ⟨"ThreePoints$Search", "lowerAhead", "(LThreePoints$Ride;II)V"⟩ ∈ xtbl := xtbl_at 24 rfl (by decide +kernel)
set_option maxRecDepth 20000 in
theorem kw_25 : Cond.selects "ThreePoints$Search" ⟨"ThreePoints$Search", "addBehind", "(LThreePoints$Ride;III)I"⟩ ⟨"ThreePoints$Search", "addBehind", "(LThreePoints$Ride;III)I"⟩ ∈ xtbl := xtbl_at 25 rfl (by decide +kernel)
set_option maxRecDepth 20000 in
theorem kw_26 : Cond.selects "ThreePoints" ⟨"ThreePoints", "refusalOfMoves", "(II)I"⟩ ⟨"ThreePoints", "refusalOfMoves", "(II)I"⟩ ∈ xtbl := xtbl_at 26 rfl (by decide +kernel)
set_option maxRecDepth 20000 in
theorem kw_27 : Cond.selects "ThreePointsModel" ⟨"ThreePointsModel", "next", "()V"⟩ ⟨"ThreePointsModel", "next", "()V"⟩ ∈ xtbl := xtbl_at 27 rfl (by decide +kernel)
set_option maxRecDepth 20000 in
theorem kw_28 : Cond.selects "ThreePointsModel" ⟨"ThreePointsModel", "wordFrom", "(II)I"⟩ ⟨"ThreePointsModel", "wordFrom", "(II)I"⟩ ∈ xtbl := xtbl_at 28 rfl (by decide +kernel)
set_option maxRecDepth 20000 in
theorem kw_29 : Cond.selects "ThreePointsModel" ⟨"ThreePointsModel", "eRead", "()Z"⟩ ⟨"ThreePointsModel", "eRead", "()Z"⟩ ∈ xtbl := xtbl_at 29 rfl (by decide +kernel)
set_option maxRecDepth 20000 in
theorem kw_30 : Cond.selects "ThreePointsModel" ⟨"ThreePointsModel", "puts", "(I)V"⟩ ⟨"ThreePointsModel", "puts", "(I)V"⟩ ∈ xtbl := xtbl_at 30 rfl (by decide +kernel)
set_option maxRecDepth 20000 in
theorem kw_31 : Cond.selects "ThreePointsModel" ⟨"ThreePointsModel", "unwinds", "(I)V"⟩ ⟨"ThreePointsModel", "unwinds", "(I)V"⟩ ∈ xtbl := xtbl_at 31 rfl (by decide +kernel)
set_option maxRecDepth 20000 in
theorem kw_32 : Cond.selects "ThreePointsModel" ⟨"ThreePointsModel", "opensOne", "(I)Z"⟩ ⟨"ThreePointsModel", "opensOne", "(I)Z"⟩ ∈ xtbl := xtbl_at 32 rfl (by decide +kernel)
set_option maxRecDepth 20000 in
theorem kw_33 : Cond.selects "ThreePointsModel" ⟨"ThreePointsModel", "holds", "(I)V"⟩ ⟨"ThreePointsModel", "holds", "(I)V"⟩ ∈ xtbl := xtbl_at 33 rfl (by decide +kernel)
set_option maxRecDepth 20000 in
theorem kw_34 : Cond.selects "ThreePointsModel" ⟨"ThreePointsModel", "signOf", "()I"⟩ ⟨"ThreePointsModel", "signOf", "()I"⟩ ∈ xtbl := xtbl_at 34 rfl (by decide +kernel)
set_option maxRecDepth 20000 in
theorem kw_35 : Cond.selects "ThreePointsModel" ⟨"ThreePointsModel", "between", "(I)Z"⟩ ⟨"ThreePointsModel", "between", "(I)Z"⟩ ∈ xtbl := xtbl_at 35 rfl (by decide +kernel)
set_option maxRecDepth 20000 in
theorem kw_36 : Cond.selects "ThreePointsModel" ⟨"ThreePointsModel", "doAllFit", "()Z"⟩ ⟨"ThreePointsModel", "doAllFit", "()Z"⟩ ∈ xtbl := xtbl_at 36 rfl (by decide +kernel)
set_option maxRecDepth 20000 in
theorem kw_37 : Cond.selects "ThreePointsModel" ⟨"ThreePointsModel", "isPlace", "(I)Z"⟩ ⟨"ThreePointsModel", "isPlace", "(I)Z"⟩ ∈ xtbl := xtbl_at 37 rfl (by decide +kernel)
set_option maxRecDepth 20000 in
theorem kw_38 : Cond.selects "ThreePointsModel" ⟨"ThreePointsModel", "fitsAt", "(III)Z"⟩ ⟨"ThreePointsModel", "fitsAt", "(III)Z"⟩ ∈ xtbl := xtbl_at 38 rfl (by decide +kernel)
set_option maxRecDepth 20000 in
theorem kw_39 : Cond.selects "ThreePointsModel" ⟨"ThreePointsModel", "frontOf", "(I)I"⟩ ⟨"ThreePointsModel", "frontOf", "(I)I"⟩ ∈ xtbl := xtbl_at 39 rfl (by decide +kernel)
set_option maxRecDepth 20000 in
theorem kw_40 : Cond.selects "ThreePointsModel" ⟨"ThreePointsModel", "backOf", "(I)I"⟩ ⟨"ThreePointsModel", "backOf", "(I)I"⟩ ∈ xtbl := xtbl_at 40 rfl (by decide +kernel)
set_option maxRecDepth 20000 in
theorem kw_41 : Cond.selects "ThreePointsModel" ⟨"ThreePointsModel", "asksOf", "(IIIIII)I"⟩ ⟨"ThreePointsModel", "asksOf", "(IIIIII)I"⟩ ∈ xtbl := xtbl_at 41 rfl (by decide +kernel)
set_option maxRecDepth 20000 in
theorem kw_42 : Cond.selects "ThreePointsModel" ⟨"ThreePointsModel", "says", "(I)I"⟩ ⟨"ThreePointsModel", "says", "(I)I"⟩ ∈ xtbl := xtbl_at 42 rfl (by decide +kernel)
set_option maxRecDepth 20000 in
theorem kw_43 : Cond.selects "ThreePointsModel" ⟨"ThreePointsModel", "isVehicle", "(I)Z"⟩ ⟨"ThreePointsModel", "isVehicle", "(I)Z"⟩ ∈ xtbl := xtbl_at 43 rfl (by decide +kernel)
set_option maxRecDepth 20000 in
theorem kw_44 : Cond.selects "ThreePointsModel" ⟨"ThreePointsModel", "isBoth", "(I)Z"⟩ ⟨"ThreePointsModel", "isBoth", "(I)Z"⟩ ∈ xtbl := xtbl_at 44 rfl (by decide +kernel)
set_option maxRecDepth 20000 in
theorem kw_45 : Cond.selects "ThreePointsModel" ⟨"ThreePointsModel", "canGo", "(III)Z"⟩ ⟨"ThreePointsModel", "canGo", "(III)Z"⟩ ∈ xtbl := xtbl_at 45 rfl (by decide +kernel)
set_option maxRecDepth 20000 in
theorem kw_46 : Cond.selects "ThreePointsModel" ⟨"ThreePointsModel", "placeBy", "(III)I"⟩ ⟨"ThreePointsModel", "placeBy", "(III)I"⟩ ∈ xtbl := xtbl_at 46 rfl (by decide +kernel)
set_option maxRecDepth 20000 in
theorem kw_47 : Cond.selects "ThreePointsModel" ⟨"ThreePointsModel", "headingBy", "(IIII)I"⟩ ⟨"ThreePointsModel", "headingBy", "(IIII)I"⟩ ∈ xtbl := xtbl_at 47 rfl (by decide +kernel)
set_option maxRecDepth 20000 in
theorem kw_48 : Cond.selects "ThreePointsModel" ⟨"ThreePointsModel", "turnsOf", "(III)I"⟩ ⟨"ThreePointsModel", "turnsOf", "(III)I"⟩ ∈ xtbl := xtbl_at 48 rfl (by decide +kernel)
set_option maxRecDepth 20000 in
theorem kw_49 : Cond.selects "ThreePointsModel" ⟨"ThreePointsModel", "goes", "(III)V"⟩ ⟨"ThreePointsModel", "goes", "(III)V"⟩ ∈ xtbl := xtbl_at 49 rfl (by decide +kernel)
set_option maxRecDepth 20000 in
theorem kw_50 : Cond.selects "ThreePointsModel" ⟨"ThreePointsModel", "tellsLane", "(IZ)V"⟩ ⟨"ThreePointsModel", "tellsLane", "(IZ)V"⟩ ∈ xtbl := xtbl_at 50 rfl (by decide +kernel)
set_option maxRecDepth 20000 in
theorem kw_51 : Cond.selects "ThreePointsModel" ⟨"ThreePointsModel", "firstStep", "(II)I"⟩ ⟨"ThreePointsModel", "firstStep", "(II)I"⟩ ∈ xtbl := xtbl_at 51 rfl (by decide +kernel)
set_option maxRecDepth 20000 in
theorem kw_52 : Cond.selects "ThreePointsModel" ⟨"ThreePointsModel", "stateOf", "(I)I"⟩ ⟨"ThreePointsModel", "stateOf", "(I)I"⟩ ∈ xtbl := xtbl_at 52 rfl (by decide +kernel)
set_option maxRecDepth 20000 in
theorem kw_53 : Cond.selects "ThreePointsModel" ⟨"ThreePointsModel", "stateBehind", "(IIII)I"⟩ ⟨"ThreePointsModel", "stateBehind", "(IIII)I"⟩ ∈ xtbl := xtbl_at 53 rfl (by decide +kernel)
set_option maxRecDepth 20000 in
theorem kw_54 : Cond.selects "ThreePointsModel" ⟨"ThreePointsModel", "seeks", "(III)V"⟩ ⟨"ThreePointsModel", "seeks", "(III)V"⟩ ∈ xtbl := xtbl_at 54 rfl (by decide +kernel)
set_option maxRecDepth 20000 in
theorem kw_55 : Cond.selects "ThreePointsModel" ⟨"ThreePointsModel", "costsStep", "(IIII)I"⟩ ⟨"ThreePointsModel", "costsStep", "(IIII)I"⟩ ∈ xtbl := xtbl_at 55 rfl (by decide +kernel)
set_option maxRecDepth 20000 in
theorem kw_56 : Cond.selects "ThreePointsModel" ⟨"ThreePointsModel", "otherOf", "(I)I"⟩ ⟨"ThreePointsModel", "otherOf", "(I)I"⟩ ∈ xtbl := xtbl_at 56 rfl (by decide +kernel)
set_option maxRecDepth 20000 in
theorem kw_57 : Cond.selects "ThreePointsModel" ⟨"ThreePointsModel", "leastTo", "(I)I"⟩ ⟨"ThreePointsModel", "leastTo", "(I)I"⟩ ∈ xtbl := xtbl_at 57 rfl (by decide +kernel)
set_option maxRecDepth 20000 in
theorem kw_58 : Cond.selects "ThreePointsModel" ⟨"ThreePointsModel", "fromBegin", "(III)I"⟩ ⟨"ThreePointsModel", "fromBegin", "(III)I"⟩ ∈ xtbl := xtbl_at 58 rfl (by decide +kernel)
set_option maxRecDepth 20000 in
theorem kw_59 : Cond.selects "ThreePointsModel" ⟨"ThreePointsModel", "sheetWrong", "(II)I"⟩ ⟨"ThreePointsModel", "sheetWrong", "(II)I"⟩ ∈ xtbl := xtbl_at 59 rfl (by decide +kernel)
set_option maxRecDepth 20000 in
theorem kw_60 : Cond.selects "ThreePointsModel" ⟨"ThreePointsModel", "firstWrong", "(II)I"⟩ ⟨"ThreePointsModel", "firstWrong", "(II)I"⟩ ∈ xtbl := xtbl_at 60 rfl (by decide +kernel)
set_option maxRecDepth 20000 in
theorem kw_61 : Cond.selects "ThreePointsModel" ⟨"ThreePointsModel", "keeps", "(I)V"⟩ ⟨"ThreePointsModel", "keeps", "(I)V"⟩ ∈ xtbl := xtbl_at 61 rfl (by decide +kernel)
set_option maxRecDepth 20000 in
theorem kw_62 : Cond.selects "ThreePointsModel" ⟨"ThreePointsModel", "laysBack", "(I)V"⟩ ⟨"ThreePointsModel", "laysBack", "(I)V"⟩ ∈ xtbl := xtbl_at 62 rfl (by decide +kernel)
set_option maxRecDepth 20000 in
theorem kw_63 : Cond.selects "ThreePointsModel" ⟨"ThreePointsModel", "driveBy", "(III)V"⟩ ⟨"ThreePointsModel", "driveBy", "(III)V"⟩ ∈ xtbl := xtbl_at 63 rfl (by decide +kernel)
set_option maxRecDepth 20000 in
theorem kw_65 : Cond.initialized "ThreePoints" ∈ xtbl := xtbl_at 65 rfl (by decide +kernel)
set_option maxRecDepth 20000 in
theorem kw_66 : Cond.initialized "ThreePoints$Yard" ∈ xtbl := xtbl_at 66 rfl (by decide +kernel)
set_option maxRecDepth 20000 in
theorem kw_67 : Cond.initialized "ThreePoints$Lane" ∈ xtbl := xtbl_at 67 rfl (by decide +kernel)
set_option maxRecDepth 20000 in
theorem kw_68 : Cond.initialized "ThreePoints$Vehicle" ∈ xtbl := xtbl_at 68 rfl (by decide +kernel)
set_option maxRecDepth 20000 in
theorem kw_69 : Cond.initialized "ThreePoints$Reader" ∈ xtbl := xtbl_at 69 rfl (by decide +kernel)
set_option maxRecDepth 20000 in
theorem kw_70 : Cond.initialized "ThreePoints$Tape" ∈ xtbl := xtbl_at 70 rfl (by decide +kernel)
set_option maxRecDepth 20000 in
theorem kw_71 : Cond.initialized "ThreePoints$Text" ∈ xtbl := xtbl_at 71 rfl (by decide +kernel)
set_option maxRecDepth 20000 in
theorem kw_72 : Cond.initialized "ThreePoints$Ride" ∈ xtbl := xtbl_at 72 rfl (by decide +kernel)
set_option maxRecDepth 20000 in
theorem kw_73 : Cond.initialized "ThreePoints$Search" ∈ xtbl := xtbl_at 73 rfl (by decide +kernel)
set_option maxRecDepth 20000 in
theorem kw_74 : Cond.initialized "ThreePoints$Sheet" ∈ xtbl := xtbl_at 74 rfl (by decide +kernel)
set_option maxRecDepth 20000 in
theorem kw_75 : Cond.initialized "java/lang/String" ∈ xtbl := xtbl_at 75 rfl (by decide +kernel)
set_option maxRecDepth 20000 in
theorem kw_76 : Cond.initialized "java/lang/StringLatin1" ∈ xtbl := xtbl_at 76 rfl (by decide +kernel)
set_option maxRecDepth 20000 in
theorem kw_79 : Cond.initialized "java/lang/Math" ∈ xtbl := xtbl_at 79 rfl (by decide +kernel)
set_option maxRecDepth 20000 in
theorem kw_81 : Cond.initialized "java/util/Arrays" ∈ xtbl := xtbl_at 81 rfl (by decide +kernel)
set_option maxRecDepth 20000 in
theorem kw_82 : Cond.initialized "java/lang/System" ∈ xtbl := xtbl_at 82 rfl (by decide +kernel)
set_option maxRecDepth 20000 in
theorem kw_83 : Cond.initialized "ThreePointsModel" ∈ xtbl := xtbl_at 83 rfl (by decide +kernel)
set_option maxRecDepth 20000 in
theorem kw_104 : Cond.fieldLink "ThreePoints$Lane" 7 "ThreePoints$Lane" "width" "I" ∈ xtbl := xtbl_at 104 rfl (by decide +kernel)
set_option maxRecDepth 20000 in
theorem kw_105 : Cond.fieldLink "ThreePoints$Ride" 39 "ThreePoints$Lane" "width" "I" ∈ xtbl := xtbl_at 105 rfl (by decide +kernel)
set_option maxRecDepth 20000 in
theorem kw_106 : Cond.fieldLink "ThreePoints" 92 "ThreePoints$Lane" "width" "I" ∈ xtbl := xtbl_at 106 rfl (by decide +kernel)
set_option maxRecDepth 20000 in
theorem kw_107 : Cond.fieldLink "ThreePoints$Search" 57 "ThreePoints$Lane" "width" "I" ∈ xtbl := xtbl_at 107 rfl (by decide +kernel)
set_option maxRecDepth 20000 in
theorem kw_108 : Cond.fieldLink "ThreePoints$Lane" 13 "ThreePoints$Lane" "opening" "I" ∈ xtbl := xtbl_at 108 rfl (by decide +kernel)
set_option maxRecDepth 20000 in
theorem kw_109 : Cond.fieldLink "ThreePoints" 97 "ThreePoints$Lane" "opening" "I" ∈ xtbl := xtbl_at 109 rfl (by decide +kernel)
set_option maxRecDepth 20000 in
theorem kw_110 : Cond.fieldLink "ThreePoints$Ride" 73 "ThreePoints$Lane" "opening" "I" ∈ xtbl := xtbl_at 110 rfl (by decide +kernel)
set_option maxRecDepth 20000 in
theorem kw_111 : Cond.fieldLink "ThreePoints$Lane" 16 "ThreePoints$Lane" "law" "I" ∈ xtbl := xtbl_at 111 rfl (by decide +kernel)
set_option maxRecDepth 20000 in
theorem kw_112 : Cond.fieldLink "ThreePoints" 100 "ThreePoints$Lane" "law" "I" ∈ xtbl := xtbl_at 112 rfl (by decide +kernel)
set_option maxRecDepth 20000 in
theorem kw_127 : Cond.fieldLink "ThreePoints$Vehicle" 15 "ThreePoints$Vehicle" "kind" "I" ∈ xtbl := xtbl_at 127 rfl (by decide +kernel)
set_option maxRecDepth 20000 in
theorem kw_128 : Cond.fieldLink "ThreePoints" 147 "ThreePoints$Vehicle" "kind" "I" ∈ xtbl := xtbl_at 128 rfl (by decide +kernel)
set_option maxRecDepth 20000 in
theorem kw_129 : Cond.fieldLink "ThreePoints$Vehicle" 18 "ThreePoints$Vehicle" "more" "I" ∈ xtbl := xtbl_at 129 rfl (by decide +kernel)
set_option maxRecDepth 20000 in
theorem kw_130 : Cond.fieldLink "ThreePoints$Ride" 35 "ThreePoints$Vehicle" "more" "I" ∈ xtbl := xtbl_at 130 rfl (by decide +kernel)
set_option maxRecDepth 20000 in
theorem kw_131 : Cond.fieldLink "ThreePoints" 152 "ThreePoints$Vehicle" "more" "I" ∈ xtbl := xtbl_at 131 rfl (by decide +kernel)
set_option maxRecDepth 20000 in
theorem kw_132 : Cond.fieldLink "ThreePoints$Vehicle" 21 "ThreePoints$Vehicle" "place" "I" ∈ xtbl := xtbl_at 132 rfl (by decide +kernel)
set_option maxRecDepth 20000 in
theorem kw_133 : Cond.fieldLink "ThreePoints$Ride" 76 "ThreePoints$Vehicle" "place" "I" ∈ xtbl := xtbl_at 133 rfl (by decide +kernel)
set_option maxRecDepth 20000 in
theorem kw_134 : Cond.fieldLink "ThreePoints$Search" 104 "ThreePoints$Vehicle" "place" "I" ∈ xtbl := xtbl_at 134 rfl (by decide +kernel)
set_option maxRecDepth 20000 in
theorem kw_135 : Cond.fieldLink "ThreePoints" 155 "ThreePoints$Vehicle" "place" "I" ∈ xtbl := xtbl_at 135 rfl (by decide +kernel)
set_option maxRecDepth 20000 in
theorem kw_136 : Cond.fieldLink "ThreePoints$Vehicle" 24 "ThreePoints$Vehicle" "heading" "I" ∈ xtbl := xtbl_at 136 rfl (by decide +kernel)
set_option maxRecDepth 20000 in
theorem kw_137 : Cond.fieldLink "ThreePoints$Ride" 79 "ThreePoints$Vehicle" "heading" "I" ∈ xtbl := xtbl_at 137 rfl (by decide +kernel)
set_option maxRecDepth 20000 in
theorem kw_138 : Cond.fieldLink "ThreePoints$Search" 107 "ThreePoints$Vehicle" "heading" "I" ∈ xtbl := xtbl_at 138 rfl (by decide +kernel)
set_option maxRecDepth 20000 in
theorem kw_139 : Cond.fieldLink "ThreePoints" 158 "ThreePoints$Vehicle" "heading" "I" ∈ xtbl := xtbl_at 139 rfl (by decide +kernel)
set_option maxRecDepth 20000 in
theorem kw_140 : Cond.fieldLink "ThreePoints$Vehicle" 27 "ThreePoints$Vehicle" "points" "I" ∈ xtbl := xtbl_at 140 rfl (by decide +kernel)
set_option maxRecDepth 20000 in
theorem kw_141 : Cond.fieldLink "ThreePoints" 161 "ThreePoints$Vehicle" "points" "I" ∈ xtbl := xtbl_at 141 rfl (by decide +kernel)
set_option maxRecDepth 20000 in
theorem kw_142 : Cond.fieldLink "ThreePoints$Vehicle" 30 "ThreePoints$Vehicle" "wear" "I" ∈ xtbl := xtbl_at 142 rfl (by decide +kernel)
set_option maxRecDepth 20000 in
theorem kw_143 : Cond.fieldLink "ThreePoints" 164 "ThreePoints$Vehicle" "wear" "I" ∈ xtbl := xtbl_at 143 rfl (by decide +kernel)
set_option maxRecDepth 20000 in
theorem kw_144 : Cond.fieldLink "ThreePoints$Vehicle" 9 "ThreePoints$Vehicle" "last" "I" ∈ xtbl := xtbl_at 144 rfl (by decide +kernel)
set_option maxRecDepth 20000 in
theorem kw_145 : Cond.fieldLink "ThreePoints$Search" 110 "ThreePoints$Vehicle" "last" "I" ∈ xtbl := xtbl_at 145 rfl (by decide +kernel)
set_option maxRecDepth 20000 in
theorem kw_146 : Cond.fieldLink "ThreePoints" 167 "ThreePoints$Vehicle" "last" "I" ∈ xtbl := xtbl_at 146 rfl (by decide +kernel)
set_option maxRecDepth 20000 in
theorem kw_162 : Cond.fieldLink "ThreePoints$Yard" 12 "ThreePoints$Yard" "lane" "LThreePoints$Lane;" ∈ xtbl := xtbl_at 162 rfl (by decide +kernel)
set_option maxRecDepth 20000 in
theorem kw_163 : Cond.fieldLink "ThreePoints" 88 "ThreePoints$Yard" "lane" "LThreePoints$Lane;" ∈ xtbl := xtbl_at 163 rfl (by decide +kernel)
set_option maxRecDepth 20000 in
theorem kw_164 : Cond.fieldLink "ThreePoints$Yard" 20 "ThreePoints$Yard" "vehicles" "[LThreePoints$Vehicle;" ∈ xtbl := xtbl_at 164 rfl (by decide +kernel)
set_option maxRecDepth 20000 in
theorem kw_165 : Cond.fieldLink "ThreePoints" 143 "ThreePoints$Yard" "vehicles" "[LThreePoints$Vehicle;" ∈ xtbl := xtbl_at 165 rfl (by decide +kernel)
set_option maxRecDepth 20000 in
theorem kw_166 : Cond.fieldLink "ThreePoints$Yard" 32 "ThreePoints$Yard" "count" "I" ∈ xtbl := xtbl_at 166 rfl (by decide +kernel)
set_option maxRecDepth 20000 in
theorem kw_167 : Cond.fieldLink "ThreePoints" 85 "ThreePoints$Yard" "count" "I" ∈ xtbl := xtbl_at 167 rfl (by decide +kernel)
set_option maxRecDepth 20000 in
theorem kw_187 : Cond.fieldLink "ThreePoints$Tape" 11 "ThreePoints$Tape" "bytes" "[I" ∈ xtbl := xtbl_at 187 rfl (by decide +kernel)
set_option maxRecDepth 20000 in
theorem kw_188 : Cond.fieldLink "ThreePoints$Tape" 24 "ThreePoints$Tape" "size" "I" ∈ xtbl := xtbl_at 188 rfl (by decide +kernel)
set_option maxRecDepth 20000 in
theorem kw_189 : Cond.fieldLink "ThreePoints" 103 "ThreePoints$Tape" "size" "I" ∈ xtbl := xtbl_at 189 rfl (by decide +kernel)
set_option maxRecDepth 20000 in
theorem kw_190 : Cond.fieldLink "ThreePoints$Tape" 15 "ThreePoints$Tape" "kinds" "[I" ∈ xtbl := xtbl_at 190 rfl (by decide +kernel)
set_option maxRecDepth 20000 in
theorem kw_191 : Cond.fieldLink "ThreePoints$Tape" 18 "ThreePoints$Tape" "starts" "[I" ∈ xtbl := xtbl_at 191 rfl (by decide +kernel)
set_option maxRecDepth 20000 in
theorem kw_192 : Cond.fieldLink "ThreePoints$Tape" 21 "ThreePoints$Tape" "values" "[I" ∈ xtbl := xtbl_at 192 rfl (by decide +kernel)
set_option maxRecDepth 20000 in
theorem kw_193 : Cond.fieldLink "ThreePoints$Tape" 42 "ThreePoints$Tape" "tokens" "I" ∈ xtbl := xtbl_at 193 rfl (by decide +kernel)
set_option maxRecDepth 20000 in
theorem kw_214 : Cond.fieldLink "ThreePoints$Text" 9 "ThreePoints$Text" "code" "[I" ∈ xtbl := xtbl_at 214 rfl (by decide +kernel)
set_option maxRecDepth 20000 in
theorem kw_215 : Cond.fieldLink "ThreePoints$Text" 21 "ThreePoints$Text" "size" "I" ∈ xtbl := xtbl_at 215 rfl (by decide +kernel)
set_option maxRecDepth 20000 in
theorem kw_216 : Cond.fieldLink "ThreePoints$Text" 15 "ThreePoints$Text" "partEnds" "[I" ∈ xtbl := xtbl_at 216 rfl (by decide +kernel)
set_option maxRecDepth 20000 in
theorem kw_217 : Cond.fieldLink "ThreePoints$Text" 18 "ThreePoints$Text" "stack" "[I" ∈ xtbl := xtbl_at 217 rfl (by decide +kernel)
set_option maxRecDepth 20000 in
theorem kw_227 : Cond.fieldLink "ThreePoints$Reader" 12 "ThreePoints$Reader" "tape" "LThreePoints$Tape;" ∈ xtbl := xtbl_at 227 rfl (by decide +kernel)
set_option maxRecDepth 20000 in
theorem kw_228 : Cond.fieldLink "ThreePoints" 54 "ThreePoints$Reader" "tape" "LThreePoints$Tape;" ∈ xtbl := xtbl_at 228 rfl (by decide +kernel)
set_option maxRecDepth 20000 in
theorem kw_229 : Cond.fieldLink "ThreePoints$Reader" 21 "ThreePoints$Reader" "draft" "LThreePoints$Text;" ∈ xtbl := xtbl_at 229 rfl (by decide +kernel)
set_option maxRecDepth 20000 in
theorem kw_230 : Cond.fieldLink "ThreePoints" 70 "ThreePoints$Reader" "draft" "LThreePoints$Text;" ∈ xtbl := xtbl_at 230 rfl (by decide +kernel)
set_option maxRecDepth 20000 in
theorem kw_231 : Cond.fieldLink "ThreePoints$Reader" 46 "ThreePoints$Reader" "now" "I" ∈ xtbl := xtbl_at 231 rfl (by decide +kernel)
set_option maxRecDepth 20000 in
theorem kw_232 : Cond.fieldLink "ThreePoints$Reader" 43 "ThreePoints$Reader" "token" "I" ∈ xtbl := xtbl_at 232 rfl (by decide +kernel)
set_option maxRecDepth 20000 in
theorem kw_233 : Cond.fieldLink "ThreePoints$Reader" 31 "ThreePoints$Reader" "open" "I" ∈ xtbl := xtbl_at 233 rfl (by decide +kernel)
set_option maxRecDepth 20000 in
theorem kw_254 : Cond.methodLink "ThreePoints$Ride" 3 ⟨"java/lang/Object", "<init>", "()V"⟩ ∈ xtbl := xtbl_at 254 rfl (by decide +kernel)
set_option maxRecDepth 20000 in
theorem kw_259 : Cond.fieldLink "ThreePoints$Ride" 12 "ThreePoints$Ride" "lane" "LThreePoints$Lane;" ∈ xtbl := xtbl_at 259 rfl (by decide +kernel)
set_option maxRecDepth 20000 in
theorem kw_260 : Cond.fieldLink "ThreePoints$Search" 51 "ThreePoints$Ride" "lane" "LThreePoints$Lane;" ∈ xtbl := xtbl_at 260 rfl (by decide +kernel)
set_option maxRecDepth 20000 in
theorem kw_261 : Cond.fieldLink "ThreePoints" 114 "ThreePoints$Ride" "lane" "LThreePoints$Lane;" ∈ xtbl := xtbl_at 261 rfl (by decide +kernel)
set_option maxRecDepth 20000 in
theorem kw_262 : Cond.fieldLink "ThreePoints$Ride" 21 "ThreePoints$Ride" "vehicle" "LThreePoints$Vehicle;" ∈ xtbl := xtbl_at 262 rfl (by decide +kernel)
set_option maxRecDepth 20000 in
theorem kw_263 : Cond.fieldLink "ThreePoints$Search" 83 "ThreePoints$Ride" "vehicle" "LThreePoints$Vehicle;" ∈ xtbl := xtbl_at 263 rfl (by decide +kernel)
set_option maxRecDepth 20000 in
theorem kw_264 : Cond.fieldLink "ThreePoints" 183 "ThreePoints$Ride" "vehicle" "LThreePoints$Vehicle;" ∈ xtbl := xtbl_at 264 rfl (by decide +kernel)
set_option maxRecDepth 20000 in
theorem kw_265 : Cond.fieldLink "ThreePoints$Ride" 31 "ThreePoints$Ride" "law" "LThreePoints$Text;" ∈ xtbl := xtbl_at 265 rfl (by decide +kernel)
set_option maxRecDepth 20000 in
theorem kw_266 : Cond.fieldLink "ThreePoints" 225 "ThreePoints$Ride" "law" "LThreePoints$Text;" ∈ xtbl := xtbl_at 266 rfl (by decide +kernel)
set_option maxRecDepth 20000 in
theorem kw_267 : Cond.fieldLink "ThreePoints$Ride" 27 "ThreePoints$Ride" "names" "[I" ∈ xtbl := xtbl_at 267 rfl (by decide +kernel)
set_option maxRecDepth 20000 in
theorem kw_283 : Cond.fieldLink "ThreePoints$Search" 37 "ThreePoints$Search" "goal" "I" ∈ xtbl := xtbl_at 283 rfl (by decide +kernel)
set_option maxRecDepth 20000 in
theorem kw_284 : Cond.fieldLink "ThreePoints$Search" 11 "ThreePoints$Search" "fitting" "[Z" ∈ xtbl := xtbl_at 284 rfl (by decide +kernel)
set_option maxRecDepth 20000 in
theorem kw_285 : Cond.fieldLink "ThreePoints$Search" 15 "ThreePoints$Search" "costs" "[I" ∈ xtbl := xtbl_at 285 rfl (by decide +kernel)
set_option maxRecDepth 20000 in
theorem kw_286 : Cond.fieldLink "ThreePoints$Search" 19 "ThreePoints$Search" "heads" "[I" ∈ xtbl := xtbl_at 286 rfl (by decide +kernel)
set_option maxRecDepth 20000 in
theorem kw_287 : Cond.fieldLink "ThreePoints$Search" 22 "ThreePoints$Search" "nexts" "[I" ∈ xtbl := xtbl_at 287 rfl (by decide +kernel)
set_option maxRecDepth 20000 in
theorem kw_288 : Cond.fieldLink "ThreePoints$Search" 25 "ThreePoints$Search" "previous" "[I" ∈ xtbl := xtbl_at 288 rfl (by decide +kernel)
set_option maxRecDepth 20000 in
theorem kw_289 : Cond.fieldLink "ThreePoints$Search" 41 "ThreePoints$Search" "waiting" "I" ∈ xtbl := xtbl_at 289 rfl (by decide +kernel)
set_option maxRecDepth 20000 in
theorem kw_290 : Cond.fieldLink "ThreePoints$Search" 98 "ThreePoints$Search" "firstStep" "I" ∈ xtbl := xtbl_at 290 rfl (by decide +kernel)
set_option maxRecDepth 20000 in
theorem kw_291 : Cond.fieldLink "ThreePoints" 208 "ThreePoints$Search" "firstStep" "I" ∈ xtbl := xtbl_at 291 rfl (by decide +kernel)
set_option maxRecDepth 20000 in
theorem kw_316 : Cond.fieldLink "ThreePoints$Sheet" 11 "ThreePoints$Sheet" "numbers" "[I" ∈ xtbl := xtbl_at 316 rfl (by decide +kernel)
set_option maxRecDepth 20000 in
theorem kw_317 : Cond.fieldLink "ThreePoints" 265 "ThreePoints$Sheet" "numbers" "[I" ∈ xtbl := xtbl_at 317 rfl (by decide +kernel)
set_option maxRecDepth 20000 in
theorem kw_318 : Cond.fieldLink "ThreePoints$Sheet" 15 "ThreePoints$Sheet" "sort" "I" ∈ xtbl := xtbl_at 318 rfl (by decide +kernel)
set_option maxRecDepth 20000 in
theorem kw_319 : Cond.fieldLink "ThreePoints" 259 "ThreePoints$Sheet" "sort" "I" ∈ xtbl := xtbl_at 319 rfl (by decide +kernel)
set_option maxRecDepth 20000 in
theorem kw_320 : Cond.fieldLink "ThreePoints$Sheet" 28 "ThreePoints$Sheet" "size" "I" ∈ xtbl := xtbl_at 320 rfl (by decide +kernel)
set_option maxRecDepth 20000 in
theorem kw_321 : Cond.fieldLink "ThreePoints$Ride" 103 "ThreePoints$Sheet" "size" "I" ∈ xtbl := xtbl_at 321 rfl (by decide +kernel)
set_option maxRecDepth 20000 in
theorem kw_333 : Cond.code ⟨"ThreePoints$Tape", "write", "(Ljava/lang/String;)V"⟩ prog_7_method_4_code 3 none ∈ xtbl := xtbl_at 333 rfl rfl
set_option maxRecDepth 20000 in
theorem kw_334 : Cond.methodLink "ThreePoints$Tape" 28 ⟨"java/lang/String", "length", "()I"⟩ ∈ xtbl := xtbl_at 334 rfl (by decide +kernel)
set_option maxRecDepth 20000 in
theorem kw_335 : Cond.instanceMethod ⟨"java/lang/String", "length", "()I"⟩ ∈ xtbl := xtbl_at 335 rfl (by decide +kernel)
set_option maxRecDepth 20000 in
theorem kw_336 : Cond.selects "java/lang/String" ⟨"java/lang/String", "length", "()I"⟩ ⟨"java/lang/String", "length", "()I"⟩ ∈ xtbl := xtbl_at 336 rfl (by decide +kernel)
set_option maxRecDepth 20000 in
theorem kw_337 : Cond.code ⟨"java/lang/String", "length", "()I"⟩ prog_15_method_54_code 1 (some .int) ∈ xtbl := xtbl_at 337 rfl rfl
set_option maxRecDepth 20000 in
theorem kw_338 : Cond.methodLink "java/lang/String" 335 ⟨"java/lang/String", "coder", "()B"⟩ ∈ xtbl := xtbl_at 338 rfl (by decide +kernel)
set_option maxRecDepth 20000 in
theorem kw_339 : Cond.instanceMethod ⟨"java/lang/String", "coder", "()B"⟩ ∈ xtbl := xtbl_at 339 rfl (by decide +kernel)
set_option maxRecDepth 20000 in
theorem kw_340 : Cond.selects "java/lang/String" ⟨"java/lang/String", "coder", "()B"⟩ ⟨"java/lang/String", "coder", "()B"⟩ ∈ xtbl := xtbl_at 340 rfl (by decide +kernel)
set_option maxRecDepth 20000 in
theorem kw_341 : Cond.code ⟨"java/lang/String", "coder", "()B"⟩ prog_15_method_152_code 1 (some .byte) ∈ xtbl := xtbl_at 341 rfl rfl
set_option maxRecDepth 20000 in
theorem kw_342 : Cond.fieldLink "java/lang/String" 38 "java/lang/String" "COMPACT_STRINGS" "Z" ∈ xtbl := xtbl_at 342 rfl (by decide +kernel)
set_option maxRecDepth 20000 in
theorem kw_344 : Cond.methodLink "ThreePoints$Tape" 34 ⟨"java/lang/String", "charAt", "(I)C"⟩ ∈ xtbl := xtbl_at 344 rfl (by decide +kernel)
set_option maxRecDepth 20000 in
theorem kw_345 : Cond.instanceMethod ⟨"java/lang/String", "charAt", "(I)C"⟩ ∈ xtbl := xtbl_at 345 rfl (by decide +kernel)
set_option maxRecDepth 20000 in
theorem kw_346 : Cond.selects "java/lang/String" ⟨"java/lang/String", "charAt", "(I)C"⟩ ⟨"java/lang/String", "charAt", "(I)C"⟩ ∈ xtbl := xtbl_at 346 rfl (by decide +kernel)
set_option maxRecDepth 20000 in
theorem kw_347 : Cond.code ⟨"java/lang/String", "charAt", "(I)C"⟩ prog_15_method_56_code 2 (some .char) ∈ xtbl := xtbl_at 347 rfl rfl
set_option maxRecDepth 20000 in
theorem kw_348 : Cond.methodLink "java/lang/String" 492 ⟨"java/lang/String", "isLatin1", "()Z"⟩ ∈ xtbl := xtbl_at 348 rfl (by decide +kernel)
set_option maxRecDepth 20000 in
theorem kw_349 : Cond.instanceMethod ⟨"java/lang/String", "isLatin1", "()Z"⟩ ∈ xtbl := xtbl_at 349 rfl (by decide +kernel)
set_option maxRecDepth 20000 in
theorem kw_350 : Cond.selects "java/lang/String" ⟨"java/lang/String", "isLatin1", "()Z"⟩ ⟨"java/lang/String", "isLatin1", "()Z"⟩ ∈ xtbl := xtbl_at 350 rfl (by decide +kernel)
set_option maxRecDepth 20000 in
theorem kw_351 : Cond.code ⟨"java/lang/String", "isLatin1", "()Z"⟩ prog_15_method_154_code 1 (some .boolean) ∈ xtbl := xtbl_at 351 rfl rfl
set_option maxRecDepth 20000 in
theorem kw_352 : Cond.methodLink "java/lang/String" 495 ⟨"java/lang/StringLatin1", "charAt", "([BI)C"⟩ ∈ xtbl := xtbl_at 352 rfl (by decide +kernel)
set_option maxRecDepth 20000 in
theorem kw_353 : Cond.static ⟨"java/lang/StringLatin1", "charAt", "([BI)C"⟩ ∈ xtbl := xtbl_at 353 rfl (by decide +kernel)
set_option maxRecDepth 20000 in
theorem kw_354 : Cond.code ⟨"java/lang/StringLatin1", "charAt", "([BI)C"⟩ prog_16_method_2_code 2 (some .char) ∈ xtbl := xtbl_at 354 rfl rfl
set_option maxRecDepth 20000 in
theorem kw_355 : Cond.methodLink "java/lang/StringLatin1" 9 ⟨"java/lang/String", "checkIndex", "(II)V"⟩ ∈ xtbl := xtbl_at 355 rfl (by decide +kernel)
set_option maxRecDepth 20000 in
theorem kw_356 : Cond.static ⟨"java/lang/String", "checkIndex", "(II)V"⟩ ∈ xtbl := xtbl_at 356 rfl (by decide +kernel)
set_option maxRecDepth 20000 in
theorem kw_382 : Cond.methodLink "ThreePoints$Tape" 38 ⟨"ThreePoints$Tape", "add", "(I)V"⟩ ∈ xtbl := xtbl_at 382 rfl (by decide +kernel)
set_option maxRecDepth 20000 in
theorem kw_383 : Cond.instanceMethod ⟨"ThreePoints$Tape", "add", "(I)V"⟩ ∈ xtbl := xtbl_at 383 rfl (by decide +kernel)
set_option maxRecDepth 20000 in
theorem kw_384 : Cond.selects "ThreePoints$Tape" ⟨"ThreePoints$Tape", "add", "(I)V"⟩ ⟨"ThreePoints$Tape", "add", "(I)V"⟩ ∈ xtbl := xtbl_at 384 rfl (by decide +kernel)
set_option maxRecDepth 20000 in
theorem kw_385 : Cond.code ⟨"ThreePoints$Tape", "add", "(I)V"⟩ prog_7_method_3_code 2 none ∈ xtbl := xtbl_at 385 rfl rfl
set_option maxRecDepth 20000 in
theorem kw_386 : Cond.methodLink "ThreePoints" 66 ⟨"ThreePoints$Reader", "faultOfTape", "()I"⟩ ∈ xtbl := xtbl_at 386 rfl (by decide +kernel)
set_option maxRecDepth 20000 in
theorem kw_387 : Cond.instanceMethod ⟨"ThreePoints$Reader", "faultOfTape", "()I"⟩ ∈ xtbl := xtbl_at 387 rfl (by decide +kernel)
set_option maxRecDepth 20000 in
theorem kw_388 : Cond.selects "ThreePoints$Reader" ⟨"ThreePoints$Reader", "faultOfTape", "()I"⟩ ⟨"ThreePoints$Reader", "faultOfTape", "()I"⟩ ∈ xtbl := xtbl_at 388 rfl (by decide +kernel)
set_option maxRecDepth 20000 in
theorem kw_389 : Cond.code ⟨"ThreePoints$Reader", "faultOfTape", "()I"⟩ prog_3_method_2_code 2 (some .int) ∈ xtbl := xtbl_at 389 rfl rfl
set_option maxRecDepth 20000 in
theorem kw_390 : Cond.methodLink "ThreePoints$Reader" 25 ⟨"ThreePoints$Tape", "split", "()V"⟩ ∈ xtbl := xtbl_at 390 rfl (by decide +kernel)
set_option maxRecDepth 20000 in
theorem kw_391 : Cond.instanceMethod ⟨"ThreePoints$Tape", "split", "()V"⟩ ∈ xtbl := xtbl_at 391 rfl (by decide +kernel)
set_option maxRecDepth 20000 in
theorem kw_392 : Cond.selects "ThreePoints$Tape" ⟨"ThreePoints$Tape", "split", "()V"⟩ ⟨"ThreePoints$Tape", "split", "()V"⟩ ∈ xtbl := xtbl_at 392 rfl (by decide +kernel)
set_option maxRecDepth 20000 in
theorem kw_393 : Cond.code ⟨"ThreePoints$Tape", "split", "()V"⟩ prog_7_method_8_code 3 none ∈ xtbl := xtbl_at 393 rfl rfl
set_option maxRecDepth 20000 in
theorem kw_394 : Cond.methodLink "ThreePoints$Tape" 45 ⟨"ThreePoints$Tape", "endOfToken", "(I)I"⟩ ∈ xtbl := xtbl_at 394 rfl (by decide +kernel)
set_option maxRecDepth 20000 in
theorem kw_396 : Cond.instanceMethod ⟨"ThreePoints$Tape", "endOfToken", "(I)I"⟩ ∈ xtbl := xtbl_at 396 rfl (by decide +kernel)
set_option maxRecDepth 20000 in
theorem kw_397 : Cond.code ⟨"ThreePoints$Tape", "endOfToken", "(I)I"⟩ prog_7_method_13_code 3 (some .int) ∈ xtbl := xtbl_at 397 rfl rfl
set_option maxRecDepth 20000 in
theorem kw_398 : Cond.methodLink "ThreePoints$Tape" 49 ⟨"ThreePoints$Tape", "byteAt", "(I)I"⟩ ∈ xtbl := xtbl_at 398 rfl (by decide +kernel)
set_option maxRecDepth 20000 in
theorem kw_400 : Cond.instanceMethod ⟨"ThreePoints$Tape", "byteAt", "(I)I"⟩ ∈ xtbl := xtbl_at 400 rfl (by decide +kernel)
set_option maxRecDepth 20000 in
theorem kw_401 : Cond.code ⟨"ThreePoints$Tape", "byteAt", "(I)I"⟩ prog_7_method_9_code 2 (some .int) ∈ xtbl := xtbl_at 401 rfl rfl
set_option maxRecDepth 20000 in
theorem kw_402 : Cond.methodLink "ThreePoints$Tape" 74 ⟨"ThreePoints$Tape", "isLetter", "(I)Z"⟩ ∈ xtbl := xtbl_at 402 rfl (by decide +kernel)
set_option maxRecDepth 20000 in
theorem kw_403 : Cond.static ⟨"ThreePoints$Tape", "isLetter", "(I)Z"⟩ ∈ xtbl := xtbl_at 403 rfl (by decide +kernel)
set_option maxRecDepth 20000 in
theorem kw_404 : Cond.code ⟨"ThreePoints$Tape", "isLetter", "(I)Z"⟩ prog_7_method_11_code 1 (some .boolean) ∈ xtbl := xtbl_at 404 rfl rfl
set_option maxRecDepth 20000 in
theorem kw_405 : Cond.methodLink "ThreePoints$Tape" 56 ⟨"ThreePoints$Tape", "isDigit", "(I)Z"⟩ ∈ xtbl := xtbl_at 405 rfl (by decide +kernel)
set_option maxRecDepth 20000 in
theorem kw_406 : Cond.static ⟨"ThreePoints$Tape", "isDigit", "(I)Z"⟩ ∈ xtbl := xtbl_at 406 rfl (by decide +kernel)
set_option maxRecDepth 20000 in
theorem kw_407 : Cond.code ⟨"ThreePoints$Tape", "isDigit", "(I)Z"⟩ prog_7_method_12_code 1 (some .boolean) ∈ xtbl := xtbl_at 407 rfl rfl
set_option maxRecDepth 20000 in
theorem kw_408 : Cond.methodLink "ThreePoints$Tape" 52 ⟨"ThreePoints$Tape", "isBlank", "(I)Z"⟩ ∈ xtbl := xtbl_at 408 rfl (by decide +kernel)
set_option maxRecDepth 20000 in
theorem kw_409 : Cond.static ⟨"ThreePoints$Tape", "isBlank", "(I)Z"⟩ ∈ xtbl := xtbl_at 409 rfl (by decide +kernel)
set_option maxRecDepth 20000 in
theorem kw_410 : Cond.code ⟨"ThreePoints$Tape", "isBlank", "(I)Z"⟩ prog_7_method_10_code 1 (some .boolean) ∈ xtbl := xtbl_at 410 rfl rfl
set_option maxRecDepth 20000 in
theorem kw_411 : Cond.methodLink "ThreePoints$Tape" 59 ⟨"ThreePoints$Tape", "numberAt", "(II)I"⟩ ∈ xtbl := xtbl_at 411 rfl (by decide +kernel)
set_option maxRecDepth 20000 in
theorem kw_413 : Cond.instanceMethod ⟨"ThreePoints$Tape", "numberAt", "(II)I"⟩ ∈ xtbl := xtbl_at 413 rfl (by decide +kernel)
set_option maxRecDepth 20000 in
theorem kw_414 : Cond.code ⟨"ThreePoints$Tape", "numberAt", "(II)I"⟩ prog_7_method_15_code 5 (some .int) ∈ xtbl := xtbl_at 414 rfl rfl
set_option maxRecDepth 20000 in
theorem kw_415 : Cond.methodLink "ThreePoints$Tape" 63 ⟨"ThreePoints$Tape", "nameAt", "(II)I"⟩ ∈ xtbl := xtbl_at 415 rfl (by decide +kernel)
set_option maxRecDepth 20000 in
theorem kw_417 : Cond.instanceMethod ⟨"ThreePoints$Tape", "nameAt", "(II)I"⟩ ∈ xtbl := xtbl_at 417 rfl (by decide +kernel)
set_option maxRecDepth 20000 in
theorem kw_418 : Cond.code ⟨"ThreePoints$Tape", "nameAt", "(II)I"⟩ prog_7_method_17_code 3 (some .int) ∈ xtbl := xtbl_at 418 rfl rfl
set_option maxRecDepth 20000 in
theorem kw_420 : Cond.methodLink "ThreePoints$Tape" 87 ⟨"ThreePoints$Tape", "spells", "(IILjava/lang/String;)Z"⟩ ∈ xtbl := xtbl_at 420 rfl (by decide +kernel)
set_option maxRecDepth 20000 in
theorem kw_422 : Cond.instanceMethod ⟨"ThreePoints$Tape", "spells", "(IILjava/lang/String;)Z"⟩ ∈ xtbl := xtbl_at 422 rfl (by decide +kernel)
set_option maxRecDepth 20000 in
theorem kw_423 : Cond.code ⟨"ThreePoints$Tape", "spells", "(IILjava/lang/String;)Z"⟩ prog_7_method_18_code 5 (some .boolean) ∈ xtbl := xtbl_at 423 rfl rfl
set_option maxRecDepth 20000 in
theorem kw_429 : Cond.methodLink "ThreePoints$Tape" 66 ⟨"ThreePoints$Tape", "kindAt", "(II)I"⟩ ∈ xtbl := xtbl_at 429 rfl (by decide +kernel)
set_option maxRecDepth 20000 in
theorem kw_431 : Cond.instanceMethod ⟨"ThreePoints$Tape", "kindAt", "(II)I"⟩ ∈ xtbl := xtbl_at 431 rfl (by decide +kernel)
set_option maxRecDepth 20000 in
theorem kw_432 : Cond.code ⟨"ThreePoints$Tape", "kindAt", "(II)I"⟩ prog_7_method_14_code 4 (some .int) ∈ xtbl := xtbl_at 432 rfl rfl
set_option maxRecDepth 20000 in
theorem kw_433 : Cond.methodLink "ThreePoints$Tape" 77 ⟨"ThreePoints$Tape", "wordKindAt", "(II)I"⟩ ∈ xtbl := xtbl_at 433 rfl (by decide +kernel)
set_option maxRecDepth 20000 in
theorem kw_435 : Cond.instanceMethod ⟨"ThreePoints$Tape", "wordKindAt", "(II)I"⟩ ∈ xtbl := xtbl_at 435 rfl (by decide +kernel)
set_option maxRecDepth 20000 in
theorem kw_436 : Cond.code ⟨"ThreePoints$Tape", "wordKindAt", "(II)I"⟩ prog_7_method_16_code 3 (some .int) ∈ xtbl := xtbl_at 436 rfl rfl
set_option maxRecDepth 20000 in
theorem kw_444 : Cond.methodLink "ThreePoints$Tape" 82 ⟨"java/lang/String", "indexOf", "(I)I"⟩ ∈ xtbl := xtbl_at 444 rfl (by decide +kernel)
set_option maxRecDepth 20000 in
theorem kw_445 : Cond.instanceMethod ⟨"java/lang/String", "indexOf", "(I)I"⟩ ∈ xtbl := xtbl_at 445 rfl (by decide +kernel)
set_option maxRecDepth 20000 in
theorem kw_446 : Cond.selects "java/lang/String" ⟨"java/lang/String", "indexOf", "(I)I"⟩ ⟨"java/lang/String", "indexOf", "(I)I"⟩ ∈ xtbl := xtbl_at 446 rfl (by decide +kernel)
set_option maxRecDepth 20000 in
theorem kw_447 : Cond.code ⟨"java/lang/String", "indexOf", "(I)I"⟩ prog_15_method_79_code 2 (some .int) ∈ xtbl := xtbl_at 447 rfl rfl
set_option maxRecDepth 20000 in
theorem kw_448 : Cond.methodLink "java/lang/String" 633 ⟨"java/lang/String", "indexOf", "(II)I"⟩ ∈ xtbl := xtbl_at 448 rfl (by decide +kernel)
set_option maxRecDepth 20000 in
theorem kw_449 : Cond.instanceMethod ⟨"java/lang/String", "indexOf", "(II)I"⟩ ∈ xtbl := xtbl_at 449 rfl (by decide +kernel)
set_option maxRecDepth 20000 in
theorem kw_450 : Cond.selects "java/lang/String" ⟨"java/lang/String", "indexOf", "(II)I"⟩ ⟨"java/lang/String", "indexOf", "(II)I"⟩ ∈ xtbl := xtbl_at 450 rfl (by decide +kernel)
set_option maxRecDepth 20000 in
theorem kw_451 : Cond.code ⟨"java/lang/String", "indexOf", "(II)I"⟩ prog_15_method_80_code 3 (some .int) ∈ xtbl := xtbl_at 451 rfl rfl
set_option maxRecDepth 20000 in
theorem kw_452 : Cond.methodLink "java/lang/String" 505 ⟨"java/lang/String", "length", "()I"⟩ ∈ xtbl := xtbl_at 452 rfl (by decide +kernel)
set_option maxRecDepth 20000 in
theorem kw_453 : Cond.methodLink "java/lang/String" 637 ⟨"java/lang/StringLatin1", "indexOf", "([BIII)I"⟩ ∈ xtbl := xtbl_at 453 rfl (by decide +kernel)
set_option maxRecDepth 20000 in
theorem kw_454 : Cond.static ⟨"java/lang/StringLatin1", "indexOf", "([BIII)I"⟩ ∈ xtbl := xtbl_at 454 rfl (by decide +kernel)
set_option maxRecDepth 20000 in
theorem kw_455 : Cond.code ⟨"java/lang/StringLatin1", "indexOf", "([BIII)I"⟩ prog_16_method_22_code 4 (some .int) ∈ xtbl := xtbl_at 455 rfl rfl
set_option maxRecDepth 20000 in
theorem kw_456 : Cond.methodLink "java/lang/StringLatin1" 88 ⟨"java/lang/StringLatin1", "canEncode", "(I)Z"⟩ ∈ xtbl := xtbl_at 456 rfl (by decide +kernel)
set_option maxRecDepth 20000 in
theorem kw_457 : Cond.static ⟨"java/lang/StringLatin1", "canEncode", "(I)Z"⟩ ∈ xtbl := xtbl_at 457 rfl (by decide +kernel)
set_option maxRecDepth 20000 in
theorem kw_458 : Cond.code ⟨"java/lang/StringLatin1", "canEncode", "(I)Z"⟩ prog_16_method_4_code 1 (some .boolean) ∈ xtbl := xtbl_at 458 rfl rfl
set_option maxRecDepth 20000 in
theorem kw_459 : Cond.methodLink "java/lang/StringLatin1" 92 ⟨"java/lang/Math", "max", "(II)I"⟩ ∈ xtbl := xtbl_at 459 rfl (by decide +kernel)
set_option maxRecDepth 20000 in
theorem kw_460 : Cond.static ⟨"java/lang/Math", "max", "(II)I"⟩ ∈ xtbl := xtbl_at 460 rfl (by decide +kernel)
set_option maxRecDepth 20000 in
theorem kw_461 : Cond.code ⟨"java/lang/Math", "max", "(II)I"⟩ prog_14_method_65_code 2 (some .int) ∈ xtbl := xtbl_at 461 rfl rfl
set_option maxRecDepth 20000 in
theorem kw_462 : Cond.methodLink "java/lang/StringLatin1" 38 ⟨"java/lang/Math", "min", "(II)I"⟩ ∈ xtbl := xtbl_at 462 rfl (by decide +kernel)
set_option maxRecDepth 20000 in
theorem kw_463 : Cond.static ⟨"java/lang/Math", "min", "(II)I"⟩ ∈ xtbl := xtbl_at 463 rfl (by decide +kernel)
set_option maxRecDepth 20000 in
theorem kw_464 : Cond.code ⟨"java/lang/Math", "min", "(II)I"⟩ prog_14_method_69_code 2 (some .int) ∈ xtbl := xtbl_at 464 rfl rfl
set_option maxRecDepth 20000 in
theorem kw_465 : Cond.methodLink "java/lang/StringLatin1" 95 ⟨"java/lang/StringLatin1", "indexOfChar", "([BIII)I"⟩ ∈ xtbl := xtbl_at 465 rfl (by decide +kernel)
set_option maxRecDepth 20000 in
theorem kw_466 : Cond.static ⟨"java/lang/StringLatin1", "indexOfChar", "([BIII)I"⟩ ∈ xtbl := xtbl_at 466 rfl (by decide +kernel)
set_option maxRecDepth 20000 in
theorem kw_467 : Cond.code ⟨"java/lang/StringLatin1", "indexOfChar", "([BIII)I"⟩ prog_16_method_23_code 6 (some .int) ∈ xtbl := xtbl_at 467 rfl rfl
set_option maxRecDepth 20000 in
theorem kw_503 : Cond.methodLink "ThreePoints$Tape" 69 ⟨"java/lang/Math", "max", "(II)I"⟩ ∈ xtbl := xtbl_at 503 rfl (by decide +kernel)
set_option maxRecDepth 20000 in
theorem kw_504 : Cond.methodLink "ThreePoints$Reader" 28 ⟨"ThreePoints$Text", "clear", "()V"⟩ ∈ xtbl := xtbl_at 504 rfl (by decide +kernel)
set_option maxRecDepth 20000 in
theorem kw_505 : Cond.instanceMethod ⟨"ThreePoints$Text", "clear", "()V"⟩ ∈ xtbl := xtbl_at 505 rfl (by decide +kernel)
set_option maxRecDepth 20000 in
theorem kw_506 : Cond.selects "ThreePoints$Text" ⟨"ThreePoints$Text", "clear", "()V"⟩ ⟨"ThreePoints$Text", "clear", "()V"⟩ ∈ xtbl := xtbl_at 506 rfl (by decide +kernel)
set_option maxRecDepth 20000 in
theorem kw_507 : Cond.code ⟨"ThreePoints$Text", "clear", "()V"⟩ prog_8_method_2_code 1 none ∈ xtbl := xtbl_at 507 rfl rfl
set_option maxRecDepth 20000 in
theorem kw_508 : Cond.methodLink "ThreePoints$Text" 25 ⟨"java/util/Arrays", "fill", "([II)V"⟩ ∈ xtbl := xtbl_at 508 rfl (by decide +kernel)
set_option maxRecDepth 20000 in
theorem kw_509 : Cond.static ⟨"java/util/Arrays", "fill", "([II)V"⟩ ∈ xtbl := xtbl_at 509 rfl (by decide +kernel)
set_option maxRecDepth 20000 in
theorem kw_510 : Cond.code ⟨"java/util/Arrays", "fill", "([II)V"⟩ prog_19_method_103_code 4 none ∈ xtbl := xtbl_at 510 rfl rfl
set_option maxRecDepth 20000 in
theorem kw_511 : Cond.methodLink "ThreePoints$Reader" 35 ⟨"ThreePoints$Reader", "goTo", "(I)V"⟩ ∈ xtbl := xtbl_at 511 rfl (by decide +kernel)
set_option maxRecDepth 20000 in
theorem kw_513 : Cond.instanceMethod ⟨"ThreePoints$Reader", "goTo", "(I)V"⟩ ∈ xtbl := xtbl_at 513 rfl (by decide +kernel)
set_option maxRecDepth 20000 in
theorem kw_514 : Cond.code ⟨"ThreePoints$Reader", "goTo", "(I)V"⟩ prog_3_method_3_code 2 none ∈ xtbl := xtbl_at 514 rfl rfl
set_option maxRecDepth 20000 in
theorem kw_515 : Cond.methodLink "ThreePoints$Reader" 53 ⟨"ThreePoints$Tape", "kindOf", "(I)I"⟩ ∈ xtbl := xtbl_at 515 rfl (by decide +kernel)
set_option maxRecDepth 20000 in
theorem kw_516 : Cond.instanceMethod ⟨"ThreePoints$Tape", "kindOf", "(I)I"⟩ ∈ xtbl := xtbl_at 516 rfl (by decide +kernel)
set_option maxRecDepth 20000 in
theorem kw_517 : Cond.selects "ThreePoints$Tape" ⟨"ThreePoints$Tape", "kindOf", "(I)I"⟩ ⟨"ThreePoints$Tape", "kindOf", "(I)I"⟩ ∈ xtbl := xtbl_at 517 rfl (by decide +kernel)
set_option maxRecDepth 20000 in
theorem kw_518 : Cond.code ⟨"ThreePoints$Tape", "kindOf", "(I)I"⟩ prog_7_method_5_code 2 (some .int) ∈ xtbl := xtbl_at 518 rfl rfl
set_option maxRecDepth 20000 in
theorem kw_519 : Cond.methodLink "ThreePoints$Reader" 39 ⟨"ThreePoints$Reader", "readPart", "(II)Z"⟩ ∈ xtbl := xtbl_at 519 rfl (by decide +kernel)
set_option maxRecDepth 20000 in
theorem kw_521 : Cond.instanceMethod ⟨"ThreePoints$Reader", "readPart", "(II)Z"⟩ ∈ xtbl := xtbl_at 521 rfl (by decide +kernel)
set_option maxRecDepth 20000 in
theorem kw_522 : Cond.code ⟨"ThreePoints$Reader", "readPart", "(II)Z"⟩ prog_3_method_4_code 3 (some .boolean) ∈ xtbl := xtbl_at 522 rfl rfl
set_option maxRecDepth 20000 in
theorem kw_523 : Cond.methodLink "ThreePoints$Reader" 56 ⟨"ThreePoints$Reader", "readOr", "()Z"⟩ ∈ xtbl := xtbl_at 523 rfl (by decide +kernel)
set_option maxRecDepth 20000 in
theorem kw_525 : Cond.instanceMethod ⟨"ThreePoints$Reader", "readOr", "()Z"⟩ ∈ xtbl := xtbl_at 525 rfl (by decide +kernel)
set_option maxRecDepth 20000 in
theorem kw_526 : Cond.code ⟨"ThreePoints$Reader", "readOr", "()Z"⟩ prog_3_method_5_code 2 (some .boolean) ∈ xtbl := xtbl_at 526 rfl rfl
set_option maxRecDepth 20000 in
theorem kw_527 : Cond.methodLink "ThreePoints$Reader" 63 ⟨"ThreePoints$Reader", "readAnd", "()Z"⟩ ∈ xtbl := xtbl_at 527 rfl (by decide +kernel)
set_option maxRecDepth 20000 in
theorem kw_529 : Cond.instanceMethod ⟨"ThreePoints$Reader", "readAnd", "()Z"⟩ ∈ xtbl := xtbl_at 529 rfl (by decide +kernel)
set_option maxRecDepth 20000 in
theorem kw_530 : Cond.code ⟨"ThreePoints$Reader", "readAnd", "()Z"⟩ prog_3_method_6_code 2 (some .boolean) ∈ xtbl := xtbl_at 530 rfl rfl
set_option maxRecDepth 20000 in
theorem kw_531 : Cond.methodLink "ThreePoints$Reader" 69 ⟨"ThreePoints$Reader", "readNot", "()Z"⟩ ∈ xtbl := xtbl_at 531 rfl (by decide +kernel)
set_option maxRecDepth 20000 in
theorem kw_533 : Cond.instanceMethod ⟨"ThreePoints$Reader", "readNot", "()Z"⟩ ∈ xtbl := xtbl_at 533 rfl (by decide +kernel)
set_option maxRecDepth 20000 in
theorem kw_534 : Cond.code ⟨"ThreePoints$Reader", "readNot", "()Z"⟩ prog_3_method_7_code 1 (some .boolean) ∈ xtbl := xtbl_at 534 rfl rfl
set_option maxRecDepth 20000 in
theorem kw_535 : Cond.methodLink "ThreePoints$Reader" 72 ⟨"ThreePoints$Reader", "readComparison", "()Z"⟩ ∈ xtbl := xtbl_at 535 rfl (by decide +kernel)
set_option maxRecDepth 20000 in
theorem kw_537 : Cond.instanceMethod ⟨"ThreePoints$Reader", "readComparison", "()Z"⟩ ∈ xtbl := xtbl_at 537 rfl (by decide +kernel)
set_option maxRecDepth 20000 in
theorem kw_538 : Cond.code ⟨"ThreePoints$Reader", "readComparison", "()Z"⟩ prog_3_method_8_code 2 (some .boolean) ∈ xtbl := xtbl_at 538 rfl rfl
set_option maxRecDepth 20000 in
theorem kw_539 : Cond.methodLink "ThreePoints$Reader" 78 ⟨"ThreePoints$Reader", "readSum", "()Z"⟩ ∈ xtbl := xtbl_at 539 rfl (by decide +kernel)
set_option maxRecDepth 20000 in
theorem kw_541 : Cond.instanceMethod ⟨"ThreePoints$Reader", "readSum", "()Z"⟩ ∈ xtbl := xtbl_at 541 rfl (by decide +kernel)
set_option maxRecDepth 20000 in
theorem kw_542 : Cond.code ⟨"ThreePoints$Reader", "readSum", "()Z"⟩ prog_3_method_9_code 3 (some .boolean) ∈ xtbl := xtbl_at 542 rfl rfl
set_option maxRecDepth 20000 in
theorem kw_543 : Cond.methodLink "ThreePoints$Reader" 81 ⟨"ThreePoints$Reader", "readTerm", "()Z"⟩ ∈ xtbl := xtbl_at 543 rfl (by decide +kernel)
set_option maxRecDepth 20000 in
theorem kw_545 : Cond.instanceMethod ⟨"ThreePoints$Reader", "readTerm", "()Z"⟩ ∈ xtbl := xtbl_at 545 rfl (by decide +kernel)
set_option maxRecDepth 20000 in
theorem kw_546 : Cond.code ⟨"ThreePoints$Reader", "readTerm", "()Z"⟩ prog_3_method_10_code 2 (some .boolean) ∈ xtbl := xtbl_at 546 rfl rfl
set_option maxRecDepth 20000 in
theorem kw_547 : Cond.methodLink "ThreePoints$Reader" 84 ⟨"ThreePoints$Reader", "readOne", "()Z"⟩ ∈ xtbl := xtbl_at 547 rfl (by decide +kernel)
set_option maxRecDepth 20000 in
theorem kw_549 : Cond.instanceMethod ⟨"ThreePoints$Reader", "readOne", "()Z"⟩ ∈ xtbl := xtbl_at 549 rfl (by decide +kernel)
set_option maxRecDepth 20000 in
theorem kw_550 : Cond.code ⟨"ThreePoints$Reader", "readOne", "()Z"⟩ prog_3_method_11_code 1 (some .boolean) ∈ xtbl := xtbl_at 550 rfl rfl
set_option maxRecDepth 20000 in
theorem kw_551 : Cond.methodLink "ThreePoints$Reader" 87 ⟨"ThreePoints$Tape", "valueOf", "(I)I"⟩ ∈ xtbl := xtbl_at 551 rfl (by decide +kernel)
set_option maxRecDepth 20000 in
theorem kw_552 : Cond.instanceMethod ⟨"ThreePoints$Tape", "valueOf", "(I)I"⟩ ∈ xtbl := xtbl_at 552 rfl (by decide +kernel)
set_option maxRecDepth 20000 in
theorem kw_553 : Cond.selects "ThreePoints$Tape" ⟨"ThreePoints$Tape", "valueOf", "(I)I"⟩ ⟨"ThreePoints$Tape", "valueOf", "(I)I"⟩ ∈ xtbl := xtbl_at 553 rfl (by decide +kernel)
set_option maxRecDepth 20000 in
theorem kw_554 : Cond.code ⟨"ThreePoints$Tape", "valueOf", "(I)I"⟩ prog_7_method_6_code 2 (some .int) ∈ xtbl := xtbl_at 554 rfl rfl
set_option maxRecDepth 20000 in
theorem kw_555 : Cond.methodLink "ThreePoints$Reader" 66 ⟨"ThreePoints$Text", "put", "(I)V"⟩ ∈ xtbl := xtbl_at 555 rfl (by decide +kernel)
set_option maxRecDepth 20000 in
theorem kw_556 : Cond.instanceMethod ⟨"ThreePoints$Text", "put", "(I)V"⟩ ∈ xtbl := xtbl_at 556 rfl (by decide +kernel)
set_option maxRecDepth 20000 in
theorem kw_557 : Cond.selects "ThreePoints$Text" ⟨"ThreePoints$Text", "put", "(I)V"⟩ ⟨"ThreePoints$Text", "put", "(I)V"⟩ ∈ xtbl := xtbl_at 557 rfl (by decide +kernel)
set_option maxRecDepth 20000 in
theorem kw_558 : Cond.code ⟨"ThreePoints$Text", "put", "(I)V"⟩ prog_8_method_4_code 2 none ∈ xtbl := xtbl_at 558 rfl rfl
set_option maxRecDepth 20000 in
theorem kw_559 : Cond.methodLink "ThreePoints$Reader" 75 ⟨"ThreePoints$Reader", "mayOpen", "()Z"⟩ ∈ xtbl := xtbl_at 559 rfl (by decide +kernel)
set_option maxRecDepth 20000 in
theorem kw_561 : Cond.instanceMethod ⟨"ThreePoints$Reader", "mayOpen", "()Z"⟩ ∈ xtbl := xtbl_at 561 rfl (by decide +kernel)
set_option maxRecDepth 20000 in
theorem kw_562 : Cond.code ⟨"ThreePoints$Reader", "mayOpen", "()Z"⟩ prog_3_method_12_code 1 (some .boolean) ∈ xtbl := xtbl_at 562 rfl rfl
set_option maxRecDepth 20000 in
theorem kw_563 : Cond.methodLink "ThreePoints$Reader" 60 ⟨"ThreePoints$Text", "endPart", "(I)V"⟩ ∈ xtbl := xtbl_at 563 rfl (by decide +kernel)
set_option maxRecDepth 20000 in
theorem kw_564 : Cond.instanceMethod ⟨"ThreePoints$Text", "endPart", "(I)V"⟩ ∈ xtbl := xtbl_at 564 rfl (by decide +kernel)
set_option maxRecDepth 20000 in
theorem kw_565 : Cond.selects "ThreePoints$Text" ⟨"ThreePoints$Text", "endPart", "(I)V"⟩ ⟨"ThreePoints$Text", "endPart", "(I)V"⟩ ∈ xtbl := xtbl_at 565 rfl (by decide +kernel)
set_option maxRecDepth 20000 in
theorem kw_566 : Cond.code ⟨"ThreePoints$Text", "endPart", "(I)V"⟩ prog_8_method_5_code 2 none ∈ xtbl := xtbl_at 566 rfl rfl
set_option maxRecDepth 20000 in
theorem kw_567 : Cond.methodLink "ThreePoints$Reader" 49 ⟨"ThreePoints$Tape", "startOf", "(I)I"⟩ ∈ xtbl := xtbl_at 567 rfl (by decide +kernel)
set_option maxRecDepth 20000 in
theorem kw_568 : Cond.instanceMethod ⟨"ThreePoints$Tape", "startOf", "(I)I"⟩ ∈ xtbl := xtbl_at 568 rfl (by decide +kernel)
set_option maxRecDepth 20000 in
theorem kw_569 : Cond.selects "ThreePoints$Tape" ⟨"ThreePoints$Tape", "startOf", "(I)I"⟩ ⟨"ThreePoints$Tape", "startOf", "(I)I"⟩ ∈ xtbl := xtbl_at 569 rfl (by decide +kernel)
set_option maxRecDepth 20000 in
theorem kw_570 : Cond.code ⟨"ThreePoints$Tape", "startOf", "(I)I"⟩ prog_7_method_7_code 2 (some .int) ∈ xtbl := xtbl_at 570 rfl rfl
set_option maxRecDepth 20000 in
theorem kw_571 : Cond.methodLink "ThreePoints" 74 ⟨"ThreePoints$Text", "become", "(LThreePoints$Text;)V"⟩ ∈ xtbl := xtbl_at 571 rfl (by decide +kernel)
set_option maxRecDepth 20000 in
theorem kw_572 : Cond.instanceMethod ⟨"ThreePoints$Text", "become", "(LThreePoints$Text;)V"⟩ ∈ xtbl := xtbl_at 572 rfl (by decide +kernel)
set_option maxRecDepth 20000 in
theorem kw_573 : Cond.selects "ThreePoints$Text" ⟨"ThreePoints$Text", "become", "(LThreePoints$Text;)V"⟩ ⟨"ThreePoints$Text", "become", "(LThreePoints$Text;)V"⟩ ∈ xtbl := xtbl_at 573 rfl (by decide +kernel)
set_option maxRecDepth 20000 in
theorem kw_574 : Cond.code ⟨"ThreePoints$Text", "become", "(LThreePoints$Text;)V"⟩ prog_8_method_3_code 2 none ∈ xtbl := xtbl_at 574 rfl rfl
set_option maxRecDepth 20000 in
theorem kw_575 : Cond.methodLink "ThreePoints$Text" 31 arraycopyName ∈ xtbl := xtbl_at 575 rfl (by decide +kernel)
set_option maxRecDepth 20000 in
theorem kw_576 : Cond.static arraycopyName ∈ xtbl := xtbl_at 576 rfl (by decide +kernel)
set_option maxRecDepth 20000 in
theorem kw_577 : Cond.native arraycopyName ∈ xtbl := xtbl_at 577 rfl (by decide +kernel)
set_option maxRecDepth 20000 in
theorem kw_578 : Cond.methodLink "ThreePoints" 78 ⟨"ThreePoints$Tape", "clear", "()V"⟩ ∈ xtbl := xtbl_at 578 rfl (by decide +kernel)
set_option maxRecDepth 20000 in
theorem kw_579 : Cond.instanceMethod ⟨"ThreePoints$Tape", "clear", "()V"⟩ ∈ xtbl := xtbl_at 579 rfl (by decide +kernel)
set_option maxRecDepth 20000 in
theorem kw_580 : Cond.selects "ThreePoints$Tape" ⟨"ThreePoints$Tape", "clear", "()V"⟩ ⟨"ThreePoints$Tape", "clear", "()V"⟩ ∈ xtbl := xtbl_at 580 rfl (by decide +kernel)
set_option maxRecDepth 20000 in
theorem kw_581 : Cond.code ⟨"ThreePoints$Tape", "clear", "()V"⟩ prog_7_method_2_code 1 none ∈ xtbl := xtbl_at 581 rfl rfl
set_option maxRecDepth 20000 in
theorem kw_582 : Cond.fieldLink "ThreePoints" 10 "ThreePoints" "yard" "LThreePoints$Yard;" ∈ xtbl := xtbl_at 582 rfl (by decide +kernel)
set_option maxRecDepth 20000 in
theorem kw_583 : Cond.fieldLink "ThreePoints" 16 "ThreePoints" "kept" "LThreePoints$Yard;" ∈ xtbl := xtbl_at 583 rfl (by decide +kernel)
set_option maxRecDepth 20000 in
theorem kw_584 : Cond.fieldLink "ThreePoints" 239 "ThreePoints" "hasImage" "Z" ∈ xtbl := xtbl_at 584 rfl (by decide +kernel)
set_option maxRecDepth 20000 in
theorem kw_585 : Cond.fieldLink "ThreePoints" 22 "ThreePoints" "reader" "LThreePoints$Reader;" ∈ xtbl := xtbl_at 585 rfl (by decide +kernel)
set_option maxRecDepth 20000 in
theorem kw_586 : Cond.fieldLink "ThreePoints" 28 "ThreePoints" "texts" "[LThreePoints$Text;" ∈ xtbl := xtbl_at 586 rfl (by decide +kernel)
set_option maxRecDepth 20000 in
theorem kw_587 : Cond.fieldLink "ThreePoints" 81 "ThreePoints" "textCount" "I" ∈ xtbl := xtbl_at 587 rfl (by decide +kernel)
set_option maxRecDepth 20000 in
theorem kw_588 : Cond.fieldLink "ThreePoints" 34 "ThreePoints" "sheets" "[LThreePoints$Sheet;" ∈ xtbl := xtbl_at 588 rfl (by decide +kernel)
set_option maxRecDepth 20000 in
theorem kw_589 : Cond.fieldLink "ThreePoints" 41 "ThreePoints" "ride" "LThreePoints$Ride;" ∈ xtbl := xtbl_at 589 rfl (by decide +kernel)
set_option maxRecDepth 20000 in
theorem kw_590 : Cond.fieldLink "ThreePoints" 48 "ThreePoints" "search" "LThreePoints$Search;" ∈ xtbl := xtbl_at 590 rfl (by decide +kernel)
set_option maxRecDepth 20000 in
theorem kw_614 : Cond.code ⟨"ThreePoints", "count", "(I)I"⟩ prog_1_method_2_code 2 (some .int) ∈ xtbl := xtbl_at 614 rfl rfl
set_option maxRecDepth 20000 in
theorem kw_618 : Cond.code ⟨"ThreePoints", "set", "(II)I"⟩ prog_1_method_3_code 5 (some .int) ∈ xtbl := xtbl_at 618 rfl rfl
set_option maxRecDepth 20000 in
theorem kw_619 : Cond.methodLink "ThreePoints" 106 ⟨"ThreePoints", "isWithin", "(III)Z"⟩ ∈ xtbl := xtbl_at 619 rfl (by decide +kernel)
set_option maxRecDepth 20000 in
theorem kw_620 : Cond.static ⟨"ThreePoints", "isWithin", "(III)Z"⟩ ∈ xtbl := xtbl_at 620 rfl (by decide +kernel)
set_option maxRecDepth 20000 in
theorem kw_621 : Cond.code ⟨"ThreePoints", "isWithin", "(III)Z"⟩ prog_1_method_33_code 3 (some .boolean) ∈ xtbl := xtbl_at 621 rfl rfl
set_option maxRecDepth 20000 in
theorem kw_622 : Cond.methodLink "ThreePoints" 110 ⟨"ThreePoints", "think", "(I)V"⟩ ∈ xtbl := xtbl_at 622 rfl (by decide +kernel)
set_option maxRecDepth 20000 in
theorem kw_624 : Cond.instanceMethod ⟨"ThreePoints", "think", "(I)V"⟩ ∈ xtbl := xtbl_at 624 rfl (by decide +kernel)
set_option maxRecDepth 20000 in
theorem kw_625 : Cond.code ⟨"ThreePoints", "think", "(I)V"⟩ prog_1_method_43_code 2 none ∈ xtbl := xtbl_at 625 rfl rfl
set_option maxRecDepth 20000 in
theorem kw_626 : Cond.methodLink "ThreePoints" 287 ⟨"ThreePoints$Lane", "become", "(LThreePoints$Lane;)V"⟩ ∈ xtbl := xtbl_at 626 rfl (by decide +kernel)
set_option maxRecDepth 20000 in
theorem kw_627 : Cond.instanceMethod ⟨"ThreePoints$Lane", "become", "(LThreePoints$Lane;)V"⟩ ∈ xtbl := xtbl_at 627 rfl (by decide +kernel)
set_option maxRecDepth 20000 in
theorem kw_628 : Cond.selects "ThreePoints$Lane" ⟨"ThreePoints$Lane", "become", "(LThreePoints$Lane;)V"⟩ ⟨"ThreePoints$Lane", "become", "(LThreePoints$Lane;)V"⟩ ∈ xtbl := xtbl_at 628 rfl (by decide +kernel)
set_option maxRecDepth 20000 in
theorem kw_629 : Cond.code ⟨"ThreePoints$Lane", "become", "(LThreePoints$Lane;)V"⟩ prog_2_method_2_code 2 none ∈ xtbl := xtbl_at 629 rfl rfl
set_option maxRecDepth 20000 in
theorem kw_630 : Cond.methodLink "ThreePoints" 126 ⟨"ThreePoints", "isVehicle", "(I)Z"⟩ ∈ xtbl := xtbl_at 630 rfl (by decide +kernel)
set_option maxRecDepth 20000 in
theorem kw_632 : Cond.instanceMethod ⟨"ThreePoints", "isVehicle", "(I)Z"⟩ ∈ xtbl := xtbl_at 632 rfl (by decide +kernel)
set_option maxRecDepth 20000 in
theorem kw_633 : Cond.code ⟨"ThreePoints", "isVehicle", "(I)Z"⟩ prog_1_method_39_code 2 (some .boolean) ∈ xtbl := xtbl_at 633 rfl rfl
set_option maxRecDepth 20000 in
theorem kw_634 : Cond.methodLink "ThreePoints" 187 ⟨"ThreePoints$Vehicle", "become", "(LThreePoints$Vehicle;)V"⟩ ∈ xtbl := xtbl_at 634 rfl (by decide +kernel)
set_option maxRecDepth 20000 in
theorem kw_635 : Cond.instanceMethod ⟨"ThreePoints$Vehicle", "become", "(LThreePoints$Vehicle;)V"⟩ ∈ xtbl := xtbl_at 635 rfl (by decide +kernel)
set_option maxRecDepth 20000 in
theorem kw_636 : Cond.selects "ThreePoints$Vehicle" ⟨"ThreePoints$Vehicle", "become", "(LThreePoints$Vehicle;)V"⟩ ⟨"ThreePoints$Vehicle", "become", "(LThreePoints$Vehicle;)V"⟩ ∈ xtbl := xtbl_at 636 rfl (by decide +kernel)
set_option maxRecDepth 20000 in
theorem kw_637 : Cond.code ⟨"ThreePoints$Vehicle", "become", "(LThreePoints$Vehicle;)V"⟩ prog_9_method_2_code 2 none ∈ xtbl := xtbl_at 637 rfl rfl
set_option maxRecDepth 20000 in
theorem kw_638 : Cond.methodLink "ThreePoints" 115 ⟨"ThreePoints$Ride", "fitsNow", "()Z"⟩ ∈ xtbl := xtbl_at 638 rfl (by decide +kernel)
set_option maxRecDepth 20000 in
theorem kw_639 : Cond.instanceMethod ⟨"ThreePoints$Ride", "fitsNow", "()Z"⟩ ∈ xtbl := xtbl_at 639 rfl (by decide +kernel)
set_option maxRecDepth 20000 in
theorem kw_640 : Cond.selects "ThreePoints$Ride" ⟨"ThreePoints$Ride", "fitsNow", "()Z"⟩ ⟨"ThreePoints$Ride", "fitsNow", "()Z"⟩ ∈ xtbl := xtbl_at 640 rfl (by decide +kernel)
set_option maxRecDepth 20000 in
theorem kw_641 : Cond.code ⟨"ThreePoints$Ride", "fitsNow", "()Z"⟩ prog_4_method_5_code 1 (some .boolean) ∈ xtbl := xtbl_at 641 rfl rfl
set_option maxRecDepth 20000 in
theorem kw_642 : Cond.methodLink "ThreePoints$Ride" 82 ⟨"ThreePoints$Ride", "fits", "(II)Z"⟩ ∈ xtbl := xtbl_at 642 rfl (by decide +kernel)
set_option maxRecDepth 20000 in
theorem kw_643 : Cond.instanceMethod ⟨"ThreePoints$Ride", "fits", "(II)Z"⟩ ∈ xtbl := xtbl_at 643 rfl (by decide +kernel)
set_option maxRecDepth 20000 in
theorem kw_644 : Cond.selects "ThreePoints$Ride" ⟨"ThreePoints$Ride", "fits", "(II)Z"⟩ ⟨"ThreePoints$Ride", "fits", "(II)Z"⟩ ∈ xtbl := xtbl_at 644 rfl (by decide +kernel)
set_option maxRecDepth 20000 in
theorem kw_645 : Cond.code ⟨"ThreePoints$Ride", "fits", "(II)Z"⟩ prog_4_method_4_code 8 (some .boolean) ∈ xtbl := xtbl_at 645 rfl rfl
set_option maxRecDepth 20000 in
theorem kw_647 : Cond.static ⟨"ThreePoints", "across", "(I)I"⟩ ∈ xtbl := xtbl_at 647 rfl (by decide +kernel)
set_option maxRecDepth 20000 in
theorem kw_648 : Cond.code ⟨"ThreePoints", "across", "(I)I"⟩ prog_1_method_36_code 1 (some .int) ∈ xtbl := xtbl_at 648 rfl rfl
set_option maxRecDepth 20000 in
theorem kw_649 : Cond.fieldLink "ThreePoints" 284 "ThreePoints" "ACROSS" "[I" ∈ xtbl := xtbl_at 649 rfl (by decide +kernel)
set_option maxRecDepth 20000 in
theorem kw_651 : Cond.methodLink "ThreePoints$Ride" 53 ⟨"ThreePoints$Vehicle", "front", "()I"⟩ ∈ xtbl := xtbl_at 651 rfl (by decide +kernel)
set_option maxRecDepth 20000 in
theorem kw_652 : Cond.instanceMethod ⟨"ThreePoints$Vehicle", "front", "()I"⟩ ∈ xtbl := xtbl_at 652 rfl (by decide +kernel)
set_option maxRecDepth 20000 in
theorem kw_653 : Cond.selects "ThreePoints$Vehicle" ⟨"ThreePoints$Vehicle", "front", "()I"⟩ ⟨"ThreePoints$Vehicle", "front", "()I"⟩ ∈ xtbl := xtbl_at 653 rfl (by decide +kernel)
set_option maxRecDepth 20000 in
theorem kw_654 : Cond.code ⟨"ThreePoints$Vehicle", "front", "()I"⟩ prog_9_method_5_code 1 (some .int) ∈ xtbl := xtbl_at 654 rfl rfl
set_option maxRecDepth 20000 in
theorem kw_655 : Cond.methodLink "ThreePoints$Ride" 57 ⟨"ThreePoints$Vehicle", "behind", "()I"⟩ ∈ xtbl := xtbl_at 655 rfl (by decide +kernel)
set_option maxRecDepth 20000 in
theorem kw_656 : Cond.instanceMethod ⟨"ThreePoints$Vehicle", "behind", "()I"⟩ ∈ xtbl := xtbl_at 656 rfl (by decide +kernel)
set_option maxRecDepth 20000 in
theorem kw_657 : Cond.selects "ThreePoints$Vehicle" ⟨"ThreePoints$Vehicle", "behind", "()I"⟩ ⟨"ThreePoints$Vehicle", "behind", "()I"⟩ ∈ xtbl := xtbl_at 657 rfl (by decide +kernel)
set_option maxRecDepth 20000 in
theorem kw_658 : Cond.code ⟨"ThreePoints$Vehicle", "behind", "()I"⟩ prog_9_method_6_code 1 (some .int) ∈ xtbl := xtbl_at 658 rfl rfl
set_option maxRecDepth 20000 in
theorem kw_659 : Cond.methodLink "ThreePoints$Ride" 60 ⟨"java/lang/Math", "min", "(II)I"⟩ ∈ xtbl := xtbl_at 659 rfl (by decide +kernel)
set_option maxRecDepth 20000 in
theorem kw_660 : Cond.methodLink "ThreePoints$Ride" 46 ⟨"ThreePoints$Ride", "says", "(IIIII)I"⟩ ∈ xtbl := xtbl_at 660 rfl (by decide +kernel)
set_option maxRecDepth 20000 in
theorem kw_661 : Cond.instanceMethod ⟨"ThreePoints$Ride", "says", "(IIIII)I"⟩ ∈ xtbl := xtbl_at 661 rfl (by decide +kernel)
set_option maxRecDepth 20000 in
theorem kw_662 : Cond.selects "ThreePoints$Ride" ⟨"ThreePoints$Ride", "says", "(IIIII)I"⟩ ⟨"ThreePoints$Ride", "says", "(IIIII)I"⟩ ∈ xtbl := xtbl_at 662 rfl (by decide +kernel)
set_option maxRecDepth 20000 in
theorem kw_664 : Cond.methodLink "ThreePoints$Ride" 42 ⟨"ThreePoints$Text", "says", "(I[I)I"⟩ ∈ xtbl := xtbl_at 664 rfl (by decide +kernel)
set_option maxRecDepth 20000 in
theorem kw_665 : Cond.instanceMethod ⟨"ThreePoints$Text", "says", "(I[I)I"⟩ ∈ xtbl := xtbl_at 665 rfl (by decide +kernel)
set_option maxRecDepth 20000 in
theorem kw_666 : Cond.selects "ThreePoints$Text" ⟨"ThreePoints$Text", "says", "(I[I)I"⟩ ⟨"ThreePoints$Text", "says", "(I[I)I"⟩ ∈ xtbl := xtbl_at 666 rfl (by decide +kernel)
set_option maxRecDepth 20000 in
theorem kw_667 : Cond.code ⟨"ThreePoints$Text", "says", "(I[I)I"⟩ prog_8_method_6_code 7 (some .int) ∈ xtbl := xtbl_at 667 rfl rfl
set_option maxRecDepth 20000 in
theorem kw_668 : Cond.methodLink "ThreePoints$Text" 37 ⟨"ThreePoints$Text", "operand", "(I[I)I"⟩ ∈ xtbl := xtbl_at 668 rfl (by decide +kernel)
set_option maxRecDepth 20000 in
theorem kw_669 : Cond.static ⟨"ThreePoints$Text", "operand", "(I[I)I"⟩ ∈ xtbl := xtbl_at 669 rfl (by decide +kernel)
set_option maxRecDepth 20000 in
theorem kw_670 : Cond.code ⟨"ThreePoints$Text", "operand", "(I[I)I"⟩ prog_8_method_7_code 3 (some .int) ∈ xtbl := xtbl_at 670 rfl rfl
set_option maxRecDepth 20000 in
theorem kw_671 : Cond.methodLink "ThreePoints$Text" 41 ⟨"ThreePoints$Text", "joined", "(III)I"⟩ ∈ xtbl := xtbl_at 671 rfl (by decide +kernel)
set_option maxRecDepth 20000 in
theorem kw_672 : Cond.static ⟨"ThreePoints$Text", "joined", "(III)I"⟩ ∈ xtbl := xtbl_at 672 rfl (by decide +kernel)
set_option maxRecDepth 20000 in
theorem kw_673 : Cond.code ⟨"ThreePoints$Text", "joined", "(III)I"⟩ prog_8_method_8_code 3 (some .int) ∈ xtbl := xtbl_at 673 rfl rfl
set_option maxRecDepth 20000 in
theorem kw_674 : Cond.fieldLink "ThreePoints$Text" 45 "ThreePoints$Text" "BOUNDS" "[I" ∈ xtbl := xtbl_at 674 rfl (by decide +kernel)
set_option maxRecDepth 20000 in
theorem kw_676 : Cond.methodLink "ThreePoints$Text" 48 ⟨"java/lang/Math", "min", "(II)I"⟩ ∈ xtbl := xtbl_at 676 rfl (by decide +kernel)
set_option maxRecDepth 20000 in
theorem kw_677 : Cond.methodLink "ThreePoints$Text" 54 ⟨"java/lang/Math", "max", "(II)I"⟩ ∈ xtbl := xtbl_at 677 rfl (by decide +kernel)
set_option maxRecDepth 20000 in
theorem kw_678 : Cond.methodLink "ThreePoints$Ride" 66 ⟨"java/lang/Math", "max", "(II)I"⟩ ∈ xtbl := xtbl_at 678 rfl (by decide +kernel)
set_option maxRecDepth 20000 in
theorem kw_679 : Cond.methodLink "ThreePoints$Ride" 69 ⟨"ThreePoints$Ride", "isAtOpening", "(I)Z"⟩ ∈ xtbl := xtbl_at 679 rfl (by decide +kernel)
set_option maxRecDepth 20000 in
theorem kw_680 : Cond.static ⟨"ThreePoints$Ride", "isAtOpening", "(I)Z"⟩ ∈ xtbl := xtbl_at 680 rfl (by decide +kernel)
set_option maxRecDepth 20000 in
theorem kw_681 : Cond.code ⟨"ThreePoints$Ride", "isAtOpening", "(I)Z"⟩ prog_4_method_6_code 2 (some .boolean) ∈ xtbl := xtbl_at 681 rfl rfl
set_option maxRecDepth 20000 in
theorem kw_685 : Cond.code ⟨"ThreePoints", "feed", "(IIIIII)I"⟩ prog_1_method_4_code 8 (some .int) ∈ xtbl := xtbl_at 685 rfl rfl
set_option maxRecDepth 20000 in
theorem kw_686 : Cond.methodLink "ThreePoints" 119 ⟨"ThreePoints", "isByte", "(I)Z"⟩ ∈ xtbl := xtbl_at 686 rfl (by decide +kernel)
set_option maxRecDepth 20000 in
theorem kw_687 : Cond.static ⟨"ThreePoints", "isByte", "(I)Z"⟩ ∈ xtbl := xtbl_at 687 rfl (by decide +kernel)
set_option maxRecDepth 20000 in
theorem kw_688 : Cond.code ⟨"ThreePoints", "isByte", "(I)Z"⟩ prog_1_method_34_code 1 (some .boolean) ∈ xtbl := xtbl_at 688 rfl rfl
set_option maxRecDepth 20000 in
theorem kw_689 : Cond.methodLink "ThreePoints" 123 ⟨"ThreePoints$Tape", "add", "(I)V"⟩ ∈ xtbl := xtbl_at 689 rfl (by decide +kernel)
set_option maxRecDepth 20000 in
theorem kw_693 : Cond.code ⟨"ThreePoints", "text", "()I"⟩ prog_1_method_5_code 2 (some .int) ∈ xtbl := xtbl_at 693 rfl rfl
set_option maxRecDepth 20000 in
theorem kw_697 : Cond.code ⟨"ThreePoints", "force", "(I)I"⟩ prog_1_method_6_code 3 (some .int) ∈ xtbl := xtbl_at 697 rfl rfl
set_option maxRecDepth 20000 in
theorem kw_701 : Cond.code ⟨"ThreePoints", "asks", "(IIII)I"⟩ prog_1_method_7_code 5 (some .int) ∈ xtbl := xtbl_at 701 rfl rfl
set_option maxRecDepth 20000 in
theorem kw_702 : Cond.methodLink "ThreePoints" 129 ⟨"ThreePoints", "isPlaceHeading", "(I)Z"⟩ ∈ xtbl := xtbl_at 702 rfl (by decide +kernel)
set_option maxRecDepth 20000 in
theorem kw_704 : Cond.instanceMethod ⟨"ThreePoints", "isPlaceHeading", "(I)Z"⟩ ∈ xtbl := xtbl_at 704 rfl (by decide +kernel)
set_option maxRecDepth 20000 in
theorem kw_705 : Cond.code ⟨"ThreePoints", "isPlaceHeading", "(I)Z"⟩ prog_1_method_42_code 2 (some .boolean) ∈ xtbl := xtbl_at 705 rfl rfl
set_option maxRecDepth 20000 in
theorem kw_706 : Cond.methodLink "ThreePoints" 190 ⟨"ThreePoints", "isPlace", "(I)Z"⟩ ∈ xtbl := xtbl_at 706 rfl (by decide +kernel)
set_option maxRecDepth 20000 in
theorem kw_708 : Cond.instanceMethod ⟨"ThreePoints", "isPlace", "(I)Z"⟩ ∈ xtbl := xtbl_at 708 rfl (by decide +kernel)
set_option maxRecDepth 20000 in
theorem kw_709 : Cond.code ⟨"ThreePoints", "isPlace", "(I)Z"⟩ prog_1_method_41_code 2 (some .boolean) ∈ xtbl := xtbl_at 709 rfl rfl
set_option maxRecDepth 20000 in
theorem kw_710 : Cond.methodLink "ThreePoints" 132 ⟨"ThreePoints", "isTwoFlags", "(I)Z"⟩ ∈ xtbl := xtbl_at 710 rfl (by decide +kernel)
set_option maxRecDepth 20000 in
theorem kw_711 : Cond.static ⟨"ThreePoints", "isTwoFlags", "(I)Z"⟩ ∈ xtbl := xtbl_at 711 rfl (by decide +kernel)
set_option maxRecDepth 20000 in
theorem kw_712 : Cond.code ⟨"ThreePoints", "isTwoFlags", "(I)Z"⟩ prog_1_method_35_code 1 (some .boolean) ∈ xtbl := xtbl_at 712 rfl rfl
set_option maxRecDepth 20000 in
theorem kw_713 : Cond.methodLink "ThreePoints" 135 ⟨"ThreePoints$Ride", "says", "(IIIII)I"⟩ ∈ xtbl := xtbl_at 713 rfl (by decide +kernel)
set_option maxRecDepth 20000 in
theorem kw_717 : Cond.code ⟨"ThreePoints", "vehicle", "(II)I"⟩ prog_1_method_8_code 3 (some .int) ∈ xtbl := xtbl_at 717 rfl rfl
set_option maxRecDepth 20000 in
theorem kw_718 : Cond.methodLink "ThreePoints" 139 ⟨"ThreePoints", "addVehicle", "(II)I"⟩ ∈ xtbl := xtbl_at 718 rfl (by decide +kernel)
set_option maxRecDepth 20000 in
theorem kw_720 : Cond.instanceMethod ⟨"ThreePoints", "addVehicle", "(II)I"⟩ ∈ xtbl := xtbl_at 720 rfl (by decide +kernel)
set_option maxRecDepth 20000 in
theorem kw_721 : Cond.code ⟨"ThreePoints", "addVehicle", "(II)I"⟩ prog_1_method_44_code 3 (some .int) ∈ xtbl := xtbl_at 721 rfl rfl
set_option maxRecDepth 20000 in
theorem kw_722 : Cond.methodLink "ThreePoints" 193 ⟨"ThreePoints$Vehicle", "startAt", "(I)V"⟩ ∈ xtbl := xtbl_at 722 rfl (by decide +kernel)
set_option maxRecDepth 20000 in
theorem kw_723 : Cond.instanceMethod ⟨"ThreePoints$Vehicle", "startAt", "(I)V"⟩ ∈ xtbl := xtbl_at 723 rfl (by decide +kernel)
set_option maxRecDepth 20000 in
theorem kw_724 : Cond.selects "ThreePoints$Vehicle" ⟨"ThreePoints$Vehicle", "startAt", "(I)V"⟩ ⟨"ThreePoints$Vehicle", "startAt", "(I)V"⟩ ∈ xtbl := xtbl_at 724 rfl (by decide +kernel)
set_option maxRecDepth 20000 in
theorem kw_725 : Cond.code ⟨"ThreePoints$Vehicle", "startAt", "(I)V"⟩ prog_9_method_3_code 2 none ∈ xtbl := xtbl_at 725 rfl rfl
set_option maxRecDepth 20000 in
theorem kw_729 : Cond.code ⟨"ThreePoints", "told", "(II)I"⟩ prog_1_method_9_code 4 (some .int) ∈ xtbl := xtbl_at 729 rfl rfl
set_option maxRecDepth 20000 in
theorem kw_730 : Cond.methodLink "ThreePoints" 170 ⟨"ThreePoints$Vehicle", "front", "()I"⟩ ∈ xtbl := xtbl_at 730 rfl (by decide +kernel)
set_option maxRecDepth 20000 in
theorem kw_731 : Cond.methodLink "ThreePoints" 173 ⟨"ThreePoints$Vehicle", "behind", "()I"⟩ ∈ xtbl := xtbl_at 731 rfl (by decide +kernel)
set_option maxRecDepth 20000 in
theorem kw_735 : Cond.code ⟨"ThreePoints", "fit", "(II)I"⟩ prog_1_method_10_code 3 (some .int) ∈ xtbl := xtbl_at 735 rfl rfl
set_option maxRecDepth 20000 in
theorem kw_736 : Cond.methodLink "ThreePoints" 176 ⟨"ThreePoints$Ride", "fits", "(II)Z"⟩ ∈ xtbl := xtbl_at 736 rfl (by decide +kernel)
set_option maxRecDepth 20000 in
theorem kw_740 : Cond.code ⟨"ThreePoints", "drive", "(III)I"⟩ prog_1_method_11_code 4 (some .int) ∈ xtbl := xtbl_at 740 rfl rfl
set_option maxRecDepth 20000 in
theorem kw_741 : Cond.methodLink "ThreePoints" 180 ⟨"ThreePoints$Ride", "go", "(II)Z"⟩ ∈ xtbl := xtbl_at 741 rfl (by decide +kernel)
set_option maxRecDepth 20000 in
theorem kw_742 : Cond.instanceMethod ⟨"ThreePoints$Ride", "go", "(II)Z"⟩ ∈ xtbl := xtbl_at 742 rfl (by decide +kernel)
set_option maxRecDepth 20000 in
theorem kw_743 : Cond.selects "ThreePoints$Ride" ⟨"ThreePoints$Ride", "go", "(II)Z"⟩ ⟨"ThreePoints$Ride", "go", "(II)Z"⟩ ∈ xtbl := xtbl_at 743 rfl (by decide +kernel)
set_option maxRecDepth 20000 in
theorem kw_744 : Cond.code ⟨"ThreePoints$Ride", "go", "(II)Z"⟩ prog_4_method_9_code 5 (some .boolean) ∈ xtbl := xtbl_at 744 rfl rfl
set_option maxRecDepth 20000 in
theorem kw_745 : Cond.methodLink "ThreePoints$Ride" 89 ⟨"ThreePoints$Ride", "shift", "(II)I"⟩ ∈ xtbl := xtbl_at 745 rfl (by decide +kernel)
set_option maxRecDepth 20000 in
theorem kw_746 : Cond.static ⟨"ThreePoints$Ride", "shift", "(II)I"⟩ ∈ xtbl := xtbl_at 746 rfl (by decide +kernel)
set_option maxRecDepth 20000 in
theorem kw_747 : Cond.code ⟨"ThreePoints$Ride", "shift", "(II)I"⟩ prog_4_method_7_code 3 (some .int) ∈ xtbl := xtbl_at 747 rfl rfl
set_option maxRecDepth 20000 in
theorem kw_748 : Cond.methodLink "ThreePoints$Ride" 92 ⟨"ThreePoints$Ride", "turnedBy", "(III)I"⟩ ∈ xtbl := xtbl_at 748 rfl (by decide +kernel)
set_option maxRecDepth 20000 in
theorem kw_749 : Cond.instanceMethod ⟨"ThreePoints$Ride", "turnedBy", "(III)I"⟩ ∈ xtbl := xtbl_at 749 rfl (by decide +kernel)
set_option maxRecDepth 20000 in
theorem kw_750 : Cond.selects "ThreePoints$Ride" ⟨"ThreePoints$Ride", "turnedBy", "(III)I"⟩ ⟨"ThreePoints$Ride", "turnedBy", "(III)I"⟩ ∈ xtbl := xtbl_at 750 rfl (by decide +kernel)
set_option maxRecDepth 20000 in
theorem kw_751 : Cond.code ⟨"ThreePoints$Ride", "turnedBy", "(III)I"⟩ prog_4_method_8_code 4 (some .int) ∈ xtbl := xtbl_at 751 rfl rfl
set_option maxRecDepth 20000 in
theorem kw_752 : Cond.methodLink "ThreePoints$Ride" 86 ⟨"ThreePoints$Vehicle", "turns", "(II)I"⟩ ∈ xtbl := xtbl_at 752 rfl (by decide +kernel)
set_option maxRecDepth 20000 in
theorem kw_753 : Cond.instanceMethod ⟨"ThreePoints$Vehicle", "turns", "(II)I"⟩ ∈ xtbl := xtbl_at 753 rfl (by decide +kernel)
set_option maxRecDepth 20000 in
theorem kw_754 : Cond.selects "ThreePoints$Vehicle" ⟨"ThreePoints$Vehicle", "turns", "(II)I"⟩ ⟨"ThreePoints$Vehicle", "turns", "(II)I"⟩ ∈ xtbl := xtbl_at 754 rfl (by decide +kernel)
set_option maxRecDepth 20000 in
theorem kw_755 : Cond.code ⟨"ThreePoints$Vehicle", "turns", "(II)I"⟩ prog_9_method_7_code 4 (some .int) ∈ xtbl := xtbl_at 755 rfl rfl
set_option maxRecDepth 20000 in
theorem kw_756 : Cond.methodLink "ThreePoints$Ride" 96 ⟨"ThreePoints$Ride", "wears", "(III)I"⟩ ∈ xtbl := xtbl_at 756 rfl (by decide +kernel)
set_option maxRecDepth 20000 in
theorem kw_757 : Cond.instanceMethod ⟨"ThreePoints$Ride", "wears", "(III)I"⟩ ∈ xtbl := xtbl_at 757 rfl (by decide +kernel)
set_option maxRecDepth 20000 in
theorem kw_758 : Cond.selects "ThreePoints$Ride" ⟨"ThreePoints$Ride", "wears", "(III)I"⟩ ⟨"ThreePoints$Ride", "wears", "(III)I"⟩ ∈ xtbl := xtbl_at 758 rfl (by decide +kernel)
set_option maxRecDepth 20000 in
theorem kw_759 : Cond.code ⟨"ThreePoints$Ride", "wears", "(III)I"⟩ prog_4_method_3_code 4 (some .int) ∈ xtbl := xtbl_at 759 rfl rfl
set_option maxRecDepth 20000 in
theorem kw_760 : Cond.methodLink "ThreePoints$Ride" 99 ⟨"ThreePoints$Vehicle", "stepTo", "(IIII)V"⟩ ∈ xtbl := xtbl_at 760 rfl (by decide +kernel)
set_option maxRecDepth 20000 in
theorem kw_761 : Cond.instanceMethod ⟨"ThreePoints$Vehicle", "stepTo", "(IIII)V"⟩ ∈ xtbl := xtbl_at 761 rfl (by decide +kernel)
set_option maxRecDepth 20000 in
theorem kw_762 : Cond.selects "ThreePoints$Vehicle" ⟨"ThreePoints$Vehicle", "stepTo", "(IIII)V"⟩ ⟨"ThreePoints$Vehicle", "stepTo", "(IIII)V"⟩ ∈ xtbl := xtbl_at 762 rfl (by decide +kernel)
set_option maxRecDepth 20000 in
theorem kw_763 : Cond.code ⟨"ThreePoints$Vehicle", "stepTo", "(IIII)V"⟩ prog_9_method_8_code 5 none ∈ xtbl := xtbl_at 763 rfl rfl
set_option maxRecDepth 20000 in
theorem kw_764 : Cond.methodLink "ThreePoints$Vehicle" 37 ⟨"java/lang/Math", "min", "(II)I"⟩ ∈ xtbl := xtbl_at 764 rfl (by decide +kernel)
set_option maxRecDepth 20000 in
theorem kw_768 : Cond.code ⟨"ThreePoints", "begin", "(II)I"⟩ prog_1_method_12_code 4 (some .int) ∈ xtbl := xtbl_at 768 rfl rfl
set_option maxRecDepth 20000 in
theorem kw_772 : Cond.code ⟨"ThreePoints", "turned", "(II)I"⟩ prog_1_method_13_code 4 (some .int) ∈ xtbl := xtbl_at 772 rfl rfl
set_option maxRecDepth 20000 in
theorem kw_773 : Cond.methodLink "ThreePoints" 196 ⟨"ThreePoints", "otherHeading", "(I)I"⟩ ∈ xtbl := xtbl_at 773 rfl (by decide +kernel)
set_option maxRecDepth 20000 in
theorem kw_774 : Cond.static ⟨"ThreePoints", "otherHeading", "(I)I"⟩ ∈ xtbl := xtbl_at 774 rfl (by decide +kernel)
set_option maxRecDepth 20000 in
theorem kw_775 : Cond.code ⟨"ThreePoints", "otherHeading", "(I)I"⟩ prog_1_method_37_code 1 (some .int) ∈ xtbl := xtbl_at 775 rfl rfl
set_option maxRecDepth 20000 in
theorem kw_776 : Cond.methodLink "ThreePoints" 200 ⟨"ThreePoints$Search", "toHeading", "(LThreePoints$Ride;II)V"⟩ ∈ xtbl := xtbl_at 776 rfl (by decide +kernel)
set_option maxRecDepth 20000 in
theorem kw_777 : Cond.instanceMethod ⟨"ThreePoints$Search", "toHeading", "(LThreePoints$Ride;II)V"⟩ ∈ xtbl := xtbl_at 777 rfl (by decide +kernel)
set_option maxRecDepth 20000 in
theorem kw_778 : Cond.selects "ThreePoints$Search" ⟨"ThreePoints$Search", "toHeading", "(LThreePoints$Ride;II)V"⟩ ⟨"ThreePoints$Search", "toHeading", "(LThreePoints$Ride;II)V"⟩ ∈ xtbl := xtbl_at 778 rfl (by decide +kernel)
set_option maxRecDepth 20000 in
theorem kw_779 : Cond.code ⟨"ThreePoints$Search", "toHeading", "(LThreePoints$Ride;II)V"⟩ prog_5_method_3_code 7 none ∈ xtbl := xtbl_at 779 rfl rfl
set_option maxRecDepth 20000 in
theorem kw_780 : Cond.constant "ThreePoints$Search" 44 (2147483647) ∈ xtbl := xtbl_at 780 rfl (by decide +kernel)
set_option maxRecDepth 20000 in
theorem kw_781 : Cond.methodLink "ThreePoints$Search" 45 ⟨"java/util/Arrays", "fill", "([II)V"⟩ ∈ xtbl := xtbl_at 781 rfl (by decide +kernel)
set_option maxRecDepth 20000 in
theorem kw_782 : Cond.methodLink "ThreePoints$Search" 62 ⟨"ThreePoints$Ride", "fits", "(II)Z"⟩ ∈ xtbl := xtbl_at 782 rfl (by decide +kernel)
set_option maxRecDepth 20000 in
theorem kw_783 : Cond.methodLink "ThreePoints$Search" 66 ⟨"ThreePoints$Search", "state", "(III)I"⟩ ∈ xtbl := xtbl_at 783 rfl (by decide +kernel)
set_option maxRecDepth 20000 in
theorem kw_784 : Cond.static ⟨"ThreePoints$Search", "state", "(III)I"⟩ ∈ xtbl := xtbl_at 784 rfl (by decide +kernel)
set_option maxRecDepth 20000 in
theorem kw_785 : Cond.code ⟨"ThreePoints$Search", "state", "(III)I"⟩ prog_5_method_2_code 4 (some .int) ∈ xtbl := xtbl_at 785 rfl rfl
set_option maxRecDepth 20000 in
theorem kw_786 : Cond.methodLink "ThreePoints$Search" 28 ⟨"java/lang/Math", "min", "(II)I"⟩ ∈ xtbl := xtbl_at 786 rfl (by decide +kernel)
set_option maxRecDepth 20000 in
theorem kw_787 : Cond.methodLink "ThreePoints$Search" 34 ⟨"java/lang/Math", "max", "(II)I"⟩ ∈ xtbl := xtbl_at 787 rfl (by decide +kernel)
set_option maxRecDepth 20000 in
theorem kw_788 : Cond.methodLink "ThreePoints$Search" 70 ⟨"ThreePoints$Search", "lower", "(II)V"⟩ ∈ xtbl := xtbl_at 788 rfl (by decide +kernel)
set_option maxRecDepth 20000 in
theorem kw_790 : Cond.instanceMethod ⟨"ThreePoints$Search", "lower", "(II)V"⟩ ∈ xtbl := xtbl_at 790 rfl (by decide +kernel)
set_option maxRecDepth 20000 in
theorem kw_791 : Cond.code ⟨"ThreePoints$Search", "lower", "(II)V"⟩ prog_5_method_5_code 4 none ∈ xtbl := xtbl_at 791 rfl rfl
set_option maxRecDepth 20000 in
theorem kw_792 : Cond.methodLink "ThreePoints$Search" 75 ⟨"ThreePoints$Search", "unlink", "(I)V"⟩ ∈ xtbl := xtbl_at 792 rfl (by decide +kernel)
set_option maxRecDepth 20000 in
theorem kw_794 : Cond.instanceMethod ⟨"ThreePoints$Search", "unlink", "(I)V"⟩ ∈ xtbl := xtbl_at 794 rfl (by decide +kernel)
set_option maxRecDepth 20000 in
theorem kw_795 : Cond.code ⟨"ThreePoints$Search", "unlink", "(I)V"⟩ prog_5_method_6_code 4 none ∈ xtbl := xtbl_at 795 rfl rfl
set_option maxRecDepth 20000 in
theorem kw_796 : Cond.constant "ThreePoints$Search" 74 (193248) ∈ xtbl := xtbl_at 796 rfl (by decide +kernel)
set_option maxRecDepth 20000 in
theorem kw_797 : Cond.methodLink "ThreePoints$Search" 79 ⟨"ThreePoints$Search", "lowerAhead", "(LThreePoints$Ride;II)V"⟩ ∈ xtbl := xtbl_at 797 rfl (by decide +kernel)
set_option maxRecDepth 20000 in
theorem kw_799 : Cond.instanceMethod ⟨"ThreePoints$Search", "lowerAhead", "(LThreePoints$Ride;II)V"⟩ ∈ xtbl := xtbl_at 799 rfl (by decide +kernel)
set_option maxRecDepth 20000 in
theorem kw_800 : Cond.code ⟨"ThreePoints$Search", "lowerAhead", "(LThreePoints$Ride;II)V"⟩ prog_5_method_4_code 11 none ∈ xtbl := xtbl_at 800 rfl rfl
set_option maxRecDepth 20000 in
theorem kw_801 : Cond.methodLink "ThreePoints$Search" 87 ⟨"ThreePoints$Vehicle", "turns", "(II)I"⟩ ∈ xtbl := xtbl_at 801 rfl (by decide +kernel)
set_option maxRecDepth 20000 in
theorem kw_802 : Cond.methodLink "ThreePoints$Search" 92 ⟨"ThreePoints$Ride", "shift", "(II)I"⟩ ∈ xtbl := xtbl_at 802 rfl (by decide +kernel)
set_option maxRecDepth 20000 in
theorem kw_803 : Cond.methodLink "ThreePoints$Search" 95 ⟨"ThreePoints$Ride", "wears", "(III)I"⟩ ∈ xtbl := xtbl_at 803 rfl (by decide +kernel)
set_option maxRecDepth 20000 in
theorem kw_804 : Cond.methodLink "ThreePoints" 204 ⟨"ThreePoints$Search", "leastFromNow", "(LThreePoints$Ride;)I"⟩ ∈ xtbl := xtbl_at 804 rfl (by decide +kernel)
set_option maxRecDepth 20000 in
theorem kw_805 : Cond.instanceMethod ⟨"ThreePoints$Search", "leastFromNow", "(LThreePoints$Ride;)I"⟩ ∈ xtbl := xtbl_at 805 rfl (by decide +kernel)
set_option maxRecDepth 20000 in
theorem kw_806 : Cond.selects "ThreePoints$Search" ⟨"ThreePoints$Search", "leastFromNow", "(LThreePoints$Ride;)I"⟩ ⟨"ThreePoints$Search", "leastFromNow", "(LThreePoints$Ride;)I"⟩ ∈ xtbl := xtbl_at 806 rfl (by decide +kernel)
set_option maxRecDepth 20000 in
theorem kw_807 : Cond.code ⟨"ThreePoints$Search", "leastFromNow", "(LThreePoints$Ride;)I"⟩ prog_5_method_8_code 2 (some .int) ∈ xtbl := xtbl_at 807 rfl rfl
set_option maxRecDepth 20000 in
theorem kw_808 : Cond.methodLink "ThreePoints$Search" 113 ⟨"ThreePoints$Search", "least", "(LThreePoints$Ride;III)I"⟩ ∈ xtbl := xtbl_at 808 rfl (by decide +kernel)
set_option maxRecDepth 20000 in
theorem kw_809 : Cond.instanceMethod ⟨"ThreePoints$Search", "least", "(LThreePoints$Ride;III)I"⟩ ∈ xtbl := xtbl_at 809 rfl (by decide +kernel)
set_option maxRecDepth 20000 in
theorem kw_810 : Cond.selects "ThreePoints$Search" ⟨"ThreePoints$Search", "least", "(LThreePoints$Ride;III)I"⟩ ⟨"ThreePoints$Search", "least", "(LThreePoints$Ride;III)I"⟩ ∈ xtbl := xtbl_at 810 rfl (by decide +kernel)
set_option maxRecDepth 20000 in
theorem kw_811 : Cond.code ⟨"ThreePoints$Search", "least", "(LThreePoints$Ride;III)I"⟩ prog_5_method_7_code 12 (some .int) ∈ xtbl := xtbl_at 811 rfl rfl
set_option maxRecDepth 20000 in
theorem kw_812 : Cond.methodLink "ThreePoints$Search" 101 ⟨"ThreePoints$Ride", "turnedBy", "(III)I"⟩ ∈ xtbl := xtbl_at 812 rfl (by decide +kernel)
set_option maxRecDepth 20000 in
theorem kw_816 : Cond.code ⟨"ThreePoints", "where", "(II)I"⟩ prog_1_method_14_code 7 (some .int) ∈ xtbl := xtbl_at 816 rfl rfl
set_option maxRecDepth 20000 in
theorem kw_817 : Cond.methodLink "ThreePoints" 211 ⟨"ThreePoints$Search", "least", "(LThreePoints$Ride;III)I"⟩ ∈ xtbl := xtbl_at 817 rfl (by decide +kernel)
set_option maxRecDepth 20000 in
theorem kw_821 : Cond.code ⟨"ThreePoints", "narrow", "(II)I"⟩ prog_1_method_15_code 4 (some .int) ∈ xtbl := xtbl_at 821 rfl rfl
set_option maxRecDepth 20000 in
theorem kw_825 : Cond.code ⟨"ThreePoints", "cut", "(II)I"⟩ prog_1_method_16_code 4 (some .int) ∈ xtbl := xtbl_at 825 rfl rfl
set_option maxRecDepth 20000 in
theorem kw_829 : Cond.code ⟨"ThreePoints", "headings", "(I)I"⟩ prog_1_method_17_code 2 (some .int) ∈ xtbl := xtbl_at 829 rfl rfl
set_option maxRecDepth 20000 in
theorem kw_830 : Cond.methodLink "ThreePoints" 215 ⟨"ThreePoints$Search", "headingsReached", "(LThreePoints$Ride;)I"⟩ ∈ xtbl := xtbl_at 830 rfl (by decide +kernel)
set_option maxRecDepth 20000 in
theorem kw_831 : Cond.instanceMethod ⟨"ThreePoints$Search", "headingsReached", "(LThreePoints$Ride;)I"⟩ ∈ xtbl := xtbl_at 831 rfl (by decide +kernel)
set_option maxRecDepth 20000 in
theorem kw_832 : Cond.selects "ThreePoints$Search" ⟨"ThreePoints$Search", "headingsReached", "(LThreePoints$Ride;)I"⟩ ⟨"ThreePoints$Search", "headingsReached", "(LThreePoints$Ride;)I"⟩ ∈ xtbl := xtbl_at 832 rfl (by decide +kernel)
set_option maxRecDepth 20000 in
theorem kw_833 : Cond.code ⟨"ThreePoints$Search", "headingsReached", "(LThreePoints$Ride;)I"⟩ prog_5_method_9_code 7 (some .int) ∈ xtbl := xtbl_at 833 rfl rfl
set_option maxRecDepth 20000 in
theorem kw_834 : Cond.methodLink "ThreePoints$Search" 117 ⟨"ThreePoints$Search", "addBehind", "(LThreePoints$Ride;III)I"⟩ ∈ xtbl := xtbl_at 834 rfl (by decide +kernel)
set_option maxRecDepth 20000 in
theorem kw_836 : Cond.instanceMethod ⟨"ThreePoints$Search", "addBehind", "(LThreePoints$Ride;III)I"⟩ ∈ xtbl := xtbl_at 836 rfl (by decide +kernel)
set_option maxRecDepth 20000 in
theorem kw_837 : Cond.code ⟨"ThreePoints$Search", "addBehind", "(LThreePoints$Ride;III)I"⟩ prog_5_method_10_code 11 (some .int) ∈ xtbl := xtbl_at 837 rfl rfl
set_option maxRecDepth 20000 in
theorem kw_841 : Cond.code ⟨"ThreePoints", "best", "(I)I"⟩ prog_1_method_18_code 6 (some .int) ∈ xtbl := xtbl_at 841 rfl rfl
set_option maxRecDepth 20000 in
theorem kw_845 : Cond.code ⟨"ThreePoints", "judge", "(II)I"⟩ prog_1_method_19_code 4 (some .int) ∈ xtbl := xtbl_at 845 rfl rfl
set_option maxRecDepth 20000 in
theorem kw_846 : Cond.methodLink "ThreePoints" 218 ⟨"ThreePoints", "refusalOfMoves", "(II)I"⟩ ∈ xtbl := xtbl_at 846 rfl (by decide +kernel)
set_option maxRecDepth 20000 in
theorem kw_848 : Cond.instanceMethod ⟨"ThreePoints", "refusalOfMoves", "(II)I"⟩ ∈ xtbl := xtbl_at 848 rfl (by decide +kernel)
set_option maxRecDepth 20000 in
theorem kw_849 : Cond.code ⟨"ThreePoints", "refusalOfMoves", "(II)I"⟩ prog_1_method_45_code 3 (some .int) ∈ xtbl := xtbl_at 849 rfl rfl
set_option maxRecDepth 20000 in
theorem kw_850 : Cond.methodLink "ThreePoints" 243 ⟨"ThreePoints", "isSheet", "(I)Z"⟩ ∈ xtbl := xtbl_at 850 rfl (by decide +kernel)
set_option maxRecDepth 20000 in
theorem kw_851 : Cond.static ⟨"ThreePoints", "isSheet", "(I)Z"⟩ ∈ xtbl := xtbl_at 851 rfl (by decide +kernel)
set_option maxRecDepth 20000 in
theorem kw_852 : Cond.code ⟨"ThreePoints", "isSheet", "(I)Z"⟩ prog_1_method_40_code 1 (some .boolean) ∈ xtbl := xtbl_at 852 rfl rfl
set_option maxRecDepth 20000 in
theorem kw_853 : Cond.methodLink "ThreePoints" 250 ⟨"ThreePoints$Sheet", "isMissing", "()Z"⟩ ∈ xtbl := xtbl_at 853 rfl (by decide +kernel)
set_option maxRecDepth 20000 in
theorem kw_854 : Cond.instanceMethod ⟨"ThreePoints$Sheet", "isMissing", "()Z"⟩ ∈ xtbl := xtbl_at 854 rfl (by decide +kernel)
set_option maxRecDepth 20000 in
theorem kw_855 : Cond.selects "ThreePoints$Sheet" ⟨"ThreePoints$Sheet", "isMissing", "()Z"⟩ ⟨"ThreePoints$Sheet", "isMissing", "()Z"⟩ ∈ xtbl := xtbl_at 855 rfl (by decide +kernel)
set_option maxRecDepth 20000 in
theorem kw_856 : Cond.code ⟨"ThreePoints$Sheet", "isMissing", "()Z"⟩ prog_6_method_2_code 1 (some .boolean) ∈ xtbl := xtbl_at 856 rfl rfl
set_option maxRecDepth 20000 in
theorem kw_857 : Cond.methodLink "ThreePoints" 290 ⟨"ThreePoints$Sheet", "tellsMoves", "()Z"⟩ ∈ xtbl := xtbl_at 857 rfl (by decide +kernel)
set_option maxRecDepth 20000 in
theorem kw_858 : Cond.instanceMethod ⟨"ThreePoints$Sheet", "tellsMoves", "()Z"⟩ ∈ xtbl := xtbl_at 858 rfl (by decide +kernel)
set_option maxRecDepth 20000 in
theorem kw_859 : Cond.selects "ThreePoints$Sheet" ⟨"ThreePoints$Sheet", "tellsMoves", "()Z"⟩ ⟨"ThreePoints$Sheet", "tellsMoves", "()Z"⟩ ∈ xtbl := xtbl_at 859 rfl (by decide +kernel)
set_option maxRecDepth 20000 in
theorem kw_860 : Cond.code ⟨"ThreePoints$Sheet", "tellsMoves", "()Z"⟩ prog_6_method_8_code 2 (some .boolean) ∈ xtbl := xtbl_at 860 rfl rfl
set_option maxRecDepth 20000 in
theorem kw_862 : Cond.methodLink "ThreePoints" 221 ⟨"ThreePoints$Ride", "through", "(LThreePoints$Sheet;)I"⟩ ∈ xtbl := xtbl_at 862 rfl (by decide +kernel)
set_option maxRecDepth 20000 in
theorem kw_863 : Cond.instanceMethod ⟨"ThreePoints$Ride", "through", "(LThreePoints$Sheet;)I"⟩ ∈ xtbl := xtbl_at 863 rfl (by decide +kernel)
set_option maxRecDepth 20000 in
theorem kw_864 : Cond.selects "ThreePoints$Ride" ⟨"ThreePoints$Ride", "through", "(LThreePoints$Sheet;)I"⟩ ⟨"ThreePoints$Ride", "through", "(LThreePoints$Sheet;)I"⟩ ∈ xtbl := xtbl_at 864 rfl (by decide +kernel)
set_option maxRecDepth 20000 in
theorem kw_865 : Cond.code ⟨"ThreePoints$Ride", "through", "(LThreePoints$Sheet;)I"⟩ prog_4_method_10_code 5 (some .int) ∈ xtbl := xtbl_at 865 rfl rfl
set_option maxRecDepth 20000 in
theorem kw_866 : Cond.methodLink "ThreePoints$Ride" 108 ⟨"ThreePoints$Sheet", "get", "(I)I"⟩ ∈ xtbl := xtbl_at 866 rfl (by decide +kernel)
set_option maxRecDepth 20000 in
theorem kw_867 : Cond.instanceMethod ⟨"ThreePoints$Sheet", "get", "(I)I"⟩ ∈ xtbl := xtbl_at 867 rfl (by decide +kernel)
set_option maxRecDepth 20000 in
theorem kw_868 : Cond.selects "ThreePoints$Sheet" ⟨"ThreePoints$Sheet", "get", "(I)I"⟩ ⟨"ThreePoints$Sheet", "get", "(I)I"⟩ ∈ xtbl := xtbl_at 868 rfl (by decide +kernel)
set_option maxRecDepth 20000 in
theorem kw_869 : Cond.code ⟨"ThreePoints$Sheet", "get", "(I)I"⟩ prog_6_method_6_code 2 (some .int) ∈ xtbl := xtbl_at 869 rfl rfl
set_option maxRecDepth 20000 in
theorem kw_870 : Cond.methodLink "ThreePoints$Sheet" 37 ⟨"ThreePoints$Sheet", "has", "(I)Z"⟩ ∈ xtbl := xtbl_at 870 rfl (by decide +kernel)
set_option maxRecDepth 20000 in
theorem kw_871 : Cond.instanceMethod ⟨"ThreePoints$Sheet", "has", "(I)Z"⟩ ∈ xtbl := xtbl_at 871 rfl (by decide +kernel)
set_option maxRecDepth 20000 in
theorem kw_872 : Cond.selects "ThreePoints$Sheet" ⟨"ThreePoints$Sheet", "has", "(I)Z"⟩ ⟨"ThreePoints$Sheet", "has", "(I)Z"⟩ ∈ xtbl := xtbl_at 872 rfl (by decide +kernel)
set_option maxRecDepth 20000 in
theorem kw_873 : Cond.code ⟨"ThreePoints$Sheet", "has", "(I)Z"⟩ prog_6_method_4_code 2 (some .boolean) ∈ xtbl := xtbl_at 873 rfl rfl
set_option maxRecDepth 20000 in
theorem kw_874 : Cond.methodLink "ThreePoints$Ride" 111 ⟨"ThreePoints$Ride", "go", "(II)Z"⟩ ∈ xtbl := xtbl_at 874 rfl (by decide +kernel)
set_option maxRecDepth 20000 in
theorem kw_878 : Cond.code ⟨"ThreePoints", "ends", "(III)I"⟩ prog_1_method_20_code 5 (some .int) ∈ xtbl := xtbl_at 878 rfl rfl
set_option maxRecDepth 20000 in
theorem kw_882 : Cond.code ⟨"ThreePoints", "kinds", "(III)I"⟩ prog_1_method_21_code 9 (some .int) ∈ xtbl := xtbl_at 882 rfl rfl
set_option maxRecDepth 20000 in
theorem kw_886 : Cond.code ⟨"ThreePoints", "widths", "(III)I"⟩ prog_1_method_22_code 8 (some .int) ∈ xtbl := xtbl_at 886 rfl rfl
set_option maxRecDepth 20000 in
theorem kw_890 : Cond.code ⟨"ThreePoints", "laws", "(II)I"⟩ prog_1_method_23_code 6 (some .int) ∈ xtbl := xtbl_at 890 rfl rfl
set_option maxRecDepth 20000 in
theorem kw_894 : Cond.code ⟨"ThreePoints", "drawn", "(IIII)I"⟩ prog_1_method_24_code 6 (some .int) ∈ xtbl := xtbl_at 894 rfl rfl
set_option maxRecDepth 20000 in
theorem kw_895 : Cond.constant "ThreePoints" 227 (99999) ∈ xtbl := xtbl_at 895 rfl (by decide +kernel)
set_option maxRecDepth 20000 in
theorem kw_896 : Cond.methodLink "ThreePoints" 228 ⟨"ThreePoints$Ride", "byLots", "(II)I"⟩ ∈ xtbl := xtbl_at 896 rfl (by decide +kernel)
set_option maxRecDepth 20000 in
theorem kw_897 : Cond.instanceMethod ⟨"ThreePoints$Ride", "byLots", "(II)I"⟩ ∈ xtbl := xtbl_at 897 rfl (by decide +kernel)
set_option maxRecDepth 20000 in
theorem kw_898 : Cond.selects "ThreePoints$Ride" ⟨"ThreePoints$Ride", "byLots", "(II)I"⟩ ⟨"ThreePoints$Ride", "byLots", "(II)I"⟩ ∈ xtbl := xtbl_at 898 rfl (by decide +kernel)
set_option maxRecDepth 20000 in
theorem kw_899 : Cond.code ⟨"ThreePoints$Ride", "byLots", "(II)I"⟩ prog_4_method_11_code 9 (some .int) ∈ xtbl := xtbl_at 899 rfl rfl
set_option maxRecDepth 20000 in
theorem kw_900 : Cond.constantLong "ThreePoints$Ride" 114 (48271) ∈ xtbl := xtbl_at 900 rfl (by decide +kernel)
set_option maxRecDepth 20000 in
theorem kw_901 : Cond.constantLong "ThreePoints$Ride" 116 (2147483647) ∈ xtbl := xtbl_at 901 rfl (by decide +kernel)
set_option maxRecDepth 20000 in
theorem kw_902 : Cond.constantLong "ThreePoints$Ride" 118 (2) ∈ xtbl := xtbl_at 902 rfl (by decide +kernel)
set_option maxRecDepth 20000 in
theorem kw_903 : Cond.constantLong "ThreePoints$Ride" 120 (3) ∈ xtbl := xtbl_at 903 rfl (by decide +kernel)
set_option maxRecDepth 20000 in
theorem kw_904 : Cond.constantLong "ThreePoints$Ride" 122 (6) ∈ xtbl := xtbl_at 904 rfl (by decide +kernel)
set_option maxRecDepth 20000 in
theorem kw_905 : Cond.constantLong "ThreePoints$Ride" 124 (100) ∈ xtbl := xtbl_at 905 rfl (by decide +kernel)
set_option maxRecDepth 20000 in
theorem kw_909 : Cond.code ⟨"ThreePoints", "odds", "(IIII)J"⟩ prog_1_method_25_code 9 (some .long) ∈ xtbl := xtbl_at 909 rfl rfl
set_option maxRecDepth 20000 in
theorem kw_910 : Cond.constantLong "ThreePoints" 231 (-4611686018427387904) ∈ xtbl := xtbl_at 910 rfl (by decide +kernel)
set_option maxRecDepth 20000 in
theorem kw_911 : Cond.methodLink "ThreePoints" 233 ⟨"ThreePoints", "commonDivisor", "(II)I"⟩ ∈ xtbl := xtbl_at 911 rfl (by decide +kernel)
set_option maxRecDepth 20000 in
theorem kw_912 : Cond.static ⟨"ThreePoints", "commonDivisor", "(II)I"⟩ ∈ xtbl := xtbl_at 912 rfl (by decide +kernel)
set_option maxRecDepth 20000 in
theorem kw_913 : Cond.code ⟨"ThreePoints", "commonDivisor", "(II)I"⟩ prog_1_method_38_code 3 (some .int) ∈ xtbl := xtbl_at 913 rfl rfl
set_option maxRecDepth 20000 in
theorem kw_917 : Cond.code ⟨"ThreePoints", "image", "()I"⟩ prog_1_method_26_code 1 (some .int) ∈ xtbl := xtbl_at 917 rfl rfl
set_option maxRecDepth 20000 in
theorem kw_918 : Cond.methodLink "ThreePoints" 236 ⟨"ThreePoints$Yard", "become", "(LThreePoints$Yard;)V"⟩ ∈ xtbl := xtbl_at 918 rfl (by decide +kernel)
set_option maxRecDepth 20000 in
theorem kw_919 : Cond.instanceMethod ⟨"ThreePoints$Yard", "become", "(LThreePoints$Yard;)V"⟩ ∈ xtbl := xtbl_at 919 rfl (by decide +kernel)
set_option maxRecDepth 20000 in
theorem kw_920 : Cond.selects "ThreePoints$Yard" ⟨"ThreePoints$Yard", "become", "(LThreePoints$Yard;)V"⟩ ⟨"ThreePoints$Yard", "become", "(LThreePoints$Yard;)V"⟩ ∈ xtbl := xtbl_at 920 rfl (by decide +kernel)
set_option maxRecDepth 20000 in
theorem kw_921 : Cond.code ⟨"ThreePoints$Yard", "become", "(LThreePoints$Yard;)V"⟩ prog_10_method_2_code 3 none ∈ xtbl := xtbl_at 921 rfl rfl
set_option maxRecDepth 20000 in
theorem kw_922 : Cond.methodLink "ThreePoints$Yard" 25 ⟨"ThreePoints$Lane", "become", "(LThreePoints$Lane;)V"⟩ ∈ xtbl := xtbl_at 922 rfl (by decide +kernel)
set_option maxRecDepth 20000 in
theorem kw_923 : Cond.methodLink "ThreePoints$Yard" 29 ⟨"ThreePoints$Vehicle", "become", "(LThreePoints$Vehicle;)V"⟩ ∈ xtbl := xtbl_at 923 rfl (by decide +kernel)
set_option maxRecDepth 20000 in
theorem kw_927 : Cond.code ⟨"ThreePoints", "back", "()I"⟩ prog_1_method_27_code 1 (some .int) ∈ xtbl := xtbl_at 927 rfl rfl
set_option maxRecDepth 20000 in
theorem kw_931 : Cond.code ⟨"ThreePoints", "sheet", "(III)I"⟩ prog_1_method_28_code 4 (some .int) ∈ xtbl := xtbl_at 931 rfl rfl
set_option maxRecDepth 20000 in
theorem kw_932 : Cond.methodLink "ThreePoints" 246 ⟨"ThreePoints$Sheet", "renew", "(II)V"⟩ ∈ xtbl := xtbl_at 932 rfl (by decide +kernel)
set_option maxRecDepth 20000 in
theorem kw_933 : Cond.instanceMethod ⟨"ThreePoints$Sheet", "renew", "(II)V"⟩ ∈ xtbl := xtbl_at 933 rfl (by decide +kernel)
set_option maxRecDepth 20000 in
theorem kw_934 : Cond.selects "ThreePoints$Sheet" ⟨"ThreePoints$Sheet", "renew", "(II)V"⟩ ⟨"ThreePoints$Sheet", "renew", "(II)V"⟩ ∈ xtbl := xtbl_at 934 rfl (by decide +kernel)
set_option maxRecDepth 20000 in
theorem kw_935 : Cond.code ⟨"ThreePoints$Sheet", "renew", "(II)V"⟩ prog_6_method_3_code 3 none ∈ xtbl := xtbl_at 935 rfl rfl
set_option maxRecDepth 20000 in
theorem kw_936 : Cond.methodLink "ThreePoints$Sheet" 19 ⟨"java/lang/Math", "min", "(II)I"⟩ ∈ xtbl := xtbl_at 936 rfl (by decide +kernel)
set_option maxRecDepth 20000 in
theorem kw_937 : Cond.methodLink "ThreePoints$Sheet" 25 ⟨"java/lang/Math", "max", "(II)I"⟩ ∈ xtbl := xtbl_at 937 rfl (by decide +kernel)
set_option maxRecDepth 20000 in
theorem kw_938 : Cond.methodLink "ThreePoints$Sheet" 31 ⟨"java/util/Arrays", "fill", "([II)V"⟩ ∈ xtbl := xtbl_at 938 rfl (by decide +kernel)
set_option maxRecDepth 20000 in
theorem kw_942 : Cond.code ⟨"ThreePoints", "cell", "(III)I"⟩ prog_1_method_29_code 4 (some .int) ∈ xtbl := xtbl_at 942 rfl rfl
set_option maxRecDepth 20000 in
theorem kw_943 : Cond.methodLink "ThreePoints" 253 ⟨"ThreePoints$Sheet", "has", "(I)Z"⟩ ∈ xtbl := xtbl_at 943 rfl (by decide +kernel)
set_option maxRecDepth 20000 in
theorem kw_944 : Cond.methodLink "ThreePoints" 256 ⟨"ThreePoints$Sheet", "put", "(II)V"⟩ ∈ xtbl := xtbl_at 944 rfl (by decide +kernel)
set_option maxRecDepth 20000 in
theorem kw_945 : Cond.instanceMethod ⟨"ThreePoints$Sheet", "put", "(II)V"⟩ ∈ xtbl := xtbl_at 945 rfl (by decide +kernel)
set_option maxRecDepth 20000 in
theorem kw_946 : Cond.selects "ThreePoints$Sheet" ⟨"ThreePoints$Sheet", "put", "(II)V"⟩ ⟨"ThreePoints$Sheet", "put", "(II)V"⟩ ∈ xtbl := xtbl_at 946 rfl (by decide +kernel)
set_option maxRecDepth 20000 in
theorem kw_947 : Cond.code ⟨"ThreePoints$Sheet", "put", "(II)V"⟩ prog_6_method_7_code 3 none ∈ xtbl := xtbl_at 947 rfl rfl
set_option maxRecDepth 20000 in
theorem kw_951 : Cond.code ⟨"ThreePoints", "copy", "(IIIII)I"⟩ prog_1_method_30_code 8 (some .int) ∈ xtbl := xtbl_at 951 rfl rfl
set_option maxRecDepth 20000 in
theorem kw_952 : Cond.methodLink "ThreePoints" 262 ⟨"ThreePoints$Sheet", "hasRow", "(II)Z"⟩ ∈ xtbl := xtbl_at 952 rfl (by decide +kernel)
set_option maxRecDepth 20000 in
theorem kw_953 : Cond.instanceMethod ⟨"ThreePoints$Sheet", "hasRow", "(II)Z"⟩ ∈ xtbl := xtbl_at 953 rfl (by decide +kernel)
set_option maxRecDepth 20000 in
theorem kw_954 : Cond.selects "ThreePoints$Sheet" ⟨"ThreePoints$Sheet", "hasRow", "(II)Z"⟩ ⟨"ThreePoints$Sheet", "hasRow", "(II)Z"⟩ ∈ xtbl := xtbl_at 954 rfl (by decide +kernel)
set_option maxRecDepth 20000 in
theorem kw_955 : Cond.code ⟨"ThreePoints$Sheet", "hasRow", "(II)Z"⟩ prog_6_method_5_code 3 (some .boolean) ∈ xtbl := xtbl_at 955 rfl rfl
set_option maxRecDepth 20000 in
theorem kw_956 : Cond.methodLink "ThreePoints" 269 arraycopyName ∈ xtbl := xtbl_at 956 rfl (by decide +kernel)
set_option maxRecDepth 20000 in
theorem kw_960 : Cond.code ⟨"ThreePoints", "vehiclesBy", "(IIII)I"⟩ prog_1_method_31_code 9 (some .int) ∈ xtbl := xtbl_at 960 rfl rfl
set_option maxRecDepth 20000 in
theorem kw_961 : Cond.methodLink "ThreePoints" 275 ⟨"ThreePoints$Sheet", "get", "(I)I"⟩ ∈ xtbl := xtbl_at 961 rfl (by decide +kernel)
set_option maxRecDepth 20000 in
theorem kw_965 : Cond.code ⟨"ThreePoints", "taken", "(II)I"⟩ prog_1_method_32_code 3 (some .int) ∈ xtbl := xtbl_at 965 rfl rfl
set_option maxRecDepth 20000 in
theorem kw_966 : Cond.methodLink "ThreePoints" 278 ⟨"ThreePoints", "across", "(I)I"⟩ ∈ xtbl := xtbl_at 966 rfl (by decide +kernel)
set_option maxRecDepth 20000 in
theorem kw_967 : Cond.methodLink "ThreePoints" 281 ⟨"ThreePoints$Vehicle", "isA", "(I)Z"⟩ ∈ xtbl := xtbl_at 967 rfl (by decide +kernel)
set_option maxRecDepth 20000 in
theorem kw_968 : Cond.instanceMethod ⟨"ThreePoints$Vehicle", "isA", "(I)Z"⟩ ∈ xtbl := xtbl_at 968 rfl (by decide +kernel)
set_option maxRecDepth 20000 in
theorem kw_969 : Cond.selects "ThreePoints$Vehicle" ⟨"ThreePoints$Vehicle", "isA", "(I)Z"⟩ ⟨"ThreePoints$Vehicle", "isA", "(I)Z"⟩ ∈ xtbl := xtbl_at 969 rfl (by decide +kernel)
set_option maxRecDepth 20000 in
theorem kw_970 : Cond.code ⟨"ThreePoints$Vehicle", "isA", "(I)Z"⟩ prog_9_method_4_code 4 (some .boolean) ∈ xtbl := xtbl_at 970 rfl rfl
set_option maxRecDepth 20000 in
theorem kw_971 : Cond.fieldLink "ThreePoints$Vehicle" 33 "ThreePoints$Vehicle" "ABOVE" "[I" ∈ xtbl := xtbl_at 971 rfl (by decide +kernel)
set_option maxRecDepth 20000 in
theorem kw_982 : Cond.code ⟨"ThreePointsModel", "text", "()I"⟩ prog_12_method_23_code 3 (some .int) ∈ xtbl := xtbl_at 982 rfl rfl
set_option maxRecDepth 20000 in
theorem kw_983 : Cond.methodLink "ThreePointsModel" 163 ⟨"ThreePointsModel", "next", "()V"⟩ ∈ xtbl := xtbl_at 983 rfl (by decide +kernel)
set_option maxRecDepth 20000 in
theorem kw_985 : Cond.instanceMethod ⟨"ThreePointsModel", "next", "()V"⟩ ∈ xtbl := xtbl_at 985 rfl (by decide +kernel)
set_option maxRecDepth 20000 in
theorem kw_986 : Cond.code ⟨"ThreePointsModel", "next", "()V"⟩ prog_12_method_14_code 3 none ∈ xtbl := xtbl_at 986 rfl rfl
set_option maxRecDepth 20000 in
theorem kw_987 : Cond.methodLink "ThreePointsModel" 97 ⟨"ThreePointsModel", "in", "(III)Z"⟩ ∈ xtbl := xtbl_at 987 rfl (by decide +kernel)
set_option maxRecDepth 20000 in
theorem kw_988 : Cond.static ⟨"ThreePointsModel", "in", "(III)Z"⟩ ∈ xtbl := xtbl_at 988 rfl (by decide +kernel)
set_option maxRecDepth 20000 in
theorem kw_989 : Cond.code ⟨"ThreePointsModel", "in", "(III)Z"⟩ prog_12_method_3_code 3 (some .boolean) ∈ xtbl := xtbl_at 989 rfl rfl
set_option maxRecDepth 20000 in
theorem kw_990 : Cond.methodLink "ThreePointsModel" 136 ⟨"ThreePointsModel", "wordFrom", "(II)I"⟩ ∈ xtbl := xtbl_at 990 rfl (by decide +kernel)
set_option maxRecDepth 20000 in
theorem kw_992 : Cond.instanceMethod ⟨"ThreePointsModel", "wordFrom", "(II)I"⟩ ∈ xtbl := xtbl_at 992 rfl (by decide +kernel)
set_option maxRecDepth 20000 in
theorem kw_993 : Cond.code ⟨"ThreePointsModel", "wordFrom", "(II)I"⟩ prog_12_method_13_code 6 (some .int) ∈ xtbl := xtbl_at 993 rfl rfl
set_option maxRecDepth 20000 in
theorem kw_994 : Cond.methodLink "ThreePointsModel" 176 ⟨"ThreePointsModel", "eRead", "()Z"⟩ ∈ xtbl := xtbl_at 994 rfl (by decide +kernel)
set_option maxRecDepth 20000 in
theorem kw_996 : Cond.instanceMethod ⟨"ThreePointsModel", "eRead", "()Z"⟩ ∈ xtbl := xtbl_at 996 rfl (by decide +kernel)
set_option maxRecDepth 20000 in
theorem kw_997 : Cond.code ⟨"ThreePointsModel", "eRead", "()Z"⟩ prog_12_method_22_code 4 (some .boolean) ∈ xtbl := xtbl_at 997 rfl rfl
set_option maxRecDepth 20000 in
theorem kw_998 : Cond.constant "ThreePointsModel" 166 (100000) ∈ xtbl := xtbl_at 998 rfl (by decide +kernel)
set_option maxRecDepth 20000 in
theorem kw_999 : Cond.methodLink "ThreePointsModel" 153 ⟨"ThreePointsModel", "puts", "(I)V"⟩ ∈ xtbl := xtbl_at 999 rfl (by decide +kernel)
set_option maxRecDepth 20000 in
theorem kw_1001 : Cond.instanceMethod ⟨"ThreePointsModel", "puts", "(I)V"⟩ ∈ xtbl := xtbl_at 1001 rfl (by decide +kernel)
set_option maxRecDepth 20000 in
theorem kw_1002 : Cond.code ⟨"ThreePointsModel", "puts", "(I)V"⟩ prog_12_method_16_code 2 none ∈ xtbl := xtbl_at 1002 rfl rfl
set_option maxRecDepth 20000 in
theorem kw_1003 : Cond.methodLink "ThreePointsModel" 160 ⟨"ThreePointsModel", "unwinds", "(I)V"⟩ ∈ xtbl := xtbl_at 1003 rfl (by decide +kernel)
set_option maxRecDepth 20000 in
theorem kw_1005 : Cond.instanceMethod ⟨"ThreePointsModel", "unwinds", "(I)V"⟩ ∈ xtbl := xtbl_at 1005 rfl (by decide +kernel)
set_option maxRecDepth 20000 in
theorem kw_1006 : Cond.code ⟨"ThreePointsModel", "unwinds", "(I)V"⟩ prog_12_method_17_code 3 none ∈ xtbl := xtbl_at 1006 rfl rfl
set_option maxRecDepth 20000 in
theorem kw_1007 : Cond.methodLink "ThreePointsModel" 146 ⟨"ThreePointsModel", "rank", "(I)I"⟩ ∈ xtbl := xtbl_at 1007 rfl (by decide +kernel)
set_option maxRecDepth 20000 in
theorem kw_1008 : Cond.static ⟨"ThreePointsModel", "rank", "(I)I"⟩ ∈ xtbl := xtbl_at 1008 rfl (by decide +kernel)
set_option maxRecDepth 20000 in
theorem kw_1009 : Cond.code ⟨"ThreePointsModel", "rank", "(I)I"⟩ prog_12_method_15_code 1 (some .int) ∈ xtbl := xtbl_at 1009 rfl rfl
set_option maxRecDepth 20000 in
theorem kw_1010 : Cond.methodLink "ThreePointsModel" 167 ⟨"ThreePointsModel", "opensOne", "(I)Z"⟩ ∈ xtbl := xtbl_at 1010 rfl (by decide +kernel)
set_option maxRecDepth 20000 in
theorem kw_1012 : Cond.instanceMethod ⟨"ThreePointsModel", "opensOne", "(I)Z"⟩ ∈ xtbl := xtbl_at 1012 rfl (by decide +kernel)
set_option maxRecDepth 20000 in
theorem kw_1013 : Cond.code ⟨"ThreePointsModel", "opensOne", "(I)Z"⟩ prog_12_method_19_code 2 (some .boolean) ∈ xtbl := xtbl_at 1013 rfl rfl
set_option maxRecDepth 20000 in
theorem kw_1014 : Cond.methodLink "ThreePointsModel" 157 ⟨"ThreePointsModel", "holds", "(I)V"⟩ ∈ xtbl := xtbl_at 1014 rfl (by decide +kernel)
set_option maxRecDepth 20000 in
theorem kw_1016 : Cond.instanceMethod ⟨"ThreePointsModel", "holds", "(I)V"⟩ ∈ xtbl := xtbl_at 1016 rfl (by decide +kernel)
set_option maxRecDepth 20000 in
theorem kw_1017 : Cond.code ⟨"ThreePointsModel", "holds", "(I)V"⟩ prog_12_method_18_code 2 none ∈ xtbl := xtbl_at 1017 rfl rfl
set_option maxRecDepth 20000 in
theorem kw_1018 : Cond.methodLink "ThreePointsModel" 170 ⟨"ThreePointsModel", "signOf", "()I"⟩ ∈ xtbl := xtbl_at 1018 rfl (by decide +kernel)
set_option maxRecDepth 20000 in
theorem kw_1020 : Cond.instanceMethod ⟨"ThreePointsModel", "signOf", "()I"⟩ ∈ xtbl := xtbl_at 1020 rfl (by decide +kernel)
set_option maxRecDepth 20000 in
theorem kw_1021 : Cond.code ⟨"ThreePointsModel", "signOf", "()I"⟩ prog_12_method_21_code 1 (some .int) ∈ xtbl := xtbl_at 1021 rfl rfl
set_option maxRecDepth 20000 in
theorem kw_1022 : Cond.methodLink "ThreePointsModel" 173 ⟨"ThreePointsModel", "between", "(I)Z"⟩ ∈ xtbl := xtbl_at 1022 rfl (by decide +kernel)
set_option maxRecDepth 20000 in
theorem kw_1024 : Cond.instanceMethod ⟨"ThreePointsModel", "between", "(I)Z"⟩ ∈ xtbl := xtbl_at 1024 rfl (by decide +kernel)
set_option maxRecDepth 20000 in
theorem kw_1025 : Cond.code ⟨"ThreePointsModel", "between", "(I)Z"⟩ prog_12_method_20_code 2 (some .boolean) ∈ xtbl := xtbl_at 1025 rfl rfl
set_option maxRecDepth 20000 in
theorem kw_1026 : Cond.fieldLink "ThreePointsModel" 7 "ThreePointsModel" "across" "[I" ∈ xtbl := xtbl_at 1026 rfl (by decide +kernel)
set_option maxRecDepth 20000 in
theorem kw_1027 : Cond.fieldLink "ThreePointsModel" 13 "ThreePointsModel" "width" "I" ∈ xtbl := xtbl_at 1027 rfl (by decide +kernel)
set_option maxRecDepth 20000 in
theorem kw_1028 : Cond.fieldLink "ThreePointsModel" 105 "ThreePointsModel" "opening" "I" ∈ xtbl := xtbl_at 1028 rfl (by decide +kernel)
set_option maxRecDepth 20000 in
theorem kw_1029 : Cond.fieldLink "ThreePointsModel" 94 "ThreePointsModel" "vehicles" "I" ∈ xtbl := xtbl_at 1029 rfl (by decide +kernel)
set_option maxRecDepth 20000 in
theorem kw_1030 : Cond.fieldLink "ThreePointsModel" 17 "ThreePointsModel" "kind" "[I" ∈ xtbl := xtbl_at 1030 rfl (by decide +kernel)
set_option maxRecDepth 20000 in
theorem kw_1031 : Cond.fieldLink "ThreePointsModel" 20 "ThreePointsModel" "moreOf" "[I" ∈ xtbl := xtbl_at 1031 rfl (by decide +kernel)
set_option maxRecDepth 20000 in
theorem kw_1032 : Cond.fieldLink "ThreePointsModel" 23 "ThreePointsModel" "rows" "[I" ∈ xtbl := xtbl_at 1032 rfl (by decide +kernel)
set_option maxRecDepth 20000 in
theorem kw_1033 : Cond.fieldLink "ThreePointsModel" 26 "ThreePointsModel" "tape" "[I" ∈ xtbl := xtbl_at 1033 rfl (by decide +kernel)
set_option maxRecDepth 20000 in
theorem kw_1034 : Cond.fieldLink "ThreePointsModel" 87 "ThreePointsModel" "taped" "I" ∈ xtbl := xtbl_at 1034 rfl (by decide +kernel)
set_option maxRecDepth 20000 in
theorem kw_1035 : Cond.fieldLink "ThreePointsModel" 29 "ThreePointsModel" "codes" "[I" ∈ xtbl := xtbl_at 1035 rfl (by decide +kernel)
set_option maxRecDepth 20000 in
theorem kw_1036 : Cond.fieldLink "ThreePointsModel" 32 "ThreePointsModel" "starts" "[I" ∈ xtbl := xtbl_at 1036 rfl (by decide +kernel)
set_option maxRecDepth 20000 in
theorem kw_1037 : Cond.fieldLink "ThreePointsModel" 108 "ThreePointsModel" "texts" "I" ∈ xtbl := xtbl_at 1037 rfl (by decide +kernel)
set_option maxRecDepth 20000 in
theorem kw_1038 : Cond.fieldLink "ThreePointsModel" 111 "ThreePointsModel" "rule" "I" ∈ xtbl := xtbl_at 1038 rfl (by decide +kernel)
set_option maxRecDepth 20000 in
theorem kw_1039 : Cond.fieldLink "ThreePointsModel" 294 "ThreePointsModel" "hasImage" "Z" ∈ xtbl := xtbl_at 1039 rfl (by decide +kernel)
set_option maxRecDepth 20000 in
theorem kw_1040 : Cond.fieldLink "ThreePointsModel" 35 "ThreePointsModel" "imageRows" "[I" ∈ xtbl := xtbl_at 1040 rfl (by decide +kernel)
set_option maxRecDepth 20000 in
theorem kw_1041 : Cond.fieldLink "ThreePointsModel" 38 "ThreePointsModel" "imageHeld" "[I" ∈ xtbl := xtbl_at 1041 rfl (by decide +kernel)
set_option maxRecDepth 20000 in
theorem kw_1042 : Cond.fieldLink "ThreePointsModel" 41 "ThreePointsModel" "sheetSort" "[I" ∈ xtbl := xtbl_at 1042 rfl (by decide +kernel)
set_option maxRecDepth 20000 in
theorem kw_1043 : Cond.fieldLink "ThreePointsModel" 44 "ThreePointsModel" "sheetSize" "[I" ∈ xtbl := xtbl_at 1043 rfl (by decide +kernel)
set_option maxRecDepth 20000 in
theorem kw_1044 : Cond.fieldLink "ThreePointsModel" 47 "ThreePointsModel" "cells" "[I" ∈ xtbl := xtbl_at 1044 rfl (by decide +kernel)
set_option maxRecDepth 20000 in
theorem kw_1046 : Cond.fieldLink "ThreePointsModel" 124 "ThreePointsModel" "at" "I" ∈ xtbl := xtbl_at 1046 rfl (by decide +kernel)
set_option maxRecDepth 20000 in
theorem kw_1047 : Cond.fieldLink "ThreePointsModel" 127 "ThreePointsModel" "begun" "I" ∈ xtbl := xtbl_at 1047 rfl (by decide +kernel)
set_option maxRecDepth 20000 in
theorem kw_1048 : Cond.fieldLink "ThreePointsModel" 130 "ThreePointsModel" "token" "I" ∈ xtbl := xtbl_at 1048 rfl (by decide +kernel)
set_option maxRecDepth 20000 in
theorem kw_1049 : Cond.fieldLink "ThreePointsModel" 133 "ThreePointsModel" "value" "I" ∈ xtbl := xtbl_at 1049 rfl (by decide +kernel)
set_option maxRecDepth 20000 in
theorem kw_1050 : Cond.fieldLink "ThreePointsModel" 53 "ThreePointsModel" "words" "[I" ∈ xtbl := xtbl_at 1050 rfl (by decide +kernel)
set_option maxRecDepth 20000 in
theorem kw_1051 : Cond.fieldLink "ThreePointsModel" 56 "ThreePointsModel" "held" "[I" ∈ xtbl := xtbl_at 1051 rfl (by decide +kernel)
set_option maxRecDepth 20000 in
theorem kw_1052 : Cond.fieldLink "ThreePointsModel" 143 "ThreePointsModel" "heldMany" "I" ∈ xtbl := xtbl_at 1052 rfl (by decide +kernel)
set_option maxRecDepth 20000 in
theorem kw_1053 : Cond.fieldLink "ThreePointsModel" 150 "ThreePointsModel" "opens" "I" ∈ xtbl := xtbl_at 1053 rfl (by decide +kernel)
set_option maxRecDepth 20000 in
theorem kw_1054 : Cond.fieldLink "ThreePointsModel" 140 "ThreePointsModel" "out" "I" ∈ xtbl := xtbl_at 1054 rfl (by decide +kernel)
set_option maxRecDepth 20000 in
theorem kw_1055 : Cond.fieldLink "ThreePointsModel" 59 "ThreePointsModel" "stack" "[I" ∈ xtbl := xtbl_at 1055 rfl (by decide +kernel)
set_option maxRecDepth 20000 in
theorem kw_1056 : Cond.fieldLink "ThreePointsModel" 62 "ThreePointsModel" "named" "[I" ∈ xtbl := xtbl_at 1056 rfl (by decide +kernel)
set_option maxRecDepth 20000 in
theorem kw_1057 : Cond.fieldLink "ThreePointsModel" 65 "ThreePointsModel" "fitsIn" "[Z" ∈ xtbl := xtbl_at 1057 rfl (by decide +kernel)
set_option maxRecDepth 20000 in
theorem kw_1058 : Cond.fieldLink "ThreePointsModel" 69 "ThreePointsModel" "wearIn" "[I" ∈ xtbl := xtbl_at 1058 rfl (by decide +kernel)
set_option maxRecDepth 20000 in
theorem kw_1059 : Cond.fieldLink "ThreePointsModel" 72 "ThreePointsModel" "dist" "[I" ∈ xtbl := xtbl_at 1059 rfl (by decide +kernel)
set_option maxRecDepth 20000 in
theorem kw_1060 : Cond.fieldLink "ThreePointsModel" 75 "ThreePointsModel" "queued" "[Z" ∈ xtbl := xtbl_at 1060 rfl (by decide +kernel)
set_option maxRecDepth 20000 in
theorem kw_1061 : Cond.fieldLink "ThreePointsModel" 78 "ThreePointsModel" "queue" "[I" ∈ xtbl := xtbl_at 1061 rfl (by decide +kernel)
set_option maxRecDepth 20000 in
theorem kw_1062 : Cond.fieldLink "ThreePointsModel" 81 "ThreePointsModel" "kept" "[I" ∈ xtbl := xtbl_at 1062 rfl (by decide +kernel)
set_option maxRecDepth 20000 in
theorem kw_1063 : Cond.fieldLink "ThreePointsModel" 84 "ThreePointsModel" "last" "[I" ∈ xtbl := xtbl_at 1063 rfl (by decide +kernel)
set_option maxRecDepth 20000 in
theorem kw_1064 : Cond.fieldLink "ThreePointsModel" 269 "ThreePointsModel" "hitsIn" "I" ∈ xtbl := xtbl_at 1064 rfl (by decide +kernel)
set_option maxRecDepth 20000 in
theorem kw_1147 : Cond.code ⟨"ThreePointsModel", "count", "(I)I"⟩ prog_12_method_8_code 2 (some .int) ∈ xtbl := xtbl_at 1147 rfl rfl
set_option maxRecDepth 20000 in
theorem kw_1151 : Cond.code ⟨"ThreePointsModel", "set", "(II)I"⟩ prog_12_method_10_code 5 (some .int) ∈ xtbl := xtbl_at 1151 rfl rfl
set_option maxRecDepth 20000 in
theorem kw_1152 : Cond.methodLink "ThreePointsModel" 117 ⟨"ThreePointsModel", "doAllFit", "()Z"⟩ ∈ xtbl := xtbl_at 1152 rfl (by decide +kernel)
set_option maxRecDepth 20000 in
theorem kw_1154 : Cond.instanceMethod ⟨"ThreePointsModel", "doAllFit", "()Z"⟩ ∈ xtbl := xtbl_at 1154 rfl (by decide +kernel)
set_option maxRecDepth 20000 in
theorem kw_1155 : Cond.code ⟨"ThreePointsModel", "doAllFit", "()Z"⟩ prog_12_method_9_code 3 (some .boolean) ∈ xtbl := xtbl_at 1155 rfl rfl
set_option maxRecDepth 20000 in
theorem kw_1156 : Cond.methodLink "ThreePointsModel" 101 ⟨"ThreePointsModel", "isPlace", "(I)Z"⟩ ∈ xtbl := xtbl_at 1156 rfl (by decide +kernel)
set_option maxRecDepth 20000 in
theorem kw_1158 : Cond.instanceMethod ⟨"ThreePointsModel", "isPlace", "(I)Z"⟩ ∈ xtbl := xtbl_at 1158 rfl (by decide +kernel)
set_option maxRecDepth 20000 in
theorem kw_1159 : Cond.code ⟨"ThreePointsModel", "isPlace", "(I)Z"⟩ prog_12_method_6_code 2 (some .boolean) ∈ xtbl := xtbl_at 1159 rfl rfl
set_option maxRecDepth 20000 in
theorem kw_1160 : Cond.methodLink "ThreePointsModel" 114 ⟨"ThreePointsModel", "fitsAt", "(III)Z"⟩ ∈ xtbl := xtbl_at 1160 rfl (by decide +kernel)
set_option maxRecDepth 20000 in
theorem kw_1162 : Cond.instanceMethod ⟨"ThreePointsModel", "fitsAt", "(III)Z"⟩ ∈ xtbl := xtbl_at 1162 rfl (by decide +kernel)
set_option maxRecDepth 20000 in
theorem kw_1163 : Cond.code ⟨"ThreePointsModel", "fitsAt", "(III)Z"⟩ prog_12_method_32_code 9 (some .boolean) ∈ xtbl := xtbl_at 1163 rfl rfl
set_option maxRecDepth 20000 in
theorem kw_1164 : Cond.methodLink "ThreePointsModel" 199 ⟨"ThreePointsModel", "frontOf", "(I)I"⟩ ∈ xtbl := xtbl_at 1164 rfl (by decide +kernel)
set_option maxRecDepth 20000 in
theorem kw_1166 : Cond.instanceMethod ⟨"ThreePointsModel", "frontOf", "(I)I"⟩ ∈ xtbl := xtbl_at 1166 rfl (by decide +kernel)
set_option maxRecDepth 20000 in
theorem kw_1167 : Cond.code ⟨"ThreePointsModel", "frontOf", "(I)I"⟩ prog_12_method_29_code 2 (some .int) ∈ xtbl := xtbl_at 1167 rfl rfl
set_option maxRecDepth 20000 in
theorem kw_1168 : Cond.methodLink "ThreePointsModel" 202 ⟨"ThreePointsModel", "backOf", "(I)I"⟩ ∈ xtbl := xtbl_at 1168 rfl (by decide +kernel)
set_option maxRecDepth 20000 in
theorem kw_1170 : Cond.instanceMethod ⟨"ThreePointsModel", "backOf", "(I)I"⟩ ∈ xtbl := xtbl_at 1170 rfl (by decide +kernel)
set_option maxRecDepth 20000 in
theorem kw_1171 : Cond.code ⟨"ThreePointsModel", "backOf", "(I)I"⟩ prog_12_method_30_code 2 (some .int) ∈ xtbl := xtbl_at 1171 rfl rfl
set_option maxRecDepth 20000 in
theorem kw_1172 : Cond.methodLink "ThreePointsModel" 195 ⟨"ThreePointsModel", "asksOf", "(IIIIII)I"⟩ ∈ xtbl := xtbl_at 1172 rfl (by decide +kernel)
set_option maxRecDepth 20000 in
theorem kw_1174 : Cond.instanceMethod ⟨"ThreePointsModel", "asksOf", "(IIIIII)I"⟩ ∈ xtbl := xtbl_at 1174 rfl (by decide +kernel)
set_option maxRecDepth 20000 in
theorem kw_1175 : Cond.code ⟨"ThreePointsModel", "asksOf", "(IIIIII)I"⟩ prog_12_method_27_code 7 (some .int) ∈ xtbl := xtbl_at 1175 rfl rfl
set_option maxRecDepth 20000 in
theorem kw_1176 : Cond.methodLink "ThreePointsModel" 183 ⟨"ThreePointsModel", "says", "(I)I"⟩ ∈ xtbl := xtbl_at 1176 rfl (by decide +kernel)
set_option maxRecDepth 20000 in
theorem kw_1178 : Cond.instanceMethod ⟨"ThreePointsModel", "says", "(I)I"⟩ ∈ xtbl := xtbl_at 1178 rfl (by decide +kernel)
set_option maxRecDepth 20000 in
theorem kw_1179 : Cond.code ⟨"ThreePointsModel", "says", "(I)I"⟩ prog_12_method_25_code 5 (some .int) ∈ xtbl := xtbl_at 1179 rfl rfl
set_option maxRecDepth 20000 in
theorem kw_1180 : Cond.methodLink "ThreePointsModel" 179 ⟨"ThreePointsModel", "two", "(III)I"⟩ ∈ xtbl := xtbl_at 1180 rfl (by decide +kernel)
set_option maxRecDepth 20000 in
theorem kw_1181 : Cond.static ⟨"ThreePointsModel", "two", "(III)I"⟩ ∈ xtbl := xtbl_at 1181 rfl (by decide +kernel)
set_option maxRecDepth 20000 in
theorem kw_1182 : Cond.code ⟨"ThreePointsModel", "two", "(III)I"⟩ prog_12_method_24_code 3 (some .int) ∈ xtbl := xtbl_at 1182 rfl rfl
set_option maxRecDepth 20000 in
theorem kw_1183 : Cond.methodLink "ThreePointsModel" 186 ⟨"ThreePointsModel", "within", "(III)I"⟩ ∈ xtbl := xtbl_at 1183 rfl (by decide +kernel)
set_option maxRecDepth 20000 in
theorem kw_1184 : Cond.static ⟨"ThreePointsModel", "within", "(III)I"⟩ ∈ xtbl := xtbl_at 1184 rfl (by decide +kernel)
set_option maxRecDepth 20000 in
theorem kw_1185 : Cond.code ⟨"ThreePointsModel", "within", "(III)I"⟩ prog_12_method_4_code 3 (some .int) ∈ xtbl := xtbl_at 1185 rfl rfl
set_option maxRecDepth 20000 in
theorem kw_1189 : Cond.code ⟨"ThreePointsModel", "feed", "(IIIIII)I"⟩ prog_12_method_12_code 8 (some .int) ∈ xtbl := xtbl_at 1189 rfl rfl
set_option maxRecDepth 20000 in
theorem kw_1190 : Cond.methodLink "ThreePointsModel" 121 ⟨"ThreePointsModel", "isByte", "(I)Z"⟩ ∈ xtbl := xtbl_at 1190 rfl (by decide +kernel)
set_option maxRecDepth 20000 in
theorem kw_1191 : Cond.static ⟨"ThreePointsModel", "isByte", "(I)Z"⟩ ∈ xtbl := xtbl_at 1191 rfl (by decide +kernel)
set_option maxRecDepth 20000 in
theorem kw_1192 : Cond.code ⟨"ThreePointsModel", "isByte", "(I)Z"⟩ prog_12_method_11_code 1 (some .boolean) ∈ xtbl := xtbl_at 1192 rfl rfl
set_option maxRecDepth 20000 in
theorem kw_1197 : Cond.code ⟨"ThreePointsModel", "force", "(I)I"⟩ prog_12_method_26_code 3 (some .int) ∈ xtbl := xtbl_at 1197 rfl rfl
set_option maxRecDepth 20000 in
theorem kw_1201 : Cond.code ⟨"ThreePointsModel", "asks", "(IIII)I"⟩ prog_12_method_28_code 6 (some .int) ∈ xtbl := xtbl_at 1201 rfl rfl
set_option maxRecDepth 20000 in
theorem kw_1202 : Cond.methodLink "ThreePointsModel" 189 ⟨"ThreePointsModel", "isVehicle", "(I)Z"⟩ ∈ xtbl := xtbl_at 1202 rfl (by decide +kernel)
set_option maxRecDepth 20000 in
theorem kw_1204 : Cond.instanceMethod ⟨"ThreePointsModel", "isVehicle", "(I)Z"⟩ ∈ xtbl := xtbl_at 1204 rfl (by decide +kernel)
set_option maxRecDepth 20000 in
theorem kw_1205 : Cond.code ⟨"ThreePointsModel", "isVehicle", "(I)Z"⟩ prog_12_method_5_code 2 (some .boolean) ∈ xtbl := xtbl_at 1205 rfl rfl
set_option maxRecDepth 20000 in
theorem kw_1206 : Cond.methodLink "ThreePointsModel" 192 ⟨"ThreePointsModel", "isBoth", "(I)Z"⟩ ∈ xtbl := xtbl_at 1206 rfl (by decide +kernel)
set_option maxRecDepth 20000 in
theorem kw_1208 : Cond.instanceMethod ⟨"ThreePointsModel", "isBoth", "(I)Z"⟩ ∈ xtbl := xtbl_at 1208 rfl (by decide +kernel)
set_option maxRecDepth 20000 in
theorem kw_1209 : Cond.code ⟨"ThreePointsModel", "isBoth", "(I)Z"⟩ prog_12_method_7_code 2 (some .boolean) ∈ xtbl := xtbl_at 1209 rfl rfl
set_option maxRecDepth 20000 in
theorem kw_1211 : Cond.instanceMethod ⟨"ThreePointsModel", "vehicle", "(II)I"⟩ ∈ xtbl := xtbl_at 1211 rfl (by decide +kernel)
set_option maxRecDepth 20000 in
theorem kw_1212 : Cond.selects "ThreePointsModel" ⟨"ThreePointsModel", "vehicle", "(II)I"⟩ ⟨"ThreePointsModel", "vehicle", "(II)I"⟩ ∈ xtbl := xtbl_at 1212 rfl (by decide +kernel)
set_option maxRecDepth 20000 in
theorem kw_1213 : Cond.code ⟨"ThreePointsModel", "vehicle", "(II)I"⟩ prog_12_method_33_code 4 (some .int) ∈ xtbl := xtbl_at 1213 rfl rfl
set_option maxRecDepth 20000 in
theorem kw_1217 : Cond.code ⟨"ThreePointsModel", "told", "(II)I"⟩ prog_12_method_34_code 3 (some .int) ∈ xtbl := xtbl_at 1217 rfl rfl
set_option maxRecDepth 20000 in
theorem kw_1221 : Cond.code ⟨"ThreePointsModel", "fit", "(II)I"⟩ prog_12_method_35_code 3 (some .int) ∈ xtbl := xtbl_at 1221 rfl rfl
set_option maxRecDepth 20000 in
theorem kw_1225 : Cond.code ⟨"ThreePointsModel", "drive", "(III)I"⟩ prog_12_method_40_code 4 (some .int) ∈ xtbl := xtbl_at 1225 rfl rfl
set_option maxRecDepth 20000 in
theorem kw_1226 : Cond.methodLink "ThreePointsModel" 215 ⟨"ThreePointsModel", "canGo", "(III)Z"⟩ ∈ xtbl := xtbl_at 1226 rfl (by decide +kernel)
set_option maxRecDepth 20000 in
theorem kw_1228 : Cond.instanceMethod ⟨"ThreePointsModel", "canGo", "(III)Z"⟩ ∈ xtbl := xtbl_at 1228 rfl (by decide +kernel)
set_option maxRecDepth 20000 in
theorem kw_1229 : Cond.code ⟨"ThreePointsModel", "canGo", "(III)Z"⟩ prog_12_method_38_code 5 (some .boolean) ∈ xtbl := xtbl_at 1229 rfl rfl
set_option maxRecDepth 20000 in
theorem kw_1230 : Cond.methodLink "ThreePointsModel" 208 ⟨"ThreePointsModel", "placeBy", "(III)I"⟩ ∈ xtbl := xtbl_at 1230 rfl (by decide +kernel)
set_option maxRecDepth 20000 in
theorem kw_1232 : Cond.instanceMethod ⟨"ThreePointsModel", "placeBy", "(III)I"⟩ ∈ xtbl := xtbl_at 1232 rfl (by decide +kernel)
set_option maxRecDepth 20000 in
theorem kw_1233 : Cond.code ⟨"ThreePointsModel", "placeBy", "(III)I"⟩ prog_12_method_36_code 4 (some .int) ∈ xtbl := xtbl_at 1233 rfl rfl
set_option maxRecDepth 20000 in
theorem kw_1234 : Cond.methodLink "ThreePointsModel" 211 ⟨"ThreePointsModel", "headingBy", "(IIII)I"⟩ ∈ xtbl := xtbl_at 1234 rfl (by decide +kernel)
set_option maxRecDepth 20000 in
theorem kw_1236 : Cond.instanceMethod ⟨"ThreePointsModel", "headingBy", "(IIII)I"⟩ ∈ xtbl := xtbl_at 1236 rfl (by decide +kernel)
set_option maxRecDepth 20000 in
theorem kw_1237 : Cond.code ⟨"ThreePointsModel", "headingBy", "(IIII)I"⟩ prog_12_method_37_code 5 (some .int) ∈ xtbl := xtbl_at 1237 rfl rfl
set_option maxRecDepth 20000 in
theorem kw_1238 : Cond.methodLink "ThreePointsModel" 205 ⟨"ThreePointsModel", "turnsOf", "(III)I"⟩ ∈ xtbl := xtbl_at 1238 rfl (by decide +kernel)
set_option maxRecDepth 20000 in
theorem kw_1240 : Cond.instanceMethod ⟨"ThreePointsModel", "turnsOf", "(III)I"⟩ ∈ xtbl := xtbl_at 1240 rfl (by decide +kernel)
set_option maxRecDepth 20000 in
theorem kw_1241 : Cond.code ⟨"ThreePointsModel", "turnsOf", "(III)I"⟩ prog_12_method_31_code 5 (some .int) ∈ xtbl := xtbl_at 1241 rfl rfl
set_option maxRecDepth 20000 in
theorem kw_1242 : Cond.methodLink "ThreePointsModel" 218 ⟨"ThreePointsModel", "goes", "(III)V"⟩ ∈ xtbl := xtbl_at 1242 rfl (by decide +kernel)
set_option maxRecDepth 20000 in
theorem kw_1244 : Cond.instanceMethod ⟨"ThreePointsModel", "goes", "(III)V"⟩ ∈ xtbl := xtbl_at 1244 rfl (by decide +kernel)
set_option maxRecDepth 20000 in
theorem kw_1245 : Cond.code ⟨"ThreePointsModel", "goes", "(III)V"⟩ prog_12_method_39_code 6 none ∈ xtbl := xtbl_at 1245 rfl rfl
set_option maxRecDepth 20000 in
theorem kw_1249 : Cond.code ⟨"ThreePointsModel", "begin", "(II)I"⟩ prog_12_method_41_code 5 (some .int) ∈ xtbl := xtbl_at 1249 rfl rfl
set_option maxRecDepth 20000 in
theorem kw_1253 : Cond.code ⟨"ThreePointsModel", "turned", "(II)I"⟩ prog_12_method_52_code 3 (some .int) ∈ xtbl := xtbl_at 1253 rfl rfl
set_option maxRecDepth 20000 in
theorem kw_1254 : Cond.methodLink "ThreePointsModel" 241 ⟨"ThreePointsModel", "isGoal", "(I)Z"⟩ ∈ xtbl := xtbl_at 1254 rfl (by decide +kernel)
set_option maxRecDepth 20000 in
theorem kw_1255 : Cond.static ⟨"ThreePointsModel", "isGoal", "(I)Z"⟩ ∈ xtbl := xtbl_at 1255 rfl (by decide +kernel)
set_option maxRecDepth 20000 in
theorem kw_1256 : Cond.code ⟨"ThreePointsModel", "isGoal", "(I)Z"⟩ prog_12_method_49_code 1 (some .boolean) ∈ xtbl := xtbl_at 1256 rfl rfl
set_option maxRecDepth 20000 in
theorem kw_1257 : Cond.methodLink "ThreePointsModel" 244 ⟨"ThreePointsModel", "tellsLane", "(IZ)V"⟩ ∈ xtbl := xtbl_at 1257 rfl (by decide +kernel)
set_option maxRecDepth 20000 in
theorem kw_1259 : Cond.instanceMethod ⟨"ThreePointsModel", "tellsLane", "(IZ)V"⟩ ∈ xtbl := xtbl_at 1259 rfl (by decide +kernel)
set_option maxRecDepth 20000 in
theorem kw_1260 : Cond.code ⟨"ThreePointsModel", "tellsLane", "(IZ)V"⟩ prog_12_method_42_code 5 none ∈ xtbl := xtbl_at 1260 rfl rfl
set_option maxRecDepth 20000 in
theorem kw_1261 : Cond.methodLink "ThreePointsModel" 248 ⟨"ThreePointsModel", "firstStep", "(II)I"⟩ ∈ xtbl := xtbl_at 1261 rfl (by decide +kernel)
set_option maxRecDepth 20000 in
theorem kw_1263 : Cond.instanceMethod ⟨"ThreePointsModel", "firstStep", "(II)I"⟩ ∈ xtbl := xtbl_at 1263 rfl (by decide +kernel)
set_option maxRecDepth 20000 in
theorem kw_1264 : Cond.code ⟨"ThreePointsModel", "firstStep", "(II)I"⟩ prog_12_method_50_code 9 (some .int) ∈ xtbl := xtbl_at 1264 rfl rfl
set_option maxRecDepth 20000 in
theorem kw_1265 : Cond.constant "ThreePointsModel" 222 (1000000000) ∈ xtbl := xtbl_at 1265 rfl (by decide +kernel)
set_option maxRecDepth 20000 in
theorem kw_1266 : Cond.methodLink "ThreePointsModel" 229 ⟨"ThreePointsModel", "stateOf", "(I)I"⟩ ∈ xtbl := xtbl_at 1266 rfl (by decide +kernel)
set_option maxRecDepth 20000 in
theorem kw_1268 : Cond.instanceMethod ⟨"ThreePointsModel", "stateOf", "(I)I"⟩ ∈ xtbl := xtbl_at 1268 rfl (by decide +kernel)
set_option maxRecDepth 20000 in
theorem kw_1269 : Cond.code ⟨"ThreePointsModel", "stateOf", "(I)I"⟩ prog_12_method_47_code 2 (some .int) ∈ xtbl := xtbl_at 1269 rfl rfl
set_option maxRecDepth 20000 in
theorem kw_1270 : Cond.methodLink "ThreePointsModel" 223 ⟨"ThreePointsModel", "stateBehind", "(IIII)I"⟩ ∈ xtbl := xtbl_at 1270 rfl (by decide +kernel)
set_option maxRecDepth 20000 in
theorem kw_1272 : Cond.instanceMethod ⟨"ThreePointsModel", "stateBehind", "(IIII)I"⟩ ∈ xtbl := xtbl_at 1272 rfl (by decide +kernel)
set_option maxRecDepth 20000 in
theorem kw_1273 : Cond.code ⟨"ThreePointsModel", "stateBehind", "(IIII)I"⟩ prog_12_method_44_code 8 (some .int) ∈ xtbl := xtbl_at 1273 rfl rfl
set_option maxRecDepth 20000 in
theorem kw_1274 : Cond.methodLink "ThreePointsModel" 232 ⟨"ThreePointsModel", "seeks", "(III)V"⟩ ∈ xtbl := xtbl_at 1274 rfl (by decide +kernel)
set_option maxRecDepth 20000 in
theorem kw_1276 : Cond.instanceMethod ⟨"ThreePointsModel", "seeks", "(III)V"⟩ ∈ xtbl := xtbl_at 1276 rfl (by decide +kernel)
set_option maxRecDepth 20000 in
theorem kw_1277 : Cond.code ⟨"ThreePointsModel", "seeks", "(III)V"⟩ prog_12_method_45_code 11 none ∈ xtbl := xtbl_at 1277 rfl rfl
set_option maxRecDepth 20000 in
theorem kw_1278 : Cond.methodLink "ThreePointsModel" 226 ⟨"ThreePointsModel", "costsStep", "(IIII)I"⟩ ∈ xtbl := xtbl_at 1278 rfl (by decide +kernel)
set_option maxRecDepth 20000 in
theorem kw_1280 : Cond.instanceMethod ⟨"ThreePointsModel", "costsStep", "(IIII)I"⟩ ∈ xtbl := xtbl_at 1280 rfl (by decide +kernel)
set_option maxRecDepth 20000 in
theorem kw_1281 : Cond.code ⟨"ThreePointsModel", "costsStep", "(IIII)I"⟩ prog_12_method_43_code 5 (some .int) ∈ xtbl := xtbl_at 1281 rfl rfl
set_option maxRecDepth 20000 in
theorem kw_1282 : Cond.methodLink "ThreePointsModel" 235 ⟨"ThreePointsModel", "otherOf", "(I)I"⟩ ∈ xtbl := xtbl_at 1282 rfl (by decide +kernel)
set_option maxRecDepth 20000 in
theorem kw_1284 : Cond.instanceMethod ⟨"ThreePointsModel", "otherOf", "(I)I"⟩ ∈ xtbl := xtbl_at 1284 rfl (by decide +kernel)
set_option maxRecDepth 20000 in
theorem kw_1285 : Cond.code ⟨"ThreePointsModel", "otherOf", "(I)I"⟩ prog_12_method_48_code 2 (some .int) ∈ xtbl := xtbl_at 1285 rfl rfl
set_option maxRecDepth 20000 in
theorem kw_1286 : Cond.methodLink "ThreePointsModel" 238 ⟨"ThreePointsModel", "leastTo", "(I)I"⟩ ∈ xtbl := xtbl_at 1286 rfl (by decide +kernel)
set_option maxRecDepth 20000 in
theorem kw_1288 : Cond.instanceMethod ⟨"ThreePointsModel", "leastTo", "(I)I"⟩ ∈ xtbl := xtbl_at 1288 rfl (by decide +kernel)
set_option maxRecDepth 20000 in
theorem kw_1289 : Cond.code ⟨"ThreePointsModel", "leastTo", "(I)I"⟩ prog_12_method_46_code 6 (some .int) ∈ xtbl := xtbl_at 1289 rfl rfl
set_option maxRecDepth 20000 in
theorem kw_1290 : Cond.methodLink "ThreePointsModel" 251 ⟨"ThreePointsModel", "orNone", "(I)I"⟩ ∈ xtbl := xtbl_at 1290 rfl (by decide +kernel)
set_option maxRecDepth 20000 in
theorem kw_1291 : Cond.static ⟨"ThreePointsModel", "orNone", "(I)I"⟩ ∈ xtbl := xtbl_at 1291 rfl (by decide +kernel)
set_option maxRecDepth 20000 in
theorem kw_1292 : Cond.code ⟨"ThreePointsModel", "orNone", "(I)I"⟩ prog_12_method_51_code 1 (some .int) ∈ xtbl := xtbl_at 1292 rfl rfl
set_option maxRecDepth 20000 in
theorem kw_1296 : Cond.code ⟨"ThreePointsModel", "where", "(II)I"⟩ prog_12_method_54_code 7 (some .int) ∈ xtbl := xtbl_at 1296 rfl rfl
set_option maxRecDepth 20000 in
theorem kw_1297 : Cond.methodLink "ThreePointsModel" 254 ⟨"ThreePointsModel", "fromBegin", "(III)I"⟩ ∈ xtbl := xtbl_at 1297 rfl (by decide +kernel)
set_option maxRecDepth 20000 in
theorem kw_1299 : Cond.instanceMethod ⟨"ThreePointsModel", "fromBegin", "(III)I"⟩ ∈ xtbl := xtbl_at 1299 rfl (by decide +kernel)
set_option maxRecDepth 20000 in
theorem kw_1300 : Cond.code ⟨"ThreePointsModel", "fromBegin", "(III)I"⟩ prog_12_method_53_code 4 (some .int) ∈ xtbl := xtbl_at 1300 rfl rfl
set_option maxRecDepth 20000 in
theorem kw_1304 : Cond.code ⟨"ThreePointsModel", "narrow", "(II)I"⟩ prog_12_method_55_code 6 (some .int) ∈ xtbl := xtbl_at 1304 rfl rfl
set_option maxRecDepth 20000 in
theorem kw_1308 : Cond.code ⟨"ThreePointsModel", "cut", "(II)I"⟩ prog_12_method_56_code 6 (some .int) ∈ xtbl := xtbl_at 1308 rfl rfl
set_option maxRecDepth 20000 in
theorem kw_1312 : Cond.code ⟨"ThreePointsModel", "headings", "(I)I"⟩ prog_12_method_57_code 4 (some .int) ∈ xtbl := xtbl_at 1312 rfl rfl
set_option maxRecDepth 20000 in
theorem kw_1316 : Cond.code ⟨"ThreePointsModel", "best", "(I)I"⟩ prog_12_method_58_code 6 (some .int) ∈ xtbl := xtbl_at 1316 rfl rfl
set_option maxRecDepth 20000 in
theorem kw_1320 : Cond.code ⟨"ThreePointsModel", "judge", "(II)I"⟩ prog_12_method_63_code 4 (some .int) ∈ xtbl := xtbl_at 1320 rfl rfl
set_option maxRecDepth 20000 in
theorem kw_1321 : Cond.methodLink "ThreePointsModel" 263 ⟨"ThreePointsModel", "sheetWrong", "(II)I"⟩ ∈ xtbl := xtbl_at 1321 rfl (by decide +kernel)
set_option maxRecDepth 20000 in
theorem kw_1323 : Cond.instanceMethod ⟨"ThreePointsModel", "sheetWrong", "(II)I"⟩ ∈ xtbl := xtbl_at 1323 rfl (by decide +kernel)
set_option maxRecDepth 20000 in
theorem kw_1324 : Cond.code ⟨"ThreePointsModel", "sheetWrong", "(II)I"⟩ prog_12_method_59_code 6 (some .int) ∈ xtbl := xtbl_at 1324 rfl rfl
set_option maxRecDepth 20000 in
theorem kw_1325 : Cond.methodLink "ThreePointsModel" 266 ⟨"ThreePointsModel", "firstWrong", "(II)I"⟩ ∈ xtbl := xtbl_at 1325 rfl (by decide +kernel)
set_option maxRecDepth 20000 in
theorem kw_1327 : Cond.instanceMethod ⟨"ThreePointsModel", "firstWrong", "(II)I"⟩ ∈ xtbl := xtbl_at 1327 rfl (by decide +kernel)
set_option maxRecDepth 20000 in
theorem kw_1328 : Cond.code ⟨"ThreePointsModel", "firstWrong", "(II)I"⟩ prog_12_method_62_code 7 (some .int) ∈ xtbl := xtbl_at 1328 rfl rfl
set_option maxRecDepth 20000 in
theorem kw_1329 : Cond.methodLink "ThreePointsModel" 257 ⟨"ThreePointsModel", "keeps", "(I)V"⟩ ∈ xtbl := xtbl_at 1329 rfl (by decide +kernel)
set_option maxRecDepth 20000 in
theorem kw_1331 : Cond.instanceMethod ⟨"ThreePointsModel", "keeps", "(I)V"⟩ ∈ xtbl := xtbl_at 1331 rfl (by decide +kernel)
set_option maxRecDepth 20000 in
theorem kw_1332 : Cond.code ⟨"ThreePointsModel", "keeps", "(I)V"⟩ prog_12_method_60_code 3 none ∈ xtbl := xtbl_at 1332 rfl rfl
set_option maxRecDepth 20000 in
theorem kw_1333 : Cond.methodLink "ThreePointsModel" 260 ⟨"ThreePointsModel", "laysBack", "(I)V"⟩ ∈ xtbl := xtbl_at 1333 rfl (by decide +kernel)
set_option maxRecDepth 20000 in
theorem kw_1335 : Cond.instanceMethod ⟨"ThreePointsModel", "laysBack", "(I)V"⟩ ∈ xtbl := xtbl_at 1335 rfl (by decide +kernel)
set_option maxRecDepth 20000 in
theorem kw_1336 : Cond.code ⟨"ThreePointsModel", "laysBack", "(I)V"⟩ prog_12_method_61_code 3 none ∈ xtbl := xtbl_at 1336 rfl rfl
set_option maxRecDepth 20000 in
theorem kw_1340 : Cond.code ⟨"ThreePointsModel", "ends", "(III)I"⟩ prog_12_method_64_code 5 (some .int) ∈ xtbl := xtbl_at 1340 rfl rfl
set_option maxRecDepth 20000 in
theorem kw_1344 : Cond.code ⟨"ThreePointsModel", "kinds", "(III)I"⟩ prog_12_method_65_code 10 (some .int) ∈ xtbl := xtbl_at 1344 rfl rfl
set_option maxRecDepth 20000 in
theorem kw_1348 : Cond.code ⟨"ThreePointsModel", "widths", "(III)I"⟩ prog_12_method_66_code 10 (some .int) ∈ xtbl := xtbl_at 1348 rfl rfl
set_option maxRecDepth 20000 in
theorem kw_1352 : Cond.code ⟨"ThreePointsModel", "laws", "(II)I"⟩ prog_12_method_67_code 7 (some .int) ∈ xtbl := xtbl_at 1352 rfl rfl
set_option maxRecDepth 20000 in
theorem kw_1356 : Cond.code ⟨"ThreePointsModel", "drawn", "(IIII)I"⟩ prog_12_method_69_code 5 (some .int) ∈ xtbl := xtbl_at 1356 rfl rfl
set_option maxRecDepth 20000 in
theorem kw_1357 : Cond.constant "ThreePointsModel" 284 (99999) ∈ xtbl := xtbl_at 1357 rfl (by decide +kernel)
set_option maxRecDepth 20000 in
theorem kw_1358 : Cond.methodLink "ThreePointsModel" 285 ⟨"ThreePointsModel", "driveBy", "(III)V"⟩ ∈ xtbl := xtbl_at 1358 rfl (by decide +kernel)
set_option maxRecDepth 20000 in
theorem kw_1360 : Cond.instanceMethod ⟨"ThreePointsModel", "driveBy", "(III)V"⟩ ∈ xtbl := xtbl_at 1360 rfl (by decide +kernel)
set_option maxRecDepth 20000 in
theorem kw_1361 : Cond.code ⟨"ThreePointsModel", "driveBy", "(III)V"⟩ prog_12_method_68_code 9 none ∈ xtbl := xtbl_at 1361 rfl rfl
set_option maxRecDepth 20000 in
theorem kw_1362 : Cond.constantLong "ThreePointsModel" 272 (48271) ∈ xtbl := xtbl_at 1362 rfl (by decide +kernel)
set_option maxRecDepth 20000 in
theorem kw_1363 : Cond.constantLong "ThreePointsModel" 274 (2147483647) ∈ xtbl := xtbl_at 1363 rfl (by decide +kernel)
set_option maxRecDepth 20000 in
theorem kw_1364 : Cond.constantLong "ThreePointsModel" 276 (2) ∈ xtbl := xtbl_at 1364 rfl (by decide +kernel)
set_option maxRecDepth 20000 in
theorem kw_1365 : Cond.constantLong "ThreePointsModel" 278 (3) ∈ xtbl := xtbl_at 1365 rfl (by decide +kernel)
set_option maxRecDepth 20000 in
theorem kw_1366 : Cond.constantLong "ThreePointsModel" 280 (6) ∈ xtbl := xtbl_at 1366 rfl (by decide +kernel)
set_option maxRecDepth 20000 in
theorem kw_1367 : Cond.constantLong "ThreePointsModel" 282 (100) ∈ xtbl := xtbl_at 1367 rfl (by decide +kernel)
set_option maxRecDepth 20000 in
theorem kw_1371 : Cond.code ⟨"ThreePointsModel", "odds", "(IIII)J"⟩ prog_12_method_71_code 9 (some .long) ∈ xtbl := xtbl_at 1371 rfl rfl
set_option maxRecDepth 20000 in
theorem kw_1372 : Cond.constantLong "ThreePointsModel" 288 (-4611686018427387904) ∈ xtbl := xtbl_at 1372 rfl (by decide +kernel)
set_option maxRecDepth 20000 in
theorem kw_1373 : Cond.methodLink "ThreePointsModel" 290 ⟨"ThreePointsModel", "lowest", "(JJI)J"⟩ ∈ xtbl := xtbl_at 1373 rfl (by decide +kernel)
set_option maxRecDepth 20000 in
theorem kw_1374 : Cond.static ⟨"ThreePointsModel", "lowest", "(JJI)J"⟩ ∈ xtbl := xtbl_at 1374 rfl (by decide +kernel)
set_option maxRecDepth 20000 in
theorem kw_1375 : Cond.code ⟨"ThreePointsModel", "lowest", "(JJI)J"⟩ prog_12_method_70_code 11 (some .long) ∈ xtbl := xtbl_at 1375 rfl rfl
set_option maxRecDepth 20000 in
theorem kw_1379 : Cond.code ⟨"ThreePointsModel", "image", "()I"⟩ prog_12_method_72_code 2 (some .int) ∈ xtbl := xtbl_at 1379 rfl rfl
set_option maxRecDepth 20000 in
theorem kw_1383 : Cond.code ⟨"ThreePointsModel", "back", "()I"⟩ prog_12_method_73_code 2 (some .int) ∈ xtbl := xtbl_at 1383 rfl rfl
set_option maxRecDepth 20000 in
theorem kw_1387 : Cond.code ⟨"ThreePointsModel", "sheet", "(III)I"⟩ prog_12_method_74_code 5 (some .int) ∈ xtbl := xtbl_at 1387 rfl rfl
set_option maxRecDepth 20000 in
theorem kw_1391 : Cond.code ⟨"ThreePointsModel", "cell", "(III)I"⟩ prog_12_method_75_code 4 (some .int) ∈ xtbl := xtbl_at 1391 rfl rfl
set_option maxRecDepth 20000 in
theorem kw_1395 : Cond.code ⟨"ThreePointsModel", "copy", "(IIIII)I"⟩ prog_12_method_76_code 10 (some .int) ∈ xtbl := xtbl_at 1395 rfl rfl
set_option maxRecDepth 20000 in
theorem kw_1399 : Cond.code ⟨"ThreePointsModel", "vehiclesBy", "(IIII)I"⟩ prog_12_method_77_code 9 (some .int) ∈ xtbl := xtbl_at 1399 rfl rfl
set_option maxRecDepth 20000 in
theorem kw_1400 : Cond.methodLink "ThreePointsModel" 298 ⟨"ThreePointsModel", "vehicle", "(II)I"⟩ ∈ xtbl := xtbl_at 1400 rfl (by decide +kernel)
set_option maxRecDepth 20000 in
theorem kw_1404 : Cond.code ⟨"ThreePointsModel", "taken", "(II)I"⟩ prog_12_method_79_code 3 (some .int) ∈ xtbl := xtbl_at 1404 rfl rfl
set_option maxRecDepth 20000 in
theorem kw_1405 : Cond.methodLink "ThreePointsModel" 301 ⟨"ThreePointsModel", "isUnder", "(II)Z"⟩ ∈ xtbl := xtbl_at 1405 rfl (by decide +kernel)
set_option maxRecDepth 20000 in
theorem kw_1406 : Cond.static ⟨"ThreePointsModel", "isUnder", "(II)Z"⟩ ∈ xtbl := xtbl_at 1406 rfl (by decide +kernel)
set_option maxRecDepth 20000 in
theorem kw_1407 : Cond.code ⟨"ThreePointsModel", "isUnder", "(II)Z"⟩ prog_12_method_78_code 2 (some .boolean) ∈ xtbl := xtbl_at 1407 rfl rfl
set_option maxRecDepth 20000 in
theorem kw_1408 : Cond.fieldLink "java/lang/String" 9 "java/lang/String" "value" "[B" ∈ xtbl := xtbl_at 1408 rfl (by decide +kernel)
set_option maxRecDepth 20000 in
theorem kw_1409 : Cond.fieldLink "java/lang/String" 15 "java/lang/String" "coder" "B" ∈ xtbl := xtbl_at 1409 rfl (by decide +kernel)
end
