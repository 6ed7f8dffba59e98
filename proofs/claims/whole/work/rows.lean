section
-- ===== PART A: goes FIRST, ahead of the names: the tables' words, and 'selects' of the private methods out of them =====
/-- a private method of a class that the tables say can be made, by its rows of tables_1 -/
def lw_okq (q : MethodName × Nat) : Prop := (q.1.cls ≠ "java/lang/invoke/MethodHandle" ∧ q.1.cls ≠ "java/lang/invoke/VarHandle") ∧ Cond.instantiable q.1.cls q.2 ∈ tables_1 ∧ Cond.privateMethod q.1 ∈ tables_1 ∧ Cond.instanceMethod q.1 ∈ tables_1
theorem lw_p0 : lw_okq (⟨"ThreePoints$Tape", "endOfToken", "(I)I"⟩, 6) := ⟨⟨by decide +kernel, by decide +kernel⟩, List.mem_of_getElem? (i := 118) (by decide +kernel), List.mem_of_getElem? (i := 331) (by decide +kernel), List.mem_of_getElem? (i := 332) (by decide +kernel)⟩
theorem lw_p1 : lw_okq (⟨"ThreePoints$Tape", "byteAt", "(I)I"⟩, 6) := ⟨⟨by decide +kernel, by decide +kernel⟩, List.mem_of_getElem? (i := 118) (by decide +kernel), List.mem_of_getElem? (i := 335) (by decide +kernel), List.mem_of_getElem? (i := 336) (by decide +kernel)⟩
theorem lw_p2 : lw_okq (⟨"ThreePoints$Tape", "numberAt", "(II)I"⟩, 6) := ⟨⟨by decide +kernel, by decide +kernel⟩, List.mem_of_getElem? (i := 118) (by decide +kernel), List.mem_of_getElem? (i := 348) (by decide +kernel), List.mem_of_getElem? (i := 349) (by decide +kernel)⟩
theorem lw_p3 : lw_okq (⟨"ThreePoints$Tape", "nameAt", "(II)I"⟩, 6) := ⟨⟨by decide +kernel, by decide +kernel⟩, List.mem_of_getElem? (i := 118) (by decide +kernel), List.mem_of_getElem? (i := 352) (by decide +kernel), List.mem_of_getElem? (i := 353) (by decide +kernel)⟩
theorem lw_p4 : lw_okq (⟨"ThreePoints$Tape", "spells", "(IILjava/lang/String;)Z"⟩, 6) := ⟨⟨by decide +kernel, by decide +kernel⟩, List.mem_of_getElem? (i := 118) (by decide +kernel), List.mem_of_getElem? (i := 357) (by decide +kernel), List.mem_of_getElem? (i := 358) (by decide +kernel)⟩
theorem lw_p5 : lw_okq (⟨"ThreePoints$Tape", "kindAt", "(II)I"⟩, 6) := ⟨⟨by decide +kernel, by decide +kernel⟩, List.mem_of_getElem? (i := 118) (by decide +kernel), List.mem_of_getElem? (i := 366) (by decide +kernel), List.mem_of_getElem? (i := 367) (by decide +kernel)⟩
theorem lw_p6 : lw_okq (⟨"ThreePoints$Tape", "wordKindAt", "(II)I"⟩, 6) := ⟨⟨by decide +kernel, by decide +kernel⟩, List.mem_of_getElem? (i := 118) (by decide +kernel), List.mem_of_getElem? (i := 370) (by decide +kernel), List.mem_of_getElem? (i := 371) (by decide +kernel)⟩
theorem lw_p7 : lw_okq (⟨"ThreePoints$Reader", "goTo", "(I)V"⟩, 5) := ⟨⟨by decide +kernel, by decide +kernel⟩, List.mem_of_getElem? (i := 112) (by decide +kernel), List.mem_of_getElem? (i := 448) (by decide +kernel), List.mem_of_getElem? (i := 449) (by decide +kernel)⟩
theorem lw_p8 : lw_okq (⟨"ThreePoints$Reader", "readPart", "(II)Z"⟩, 5) := ⟨⟨by decide +kernel, by decide +kernel⟩, List.mem_of_getElem? (i := 112) (by decide +kernel), List.mem_of_getElem? (i := 456) (by decide +kernel), List.mem_of_getElem? (i := 457) (by decide +kernel)⟩
theorem lw_p9 : lw_okq (⟨"ThreePoints$Reader", "readOr", "()Z"⟩, 5) := ⟨⟨by decide +kernel, by decide +kernel⟩, List.mem_of_getElem? (i := 112) (by decide +kernel), List.mem_of_getElem? (i := 460) (by decide +kernel), List.mem_of_getElem? (i := 461) (by decide +kernel)⟩
theorem lw_p10 : lw_okq (⟨"ThreePoints$Reader", "readAnd", "()Z"⟩, 5) := ⟨⟨by decide +kernel, by decide +kernel⟩, List.mem_of_getElem? (i := 112) (by decide +kernel), List.mem_of_getElem? (i := 464) (by decide +kernel), List.mem_of_getElem? (i := 465) (by decide +kernel)⟩
theorem lw_p11 : lw_okq (⟨"ThreePoints$Reader", "readNot", "()Z"⟩, 5) := ⟨⟨by decide +kernel, by decide +kernel⟩, List.mem_of_getElem? (i := 112) (by decide +kernel), List.mem_of_getElem? (i := 468) (by decide +kernel), List.mem_of_getElem? (i := 469) (by decide +kernel)⟩
theorem lw_p12 : lw_okq (⟨"ThreePoints$Reader", "readComparison", "()Z"⟩, 5) := ⟨⟨by decide +kernel, by decide +kernel⟩, List.mem_of_getElem? (i := 112) (by decide +kernel), List.mem_of_getElem? (i := 472) (by decide +kernel), List.mem_of_getElem? (i := 473) (by decide +kernel)⟩
theorem lw_p13 : lw_okq (⟨"ThreePoints$Reader", "readSum", "()Z"⟩, 5) := ⟨⟨by decide +kernel, by decide +kernel⟩, List.mem_of_getElem? (i := 112) (by decide +kernel), List.mem_of_getElem? (i := 476) (by decide +kernel), List.mem_of_getElem? (i := 477) (by decide +kernel)⟩
theorem lw_p14 : lw_okq (⟨"ThreePoints$Reader", "readTerm", "()Z"⟩, 5) := ⟨⟨by decide +kernel, by decide +kernel⟩, List.mem_of_getElem? (i := 112) (by decide +kernel), List.mem_of_getElem? (i := 480) (by decide +kernel), List.mem_of_getElem? (i := 481) (by decide +kernel)⟩
theorem lw_p15 : lw_okq (⟨"ThreePoints$Reader", "readOne", "()Z"⟩, 5) := ⟨⟨by decide +kernel, by decide +kernel⟩, List.mem_of_getElem? (i := 112) (by decide +kernel), List.mem_of_getElem? (i := 484) (by decide +kernel), List.mem_of_getElem? (i := 485) (by decide +kernel)⟩
def lw_privs_1 : List (MethodName × Nat) := [(⟨"ThreePoints$Tape", "endOfToken", "(I)I"⟩, 6), (⟨"ThreePoints$Tape", "byteAt", "(I)I"⟩, 6), (⟨"ThreePoints$Tape", "numberAt", "(II)I"⟩, 6), (⟨"ThreePoints$Tape", "nameAt", "(II)I"⟩, 6), (⟨"ThreePoints$Tape", "spells", "(IILjava/lang/String;)Z"⟩, 6), (⟨"ThreePoints$Tape", "kindAt", "(II)I"⟩, 6), (⟨"ThreePoints$Tape", "wordKindAt", "(II)I"⟩, 6), (⟨"ThreePoints$Reader", "goTo", "(I)V"⟩, 5), (⟨"ThreePoints$Reader", "readPart", "(II)Z"⟩, 5), (⟨"ThreePoints$Reader", "readOr", "()Z"⟩, 5), (⟨"ThreePoints$Reader", "readAnd", "()Z"⟩, 5), (⟨"ThreePoints$Reader", "readNot", "()Z"⟩, 5), (⟨"ThreePoints$Reader", "readComparison", "()Z"⟩, 5), (⟨"ThreePoints$Reader", "readSum", "()Z"⟩, 5), (⟨"ThreePoints$Reader", "readTerm", "()Z"⟩, 5), (⟨"ThreePoints$Reader", "readOne", "()Z"⟩, 5)]
theorem lw_r1 : ∀ q ∈ lw_privs_1, lw_okq q := List.forall_mem_cons.mpr ⟨lw_p0, List.forall_mem_cons.mpr ⟨lw_p1, List.forall_mem_cons.mpr ⟨lw_p2, List.forall_mem_cons.mpr ⟨lw_p3, List.forall_mem_cons.mpr ⟨lw_p4, List.forall_mem_cons.mpr ⟨lw_p5, List.forall_mem_cons.mpr ⟨lw_p6, List.forall_mem_cons.mpr ⟨lw_p7, List.forall_mem_cons.mpr ⟨lw_p8, List.forall_mem_cons.mpr ⟨lw_p9, List.forall_mem_cons.mpr ⟨lw_p10, List.forall_mem_cons.mpr ⟨lw_p11, List.forall_mem_cons.mpr ⟨lw_p12, List.forall_mem_cons.mpr ⟨lw_p13, List.forall_mem_cons.mpr ⟨lw_p14, List.forall_mem_cons.mpr ⟨lw_p15, fun _ h => absurd h List.not_mem_nil⟩⟩⟩⟩⟩⟩⟩⟩⟩⟩⟩⟩⟩⟩⟩⟩
theorem lw_p16 : lw_okq (⟨"ThreePoints$Reader", "mayOpen", "()Z"⟩, 5) := ⟨⟨by decide +kernel, by decide +kernel⟩, List.mem_of_getElem? (i := 112) (by decide +kernel), List.mem_of_getElem? (i := 496) (by decide +kernel), List.mem_of_getElem? (i := 497) (by decide +kernel)⟩
theorem lw_p17 : lw_okq (⟨"ThreePoints", "think", "(I)V"⟩, 9) := ⟨⟨by decide +kernel, by decide +kernel⟩, List.mem_of_getElem? (i := 21) (by decide +kernel), List.mem_of_getElem? (i := 559) (by decide +kernel), List.mem_of_getElem? (i := 560) (by decide +kernel)⟩
theorem lw_p18 : lw_okq (⟨"ThreePoints", "isVehicle", "(I)Z"⟩, 9) := ⟨⟨by decide +kernel, by decide +kernel⟩, List.mem_of_getElem? (i := 21) (by decide +kernel), List.mem_of_getElem? (i := 567) (by decide +kernel), List.mem_of_getElem? (i := 568) (by decide +kernel)⟩
theorem lw_p19 : lw_okq (⟨"ThreePoints", "isPlaceHeading", "(I)Z"⟩, 9) := ⟨⟨by decide +kernel, by decide +kernel⟩, List.mem_of_getElem? (i := 21) (by decide +kernel), List.mem_of_getElem? (i := 639) (by decide +kernel), List.mem_of_getElem? (i := 640) (by decide +kernel)⟩
theorem lw_p20 : lw_okq (⟨"ThreePoints", "isPlace", "(I)Z"⟩, 9) := ⟨⟨by decide +kernel, by decide +kernel⟩, List.mem_of_getElem? (i := 21) (by decide +kernel), List.mem_of_getElem? (i := 643) (by decide +kernel), List.mem_of_getElem? (i := 644) (by decide +kernel)⟩
theorem lw_p21 : lw_okq (⟨"ThreePoints", "addVehicle", "(II)I"⟩, 9) := ⟨⟨by decide +kernel, by decide +kernel⟩, List.mem_of_getElem? (i := 21) (by decide +kernel), List.mem_of_getElem? (i := 655) (by decide +kernel), List.mem_of_getElem? (i := 656) (by decide +kernel)⟩
theorem lw_p22 : lw_okq (⟨"ThreePoints$Search", "lower", "(II)V"⟩, 8) := ⟨⟨by decide +kernel, by decide +kernel⟩, List.mem_of_getElem? (i := 214) (by decide +kernel), List.mem_of_getElem? (i := 725) (by decide +kernel), List.mem_of_getElem? (i := 726) (by decide +kernel)⟩
theorem lw_p23 : lw_okq (⟨"ThreePoints$Search", "unlink", "(I)V"⟩, 8) := ⟨⟨by decide +kernel, by decide +kernel⟩, List.mem_of_getElem? (i := 214) (by decide +kernel), List.mem_of_getElem? (i := 729) (by decide +kernel), List.mem_of_getElem? (i := 730) (by decide +kernel)⟩
theorem lw_p24 : lw_okq (⟨"ThreePoints$Search", "lowerAhead", "(LThreePoints$Ride;II)V"⟩, 8) := ⟨⟨by decide +kernel, by decide +kernel⟩, List.mem_of_getElem? (i := 214) (by decide +kernel), List.mem_of_getElem? (i := 734) (by decide +kernel), List.mem_of_getElem? (i := 735) (by decide +kernel)⟩
theorem lw_p25 : lw_okq (⟨"ThreePoints$Search", "addBehind", "(LThreePoints$Ride;III)I"⟩, 8) := ⟨⟨by decide +kernel, by decide +kernel⟩, List.mem_of_getElem? (i := 214) (by decide +kernel), List.mem_of_getElem? (i := 771) (by decide +kernel), List.mem_of_getElem? (i := 772) (by decide +kernel)⟩
theorem lw_p26 : lw_okq (⟨"ThreePoints", "refusalOfMoves", "(II)I"⟩, 9) := ⟨⟨by decide +kernel, by decide +kernel⟩, List.mem_of_getElem? (i := 21) (by decide +kernel), List.mem_of_getElem? (i := 783) (by decide +kernel), List.mem_of_getElem? (i := 784) (by decide +kernel)⟩
theorem lw_p27 : lw_okq (⟨"ThreePointsModel", "next", "()V"⟩, 39) := ⟨⟨by decide +kernel, by decide +kernel⟩, List.mem_of_getElem? (i := 910) (by decide +kernel), List.mem_of_getElem? (i := 920) (by decide +kernel), List.mem_of_getElem? (i := 921) (by decide +kernel)⟩
theorem lw_p28 : lw_okq (⟨"ThreePointsModel", "wordFrom", "(II)I"⟩, 39) := ⟨⟨by decide +kernel, by decide +kernel⟩, List.mem_of_getElem? (i := 910) (by decide +kernel), List.mem_of_getElem? (i := 927) (by decide +kernel), List.mem_of_getElem? (i := 928) (by decide +kernel)⟩
theorem lw_p29 : lw_okq (⟨"ThreePointsModel", "eRead", "()Z"⟩, 39) := ⟨⟨by decide +kernel, by decide +kernel⟩, List.mem_of_getElem? (i := 910) (by decide +kernel), List.mem_of_getElem? (i := 931) (by decide +kernel), List.mem_of_getElem? (i := 932) (by decide +kernel)⟩
theorem lw_p30 : lw_okq (⟨"ThreePointsModel", "puts", "(I)V"⟩, 39) := ⟨⟨by decide +kernel, by decide +kernel⟩, List.mem_of_getElem? (i := 910) (by decide +kernel), List.mem_of_getElem? (i := 936) (by decide +kernel), List.mem_of_getElem? (i := 937) (by decide +kernel)⟩
theorem lw_p31 : lw_okq (⟨"ThreePointsModel", "unwinds", "(I)V"⟩, 39) := ⟨⟨by decide +kernel, by decide +kernel⟩, List.mem_of_getElem? (i := 910) (by decide +kernel), List.mem_of_getElem? (i := 940) (by decide +kernel), List.mem_of_getElem? (i := 941) (by decide +kernel)⟩
def lw_privs_2 : List (MethodName × Nat) := [(⟨"ThreePoints$Reader", "mayOpen", "()Z"⟩, 5), (⟨"ThreePoints", "think", "(I)V"⟩, 9), (⟨"ThreePoints", "isVehicle", "(I)Z"⟩, 9), (⟨"ThreePoints", "isPlaceHeading", "(I)Z"⟩, 9), (⟨"ThreePoints", "isPlace", "(I)Z"⟩, 9), (⟨"ThreePoints", "addVehicle", "(II)I"⟩, 9), (⟨"ThreePoints$Search", "lower", "(II)V"⟩, 8), (⟨"ThreePoints$Search", "unlink", "(I)V"⟩, 8), (⟨"ThreePoints$Search", "lowerAhead", "(LThreePoints$Ride;II)V"⟩, 8), (⟨"ThreePoints$Search", "addBehind", "(LThreePoints$Ride;III)I"⟩, 8), (⟨"ThreePoints", "refusalOfMoves", "(II)I"⟩, 9), (⟨"ThreePointsModel", "next", "()V"⟩, 39), (⟨"ThreePointsModel", "wordFrom", "(II)I"⟩, 39), (⟨"ThreePointsModel", "eRead", "()Z"⟩, 39), (⟨"ThreePointsModel", "puts", "(I)V"⟩, 39), (⟨"ThreePointsModel", "unwinds", "(I)V"⟩, 39)]
theorem lw_r2 : ∀ q ∈ lw_privs_2, lw_okq q := List.forall_mem_cons.mpr ⟨lw_p16, List.forall_mem_cons.mpr ⟨lw_p17, List.forall_mem_cons.mpr ⟨lw_p18, List.forall_mem_cons.mpr ⟨lw_p19, List.forall_mem_cons.mpr ⟨lw_p20, List.forall_mem_cons.mpr ⟨lw_p21, List.forall_mem_cons.mpr ⟨lw_p22, List.forall_mem_cons.mpr ⟨lw_p23, List.forall_mem_cons.mpr ⟨lw_p24, List.forall_mem_cons.mpr ⟨lw_p25, List.forall_mem_cons.mpr ⟨lw_p26, List.forall_mem_cons.mpr ⟨lw_p27, List.forall_mem_cons.mpr ⟨lw_p28, List.forall_mem_cons.mpr ⟨lw_p29, List.forall_mem_cons.mpr ⟨lw_p30, List.forall_mem_cons.mpr ⟨lw_p31, fun _ h => absurd h List.not_mem_nil⟩⟩⟩⟩⟩⟩⟩⟩⟩⟩⟩⟩⟩⟩⟩⟩
theorem lw_p32 : lw_okq (⟨"ThreePointsModel", "opensOne", "(I)Z"⟩, 39) := ⟨⟨by decide +kernel, by decide +kernel⟩, List.mem_of_getElem? (i := 910) (by decide +kernel), List.mem_of_getElem? (i := 947) (by decide +kernel), List.mem_of_getElem? (i := 948) (by decide +kernel)⟩
theorem lw_p33 : lw_okq (⟨"ThreePointsModel", "holds", "(I)V"⟩, 39) := ⟨⟨by decide +kernel, by decide +kernel⟩, List.mem_of_getElem? (i := 910) (by decide +kernel), List.mem_of_getElem? (i := 951) (by decide +kernel), List.mem_of_getElem? (i := 952) (by decide +kernel)⟩
theorem lw_p34 : lw_okq (⟨"ThreePointsModel", "signOf", "()I"⟩, 39) := ⟨⟨by decide +kernel, by decide +kernel⟩, List.mem_of_getElem? (i := 910) (by decide +kernel), List.mem_of_getElem? (i := 955) (by decide +kernel), List.mem_of_getElem? (i := 956) (by decide +kernel)⟩
theorem lw_p35 : lw_okq (⟨"ThreePointsModel", "between", "(I)Z"⟩, 39) := ⟨⟨by decide +kernel, by decide +kernel⟩, List.mem_of_getElem? (i := 910) (by decide +kernel), List.mem_of_getElem? (i := 959) (by decide +kernel), List.mem_of_getElem? (i := 960) (by decide +kernel)⟩
theorem lw_p36 : lw_okq (⟨"ThreePointsModel", "doAllFit", "()Z"⟩, 39) := ⟨⟨by decide +kernel, by decide +kernel⟩, List.mem_of_getElem? (i := 910) (by decide +kernel), List.mem_of_getElem? (i := 1089) (by decide +kernel), List.mem_of_getElem? (i := 1090) (by decide +kernel)⟩
theorem lw_p37 : lw_okq (⟨"ThreePointsModel", "isPlace", "(I)Z"⟩, 39) := ⟨⟨by decide +kernel, by decide +kernel⟩, List.mem_of_getElem? (i := 910) (by decide +kernel), List.mem_of_getElem? (i := 1093) (by decide +kernel), List.mem_of_getElem? (i := 1094) (by decide +kernel)⟩
theorem lw_p38 : lw_okq (⟨"ThreePointsModel", "fitsAt", "(III)Z"⟩, 39) := ⟨⟨by decide +kernel, by decide +kernel⟩, List.mem_of_getElem? (i := 910) (by decide +kernel), List.mem_of_getElem? (i := 1097) (by decide +kernel), List.mem_of_getElem? (i := 1098) (by decide +kernel)⟩
theorem lw_p39 : lw_okq (⟨"ThreePointsModel", "frontOf", "(I)I"⟩, 39) := ⟨⟨by decide +kernel, by decide +kernel⟩, List.mem_of_getElem? (i := 910) (by decide +kernel), List.mem_of_getElem? (i := 1101) (by decide +kernel), List.mem_of_getElem? (i := 1102) (by decide +kernel)⟩
theorem lw_p40 : lw_okq (⟨"ThreePointsModel", "backOf", "(I)I"⟩, 39) := ⟨⟨by decide +kernel, by decide +kernel⟩, List.mem_of_getElem? (i := 910) (by decide +kernel), List.mem_of_getElem? (i := 1105) (by decide +kernel), List.mem_of_getElem? (i := 1106) (by decide +kernel)⟩
theorem lw_p41 : lw_okq (⟨"ThreePointsModel", "asksOf", "(IIIIII)I"⟩, 39) := ⟨⟨by decide +kernel, by decide +kernel⟩, List.mem_of_getElem? (i := 910) (by decide +kernel), List.mem_of_getElem? (i := 1109) (by decide +kernel), List.mem_of_getElem? (i := 1110) (by decide +kernel)⟩
theorem lw_p42 : lw_okq (⟨"ThreePointsModel", "says", "(I)I"⟩, 39) := ⟨⟨by decide +kernel, by decide +kernel⟩, List.mem_of_getElem? (i := 910) (by decide +kernel), List.mem_of_getElem? (i := 1113) (by decide +kernel), List.mem_of_getElem? (i := 1114) (by decide +kernel)⟩
theorem lw_p43 : lw_okq (⟨"ThreePointsModel", "isVehicle", "(I)Z"⟩, 39) := ⟨⟨by decide +kernel, by decide +kernel⟩, List.mem_of_getElem? (i := 910) (by decide +kernel), List.mem_of_getElem? (i := 1139) (by decide +kernel), List.mem_of_getElem? (i := 1140) (by decide +kernel)⟩
theorem lw_p44 : lw_okq (⟨"ThreePointsModel", "isBoth", "(I)Z"⟩, 39) := ⟨⟨by decide +kernel, by decide +kernel⟩, List.mem_of_getElem? (i := 910) (by decide +kernel), List.mem_of_getElem? (i := 1143) (by decide +kernel), List.mem_of_getElem? (i := 1144) (by decide +kernel)⟩
theorem lw_p45 : lw_okq (⟨"ThreePointsModel", "canGo", "(III)Z"⟩, 39) := ⟨⟨by decide +kernel, by decide +kernel⟩, List.mem_of_getElem? (i := 910) (by decide +kernel), List.mem_of_getElem? (i := 1163) (by decide +kernel), List.mem_of_getElem? (i := 1164) (by decide +kernel)⟩
theorem lw_p46 : lw_okq (⟨"ThreePointsModel", "placeBy", "(III)I"⟩, 39) := ⟨⟨by decide +kernel, by decide +kernel⟩, List.mem_of_getElem? (i := 910) (by decide +kernel), List.mem_of_getElem? (i := 1167) (by decide +kernel), List.mem_of_getElem? (i := 1168) (by decide +kernel)⟩
theorem lw_p47 : lw_okq (⟨"ThreePointsModel", "headingBy", "(IIII)I"⟩, 39) := ⟨⟨by decide +kernel, by decide +kernel⟩, List.mem_of_getElem? (i := 910) (by decide +kernel), List.mem_of_getElem? (i := 1171) (by decide +kernel), List.mem_of_getElem? (i := 1172) (by decide +kernel)⟩
def lw_privs_3 : List (MethodName × Nat) := [(⟨"ThreePointsModel", "opensOne", "(I)Z"⟩, 39), (⟨"ThreePointsModel", "holds", "(I)V"⟩, 39), (⟨"ThreePointsModel", "signOf", "()I"⟩, 39), (⟨"ThreePointsModel", "between", "(I)Z"⟩, 39), (⟨"ThreePointsModel", "doAllFit", "()Z"⟩, 39), (⟨"ThreePointsModel", "isPlace", "(I)Z"⟩, 39), (⟨"ThreePointsModel", "fitsAt", "(III)Z"⟩, 39), (⟨"ThreePointsModel", "frontOf", "(I)I"⟩, 39), (⟨"ThreePointsModel", "backOf", "(I)I"⟩, 39), (⟨"ThreePointsModel", "asksOf", "(IIIIII)I"⟩, 39), (⟨"ThreePointsModel", "says", "(I)I"⟩, 39), (⟨"ThreePointsModel", "isVehicle", "(I)Z"⟩, 39), (⟨"ThreePointsModel", "isBoth", "(I)Z"⟩, 39), (⟨"ThreePointsModel", "canGo", "(III)Z"⟩, 39), (⟨"ThreePointsModel", "placeBy", "(III)I"⟩, 39), (⟨"ThreePointsModel", "headingBy", "(IIII)I"⟩, 39)]
theorem lw_r3 : ∀ q ∈ lw_privs_3, lw_okq q := List.forall_mem_cons.mpr ⟨lw_p32, List.forall_mem_cons.mpr ⟨lw_p33, List.forall_mem_cons.mpr ⟨lw_p34, List.forall_mem_cons.mpr ⟨lw_p35, List.forall_mem_cons.mpr ⟨lw_p36, List.forall_mem_cons.mpr ⟨lw_p37, List.forall_mem_cons.mpr ⟨lw_p38, List.forall_mem_cons.mpr ⟨lw_p39, List.forall_mem_cons.mpr ⟨lw_p40, List.forall_mem_cons.mpr ⟨lw_p41, List.forall_mem_cons.mpr ⟨lw_p42, List.forall_mem_cons.mpr ⟨lw_p43, List.forall_mem_cons.mpr ⟨lw_p44, List.forall_mem_cons.mpr ⟨lw_p45, List.forall_mem_cons.mpr ⟨lw_p46, List.forall_mem_cons.mpr ⟨lw_p47, fun _ h => absurd h List.not_mem_nil⟩⟩⟩⟩⟩⟩⟩⟩⟩⟩⟩⟩⟩⟩⟩⟩
theorem lw_p48 : lw_okq (⟨"ThreePointsModel", "turnsOf", "(III)I"⟩, 39) := ⟨⟨by decide +kernel, by decide +kernel⟩, List.mem_of_getElem? (i := 910) (by decide +kernel), List.mem_of_getElem? (i := 1175) (by decide +kernel), List.mem_of_getElem? (i := 1176) (by decide +kernel)⟩
theorem lw_p49 : lw_okq (⟨"ThreePointsModel", "goes", "(III)V"⟩, 39) := ⟨⟨by decide +kernel, by decide +kernel⟩, List.mem_of_getElem? (i := 910) (by decide +kernel), List.mem_of_getElem? (i := 1179) (by decide +kernel), List.mem_of_getElem? (i := 1180) (by decide +kernel)⟩
theorem lw_p50 : lw_okq (⟨"ThreePointsModel", "tellsLane", "(IZ)V"⟩, 39) := ⟨⟨by decide +kernel, by decide +kernel⟩, List.mem_of_getElem? (i := 910) (by decide +kernel), List.mem_of_getElem? (i := 1194) (by decide +kernel), List.mem_of_getElem? (i := 1195) (by decide +kernel)⟩
theorem lw_p51 : lw_okq (⟨"ThreePointsModel", "firstStep", "(II)I"⟩, 39) := ⟨⟨by decide +kernel, by decide +kernel⟩, List.mem_of_getElem? (i := 910) (by decide +kernel), List.mem_of_getElem? (i := 1198) (by decide +kernel), List.mem_of_getElem? (i := 1199) (by decide +kernel)⟩
theorem lw_p52 : lw_okq (⟨"ThreePointsModel", "stateOf", "(I)I"⟩, 39) := ⟨⟨by decide +kernel, by decide +kernel⟩, List.mem_of_getElem? (i := 910) (by decide +kernel), List.mem_of_getElem? (i := 1203) (by decide +kernel), List.mem_of_getElem? (i := 1204) (by decide +kernel)⟩
theorem lw_p53 : lw_okq (⟨"ThreePointsModel", "stateBehind", "(IIII)I"⟩, 39) := ⟨⟨by decide +kernel, by decide +kernel⟩, List.mem_of_getElem? (i := 910) (by decide +kernel), List.mem_of_getElem? (i := 1207) (by decide +kernel), List.mem_of_getElem? (i := 1208) (by decide +kernel)⟩
theorem lw_p54 : lw_okq (⟨"ThreePointsModel", "seeks", "(III)V"⟩, 39) := ⟨⟨by decide +kernel, by decide +kernel⟩, List.mem_of_getElem? (i := 910) (by decide +kernel), List.mem_of_getElem? (i := 1211) (by decide +kernel), List.mem_of_getElem? (i := 1212) (by decide +kernel)⟩
theorem lw_p55 : lw_okq (⟨"ThreePointsModel", "costsStep", "(IIII)I"⟩, 39) := ⟨⟨by decide +kernel, by decide +kernel⟩, List.mem_of_getElem? (i := 910) (by decide +kernel), List.mem_of_getElem? (i := 1215) (by decide +kernel), List.mem_of_getElem? (i := 1216) (by decide +kernel)⟩
theorem lw_p56 : lw_okq (⟨"ThreePointsModel", "otherOf", "(I)I"⟩, 39) := ⟨⟨by decide +kernel, by decide +kernel⟩, List.mem_of_getElem? (i := 910) (by decide +kernel), List.mem_of_getElem? (i := 1219) (by decide +kernel), List.mem_of_getElem? (i := 1220) (by decide +kernel)⟩
theorem lw_p57 : lw_okq (⟨"ThreePointsModel", "leastTo", "(I)I"⟩, 39) := ⟨⟨by decide +kernel, by decide +kernel⟩, List.mem_of_getElem? (i := 910) (by decide +kernel), List.mem_of_getElem? (i := 1223) (by decide +kernel), List.mem_of_getElem? (i := 1224) (by decide +kernel)⟩
theorem lw_p58 : lw_okq (⟨"ThreePointsModel", "fromBegin", "(III)I"⟩, 39) := ⟨⟨by decide +kernel, by decide +kernel⟩, List.mem_of_getElem? (i := 910) (by decide +kernel), List.mem_of_getElem? (i := 1234) (by decide +kernel), List.mem_of_getElem? (i := 1235) (by decide +kernel)⟩
theorem lw_p59 : lw_okq (⟨"ThreePointsModel", "sheetWrong", "(II)I"⟩, 39) := ⟨⟨by decide +kernel, by decide +kernel⟩, List.mem_of_getElem? (i := 910) (by decide +kernel), List.mem_of_getElem? (i := 1258) (by decide +kernel), List.mem_of_getElem? (i := 1259) (by decide +kernel)⟩
theorem lw_p60 : lw_okq (⟨"ThreePointsModel", "firstWrong", "(II)I"⟩, 39) := ⟨⟨by decide +kernel, by decide +kernel⟩, List.mem_of_getElem? (i := 910) (by decide +kernel), List.mem_of_getElem? (i := 1262) (by decide +kernel), List.mem_of_getElem? (i := 1263) (by decide +kernel)⟩
theorem lw_p61 : lw_okq (⟨"ThreePointsModel", "keeps", "(I)V"⟩, 39) := ⟨⟨by decide +kernel, by decide +kernel⟩, List.mem_of_getElem? (i := 910) (by decide +kernel), List.mem_of_getElem? (i := 1266) (by decide +kernel), List.mem_of_getElem? (i := 1267) (by decide +kernel)⟩
theorem lw_p62 : lw_okq (⟨"ThreePointsModel", "laysBack", "(I)V"⟩, 39) := ⟨⟨by decide +kernel, by decide +kernel⟩, List.mem_of_getElem? (i := 910) (by decide +kernel), List.mem_of_getElem? (i := 1270) (by decide +kernel), List.mem_of_getElem? (i := 1271) (by decide +kernel)⟩
theorem lw_p63 : lw_okq (⟨"ThreePointsModel", "driveBy", "(III)V"⟩, 39) := ⟨⟨by decide +kernel, by decide +kernel⟩, List.mem_of_getElem? (i := 910) (by decide +kernel), List.mem_of_getElem? (i := 1295) (by decide +kernel), List.mem_of_getElem? (i := 1296) (by decide +kernel)⟩
def lw_privs_4 : List (MethodName × Nat) := [(⟨"ThreePointsModel", "turnsOf", "(III)I"⟩, 39), (⟨"ThreePointsModel", "goes", "(III)V"⟩, 39), (⟨"ThreePointsModel", "tellsLane", "(IZ)V"⟩, 39), (⟨"ThreePointsModel", "firstStep", "(II)I"⟩, 39), (⟨"ThreePointsModel", "stateOf", "(I)I"⟩, 39), (⟨"ThreePointsModel", "stateBehind", "(IIII)I"⟩, 39), (⟨"ThreePointsModel", "seeks", "(III)V"⟩, 39), (⟨"ThreePointsModel", "costsStep", "(IIII)I"⟩, 39), (⟨"ThreePointsModel", "otherOf", "(I)I"⟩, 39), (⟨"ThreePointsModel", "leastTo", "(I)I"⟩, 39), (⟨"ThreePointsModel", "fromBegin", "(III)I"⟩, 39), (⟨"ThreePointsModel", "sheetWrong", "(II)I"⟩, 39), (⟨"ThreePointsModel", "firstWrong", "(II)I"⟩, 39), (⟨"ThreePointsModel", "keeps", "(I)V"⟩, 39), (⟨"ThreePointsModel", "laysBack", "(I)V"⟩, 39), (⟨"ThreePointsModel", "driveBy", "(III)V"⟩, 39)]
theorem lw_r4 : ∀ q ∈ lw_privs_4, lw_okq q := List.forall_mem_cons.mpr ⟨lw_p48, List.forall_mem_cons.mpr ⟨lw_p49, List.forall_mem_cons.mpr ⟨lw_p50, List.forall_mem_cons.mpr ⟨lw_p51, List.forall_mem_cons.mpr ⟨lw_p52, List.forall_mem_cons.mpr ⟨lw_p53, List.forall_mem_cons.mpr ⟨lw_p54, List.forall_mem_cons.mpr ⟨lw_p55, List.forall_mem_cons.mpr ⟨lw_p56, List.forall_mem_cons.mpr ⟨lw_p57, List.forall_mem_cons.mpr ⟨lw_p58, List.forall_mem_cons.mpr ⟨lw_p59, List.forall_mem_cons.mpr ⟨lw_p60, List.forall_mem_cons.mpr ⟨lw_p61, List.forall_mem_cons.mpr ⟨lw_p62, List.forall_mem_cons.mpr ⟨lw_p63, fun _ h => absurd h List.not_mem_nil⟩⟩⟩⟩⟩⟩⟩⟩⟩⟩⟩⟩⟩⟩⟩⟩
def lw_privs : List (MethodName × Nat) := lw_privs_1 ++ (lw_privs_2 ++ (lw_privs_3 ++ (lw_privs_4)))
def lw_tbl : List Cond := k2_sels lw_privs ++ tables_1
theorem lw_privs_ok : ∀ q ∈ lw_privs, lw_okq q := by
  show ∀ q ∈ lw_privs_1 ++ (lw_privs_2 ++ (lw_privs_3 ++ (lw_privs_4))), lw_okq q
  exact List.forall_mem_append.mpr ⟨lw_r1, List.forall_mem_append.mpr ⟨lw_r2, List.forall_mem_append.mpr ⟨lw_r3, lw_r4⟩⟩⟩
end
section
/-! Names of the classes, their fields; the kinds of objects (a kind and a number in it), where static pointers lead. Printed by wip/gen/gen02.py. -/
/-- the tables' words that hold in every state of the run -/
def xtbl : List Cond := lw_tbl.filter goodWord
theorem xtbl_in {w : Cond} (h : w ∈ xtbl) : w ∈ lw_tbl := (List.mem_filter.mp h).1
theorem xtbl_of {w : Cond} (h : w ∈ lw_tbl) (hg : goodWord w = true) : w ∈ xtbl := List.mem_filter.mpr ⟨h, hg⟩
/-- a word of the tables, by its place (behind the private methods' words) -/
theorem xtbl_at {w : Cond} (i : Nat) (h : lw_tbl[i]? = some w) (hg : goodWord w = true) : w ∈ xtbl := xtbl_of (List.mem_of_getElem? h) hg
def xR_Main : String := "ThreePoints"
def xT_Main : u_T := fun k => match k with
  | 0 => ("ThreePoints", "yard", "LThreePoints$Yard;", true)
  | 1 => ("ThreePoints", "kept", "LThreePoints$Yard;", true)
  | 2 => ("ThreePoints", "hasImage", "Z", false)
  | 3 => ("ThreePoints", "reader", "LThreePoints$Reader;", true)
  | 4 => ("ThreePoints", "texts", "[LThreePoints$Text;", true)
  | 5 => ("ThreePoints", "textCount", "I", false)
  | 6 => ("ThreePoints", "sheets", "[LThreePoints$Sheet;", true)
  | 7 => ("ThreePoints", "ride", "LThreePoints$Ride;", true)
  | _ => ("ThreePoints", "search", "LThreePoints$Search;", true)
def xy_Main : Nat → FieldType := fun k => match k with
  | 0 => .object "ThreePoints$Yard"
  | 1 => .object "ThreePoints$Yard"
  | 2 => .boolean
  | 3 => .object "ThreePoints$Reader"
  | 4 => .array (.object "ThreePoints$Text")
  | 5 => .int
  | 6 => .array (.object "ThreePoints$Sheet")
  | 7 => .object "ThreePoints$Ride"
  | _ => .object "ThreePoints$Search"
theorem xn_Main : ∀ a, a < 9 → ∀ b, b < 9 → a ≠ b → (xT_Main a).2.1 ≠ (xT_Main b).2.1 := by decide +kernel
theorem xy_Main_ok : ∀ k, k < 9 → parseFieldDescriptor (xT_Main k).2.2.1 = some (xy_Main k) := by decide +kernel
theorem xi_Main : ∀ w ∈ u_ws "ThreePoints" xT_Main 9, w ∈ xtbl := fun w h => xtbl_of ((by decide +kernel : ∀ w ∈ u_ws "ThreePoints" xT_Main 9, w ∈ lw_tbl) w h) ((by decide +kernel : ∀ w ∈ u_ws "ThreePoints" xT_Main 9, goodWord w = true) w h)
def xR_Yard : String := "ThreePoints$Yard"
def xT_Yard : u_T := fun k => match k with
  | 0 => ("ThreePoints$Yard", "lane", "LThreePoints$Lane;", true)
  | 1 => ("ThreePoints$Yard", "vehicles", "[LThreePoints$Vehicle;", true)
  | _ => ("ThreePoints$Yard", "count", "I", false)
def xy_Yard : Nat → FieldType := fun k => match k with
  | 0 => .object "ThreePoints$Lane"
  | 1 => .array (.object "ThreePoints$Vehicle")
  | _ => .int
theorem xn_Yard : ∀ a, a < 3 → ∀ b, b < 3 → a ≠ b → (xT_Yard a).2.1 ≠ (xT_Yard b).2.1 := by decide +kernel
theorem xy_Yard_ok : ∀ k, k < 3 → parseFieldDescriptor (xT_Yard k).2.2.1 = some (xy_Yard k) := by decide +kernel
theorem xi_Yard : ∀ w ∈ u_ws "ThreePoints$Yard" xT_Yard 3, w ∈ xtbl := fun w h => xtbl_of ((by decide +kernel : ∀ w ∈ u_ws "ThreePoints$Yard" xT_Yard 3, w ∈ lw_tbl) w h) ((by decide +kernel : ∀ w ∈ u_ws "ThreePoints$Yard" xT_Yard 3, goodWord w = true) w h)
def xR_Lane : String := "ThreePoints$Lane"
def xT_Lane : u_T := fun k => match k with
  | 0 => ("ThreePoints$Lane", "width", "I", false)
  | 1 => ("ThreePoints$Lane", "opening", "I", false)
  | _ => ("ThreePoints$Lane", "law", "I", false)
def xy_Lane : Nat → FieldType := fun k => match k with
  | 0 => .int
  | 1 => .int
  | _ => .int
theorem xn_Lane : ∀ a, a < 3 → ∀ b, b < 3 → a ≠ b → (xT_Lane a).2.1 ≠ (xT_Lane b).2.1 := by decide +kernel
theorem xy_Lane_ok : ∀ k, k < 3 → parseFieldDescriptor (xT_Lane k).2.2.1 = some (xy_Lane k) := by decide +kernel
theorem xi_Lane : ∀ w ∈ u_ws "ThreePoints$Lane" xT_Lane 3, w ∈ xtbl := fun w h => xtbl_of ((by decide +kernel : ∀ w ∈ u_ws "ThreePoints$Lane" xT_Lane 3, w ∈ lw_tbl) w h) ((by decide +kernel : ∀ w ∈ u_ws "ThreePoints$Lane" xT_Lane 3, goodWord w = true) w h)
def xR_Vehicle : String := "ThreePoints$Vehicle"
def xT_Vehicle : u_T := fun k => match k with
  | 0 => ("ThreePoints$Vehicle", "kind", "I", false)
  | 1 => ("ThreePoints$Vehicle", "more", "I", false)
  | 2 => ("ThreePoints$Vehicle", "place", "I", false)
  | 3 => ("ThreePoints$Vehicle", "heading", "I", false)
  | 4 => ("ThreePoints$Vehicle", "points", "I", false)
  | 5 => ("ThreePoints$Vehicle", "wear", "I", false)
  | _ => ("ThreePoints$Vehicle", "last", "I", false)
def xy_Vehicle : Nat → FieldType := fun k => match k with
  | 0 => .int
  | 1 => .int
  | 2 => .int
  | 3 => .int
  | 4 => .int
  | 5 => .int
  | _ => .int
theorem xn_Vehicle : ∀ a, a < 7 → ∀ b, b < 7 → a ≠ b → (xT_Vehicle a).2.1 ≠ (xT_Vehicle b).2.1 := by decide +kernel
theorem xy_Vehicle_ok : ∀ k, k < 7 → parseFieldDescriptor (xT_Vehicle k).2.2.1 = some (xy_Vehicle k) := by decide +kernel
theorem xi_Vehicle : ∀ w ∈ u_ws "ThreePoints$Vehicle" xT_Vehicle 7, w ∈ xtbl := fun w h => xtbl_of ((by decide +kernel : ∀ w ∈ u_ws "ThreePoints$Vehicle" xT_Vehicle 7, w ∈ lw_tbl) w h) ((by decide +kernel : ∀ w ∈ u_ws "ThreePoints$Vehicle" xT_Vehicle 7, goodWord w = true) w h)
def xR_Reader : String := "ThreePoints$Reader"
def xT_Reader : u_T := fun k => match k with
  | 0 => ("ThreePoints$Reader", "tape", "LThreePoints$Tape;", true)
  | 1 => ("ThreePoints$Reader", "draft", "LThreePoints$Text;", true)
  | 2 => ("ThreePoints$Reader", "now", "I", false)
  | 3 => ("ThreePoints$Reader", "token", "I", false)
  | _ => ("ThreePoints$Reader", "open", "I", false)
def xy_Reader : Nat → FieldType := fun k => match k with
  | 0 => .object "ThreePoints$Tape"
  | 1 => .object "ThreePoints$Text"
  | 2 => .int
  | 3 => .int
  | _ => .int
theorem xn_Reader : ∀ a, a < 5 → ∀ b, b < 5 → a ≠ b → (xT_Reader a).2.1 ≠ (xT_Reader b).2.1 := by decide +kernel
theorem xy_Reader_ok : ∀ k, k < 5 → parseFieldDescriptor (xT_Reader k).2.2.1 = some (xy_Reader k) := by decide +kernel
theorem xi_Reader : ∀ w ∈ u_ws "ThreePoints$Reader" xT_Reader 5, w ∈ xtbl := fun w h => xtbl_of ((by decide +kernel : ∀ w ∈ u_ws "ThreePoints$Reader" xT_Reader 5, w ∈ lw_tbl) w h) ((by decide +kernel : ∀ w ∈ u_ws "ThreePoints$Reader" xT_Reader 5, goodWord w = true) w h)
def xR_Tape : String := "ThreePoints$Tape"
def xT_Tape : u_T := fun k => match k with
  | 0 => ("ThreePoints$Tape", "bytes", "[I", true)
  | 1 => ("ThreePoints$Tape", "size", "I", false)
  | 2 => ("ThreePoints$Tape", "kinds", "[I", true)
  | 3 => ("ThreePoints$Tape", "starts", "[I", true)
  | 4 => ("ThreePoints$Tape", "values", "[I", true)
  | _ => ("ThreePoints$Tape", "tokens", "I", false)
def xy_Tape : Nat → FieldType := fun k => match k with
  | 0 => .array .int
  | 1 => .int
  | 2 => .array .int
  | 3 => .array .int
  | 4 => .array .int
  | _ => .int
theorem xn_Tape : ∀ a, a < 6 → ∀ b, b < 6 → a ≠ b → (xT_Tape a).2.1 ≠ (xT_Tape b).2.1 := by decide +kernel
theorem xy_Tape_ok : ∀ k, k < 6 → parseFieldDescriptor (xT_Tape k).2.2.1 = some (xy_Tape k) := by decide +kernel
theorem xi_Tape : ∀ w ∈ u_ws "ThreePoints$Tape" xT_Tape 6, w ∈ xtbl := fun w h => xtbl_of ((by decide +kernel : ∀ w ∈ u_ws "ThreePoints$Tape" xT_Tape 6, w ∈ lw_tbl) w h) ((by decide +kernel : ∀ w ∈ u_ws "ThreePoints$Tape" xT_Tape 6, goodWord w = true) w h)
def xR_Text : String := "ThreePoints$Text"
def xT_Text : u_T := fun k => match k with
  | 0 => ("ThreePoints$Text", "code", "[I", true)
  | 1 => ("ThreePoints$Text", "size", "I", false)
  | 2 => ("ThreePoints$Text", "partEnds", "[I", true)
  | _ => ("ThreePoints$Text", "stack", "[I", true)
def xy_Text : Nat → FieldType := fun k => match k with
  | 0 => .array .int
  | 1 => .int
  | 2 => .array .int
  | _ => .array .int
theorem xn_Text : ∀ a, a < 4 → ∀ b, b < 4 → a ≠ b → (xT_Text a).2.1 ≠ (xT_Text b).2.1 := by decide +kernel
theorem xy_Text_ok : ∀ k, k < 4 → parseFieldDescriptor (xT_Text k).2.2.1 = some (xy_Text k) := by decide +kernel
theorem xi_Text : ∀ w ∈ u_ws "ThreePoints$Text" xT_Text 4, w ∈ xtbl := fun w h => xtbl_of ((by decide +kernel : ∀ w ∈ u_ws "ThreePoints$Text" xT_Text 4, w ∈ lw_tbl) w h) ((by decide +kernel : ∀ w ∈ u_ws "ThreePoints$Text" xT_Text 4, goodWord w = true) w h)
def xR_Sheet : String := "ThreePoints$Sheet"
def xT_Sheet : u_T := fun k => match k with
  | 0 => ("ThreePoints$Sheet", "numbers", "[I", true)
  | 1 => ("ThreePoints$Sheet", "sort", "I", false)
  | _ => ("ThreePoints$Sheet", "size", "I", false)
def xy_Sheet : Nat → FieldType := fun k => match k with
  | 0 => .array .int
  | 1 => .int
  | _ => .int
theorem xn_Sheet : ∀ a, a < 3 → ∀ b, b < 3 → a ≠ b → (xT_Sheet a).2.1 ≠ (xT_Sheet b).2.1 := by decide +kernel
theorem xy_Sheet_ok : ∀ k, k < 3 → parseFieldDescriptor (xT_Sheet k).2.2.1 = some (xy_Sheet k) := by decide +kernel
theorem xi_Sheet : ∀ w ∈ u_ws "ThreePoints$Sheet" xT_Sheet 3, w ∈ xtbl := fun w h => xtbl_of ((by decide +kernel : ∀ w ∈ u_ws "ThreePoints$Sheet" xT_Sheet 3, w ∈ lw_tbl) w h) ((by decide +kernel : ∀ w ∈ u_ws "ThreePoints$Sheet" xT_Sheet 3, goodWord w = true) w h)
def xR_Ride : String := "ThreePoints$Ride"
def xT_Ride : u_T := fun k => match k with
  | 0 => ("ThreePoints$Ride", "lane", "LThreePoints$Lane;", true)
  | 1 => ("ThreePoints$Ride", "vehicle", "LThreePoints$Vehicle;", true)
  | 2 => ("ThreePoints$Ride", "law", "LThreePoints$Text;", false)
  | _ => ("ThreePoints$Ride", "names", "[I", true)
def xy_Ride : Nat → FieldType := fun k => match k with
  | 0 => .object "ThreePoints$Lane"
  | 1 => .object "ThreePoints$Vehicle"
  | 2 => .object "ThreePoints$Text"
  | _ => .array .int
theorem xn_Ride : ∀ a, a < 4 → ∀ b, b < 4 → a ≠ b → (xT_Ride a).2.1 ≠ (xT_Ride b).2.1 := by decide +kernel
theorem xy_Ride_ok : ∀ k, k < 4 → parseFieldDescriptor (xT_Ride k).2.2.1 = some (xy_Ride k) := by decide +kernel
theorem xi_Ride : ∀ w ∈ u_ws "ThreePoints$Ride" xT_Ride 4, w ∈ xtbl := fun w h => xtbl_of ((by decide +kernel : ∀ w ∈ u_ws "ThreePoints$Ride" xT_Ride 4, w ∈ lw_tbl) w h) ((by decide +kernel : ∀ w ∈ u_ws "ThreePoints$Ride" xT_Ride 4, goodWord w = true) w h)
def xR_Search : String := "ThreePoints$Search"
def xT_Search : u_T := fun k => match k with
  | 0 => ("ThreePoints$Search", "goal", "I", false)
  | 1 => ("ThreePoints$Search", "fitting", "[Z", true)
  | 2 => ("ThreePoints$Search", "costs", "[I", true)
  | 3 => ("ThreePoints$Search", "heads", "[I", true)
  | 4 => ("ThreePoints$Search", "nexts", "[I", true)
  | 5 => ("ThreePoints$Search", "previous", "[I", true)
  | 6 => ("ThreePoints$Search", "waiting", "I", false)
  | _ => ("ThreePoints$Search", "firstStep", "I", false)
def xy_Search : Nat → FieldType := fun k => match k with
  | 0 => .int
  | 1 => .array .boolean
  | 2 => .array .int
  | 3 => .array .int
  | 4 => .array .int
  | 5 => .array .int
  | 6 => .int
  | _ => .int
theorem xn_Search : ∀ a, a < 8 → ∀ b, b < 8 → a ≠ b → (xT_Search a).2.1 ≠ (xT_Search b).2.1 := by decide +kernel
theorem xy_Search_ok : ∀ k, k < 8 → parseFieldDescriptor (xT_Search k).2.2.1 = some (xy_Search k) := by decide +kernel
theorem xi_Search : ∀ w ∈ u_ws "ThreePoints$Search" xT_Search 8, w ∈ xtbl := fun w h => xtbl_of ((by decide +kernel : ∀ w ∈ u_ws "ThreePoints$Search" xT_Search 8, w ∈ lw_tbl) w h) ((by decide +kernel : ∀ w ∈ u_ws "ThreePoints$Search" xT_Search 8, goodWord w = true) w h)
def xR_Model : String := "ThreePointsModel"
def xT_Model : u_T := fun k => match k with
  | 0 => ("ThreePointsModel", "across", "[I", true)
  | 1 => ("ThreePointsModel", "width", "I", false)
  | 2 => ("ThreePointsModel", "opening", "I", false)
  | 3 => ("ThreePointsModel", "vehicles", "I", false)
  | 4 => ("ThreePointsModel", "kind", "[I", true)
  | 5 => ("ThreePointsModel", "moreOf", "[I", true)
  | 6 => ("ThreePointsModel", "rows", "[I", true)
  | 7 => ("ThreePointsModel", "tape", "[I", true)
  | 8 => ("ThreePointsModel", "taped", "I", false)
  | 9 => ("ThreePointsModel", "codes", "[I", true)
  | 10 => ("ThreePointsModel", "starts", "[I", true)
  | 11 => ("ThreePointsModel", "texts", "I", false)
  | 12 => ("ThreePointsModel", "rule", "I", false)
  | 13 => ("ThreePointsModel", "hasImage", "Z", false)
  | 14 => ("ThreePointsModel", "imageRows", "[I", true)
  | 15 => ("ThreePointsModel", "imageHeld", "[I", true)
  | 16 => ("ThreePointsModel", "sheetSort", "[I", true)
  | 17 => ("ThreePointsModel", "sheetSize", "[I", true)
  | 18 => ("ThreePointsModel", "cells", "[I", true)
  | 19 => ("ThreePointsModel", "law", "[I", true)
  | 20 => ("ThreePointsModel", "at", "I", false)
  | 21 => ("ThreePointsModel", "begun", "I", false)
  | 22 => ("ThreePointsModel", "token", "I", false)
  | 23 => ("ThreePointsModel", "value", "I", false)
  | 24 => ("ThreePointsModel", "words", "[I", true)
  | 25 => ("ThreePointsModel", "held", "[I", true)
  | 26 => ("ThreePointsModel", "heldMany", "I", false)
  | 27 => ("ThreePointsModel", "opens", "I", false)
  | 28 => ("ThreePointsModel", "out", "I", false)
  | 29 => ("ThreePointsModel", "stack", "[I", true)
  | 30 => ("ThreePointsModel", "named", "[I", true)
  | 31 => ("ThreePointsModel", "fitsIn", "[Z", true)
  | 32 => ("ThreePointsModel", "wearIn", "[I", true)
  | 33 => ("ThreePointsModel", "dist", "[I", true)
  | 34 => ("ThreePointsModel", "queued", "[Z", true)
  | 35 => ("ThreePointsModel", "queue", "[I", true)
  | 36 => ("ThreePointsModel", "kept", "[I", true)
  | 37 => ("ThreePointsModel", "last", "[I", true)
  | _ => ("ThreePointsModel", "hitsIn", "I", false)
def xy_Model : Nat → FieldType := fun k => match k with
  | 0 => .array .int
  | 1 => .int
  | 2 => .int
  | 3 => .int
  | 4 => .array .int
  | 5 => .array .int
  | 6 => .array .int
  | 7 => .array .int
  | 8 => .int
  | 9 => .array .int
  | 10 => .array .int
  | 11 => .int
  | 12 => .int
  | 13 => .boolean
  | 14 => .array .int
  | 15 => .array .int
  | 16 => .array .int
  | 17 => .array .int
  | 18 => .array .int
  | 19 => .array .int
  | 20 => .int
  | 21 => .int
  | 22 => .int
  | 23 => .int
  | 24 => .array .int
  | 25 => .array .int
  | 26 => .int
  | 27 => .int
  | 28 => .int
  | 29 => .array .int
  | 30 => .array .int
  | 31 => .array .boolean
  | 32 => .array .int
  | 33 => .array .int
  | 34 => .array .boolean
  | 35 => .array .int
  | 36 => .array .int
  | 37 => .array .int
  | _ => .int
theorem xn_Model : ∀ a, a < 39 → ∀ b, b < 39 → a ≠ b → (xT_Model a).2.1 ≠ (xT_Model b).2.1 := by decide +kernel
theorem xy_Model_ok : ∀ k, k < 39 → parseFieldDescriptor (xT_Model k).2.2.1 = some (xy_Model k) := by decide +kernel
theorem xi_Model : ∀ w ∈ u_ws "ThreePointsModel" xT_Model 39, w ∈ xtbl := fun w h => xtbl_of ((by decide +kernel : ∀ w ∈ u_ws "ThreePointsModel" xT_Model 39, w ∈ lw_tbl) w h) ((by decide +kernel : ∀ w ∈ u_ws "ThreePointsModel" xT_Model 39, goodWord w = true) w h)
def xcl : List vw_C := [("ThreePoints", xT_Main, 9), ("ThreePoints$Yard", xT_Yard, 3), ("ThreePoints$Lane", xT_Lane, 3), ("ThreePoints$Vehicle", xT_Vehicle, 7), ("ThreePoints$Reader", xT_Reader, 5), ("ThreePoints$Tape", xT_Tape, 6), ("ThreePoints$Text", xT_Text, 4), ("ThreePoints$Sheet", xT_Sheet, 3), ("ThreePoints$Ride", xT_Ride, 4), ("ThreePoints$Search", xT_Search, 8), ("ThreePointsModel", xT_Model, 39)]
/-- what a kind is: 0 an object of class a with n fields, 1 a row of n ints, 2 of n booleans, 3 .. 5 of n references -/
def xsh (kd : Nat) : Nat × Nat × Nat := match kd with
  | 0 => (0, 0, 9)
  | 1 => (0, 1, 3)
  | 2 => (0, 2, 3)
  | 3 => (0, 3, 7)
  | 4 => (3, 0, 4)
  | 5 => (0, 4, 5)
  | 6 => (0, 5, 6)
  | 7 => (1, 0, 160)
  | 8 => (1, 0, 160)
  | 9 => (1, 0, 160)
  | 10 => (1, 0, 160)
  | 11 => (0, 6, 4)
  | 12 => (1, 0, 160)
  | 13 => (1, 0, 3)
  | 14 => (1, 0, 160)
  | 15 => (4, 0, 6)
  | 16 => (0, 7, 3)
  | 17 => (1, 0, 40)
  | 18 => (5, 0, 4)
  | 19 => (0, 8, 4)
  | 20 => (1, 0, 6)
  | 21 => (0, 9, 8)
  | 22 => (2, 0, 976)
  | 23 => (1, 0, 1952)
  | 24 => (1, 0, 128)
  | 25 => (1, 0, 1952)
  | 26 => (1, 0, 1952)
  | 30 => (0, 10, 39)
  | 31 => (1, 0, 16)
  | 32 => (1, 0, 4)
  | 33 => (1, 0, 4)
  | 34 => (1, 0, 20)
  | 35 => (1, 0, 160)
  | 36 => (1, 0, 1200)
  | 37 => (1, 0, 24)
  | 38 => (1, 0, 20)
  | 39 => (1, 0, 4)
  | 40 => (1, 0, 4)
  | 41 => (1, 0, 4)
  | 42 => (1, 0, 160)
  | 43 => (1, 0, 39)
  | 44 => (1, 0, 96)
  | 45 => (1, 0, 200)
  | 46 => (1, 0, 200)
  | 47 => (1, 0, 6)
  | 48 => (2, 0, 976)
  | 49 => (1, 0, 1952)
  | 50 => (1, 0, 2928)
  | 51 => (2, 0, 2928)
  | 52 => (1, 0, 2928)
  | 53 => (1, 0, 5)
  | 54 => (1, 0, 5)
  | _ => (9, 0, 0)
/-- where the final reference in field k of kind kd leads: a kind, and a number by the number -/
def xsp (kd k : Nat) : Option (Nat × (Nat → Nat)) := match kd, k with
  | 0, 0 => some (1, fun _ => 0)
  | 0, 1 => some (1, fun _ => 1)
  | 0, 3 => some (5, fun _ => 0)
  | 0, 4 => some (15, fun _ => 0)
  | 0, 6 => some (18, fun _ => 0)
  | 0, 7 => some (19, fun _ => 0)
  | 0, 8 => some (21, fun _ => 0)
  | 1, 0 => some (2, fun i => i)
  | 1, 1 => some (4, fun i => i)
  | 5, 0 => some (6, fun _ => 0)
  | 5, 1 => some (11, fun _ => 6)
  | 6, 0 => some (7, fun _ => 0)
  | 6, 2 => some (8, fun _ => 0)
  | 6, 3 => some (9, fun _ => 0)
  | 6, 4 => some (10, fun _ => 0)
  | 11, 0 => some (12, fun i => i)
  | 11, 2 => some (13, fun i => i)
  | 11, 3 => some (14, fun i => i)
  | 16, 0 => some (17, fun i => i)
  | 19, 0 => some (2, fun _ => 2)
  | 19, 1 => some (3, fun _ => 8)
  | 19, 3 => some (20, fun _ => 0)
  | 21, 1 => some (22, fun _ => 0)
  | 21, 2 => some (23, fun _ => 0)
  | 21, 3 => some (24, fun _ => 0)
  | 21, 4 => some (25, fun _ => 0)
  | 21, 5 => some (26, fun _ => 0)
  | 30, 0 => some (31, fun _ => 0)
  | 30, 4 => some (32, fun _ => 0)
  | 30, 5 => some (33, fun _ => 0)
  | 30, 6 => some (34, fun _ => 0)
  | 30, 7 => some (35, fun _ => 0)
  | 30, 9 => some (36, fun _ => 0)
  | 30, 10 => some (37, fun _ => 0)
  | 30, 14 => some (38, fun _ => 0)
  | 30, 15 => some (39, fun _ => 0)
  | 30, 16 => some (40, fun _ => 0)
  | 30, 17 => some (41, fun _ => 0)
  | 30, 18 => some (42, fun _ => 0)
  | 30, 19 => some (43, fun _ => 0)
  | 30, 24 => some (44, fun _ => 0)
  | 30, 25 => some (45, fun _ => 0)
  | 30, 29 => some (46, fun _ => 0)
  | 30, 30 => some (47, fun _ => 0)
  | 30, 31 => some (48, fun _ => 0)
  | 30, 32 => some (49, fun _ => 0)
  | 30, 33 => some (50, fun _ => 0)
  | 30, 34 => some (51, fun _ => 0)
  | 30, 35 => some (52, fun _ => 0)
  | 30, 36 => some (53, fun _ => 0)
  | 30, 37 => some (54, fun _ => 0)
  | _, _ => none
/-- the kind of what a row of references holds, and the number at j -/
def xra (kd : Nat) : Nat × (Nat → Nat → Nat) := match kd with
  | 4 => (3, fun i j => 4 * i + j)
  | 15 => (11, fun _ j => j)
  | 18 => (16, fun _ j => j)
  | _ => (99, fun _ j => j)
def xLC : List (Nat × Nat) := [(0, 0), (1, 0), (1, 1), (2, 0), (2, 1), (2, 2), (3, 0), (3, 1), (3, 2), (3, 3), (3, 4), (3, 5), (3, 6), (3, 7), (3, 8), (4, 0), (4, 1), (5, 0), (6, 0), (7, 0), (8, 0), (9, 0), (10, 0), (11, 0), (11, 1), (11, 2), (11, 3), (11, 4), (11, 5), (11, 6), (12, 0), (12, 1), (12, 2), (12, 3), (12, 4), (12, 5), (12, 6), (13, 0), (13, 1), (13, 2), (13, 3), (13, 4), (13, 5), (13, 6), (14, 0), (14, 1), (14, 2), (14, 3), (14, 4), (14, 5), (14, 6), (15, 0), (16, 0), (16, 1), (16, 2), (16, 3), (17, 0), (17, 1), (17, 2), (17, 3), (18, 0), (19, 0), (20, 0), (21, 0), (22, 0), (23, 0), (24, 0), (25, 0), (26, 0)]
def xLM : List (Nat × Nat) := [(30, 0), (31, 0), (32, 0), (33, 0), (34, 0), (35, 0), (36, 0), (37, 0), (38, 0), (39, 0), (40, 0), (41, 0), (42, 0), (43, 0), (44, 0), (45, 0), (46, 0), (47, 0), (48, 0), (49, 0), (50, 0), (51, 0), (52, 0), (53, 0), (54, 0)]
end
section
/-! THE MACHINE'S STATE AS PURE VALUES: a value is an int, a long, null or a reference (a kind, a number in it); the heap is a function of kind, number, slot. 'Gp' says of a place in a method: from any machine state that looks so, the method goes on and returns, with Q of its value and the heap. The rules g_.. turn Gp at an instruction into Gp at the next. -/
abbrev AV : Type := Int32 ⊕ (Int64 ⊕ Option (Nat × Nat))
abbrev HH : Type := Nat → Nat → Nat → Int32
abbrev vi (x : Int32) : AV := Sum.inl x
abbrev vl (x : Int64) : AV := Sum.inr (Sum.inl x)
abbrev vn : AV := Sum.inr (Sum.inr none)
abbrev vr (k i : Nat) : AV := Sum.inr (Sum.inr (some (k, i)))
def cv (ad : Nat → Nat → Nat) (v : AV) : Value := match v with
  | .inl x => .int x
  | .inr (.inl x) => .long x
  | .inr (.inr none) => .null
  | .inr (.inr (some (k, i))) => .ref (ad k i)
/-- one slot of one object becomes x -/
def hu (H : HH) (kd ix k : Nat) (x : Int32) : HH := fun a b c => if a = kd ∧ b = ix ∧ c = k then x else H a b c
/-- one object's slots become f -/
def hrow (H : HH) (kd ix : Nat) (f : Nat → Int32) : HH := fun a b => if a = kd ∧ b = ix then f else H a b
/-- what field k of an object holds, as a value -/
def xld (kd ix k : Nat) (x : Int32) : AV := match xsp kd k with
  | some t => vr t.1 (t.2 ix)
  | none => if kd = 19 ∧ k = 2 then (if 0 < x ∧ x < 8 then vr 11 (x.toNatClampNeg - 1) else vn) else vi x
def xcell (cid : Nat → ClassId) (ad : Nat → Nat → Nat) (kd ix : Nat) (f : Nat → Int32) : va_E := match xsh kd with
  | (0, ci, n) => .inr (ci, (List.range n).map fun k => cv ad (xld kd ix k (f k)))
  | (1, _, n) => .inl (cid 0, n, .inl f)
  | (2, _, n) => .inl (cid 1, n, .inl f)
  | (t, _, n) => .inl (cid (t - 1), n, .inr (.inr (.inr (.inr fun j => some (ad (xra kd).1 ((xra kd).2 ix j))))))
def xw (cid : Nat → ClassId) (ad : Nat → Nat → Nat) (Lc : List (Nat × Nat)) (H : HH) : va_W := Lc.map fun q => (ad q.1 q.2, xcell cid ad q.1 q.2 (H q.1 q.2))
def xtys (cid : Nat → ClassId) : List (ClassId × FieldType) := [(cid 0, .int), (cid 1, .boolean), (cid 2, .object "ThreePoints$Vehicle"), (cid 3, .object "ThreePoints$Text"), (cid 4, .object "ThreePoints$Sheet")]
def xrm (d : Nat) : Room := { frames := d, cells := 0, slots := 0, locals := d * 64 }
/-- rows that never change: which kinds they are (62 ACROSS, 63 BOUNDS, 64 ABOVE; 60 the texts, 61 their bytes) -/
def xACR : List Int32 := [0, 3, 6, 7, 8, 7, 6, 3, 0, -3, -6, -7, -8, -7, -6, -3]
def xBND : List Int32 := [9, 99, 100]
def xABV : List Int32 := [-1, 0, 0, 1, 2, 0]
abbrev vstr (a b c d e f g h i j k l m n : List Int32) : List (List Int32) := [a, b, c, d, e, f, g, h, i, j, k, l, m, n]
section STAT
variable (ad : Nat → Nat → Nat) (tx : List (List Int32))
def xStat (A : Nat → Prop) (U : State) (H : Heap) : Prop :=
  va_Z "ThreePoints" "ACROSS" "[I" (.ref (ad 62 0)) A U H ∧ va_T .int (ad 62 0) 16 (fun j => .int (xACR.getD j 0)) A U H ∧
  va_Z "ThreePoints$Text" "BOUNDS" "[I" (.ref (ad 63 0)) A U H ∧ va_T .int (ad 63 0) 3 (fun j => .int (xBND.getD j 0)) A U H ∧
  va_Z "ThreePoints$Vehicle" "ABOVE" "[I" (.ref (ad 64 0)) A U H ∧ va_T .int (ad 64 0) 6 (fun j => .int (xABV.getD j 0)) A U H ∧
  va_Z "java/lang/String" "COMPACT_STRINGS" "Z" (.int 1) A U H ∧ vk_S tx.length (tx.map List.length) tx (ad 60) (ad 61) A U H ∧
  va_Z "jdk/internal/util/Preconditions" "SIOOBE_FORMATTER" "Ljava/util/function/BiFunction;" (.ref (ad 65 0)) A U H
theorem xStat.moved {A : Nat → Prop} {u U : State} {H : Heap} (hvm : u.vm.Alike U.vm) (h : xStat ad tx A u H) : xStat ad tx A U H := by
  obtain ⟨h1, h2, h3, h4, h5, h6, h7, h8, h9⟩ := h
  exact ⟨h1.moved hvm, h2.moved hvm, h3.moved hvm, h4.moved hvm, h5.moved hvm, h6.moved hvm, h7.moved hvm, h8.moved hvm, h9.moved hvm⟩
theorem xStat.kept {A : Nat → Prop} {U : State} {H H1 : Heap} (h : xStat ad tx A U H) (hq : ∀ a : Nat, a < H.size → ¬ A a → H1[a]? = H[a]?) : xStat ad tx A U H1 := by
  obtain ⟨h1, h2, h3, h4, h5, h6, h7, h8, h9⟩ := h
  exact ⟨h1.kept hq, h2.kept hq, h3.kept hq, h4.kept hq, h5.kept hq, h6.kept hq, h7.kept hq, h8.kept hq, h9.kept hq⟩
theorem xStat.narrow {A B : Nat → Prop} {U : State} {H : Heap} (h : xStat ad tx A U H) (hAB : ∀ q, B q → A q) : xStat ad tx B U H := by
  obtain ⟨h1, h2, h3, h4, h5, h6, h7, h8, h9⟩ := h
  exact ⟨h1.narrow hAB, h2.narrow hAB, h3.narrow hAB, h4.narrow hAB, h5.narrow hAB, h6.narrow hAB, h7.narrow hAB, h8.narrow hAB, h9.narrow hAB⟩
end STAT
/-- the locals, by place: a value that is held, or nothing that is known -/
def lcv (ad : Nat → Nat → Nat) : Nat → List (Option AV) → List (Nat × Value)
  | _, [] => []
  | i, some v :: r => (i, cv ad v) :: lcv ad (i + 1) r
  | i, none :: r => lcv ad (i + 1) r
theorem mem_lcv {ad : Nat → Nat → Nat} {q : Nat × Value} : ∀ {ls : List (Option AV)} {j : Nat}, q ∈ lcv ad j ls ↔ ∃ (k : Nat) (v : AV), ls[k]? = some (some v) ∧ q = (j + k, cv ad v) := by
  intro ls
  induction ls with
  | nil => intro j; simp [lcv]
  | cons o r ih =>
    intro j
    cases o with
    | none =>
      rw [lcv, ih]
      constructor
      · rintro ⟨k, v, h, e⟩
        exact ⟨k + 1, v, by simpa using h, by rw [e]; congr 1; omega⟩
      · rintro ⟨k, v, h, e⟩
        cases k with
        | zero => simp at h
        | succ k => exact ⟨k, v, by simpa using h, by rw [e]; congr 1; omega⟩
    | some w =>
      rw [lcv, List.mem_cons, ih]
      constructor
      · rintro (rfl | ⟨k, v, h, e⟩)
        · exact ⟨0, w, by simp, rfl⟩
        · exact ⟨k + 1, v, by simpa using h, by rw [e]; congr 1; omega⟩
      · rintro ⟨k, v, h, e⟩
        cases k with
        | zero =>
          have hv : w = v := by simpa using h
          subst hv
          exact Or.inl e
        | succ k => exact Or.inr ⟨k, v, by simpa using h, by rw [e]; congr 1; omega⟩
theorem lv_mono {ls : Array Slot} {nL : Nat} {l l' : List (Nat × Value)} (h : lv_has ls nL l) (hs : ∀ q ∈ l', q ∈ l) : lv_has ls nL l' := ⟨h.1, h.2.1, fun q hq => h.2.2 q (hs q hq)⟩
/-- is the value at place i - 1 no long -/
def xnl (ls : List (Option AV)) (i : Nat) : Bool := match i with
  | 0 => true
  | k + 1 => match ls[k]? with
    | some (some (.inr (.inl _))) => false
    | _ => true
theorem cv_cat {ad : Nat → Nat → Nat} {v : AV} (h : (cv ad v).category = 2) : ∃ x, v = vl x := by
  rcases v with x | x | _ | ⟨k, i⟩
  · simp [cv, Value.category] at h
  · exact ⟨x, rfl⟩
  · simp [cv, Value.category] at h
  · simp [cv, Value.category] at h
theorem lcv_store {ad : Nat → Nat → Nat} {ls : List (Option AV)} {i : Nat} {v : AV} (hnl : xnl ls i = true) : ∀ q ∈ lcv ad 0 (ls.set i (some v)), q ∈ (i, cv ad v) :: (lcv ad 0 ls).filter (fun q => !(q.1 == i) && !(q.1 + 1 == i && q.2.category == 2)) := by
  intro q hq
  obtain ⟨k, w, h, rfl⟩ := mem_lcv.mp hq
  rw [Nat.zero_add]
  by_cases hk : i = k
  · subst hk
    rw [List.getElem?_set] at h
    by_cases hl : i < ls.length
    · simp [hl] at h
      subst h
      exact List.mem_cons_self
    · simp [hl] at h
  · rw [List.getElem?_set_ne hk] at h
    refine List.mem_cons_of_mem _ (List.mem_filter.mpr ⟨mem_lcv.mpr ⟨k, w, h, by rw [Nat.zero_add]⟩, ?_⟩)
    have h1 : ¬ k = i := fun e => hk e.symm
    simp only [Bool.and_eq_true, Bool.not_eq_true', beq_eq_false_iff_ne, ne_eq, h1, not_false_eq_true, true_and, Bool.and_eq_false_iff]
    by_cases h2 : k + 1 = i
    · right
      by_cases hc : (cv ad w).category = 2
      · obtain ⟨x, rfl⟩ := cv_cat hc
        subst h2
        simp [xnl, h] at hnl
      · simp [hc]
    · left
      exact h2
theorem lcv_store2 {ad : Nat → Nat → Nat} {ls : List (Option AV)} {i : Nat} {v : AV} (hnl : xnl ls i = true) : ∀ q ∈ lcv ad 0 ((ls.set i (some v)).set (i + 1) none), q ∈ (i, cv ad v) :: (lcv ad 0 ls).filter (fun q => !(q.1 == i) && (!(q.1 == i + 1) && !(q.1 + 1 == i && q.2.category == 2))) := by
  intro q hq
  obtain ⟨k, w, h, rfl⟩ := mem_lcv.mp hq
  have hk1 : ¬ i + 1 = k := by
    intro e
    subst e
    rw [List.getElem?_set] at h
    by_cases hl : i + 1 < (ls.set i (some v)).length
    · simp [hl] at h
    · simp [hl] at h
  rw [List.getElem?_set_ne hk1] at h
  have hm := lcv_store (ad := ad) hnl _ (mem_lcv.mpr ⟨k, w, h, rfl⟩)
  rcases List.mem_cons.mp hm with e | hm
  · rw [e]; exact List.mem_cons_self
  · refine List.mem_cons_of_mem _ (List.mem_filter.mpr ⟨(List.mem_filter.mp hm).1, ?_⟩)
    have h2 := (List.mem_filter.mp hm).2
    have h1 : ¬ (0 + k = i + 1) := by omega
    simp only [Bool.and_eq_true] at h2 ⊢
    refine ⟨h2.1, ?_, h2.2⟩
    simpa using (show ¬ k = i + 1 by omega)
/-- a method's locals at its start: a long takes two places -/
def xent : List AV → List (Option AV)
  | [] => []
  | .inr (.inl x) :: r => some (vl x) :: none :: xent r
  | v :: r => some v :: xent r
theorem xent_args {ad : Nat → Nat → Nat} : ∀ (vs : List AV) (i : Nat), lcv ad i (xent vs) = lv_args i (vs.map (cv ad)) := by
  intro vs
  induction vs with
  | nil => intro i; rfl
  | cons v r ih =>
    intro i
    rcases v with x | x | _ | ⟨k, j⟩
    · show _ :: lcv ad (i + 1) (xent r) = _
      rw [ih]
      simp [lv_args, cv, Value.category]
    · show _ :: lcv ad (i + 1 + 1) (xent r) = _
      rw [ih]
      simp [lv_args, cv, Value.category]
    · show _ :: lcv ad (i + 1) (xent r) = _
      rw [ih]
      simp [lv_args, cv, Value.category]
    · show _ :: lcv ad (i + 1) (xent r) = _
      rw [ih]
      simp [lv_args, cv, Value.category]
end
section
/-! 'Gp': from any machine state that looks like (pc, ls, st, H) in a frame of that method, it goes on and returns, with Q of its value and the heap; its room is xrm d. -/
def xok (Lc : List (Nat × Nat)) (nT : Nat) (v : AV) : Prop := match v with
  | .inr (.inr (some (k, i))) => (k, i) ∈ Lc ∨ (60 ≤ k ∧ k ≤ 61 ∧ i < nT) ∨ (62 ≤ k ∧ i = 0)
  | _ => True
def xoks (Lc : List (Nat × Nat)) (nT : Nat) (ls : List (Option AV)) (st : List AV) : Prop := (∀ v, some v ∈ ls → xok Lc nT v) ∧ ∀ v ∈ st, xok Lc nT v
theorem xoks.push {Lc : List (Nat × Nat)} {nT : Nat} {ls : List (Option AV)} {st : List AV} {v : AV} (h : xoks Lc nT ls st) (hv : xok Lc nT v) : xoks Lc nT ls (v :: st) := ⟨h.1, fun w hw => (List.mem_cons.mp hw).elim (fun e => e ▸ hv) (h.2 w)⟩
theorem xoks.pop {Lc : List (Nat × Nat)} {nT : Nat} {ls : List (Option AV)} {st : List AV} {v : AV} (h : xoks Lc nT ls (v :: st)) : xoks Lc nT ls st := ⟨h.1, fun w hw => h.2 w (List.mem_cons_of_mem _ hw)⟩
theorem xoks.top {Lc : List (Nat × Nat)} {nT : Nat} {ls : List (Option AV)} {st : List AV} {v : AV} (h : xoks Lc nT ls (v :: st)) : xok Lc nT v := h.2 v List.mem_cons_self
theorem xoks.loc {Lc : List (Nat × Nat)} {nT : Nat} {ls : List (Option AV)} {st : List AV} {v : AV} {i : Nat} (h : xoks Lc nT ls st) (hi : ls[i]? = some (some v)) : xok Lc nT v := h.1 v (List.mem_of_getElem? hi)
theorem xoks.set {Lc : List (Nat × Nat)} {nT : Nat} {ls : List (Option AV)} {st : List AV} {v : AV} {i : Nat} (h : xoks Lc nT ls st) (hv : xok Lc nT v) : xoks Lc nT (ls.set i (some v)) st := by
  refine ⟨fun w hw => ?_, h.2⟩
  rcases List.mem_or_eq_of_mem_set hw with q | q
  · exact h.1 w q
  · cases q
    exact hv
theorem xoks.unset {Lc : List (Nat × Nat)} {nT : Nat} {ls : List (Option AV)} {st : List AV} {i : Nat} (h : xoks Lc nT ls st) : xoks Lc nT (ls.set i none) st := by
  refine ⟨fun w hw => ?_, h.2⟩
  rcases List.mem_or_eq_of_mem_set hw with q | q
  · exact h.1 w q
  · cases q
/-- the layout: no object twice, kinds under 60, where references lead is in it -/
def xclo (Lc : List (Nat × Nat)) (nT : Nat) : Prop := Lc.Nodup ∧ (∀ q ∈ Lc, q.1 < 60) ∧ (∀ q ∈ Lc, ∀ k x, xok Lc nT (xld q.1 q.2 k x)) ∧ ∀ q ∈ Lc, 3 ≤ (xsh q.1).1 → ∀ j, j < (xsh q.1).2.2 → xok Lc nT (vr (xra q.1).1 ((xra q.1).2 q.2 j))
/-- nest mates' methods that are called: whose entry, which, what, the host -/
def xNST : List (String × Nat × MethodName × String) := [("ThreePoints$Ride", 49, ⟨"ThreePoints", "across", "(I)I"⟩, "ThreePoints"), ("ThreePoints$Sheet", 41, ⟨"ThreePoints", "isWithin", "(III)Z"⟩, "ThreePoints")]
/-- what lies outside the layout stays as it was -/
def xag (Lc : List (Nat × Nat)) (H0 H : HH) : Prop := ∀ k i, (k, i) ∉ Lc → H k i = H0 k i
theorem xag.rf {Lc : List (Nat × Nat)} {H : HH} : xag Lc H H := fun _ _ _ => rfl
theorem xag.tr {Lc : List (Nat × Nat)} {H0 H1 H2 : HH} (h : xag Lc H0 H1) (h2 : xag Lc H1 H2) : xag Lc H0 H2 := fun k i q => (h2 k i q).trans (h k i q)
theorem xag.row {Lc : List (Nat × Nat)} {H0 H : HH} {kd ix : Nat} {f : Nat → Int32} (h : xag Lc H0 H) (hm : (kd, ix) ∈ Lc) : xag Lc H0 (hrow H kd ix f) := by
  intro k i q
  show (if k = kd ∧ i = ix then f else H k i) = H0 k i
  rw [if_neg (fun z => q (by rw [z.1, z.2]; exact hm))]
  exact h k i q
theorem xag.hu {Lc : List (Nat × Nat)} {H0 H : HH} {kd ix j : Nat} {x : Int32} (h : xag Lc H0 H) (hm : (kd, ix) ∈ Lc) : xag Lc H0 (hu H kd ix j x) := by
  intro k i q
  funext c
  show (if k = kd ∧ i = ix ∧ c = j then x else H k i c) = H0 k i c
  rw [if_neg (fun z => q (by rw [z.1, z.2.1]; exact hm))]
  exact congrFun (h k i q) c
section GP
variable (l : Launch) (cid : Nat → ClassId) (D : va_G) (ad : Nat → Nat → Nat) (tx : List (List Int32)) (rf : List (String × Nat × String)) (Lc : List (Nat × Nat))
def xRefs (U : State) : Prop := (∀ i r, rf[i]? = some r → vk_R r.1 r.2.1 r.2.2 (ad 60 i) U) ∧ ∀ q ∈ xNST, va_Nw (.methodLinkNest q.1 q.2.1 q.2.2.1 q.2.2.2) U
def xC (p : Program) (c : Code) (meth : Method) (s : State) (m : MethodId) (args : Array Value) (R : Room) (A : Nat → Prop) (d : Nat) (own : String) (b : ByteArray) (nL : Nat) (ret : Option FieldType) : Prop :=
  p.tables.exec = Jvm.exec ∧ c.code = b ∧ c.maxLocals = nL ∧ meth.sig.returnType = ret ∧ s.vm.findClass own = some m.cls ∧ meth.locks = false ∧ (∀ w ∈ xtbl, w.before args s = true) ∧ R = xrm d ∧
  va_K D xcl (xtys cid) s ∧ xStat ad tx A s s.heap ∧ xRefs ad rf s ∧ (∀ q, s.heap.size ≤ q → A q) ∧ xclo Lc tx.length
def xrt (ret : Option FieldType) (v : AV) : Option Value := match ret with
  | none => none
  | some _ => some (cv ad v)
def xQ (ret : Option FieldType) (Q : AV → HH → Prop) (A : Nat → Prop) (H0 : HH) : Array Value → State → Outcome → State → Prop := fun _ st oc t =>
  ∃ v H', oc = .returned (xrt ad ret v) ∧ xok Lc tx.length v ∧ Q v H' ∧ va_P D xcl (xw cid ad Lc H') t.heap ∧ va_F A st t ∧ xag Lc H0 H'
def Gp (d : Nat) (own : String) (b : ByteArray) (nL : Nat) (ret : Option FieldType) (pc : Nat) (ls : List (Option AV)) (st : List AV) (H : HH) (Q : AV → HH → Prop) : Prop :=
  ∀ (H0 : HH), xag Lc H0 H → ∀ (p : Program) (e : Env) (R : Room) (s : State) (m : MethodId) (args : Array Value) (below : List Frame) (meth : Method) (c : Code) (Hc : Heap) (locs : List Loc) (lsC : Array Slot) (A : Nat → Prop),
    xC cid D ad tx rf Lc p c meth s m args R A d own b nL ret → xoks Lc tx.length ls st → va_P D xcl (xw cid ad Lc H) Hc → va_D A (xw cid ad Lc H) → va_S A s.heap Hc locs → lv_has lsC nL (lcv ad 0 ls) →
    W p l e R s m args below meth c Hc locs 0 0 (MQ below (xQ cid D ad tx Lc ret Q A H0) args s 0 0 A) (F0 m pc lsC (st.map (cv ad)))
end GP
section XW
variable {cid : Nat → ClassId} {D : va_G} {ad : Nat → Nat → Nat} {Lc : List (Nat × Nat)} {H : HH} {A : Nat → Prop} {Hc : Heap}
theorem xw_at {kd ix : Nat} (h : (kd, ix) ∈ Lc) : ∃ q0 : Nat, Lc[q0]? = some (kd, ix) ∧ (xw cid ad Lc H)[q0]? = some (ad kd ix, xcell cid ad kd ix (H kd ix)) := by
  obtain ⟨i, hi⟩ := List.mem_iff_getElem?.mp h
  exact ⟨i, hi, by simp [xw, hi]⟩
theorem xw_D {H' : HH} (h : va_D A (xw cid ad Lc H)) : va_D A (xw cid ad Lc H') := by
  refine ⟨fun i j p q hp hq e => ?_, fun k q hq => ?_⟩
  · simp only [xw, List.getElem?_map, Option.map_eq_some_iff] at hp hq
    obtain ⟨a, ha, rfl⟩ := hp
    obtain ⟨b, hb, rfl⟩ := hq
    exact h.1 i j (ad a.1 a.2, xcell cid ad a.1 a.2 (H a.1 a.2)) (ad b.1 b.2, xcell cid ad b.1 b.2 (H b.1 b.2)) (by simp only [xw, List.getElem?_map, ha, Option.map_some]) (by simp only [xw, List.getElem?_map, hb, Option.map_some]) e
  · simp only [xw, List.getElem?_map, Option.map_eq_some_iff] at hq
    obtain ⟨a, ha, rfl⟩ := hq
    exact h.2 k (ad a.1 a.2, xcell cid ad a.1 a.2 (H a.1 a.2)) (by simp only [xw, List.getElem?_map, ha, Option.map_some])
theorem xw_set {kd ix q0 : Nat} (hn : Lc.Nodup) (hq : Lc[q0]? = some (kd, ix)) (f : Nat → Int32) : (xw cid ad Lc H).set q0 (ad kd ix, xcell cid ad kd ix f) = xw cid ad Lc (hrow H kd ix f) := by
  apply List.ext_getElem?
  intro i
  by_cases hi : q0 = i
  · subst hi
    have hl : q0 < Lc.length := (List.getElem?_eq_some_iff.mp hq).1
    rw [List.getElem?_set_self (by simpa [xw] using hl)]
    simp [xw, hq, hrow]
  · rw [List.getElem?_set_ne hi]
    simp only [xw, List.getElem?_map]
    cases ha : Lc[i]? with
    | none => rfl
    | some a =>
      have hne : ¬ (a.1 = kd ∧ a.2 = ix) := by
        rintro ⟨h1, h2⟩
        have ea : a = (kd, ix) := by rw [← h1, ← h2]
        subst ea
        exact hi ((List.getElem?_inj (List.getElem?_eq_some_iff.mp hq).1 hn).mp (hq.trans ha.symm))
      simp [hrow, hne]
theorem hrow_upd (H : HH) (kd ix k : Nat) (x : Int32) : hrow H kd ix (upd (H kd ix) k x) = hu H kd ix k x := by
  funext a b c
  show (if a = kd ∧ b = ix then upd (H kd ix) k x else H a b) c = if a = kd ∧ b = ix ∧ c = k then x else H a b c
  by_cases h : a = kd ∧ b = ix
  · obtain ⟨rfl, rfl⟩ := h
    rw [if_pos ⟨rfl, rfl⟩]
    show (if c = k then x else H a b c) = _
    by_cases hc : c = k
    · rw [if_pos hc, if_pos ⟨rfl, rfl, hc⟩]
    · rw [if_neg hc, if_neg (fun q => hc q.2.2)]
  · rw [if_neg h, if_neg (fun q => h ⟨q.1, q.2.1⟩)]
end XW
end
section
/-! RULES: constants, locals, stack, arithmetic, branches. Printed by wip/gen/gen05.py. -/
section RUL
variable {l : Launch} {cid : Nat → ClassId} {D : va_G} {ad : Nat → Nat → Nat} {tx : List (List Int32)} {rf : List (String × Nat × String)} {Lc : List (Nat × Nat)} {d : Nat} {own : String} {b : ByteArray} {nL : Nat} {ret : Option FieldType} {pc : Nat} {ls : List (Option AV)} {st : List AV} {H : HH} {Q : AV → HH → Prop}
theorem g_iconst {n : Int} {v : Int32} (hd : decode b pc = .ok (.iconst n, 1)) (hv : Int32.ofInt n = v) (k : Gp l cid D ad tx rf Lc d own b nL ret (pc + 1) ls (vi v :: st) H Q) : Gp l cid D ad tx rf Lc d own b nL ret pc ls (st) H Q := by
  intro H0 h0 p e R s m args below meth c Hc locs lsC A hC ho hP hD hS hl
  exact lv_iconst hC.1 hC.2.1 hd hv (k H0 h0 p e R s m args below meth c Hc locs lsC A hC (ho.push trivial) hP hD hS hl)
theorem g_bipush {n : Int} {v : Int32} (hd : decode b pc = .ok (.bipush n, 2)) (hv : (Int8.ofInt n).toInt32 = v) (k : Gp l cid D ad tx rf Lc d own b nL ret (pc + 2) ls (vi v :: st) H Q) : Gp l cid D ad tx rf Lc d own b nL ret pc ls (st) H Q := by
  intro H0 h0 p e R s m args below meth c Hc locs lsC A hC ho hP hD hS hl
  exact lv_bipush hC.1 hC.2.1 hd hv (k H0 h0 p e R s m args below meth c Hc locs lsC A hC (ho.push trivial) hP hD hS hl)
theorem g_sipush {n : Int} {v : Int32} (hd : decode b pc = .ok (.sipush n, 3)) (hv : (Int16.ofInt n).toInt32 = v) (k : Gp l cid D ad tx rf Lc d own b nL ret (pc + 3) ls (vi v :: st) H Q) : Gp l cid D ad tx rf Lc d own b nL ret pc ls (st) H Q := by
  intro H0 h0 p e R s m args below meth c Hc locs lsC A hC ho hP hD hS hl
  exact lv_sipush hC.1 hC.2.1 hd hv (k H0 h0 p e R s m args below meth c Hc locs lsC A hC (ho.push trivial) hP hD hS hl)
theorem g_lconst {n : Fin 2} {v : Int64} (hd : decode b pc = .ok (.lconst n, 1)) (hv : Int64.ofNat (n : Nat) = v) (k : Gp l cid D ad tx rf Lc d own b nL ret (pc + 1) ls (vl v :: st) H Q) : Gp l cid D ad tx rf Lc d own b nL ret pc ls (st) H Q := by
  intro H0 h0 p e R s m args below meth c Hc locs lsC A hC ho hP hD hS hl
  exact lv_lconst hC.1 hC.2.1 hd hv (k H0 h0 p e R s m args below meth c Hc locs lsC A hC (ho.push trivial) hP hD hS hl)
theorem g_ldc {index : Nat} {v : Int32} (hd : decode b pc = .ok (.ldc index, 2)) (hm : Cond.constant own index v ∈ xtbl) (k : Gp l cid D ad tx rf Lc d own b nL ret (pc + 2) ls (vi v :: st) H Q) : Gp l cid D ad tx rf Lc d own b nL ret pc ls (st) H Q := by
  intro H0 h0 p e R s m args below meth c Hc locs lsC A hC ho hP hD hS hl
  exact lv_ldc hC.1 hC.2.1 hC.2.2.2.2.1 (hC.2.2.2.2.2.2.1 _ hm) hd (k H0 h0 p e R s m args below meth c Hc locs lsC A hC (ho.push trivial) hP hD hS hl)
theorem g_ldcw {index : Nat} {v : Int32} (hd : decode b pc = .ok (.ldc_w index, 3)) (hm : Cond.constant own index v ∈ xtbl) (k : Gp l cid D ad tx rf Lc d own b nL ret (pc + 3) ls (vi v :: st) H Q) : Gp l cid D ad tx rf Lc d own b nL ret pc ls (st) H Q := by
  intro H0 h0 p e R s m args below meth c Hc locs lsC A hC ho hP hD hS hl
  exact lv_ldcw hC.1 hC.2.1 hC.2.2.2.2.1 (hC.2.2.2.2.2.2.1 _ hm) hd (k H0 h0 p e R s m args below meth c Hc locs lsC A hC (ho.push trivial) hP hD hS hl)
theorem g_ldc2 {index : Nat} {v : Int64} (hd : decode b pc = .ok (.ldc2_w index, 3)) (hm : Cond.constantLong own index v ∈ xtbl) (k : Gp l cid D ad tx rf Lc d own b nL ret (pc + 3) ls (vl v :: st) H Q) : Gp l cid D ad tx rf Lc d own b nL ret pc ls (st) H Q := by
  intro H0 h0 p e R s m args below meth c Hc locs lsC A hC ho hP hD hS hl
  exact lv_ldc2 hC.1 hC.2.1 hC.2.2.2.2.1 (hC.2.2.2.2.2.2.1 _ hm) hd (k H0 h0 p e R s m args below meth c Hc locs lsC A hC (ho.push trivial) hP hD hS hl)
theorem g_null (hd : decode b pc = .ok (.aconst_null, 1)) (k : Gp l cid D ad tx rf Lc d own b nL ret (pc + 1) ls (vn :: st) H Q) : Gp l cid D ad tx rf Lc d own b nL ret pc ls (st) H Q := by
  intro H0 h0 p e R s m args below meth c Hc locs lsC A hC ho hP hD hS hl
  exact lv_null hC.1 hC.2.1 hd (k H0 h0 p e R s m args below meth c Hc locs lsC A hC (ho.push trivial) hP hD hS hl)
theorem lv_at1 {ls : List (Option AV)} {ad : Nat → Nat → Nat} {lsC : Array Slot} {nL i : Nat} {v : AV} (hl : lv_has lsC nL (lcv ad 0 ls)) (h : ls[i]? = some (some v)) : lsC[i]? = some (.val (cv ad v)) := hl.2.2 (i, cv ad v) (mem_lcv.mpr ⟨i, v, h, by rw [Nat.zero_add]⟩)
theorem g_iload_n {q : Fin 4} {i : Nat} {x : Int32} (hd : decode b pc = .ok (.iload_n q, 1)) (hi : (q : Nat) = i) (h : ls[i]? = some (some (vi x))) (k : Gp l cid D ad tx rf Lc d own b nL ret (pc + 1) ls (vi x :: st) H Q) : Gp l cid D ad tx rf Lc d own b nL ret pc ls (st) H Q := by
  intro H0 h0 p e R s m args below meth c Hc locs lsC A hC ho hP hD hS hl
  exact lv_iload_n hC.1 hC.2.1 hd hi (lv_at1 hl h) (k H0 h0 p e R s m args below meth c Hc locs lsC A hC (ho.push trivial) hP hD hS hl)
theorem g_iload {i : Nat} {x : Int32} (hd : decode b pc = .ok (.iload i, 2)) (h : ls[i]? = some (some (vi x))) (k : Gp l cid D ad tx rf Lc d own b nL ret (pc + 2) ls (vi x :: st) H Q) : Gp l cid D ad tx rf Lc d own b nL ret pc ls (st) H Q := by
  intro H0 h0 p e R s m args below meth c Hc locs lsC A hC ho hP hD hS hl
  exact lv_iload hC.1 hC.2.1 hd (lv_at1 hl h) (k H0 h0 p e R s m args below meth c Hc locs lsC A hC (ho.push trivial) hP hD hS hl)
theorem g_lload_n {q : Fin 4} {i : Nat} {x : Int64} (hd : decode b pc = .ok (.lload_n q, 1)) (hi : (q : Nat) = i) (h : ls[i]? = some (some (vl x))) (k : Gp l cid D ad tx rf Lc d own b nL ret (pc + 1) ls (vl x :: st) H Q) : Gp l cid D ad tx rf Lc d own b nL ret pc ls (st) H Q := by
  intro H0 h0 p e R s m args below meth c Hc locs lsC A hC ho hP hD hS hl
  exact lv_lload_n hC.1 hC.2.1 hd hi (lv_at1 hl h) (k H0 h0 p e R s m args below meth c Hc locs lsC A hC (ho.push trivial) hP hD hS hl)
theorem g_lload {i : Nat} {x : Int64} (hd : decode b pc = .ok (.lload i, 2)) (h : ls[i]? = some (some (vl x))) (k : Gp l cid D ad tx rf Lc d own b nL ret (pc + 2) ls (vl x :: st) H Q) : Gp l cid D ad tx rf Lc d own b nL ret pc ls (st) H Q := by
  intro H0 h0 p e R s m args below meth c Hc locs lsC A hC ho hP hD hS hl
  exact lv_lload hC.1 hC.2.1 hd (lv_at1 hl h) (k H0 h0 p e R s m args below meth c Hc locs lsC A hC (ho.push trivial) hP hD hS hl)
theorem g_aload_n {q : Fin 4} {i : Nat} {kd ix : Nat} (hd : decode b pc = .ok (.aload_n q, 1)) (hi : (q : Nat) = i) (h : ls[i]? = some (some (vr kd ix))) (k : Gp l cid D ad tx rf Lc d own b nL ret (pc + 1) ls (vr kd ix :: st) H Q) : Gp l cid D ad tx rf Lc d own b nL ret pc ls (st) H Q := by
  intro H0 h0 p e R s m args below meth c Hc locs lsC A hC ho hP hD hS hl
  exact lv_aload_n hC.1 hC.2.1 hd hi (lv_at1 hl h) (k H0 h0 p e R s m args below meth c Hc locs lsC A hC (ho.push (ho.loc h)) hP hD hS hl)
theorem g_aload {i : Nat} {kd ix : Nat} (hd : decode b pc = .ok (.aload i, 2)) (h : ls[i]? = some (some (vr kd ix))) (k : Gp l cid D ad tx rf Lc d own b nL ret (pc + 2) ls (vr kd ix :: st) H Q) : Gp l cid D ad tx rf Lc d own b nL ret pc ls (st) H Q := by
  intro H0 h0 p e R s m args below meth c Hc locs lsC A hC ho hP hD hS hl
  exact lv_aload hC.1 hC.2.1 hd (lv_at1 hl h) (k H0 h0 p e R s m args below meth c Hc locs lsC A hC (ho.push (ho.loc h)) hP hD hS hl)
theorem g_istore_n {q : Fin 4} {i : Nat} {x : Int32} {ls2 : List (Option AV)} (hd : decode b pc = .ok (.istore_n q, 1)) (hi : (q : Nat) = i) (hn : i < nL) (hb : xnl ls i = true) (e : (ls.set i (some (vi x))) = ls2) (k : Gp l cid D ad tx rf Lc d own b nL ret (pc + 1) ls2 st H Q) : Gp l cid D ad tx rf Lc d own b nL ret pc ls (vi x :: st) H Q := by
  subst e
  intro H0 h0 p e R s m args below meth c Hc locs lsC A hC ho hP hD hS hl
  exact lv_istore_n hC.1 hC.2.1 hd hi hl hn rfl (fun lsC2 hl2 => k H0 h0 p e R s m args below meth c Hc locs lsC2 A hC (ho.pop.set ho.top) hP hD hS (lv_mono hl2 (lcv_store hb)))
theorem g_istore {i : Nat} {x : Int32} {ls2 : List (Option AV)} (hd : decode b pc = .ok (.istore i, 2)) (hn : i < nL) (hb : xnl ls i = true) (e : (ls.set i (some (vi x))) = ls2) (k : Gp l cid D ad tx rf Lc d own b nL ret (pc + 2) ls2 st H Q) : Gp l cid D ad tx rf Lc d own b nL ret pc ls (vi x :: st) H Q := by
  subst e
  intro H0 h0 p e R s m args below meth c Hc locs lsC A hC ho hP hD hS hl
  exact lv_istore hC.1 hC.2.1 hd hl hn rfl (fun lsC2 hl2 => k H0 h0 p e R s m args below meth c Hc locs lsC2 A hC (ho.pop.set ho.top) hP hD hS (lv_mono hl2 (lcv_store hb)))
theorem g_lstore_n {q : Fin 4} {i : Nat} {x : Int64} {ls2 : List (Option AV)} (hd : decode b pc = .ok (.lstore_n q, 1)) (hi : (q : Nat) = i) (hn : i + 1 < nL) (hb : xnl ls i = true) (e : ((ls.set i (some (vl x))).set (i + 1) none) = ls2) (k : Gp l cid D ad tx rf Lc d own b nL ret (pc + 1) ls2 st H Q) : Gp l cid D ad tx rf Lc d own b nL ret pc ls (vl x :: st) H Q := by
  subst e
  intro H0 h0 p e R s m args below meth c Hc locs lsC A hC ho hP hD hS hl
  exact lv_lstore_n hC.1 hC.2.1 hd hi hl hn rfl (fun lsC2 hl2 => k H0 h0 p e R s m args below meth c Hc locs lsC2 A hC ((ho.pop.set ho.top).unset) hP hD hS (lv_mono hl2 (lcv_store2 hb)))
theorem g_lstore {i : Nat} {x : Int64} {ls2 : List (Option AV)} (hd : decode b pc = .ok (.lstore i, 2)) (hn : i + 1 < nL) (hb : xnl ls i = true) (e : ((ls.set i (some (vl x))).set (i + 1) none) = ls2) (k : Gp l cid D ad tx rf Lc d own b nL ret (pc + 2) ls2 st H Q) : Gp l cid D ad tx rf Lc d own b nL ret pc ls (vl x :: st) H Q := by
  subst e
  intro H0 h0 p e R s m args below meth c Hc locs lsC A hC ho hP hD hS hl
  exact lv_lstore hC.1 hC.2.1 hd hl hn rfl (fun lsC2 hl2 => k H0 h0 p e R s m args below meth c Hc locs lsC2 A hC ((ho.pop.set ho.top).unset) hP hD hS (lv_mono hl2 (lcv_store2 hb)))
theorem g_astore_n {q : Fin 4} {i : Nat} {kd ix : Nat} {ls2 : List (Option AV)} (hd : decode b pc = .ok (.astore_n q, 1)) (hi : (q : Nat) = i) (hn : i < nL) (hb : xnl ls i = true) (e : (ls.set i (some (vr kd ix))) = ls2) (k : Gp l cid D ad tx rf Lc d own b nL ret (pc + 1) ls2 st H Q) : Gp l cid D ad tx rf Lc d own b nL ret pc ls (vr kd ix :: st) H Q := by
  subst e
  intro H0 h0 p e R s m args below meth c Hc locs lsC A hC ho hP hD hS hl
  exact lv_astore_n hC.1 hC.2.1 hd hi hl hn rfl (fun lsC2 hl2 => k H0 h0 p e R s m args below meth c Hc locs lsC2 A hC (ho.pop.set ho.top) hP hD hS (lv_mono hl2 (lcv_store hb)))
theorem g_astore {i : Nat} {kd ix : Nat} {ls2 : List (Option AV)} (hd : decode b pc = .ok (.astore i, 2)) (hn : i < nL) (hb : xnl ls i = true) (e : (ls.set i (some (vr kd ix))) = ls2) (k : Gp l cid D ad tx rf Lc d own b nL ret (pc + 2) ls2 st H Q) : Gp l cid D ad tx rf Lc d own b nL ret pc ls (vr kd ix :: st) H Q := by
  subst e
  intro H0 h0 p e R s m args below meth c Hc locs lsC A hC ho hP hD hS hl
  exact lv_astore hC.1 hC.2.1 hd hl hn rfl (fun lsC2 hl2 => k H0 h0 p e R s m args below meth c Hc locs lsC2 A hC (ho.pop.set ho.top) hP hD hS (lv_mono hl2 (lcv_store hb)))
theorem g_iinc {i : Nat} {n : Int} {x v : Int32} {ls2 : List (Option AV)} (hd : decode b pc = .ok (.iinc i n, 3)) (h : ls[i]? = some (some (vi x))) (hv : x + Int32.ofInt n = v) (hn : i < nL) (hb : xnl ls i = true) (e : ls.set i (some (vi v)) = ls2) (k : Gp l cid D ad tx rf Lc d own b nL ret (pc + 3) ls2 st H Q) : Gp l cid D ad tx rf Lc d own b nL ret pc ls st H Q := by
  subst e
  intro H0 h0 p e R s m args below meth c Hc locs lsC A hC ho hP hD hS hl
  obtain ⟨k0, hk0⟩ := List.mem_iff_getElem?.mp (mem_lcv (ad := ad) (j := 0) (q := (i, Value.int x)) |>.mpr ⟨i, vi x, h, by rw [Nat.zero_add]; rfl⟩)
  exact lv_iinc hC.1 hC.2.1 hd hl hk0 hv hn rfl (fun lsC2 hl2 => k H0 h0 p e R s m args below meth c Hc locs lsC2 A hC (ho.set trivial) hP hD hS (lv_mono hl2 (lcv_store hb)))
theorem g_iadd {x y : Int32} (hd : decode b pc = .ok (.iadd, 1)) (k : Gp l cid D ad tx rf Lc d own b nL ret (pc + 1) ls (vi (x + y) :: st) H Q) : Gp l cid D ad tx rf Lc d own b nL ret pc ls (vi y :: vi x :: st) H Q := by
  intro H0 h0 p e R s m args below meth c Hc locs lsC A hC ho hP hD hS hl
  exact lv_iadd hC.1 hC.2.1 hd (k H0 h0 p e R s m args below meth c Hc locs lsC A hC (ho.pop.pop.push trivial) hP hD hS hl)
theorem g_isub {x y : Int32} (hd : decode b pc = .ok (.isub, 1)) (k : Gp l cid D ad tx rf Lc d own b nL ret (pc + 1) ls (vi (x - y) :: st) H Q) : Gp l cid D ad tx rf Lc d own b nL ret pc ls (vi y :: vi x :: st) H Q := by
  intro H0 h0 p e R s m args below meth c Hc locs lsC A hC ho hP hD hS hl
  exact lv_isub hC.1 hC.2.1 hd (k H0 h0 p e R s m args below meth c Hc locs lsC A hC (ho.pop.pop.push trivial) hP hD hS hl)
theorem g_imul {x y : Int32} (hd : decode b pc = .ok (.imul, 1)) (k : Gp l cid D ad tx rf Lc d own b nL ret (pc + 1) ls (vi (x * y) :: st) H Q) : Gp l cid D ad tx rf Lc d own b nL ret pc ls (vi y :: vi x :: st) H Q := by
  intro H0 h0 p e R s m args below meth c Hc locs lsC A hC ho hP hD hS hl
  exact lv_imul hC.1 hC.2.1 hd (k H0 h0 p e R s m args below meth c Hc locs lsC A hC (ho.pop.pop.push trivial) hP hD hS hl)
theorem g_iand {x y : Int32} (hd : decode b pc = .ok (.iand, 1)) (k : Gp l cid D ad tx rf Lc d own b nL ret (pc + 1) ls (vi (x &&& y) :: st) H Q) : Gp l cid D ad tx rf Lc d own b nL ret pc ls (vi y :: vi x :: st) H Q := by
  intro H0 h0 p e R s m args below meth c Hc locs lsC A hC ho hP hD hS hl
  exact lv_iand hC.1 hC.2.1 hd (k H0 h0 p e R s m args below meth c Hc locs lsC A hC (ho.pop.pop.push trivial) hP hD hS hl)
theorem g_ior {x y : Int32} (hd : decode b pc = .ok (.ior, 1)) (k : Gp l cid D ad tx rf Lc d own b nL ret (pc + 1) ls (vi (x ||| y) :: st) H Q) : Gp l cid D ad tx rf Lc d own b nL ret pc ls (vi y :: vi x :: st) H Q := by
  intro H0 h0 p e R s m args below meth c Hc locs lsC A hC ho hP hD hS hl
  exact lv_ior hC.1 hC.2.1 hd (k H0 h0 p e R s m args below meth c Hc locs lsC A hC (ho.pop.pop.push trivial) hP hD hS hl)
theorem g_ishl {x y : Int32} (hd : decode b pc = .ok (.ishl, 1)) (k : Gp l cid D ad tx rf Lc d own b nL ret (pc + 1) ls (vi (x <<< (y &&& 31)) :: st) H Q) : Gp l cid D ad tx rf Lc d own b nL ret pc ls (vi y :: vi x :: st) H Q := by
  intro H0 h0 p e R s m args below meth c Hc locs lsC A hC ho hP hD hS hl
  exact lv_ishl hC.1 hC.2.1 hd (k H0 h0 p e R s m args below meth c Hc locs lsC A hC (ho.pop.pop.push trivial) hP hD hS hl)
theorem g_ishr {x y : Int32} (hd : decode b pc = .ok (.ishr, 1)) (k : Gp l cid D ad tx rf Lc d own b nL ret (pc + 1) ls (vi (x >>> (y &&& 31)) :: st) H Q) : Gp l cid D ad tx rf Lc d own b nL ret pc ls (vi y :: vi x :: st) H Q := by
  intro H0 h0 p e R s m args below meth c Hc locs lsC A hC ho hP hD hS hl
  exact lv_ishr hC.1 hC.2.1 hd (k H0 h0 p e R s m args below meth c Hc locs lsC A hC (ho.pop.pop.push trivial) hP hD hS hl)
theorem g_idiv {x y : Int32} (hd : decode b pc = .ok (.idiv, 1)) (hne : ¬ y = 0) (k : Gp l cid D ad tx rf Lc d own b nL ret (pc + 1) ls (vi (x / y) :: st) H Q) : Gp l cid D ad tx rf Lc d own b nL ret pc ls (vi y :: vi x :: st) H Q := by
  intro H0 h0 p e R s m args below meth c Hc locs lsC A hC ho hP hD hS hl
  exact lv_idiv hC.1 hC.2.1 hd hne (k H0 h0 p e R s m args below meth c Hc locs lsC A hC (ho.pop.pop.push trivial) hP hD hS hl)
theorem g_irem {x y : Int32} (hd : decode b pc = .ok (.irem, 1)) (hne : ¬ y = 0) (k : Gp l cid D ad tx rf Lc d own b nL ret (pc + 1) ls (vi (x - x / y * y) :: st) H Q) : Gp l cid D ad tx rf Lc d own b nL ret pc ls (vi y :: vi x :: st) H Q := by
  intro H0 h0 p e R s m args below meth c Hc locs lsC A hC ho hP hD hS hl
  exact lv_irem hC.1 hC.2.1 hd hne (k H0 h0 p e R s m args below meth c Hc locs lsC A hC (ho.pop.pop.push trivial) hP hD hS hl)
theorem g_iushr {x y v : Int32} (hd : decode b pc = .ok (.iushr, 1)) (hv : (x.toUInt32 >>> (y.toUInt32 &&& Int32.toUInt32 31)).toInt32 = v) (k : Gp l cid D ad tx rf Lc d own b nL ret (pc + 1) ls (vi v :: st) H Q) : Gp l cid D ad tx rf Lc d own b nL ret pc ls (vi y :: vi x :: st) H Q := by
  intro H0 h0 p e R s m args below meth c Hc locs lsC A hC ho hP hD hS hl
  exact lv_iushr hC.1 hC.2.1 hd hv (k H0 h0 p e R s m args below meth c Hc locs lsC A hC (ho.pop.pop.push trivial) hP hD hS hl)
theorem g_ineg {x : Int32} (hd : decode b pc = .ok (.ineg, 1)) (k : Gp l cid D ad tx rf Lc d own b nL ret (pc + 1) ls (vi (-x) :: st) H Q) : Gp l cid D ad tx rf Lc d own b nL ret pc ls (vi x :: st) H Q := by
  intro H0 h0 p e R s m args below meth c Hc locs lsC A hC ho hP hD hS hl
  exact lv_ineg hC.1 hC.2.1 hd (k H0 h0 p e R s m args below meth c Hc locs lsC A hC (ho.pop.push trivial) hP hD hS hl)
theorem g_i2b {x : Int32} (hd : decode b pc = .ok (.i2b, 1)) (k : Gp l cid D ad tx rf Lc d own b nL ret (pc + 1) ls (vi (x.toInt8.toInt32) :: st) H Q) : Gp l cid D ad tx rf Lc d own b nL ret pc ls (vi x :: st) H Q := by
  intro H0 h0 p e R s m args below meth c Hc locs lsC A hC ho hP hD hS hl
  exact lv_i2b hC.1 hC.2.1 hd rfl (k H0 h0 p e R s m args below meth c Hc locs lsC A hC (ho.pop.push trivial) hP hD hS hl)
theorem g_i2s {x : Int32} (hd : decode b pc = .ok (.i2s, 1)) (k : Gp l cid D ad tx rf Lc d own b nL ret (pc + 1) ls (vi (x.toInt16.toInt32) :: st) H Q) : Gp l cid D ad tx rf Lc d own b nL ret pc ls (vi x :: st) H Q := by
  intro H0 h0 p e R s m args below meth c Hc locs lsC A hC ho hP hD hS hl
  exact lv_i2s hC.1 hC.2.1 hd rfl (k H0 h0 p e R s m args below meth c Hc locs lsC A hC (ho.pop.push trivial) hP hD hS hl)
theorem g_i2c {x : Int32} (hd : decode b pc = .ok (.i2c, 1)) (k : Gp l cid D ad tx rf Lc d own b nL ret (pc + 1) ls (vi ((x.toUInt32 % 65536).toInt32) :: st) H Q) : Gp l cid D ad tx rf Lc d own b nL ret pc ls (vi x :: st) H Q := by
  intro H0 h0 p e R s m args below meth c Hc locs lsC A hC ho hP hD hS hl
  exact lv_i2c hC.1 hC.2.1 hd rfl (k H0 h0 p e R s m args below meth c Hc locs lsC A hC (ho.pop.push trivial) hP hD hS hl)
theorem g_i2l {x : Int32} (hd : decode b pc = .ok (.i2l, 1)) (k : Gp l cid D ad tx rf Lc d own b nL ret (pc + 1) ls (vl x.toInt64 :: st) H Q) : Gp l cid D ad tx rf Lc d own b nL ret pc ls (vi x :: st) H Q := by
  intro H0 h0 p e R s m args below meth c Hc locs lsC A hC ho hP hD hS hl
  exact lv_i2l hC.1 hC.2.1 hd rfl (k H0 h0 p e R s m args below meth c Hc locs lsC A hC (ho.pop.push trivial) hP hD hS hl)
theorem g_l2i {x : Int64} (hd : decode b pc = .ok (.l2i, 1)) (k : Gp l cid D ad tx rf Lc d own b nL ret (pc + 1) ls (vi x.toInt32 :: st) H Q) : Gp l cid D ad tx rf Lc d own b nL ret pc ls (vl x :: st) H Q := by
  intro H0 h0 p e R s m args below meth c Hc locs lsC A hC ho hP hD hS hl
  exact lv_l2i hC.1 hC.2.1 hd rfl (k H0 h0 p e R s m args below meth c Hc locs lsC A hC (ho.pop.push trivial) hP hD hS hl)
theorem g_ladd {x y : Int64} (hd : decode b pc = .ok (.ladd, 1)) (k : Gp l cid D ad tx rf Lc d own b nL ret (pc + 1) ls (vl (x + y) :: st) H Q) : Gp l cid D ad tx rf Lc d own b nL ret pc ls (vl y :: vl x :: st) H Q := by
  intro H0 h0 p e R s m args below meth c Hc locs lsC A hC ho hP hD hS hl
  exact lv_ladd hC.1 hC.2.1 hd (k H0 h0 p e R s m args below meth c Hc locs lsC A hC (ho.pop.pop.push trivial) hP hD hS hl)
theorem g_lmul {x y : Int64} (hd : decode b pc = .ok (.lmul, 1)) (k : Gp l cid D ad tx rf Lc d own b nL ret (pc + 1) ls (vl (x * y) :: st) H Q) : Gp l cid D ad tx rf Lc d own b nL ret pc ls (vl y :: vl x :: st) H Q := by
  intro H0 h0 p e R s m args below meth c Hc locs lsC A hC ho hP hD hS hl
  exact lv_lmul hC.1 hC.2.1 hd (k H0 h0 p e R s m args below meth c Hc locs lsC A hC (ho.pop.pop.push trivial) hP hD hS hl)
theorem g_ldiv {x y : Int64} (hd : decode b pc = .ok (.ldiv, 1)) (hne : ¬ y = 0) (k : Gp l cid D ad tx rf Lc d own b nL ret (pc + 1) ls (vl (x / y) :: st) H Q) : Gp l cid D ad tx rf Lc d own b nL ret pc ls (vl y :: vl x :: st) H Q := by
  intro H0 h0 p e R s m args below meth c Hc locs lsC A hC ho hP hD hS hl
  exact lv_ldiv hC.1 hC.2.1 hd hne (k H0 h0 p e R s m args below meth c Hc locs lsC A hC (ho.pop.pop.push trivial) hP hD hS hl)
theorem g_lrem {x y : Int64} (hd : decode b pc = .ok (.lrem, 1)) (hne : ¬ y = 0) (k : Gp l cid D ad tx rf Lc d own b nL ret (pc + 1) ls (vl (x - x / y * y) :: st) H Q) : Gp l cid D ad tx rf Lc d own b nL ret pc ls (vl y :: vl x :: st) H Q := by
  intro H0 h0 p e R s m args below meth c Hc locs lsC A hC ho hP hD hS hl
  exact lv_lrem hC.1 hC.2.1 hd hne (k H0 h0 p e R s m args below meth c Hc locs lsC A hC (ho.pop.pop.push trivial) hP hD hS hl)
theorem g_lcmp {x y : Int64} (hd : decode b pc = .ok (.lcmp, 1)) (k : Gp l cid D ad tx rf Lc d own b nL ret (pc + 1) ls (vi (lg_cmp x y) :: st) H Q) : Gp l cid D ad tx rf Lc d own b nL ret pc ls (vl y :: vl x :: st) H Q := by
  intro H0 h0 p e R s m args below meth c Hc locs lsC A hC ho hP hD hS hl
  exact W.lcmp hC.1 hC.2.1 hd (k H0 h0 p e R s m args below meth c Hc locs lsC A hC (ho.pop.pop.push trivial) hP hD hS hl)
theorem g_dup {v : AV} (hd : decode b pc = .ok (.dup, 1)) (hv : (cv ad v).category = 1) (k : Gp l cid D ad tx rf Lc d own b nL ret (pc + 1) ls (v :: v :: st) H Q) : Gp l cid D ad tx rf Lc d own b nL ret pc ls (v :: st) H Q := by
  intro H0 h0 p e R s m args below meth c Hc locs lsC A hC ho hP hD hS hl
  exact lv_dup hC.1 hC.2.1 hd hv (k H0 h0 p e R s m args below meth c Hc locs lsC A hC (ho.push ho.top) hP hD hS hl)
theorem g_pop {v : AV} (hd : decode b pc = .ok (.pop, 1)) (hv : (cv ad v).category = 1) (k : Gp l cid D ad tx rf Lc d own b nL ret (pc + 1) ls (st) H Q) : Gp l cid D ad tx rf Lc d own b nL ret pc ls (v :: st) H Q := by
  intro H0 h0 p e R s m args below meth c Hc locs lsC A hC ho hP hD hS hl
  exact lv_pop hC.1 hC.2.1 hd hv (k H0 h0 p e R s m args below meth c Hc locs lsC A hC (ho.pop) hP hD hS hl)
theorem g_if_eq {x : Int32} {off : Int} {tgt : Nat} (hd : decode b pc = .ok (.ifCond .eq off, 3)) (ht : (pc : Int) + off = (tgt : Int)) (kt : x = 0 → Gp l cid D ad tx rf Lc d own b nL ret tgt ls st H Q) (kf : ¬ x = 0 → Gp l cid D ad tx rf Lc d own b nL ret (pc + 3) ls st H Q) : Gp l cid D ad tx rf Lc d own b nL ret pc ls (vi x :: st) H Q := by
  intro H0 h0 p e R s m args below meth c Hc locs lsC A hC ho hP hD hS hl
  exact lv_if_eq hC.1 hC.2.1 hd ht (fun h => kt h H0 h0 p e R s m args below meth c Hc locs lsC A hC ho.pop hP hD hS hl) (fun h => kf h H0 h0 p e R s m args below meth c Hc locs lsC A hC ho.pop hP hD hS hl)
theorem g_icmp_eq {x y : Int32} {off : Int} {tgt : Nat} (hd : decode b pc = .ok (.if_icmp .eq off, 3)) (ht : (pc : Int) + off = (tgt : Int)) (kt : x = y → Gp l cid D ad tx rf Lc d own b nL ret tgt ls st H Q) (kf : ¬ x = y → Gp l cid D ad tx rf Lc d own b nL ret (pc + 3) ls st H Q) : Gp l cid D ad tx rf Lc d own b nL ret pc ls (vi y :: vi x :: st) H Q := by
  intro H0 h0 p e R s m args below meth c Hc locs lsC A hC ho hP hD hS hl
  exact lv_icmp_eq hC.1 hC.2.1 hd ht (fun h => kt h H0 h0 p e R s m args below meth c Hc locs lsC A hC ho.pop.pop hP hD hS hl) (fun h => kf h H0 h0 p e R s m args below meth c Hc locs lsC A hC ho.pop.pop hP hD hS hl)
theorem g_if_ne {x : Int32} {off : Int} {tgt : Nat} (hd : decode b pc = .ok (.ifCond .ne off, 3)) (ht : (pc : Int) + off = (tgt : Int)) (kt : ¬ x = 0 → Gp l cid D ad tx rf Lc d own b nL ret tgt ls st H Q) (kf : x = 0 → Gp l cid D ad tx rf Lc d own b nL ret (pc + 3) ls st H Q) : Gp l cid D ad tx rf Lc d own b nL ret pc ls (vi x :: st) H Q := by
  intro H0 h0 p e R s m args below meth c Hc locs lsC A hC ho hP hD hS hl
  exact lv_if_ne hC.1 hC.2.1 hd ht (fun h => kt h H0 h0 p e R s m args below meth c Hc locs lsC A hC ho.pop hP hD hS hl) (fun h => kf h H0 h0 p e R s m args below meth c Hc locs lsC A hC ho.pop hP hD hS hl)
theorem g_icmp_ne {x y : Int32} {off : Int} {tgt : Nat} (hd : decode b pc = .ok (.if_icmp .ne off, 3)) (ht : (pc : Int) + off = (tgt : Int)) (kt : ¬ x = y → Gp l cid D ad tx rf Lc d own b nL ret tgt ls st H Q) (kf : x = y → Gp l cid D ad tx rf Lc d own b nL ret (pc + 3) ls st H Q) : Gp l cid D ad tx rf Lc d own b nL ret pc ls (vi y :: vi x :: st) H Q := by
  intro H0 h0 p e R s m args below meth c Hc locs lsC A hC ho hP hD hS hl
  exact lv_icmp_ne hC.1 hC.2.1 hd ht (fun h => kt h H0 h0 p e R s m args below meth c Hc locs lsC A hC ho.pop.pop hP hD hS hl) (fun h => kf h H0 h0 p e R s m args below meth c Hc locs lsC A hC ho.pop.pop hP hD hS hl)
theorem g_if_lt {x : Int32} {off : Int} {tgt : Nat} (hd : decode b pc = .ok (.ifCond .lt off, 3)) (ht : (pc : Int) + off = (tgt : Int)) (kt : x < 0 → Gp l cid D ad tx rf Lc d own b nL ret tgt ls st H Q) (kf : ¬ x < 0 → Gp l cid D ad tx rf Lc d own b nL ret (pc + 3) ls st H Q) : Gp l cid D ad tx rf Lc d own b nL ret pc ls (vi x :: st) H Q := by
  intro H0 h0 p e R s m args below meth c Hc locs lsC A hC ho hP hD hS hl
  exact lv_if_lt hC.1 hC.2.1 hd ht (fun h => kt h H0 h0 p e R s m args below meth c Hc locs lsC A hC ho.pop hP hD hS hl) (fun h => kf h H0 h0 p e R s m args below meth c Hc locs lsC A hC ho.pop hP hD hS hl)
theorem g_icmp_lt {x y : Int32} {off : Int} {tgt : Nat} (hd : decode b pc = .ok (.if_icmp .lt off, 3)) (ht : (pc : Int) + off = (tgt : Int)) (kt : x < y → Gp l cid D ad tx rf Lc d own b nL ret tgt ls st H Q) (kf : ¬ x < y → Gp l cid D ad tx rf Lc d own b nL ret (pc + 3) ls st H Q) : Gp l cid D ad tx rf Lc d own b nL ret pc ls (vi y :: vi x :: st) H Q := by
  intro H0 h0 p e R s m args below meth c Hc locs lsC A hC ho hP hD hS hl
  exact lv_icmp_lt hC.1 hC.2.1 hd ht (fun h => kt h H0 h0 p e R s m args below meth c Hc locs lsC A hC ho.pop.pop hP hD hS hl) (fun h => kf h H0 h0 p e R s m args below meth c Hc locs lsC A hC ho.pop.pop hP hD hS hl)
theorem g_if_ge {x : Int32} {off : Int} {tgt : Nat} (hd : decode b pc = .ok (.ifCond .ge off, 3)) (ht : (pc : Int) + off = (tgt : Int)) (kt : 0 ≤ x → Gp l cid D ad tx rf Lc d own b nL ret tgt ls st H Q) (kf : ¬ 0 ≤ x → Gp l cid D ad tx rf Lc d own b nL ret (pc + 3) ls st H Q) : Gp l cid D ad tx rf Lc d own b nL ret pc ls (vi x :: st) H Q := by
  intro H0 h0 p e R s m args below meth c Hc locs lsC A hC ho hP hD hS hl
  exact lv_if_ge hC.1 hC.2.1 hd ht (fun h => kt h H0 h0 p e R s m args below meth c Hc locs lsC A hC ho.pop hP hD hS hl) (fun h => kf h H0 h0 p e R s m args below meth c Hc locs lsC A hC ho.pop hP hD hS hl)
theorem g_icmp_ge {x y : Int32} {off : Int} {tgt : Nat} (hd : decode b pc = .ok (.if_icmp .ge off, 3)) (ht : (pc : Int) + off = (tgt : Int)) (kt : y ≤ x → Gp l cid D ad tx rf Lc d own b nL ret tgt ls st H Q) (kf : ¬ y ≤ x → Gp l cid D ad tx rf Lc d own b nL ret (pc + 3) ls st H Q) : Gp l cid D ad tx rf Lc d own b nL ret pc ls (vi y :: vi x :: st) H Q := by
  intro H0 h0 p e R s m args below meth c Hc locs lsC A hC ho hP hD hS hl
  exact lv_icmp_ge hC.1 hC.2.1 hd ht (fun h => kt h H0 h0 p e R s m args below meth c Hc locs lsC A hC ho.pop.pop hP hD hS hl) (fun h => kf h H0 h0 p e R s m args below meth c Hc locs lsC A hC ho.pop.pop hP hD hS hl)
theorem g_if_gt {x : Int32} {off : Int} {tgt : Nat} (hd : decode b pc = .ok (.ifCond .gt off, 3)) (ht : (pc : Int) + off = (tgt : Int)) (kt : 0 < x → Gp l cid D ad tx rf Lc d own b nL ret tgt ls st H Q) (kf : ¬ 0 < x → Gp l cid D ad tx rf Lc d own b nL ret (pc + 3) ls st H Q) : Gp l cid D ad tx rf Lc d own b nL ret pc ls (vi x :: st) H Q := by
  intro H0 h0 p e R s m args below meth c Hc locs lsC A hC ho hP hD hS hl
  exact lv_if_gt hC.1 hC.2.1 hd ht (fun h => kt h H0 h0 p e R s m args below meth c Hc locs lsC A hC ho.pop hP hD hS hl) (fun h => kf h H0 h0 p e R s m args below meth c Hc locs lsC A hC ho.pop hP hD hS hl)
theorem g_icmp_gt {x y : Int32} {off : Int} {tgt : Nat} (hd : decode b pc = .ok (.if_icmp .gt off, 3)) (ht : (pc : Int) + off = (tgt : Int)) (kt : y < x → Gp l cid D ad tx rf Lc d own b nL ret tgt ls st H Q) (kf : ¬ y < x → Gp l cid D ad tx rf Lc d own b nL ret (pc + 3) ls st H Q) : Gp l cid D ad tx rf Lc d own b nL ret pc ls (vi y :: vi x :: st) H Q := by
  intro H0 h0 p e R s m args below meth c Hc locs lsC A hC ho hP hD hS hl
  exact lv_icmp_gt hC.1 hC.2.1 hd ht (fun h => kt h H0 h0 p e R s m args below meth c Hc locs lsC A hC ho.pop.pop hP hD hS hl) (fun h => kf h H0 h0 p e R s m args below meth c Hc locs lsC A hC ho.pop.pop hP hD hS hl)
theorem g_if_le {x : Int32} {off : Int} {tgt : Nat} (hd : decode b pc = .ok (.ifCond .le off, 3)) (ht : (pc : Int) + off = (tgt : Int)) (kt : x ≤ 0 → Gp l cid D ad tx rf Lc d own b nL ret tgt ls st H Q) (kf : ¬ x ≤ 0 → Gp l cid D ad tx rf Lc d own b nL ret (pc + 3) ls st H Q) : Gp l cid D ad tx rf Lc d own b nL ret pc ls (vi x :: st) H Q := by
  intro H0 h0 p e R s m args below meth c Hc locs lsC A hC ho hP hD hS hl
  exact lv_if_le hC.1 hC.2.1 hd ht (fun h => kt h H0 h0 p e R s m args below meth c Hc locs lsC A hC ho.pop hP hD hS hl) (fun h => kf h H0 h0 p e R s m args below meth c Hc locs lsC A hC ho.pop hP hD hS hl)
theorem g_icmp_le {x y : Int32} {off : Int} {tgt : Nat} (hd : decode b pc = .ok (.if_icmp .le off, 3)) (ht : (pc : Int) + off = (tgt : Int)) (kt : x ≤ y → Gp l cid D ad tx rf Lc d own b nL ret tgt ls st H Q) (kf : ¬ x ≤ y → Gp l cid D ad tx rf Lc d own b nL ret (pc + 3) ls st H Q) : Gp l cid D ad tx rf Lc d own b nL ret pc ls (vi y :: vi x :: st) H Q := by
  intro H0 h0 p e R s m args below meth c Hc locs lsC A hC ho hP hD hS hl
  exact lv_icmp_le hC.1 hC.2.1 hd ht (fun h => kt h H0 h0 p e R s m args below meth c Hc locs lsC A hC ho.pop.pop hP hD hS hl) (fun h => kf h H0 h0 p e R s m args below meth c Hc locs lsC A hC ho.pop.pop hP hD hS hl)
theorem g_goto {off : Int} {tgt : Nat} (hd : decode b pc = .ok (.goto off, 3)) (ht : (pc : Int) + off = (tgt : Int)) (k : Gp l cid D ad tx rf Lc d own b nL ret tgt ls st H Q) : Gp l cid D ad tx rf Lc d own b nL ret pc ls st H Q := by
  intro H0 h0 p e R s m args below meth c Hc locs lsC A hC ho hP hD hS hl
  exact lv_goto hC.1 hC.2.1 hd ht (k H0 h0 p e R s m args below meth c Hc locs lsC A hC ho hP hD hS hl)
theorem g_nonnullR {kd ix : Nat} {off : Int} {tgt : Nat} (hd : decode b pc = .ok (.ifnonnull off, 3)) (ht : (pc : Int) + off = (tgt : Int)) (k : Gp l cid D ad tx rf Lc d own b nL ret tgt ls st H Q) : Gp l cid D ad tx rf Lc d own b nL ret pc ls (vr kd ix :: st) H Q := by
  intro H0 h0 p e R s m args below meth c Hc locs lsC A hC ho hP hD hS hl
  exact lv_ifnonnull hC.1 hC.2.1 hd ht (k H0 h0 p e R s m args below meth c Hc locs lsC A hC ho.pop hP hD hS hl)
theorem g_nonnullN {off : Int} (hd : decode b pc = .ok (.ifnonnull off, 3)) (k : Gp l cid D ad tx rf Lc d own b nL ret (pc + 3) ls st H Q) : Gp l cid D ad tx rf Lc d own b nL ret pc ls (vn :: st) H Q := by
  intro H0 h0 p e R s m args below meth c Hc locs lsC A hC ho hP hD hS hl
  exact lv_ifnonnullN hC.1 hC.2.1 hd (k H0 h0 p e R s m args below meth c Hc locs lsC A hC ho.pop hP hD hS hl)
theorem g_tableIn {dflt lo hi : Int} {offs : Array Int} {len : Nat} {x : Int32} {off : Int} {tgt : Nat} (hd : decode b pc = .ok (.tableswitch dflt lo hi offs, len)) (h1 : ¬ x.toInt < lo) (h2 : ¬ hi < x.toInt) (hof : offs[(x.toInt - lo).toNat]? = some off) (ht : (pc : Int) + off = (tgt : Int)) (k : Gp l cid D ad tx rf Lc d own b nL ret tgt ls st H Q) : Gp l cid D ad tx rf Lc d own b nL ret pc ls (vi x :: st) H Q := by
  intro H0 h0 p e R s m args below meth c Hc locs lsC A hC ho hP hD hS hl
  exact lv_tableIn hC.1 hC.2.1 hd h1 h2 hof ht (k H0 h0 p e R s m args below meth c Hc locs lsC A hC ho.pop hP hD hS hl)
theorem g_tableOut {dflt lo hi : Int} {offs : Array Int} {len : Nat} {x : Int32} {tgt : Nat} (hd : decode b pc = .ok (.tableswitch dflt lo hi offs, len)) (h : x.toInt < lo ∨ hi < x.toInt) (ht : (pc : Int) + dflt = (tgt : Int)) (k : Gp l cid D ad tx rf Lc d own b nL ret tgt ls st H Q) : Gp l cid D ad tx rf Lc d own b nL ret pc ls (vi x :: st) H Q := by
  intro H0 h0 p e R s m args below meth c Hc locs lsC A hC ho hP hD hS hl
  exact lv_tableOut hC.1 hC.2.1 hd h ht (k H0 h0 p e R s m args below meth c Hc locs lsC A hC ho.pop hP hD hS hl)
theorem g_iret {x : Int32} (hd : decode b pc = .ok (.ireturn, 1)) (hr : ret = some .int) (hq : Q (vi x) H) : Gp l cid D ad tx rf Lc d own b nL ret pc ls [vi x] H Q := by
  subst hr
  intro H0 h0 p e R s m args below meth c Hc locs lsC A hC ho hP hD hS hl
  exact W.iret hC.1 hC.2.1 hC.2.2.2.1 (fun t ht _ => ⟨vi x, H, rfl, trivial, hq, by rw [ht]; exact hP, hS.F ht, h0⟩) hS.2.2 hd hC.2.2.2.2.2.1
theorem g_lret {x : Int64} (hd : decode b pc = .ok (.lreturn, 1)) (hr : ret = some .long) (hq : Q (vl x) H) : Gp l cid D ad tx rf Lc d own b nL ret pc ls [vl x] H Q := by
  subst hr
  intro H0 h0 p e R s m args below meth c Hc locs lsC A hC ho hP hD hS hl
  exact W.lret hC.1 hC.2.1 hC.2.2.2.1 (fun t ht _ => ⟨vl x, H, rfl, trivial, hq, by rw [ht]; exact hP, hS.F ht, h0⟩) hS.2.2 hd hC.2.2.2.2.2.1
theorem g_zret {x : Int32} {ty : FieldType} (hd : decode b pc = .ok (.ireturn, 1)) (hr : ret = some ty) (hn : narrow ty (.int x) = .int x) (hq : Q (vi x) H) : Gp l cid D ad tx rf Lc d own b nL ret pc ls [vi x] H Q := by
  subst hr
  intro H0 h0 p e R s m args below meth c Hc locs lsC A hC ho hP hD hS hl
  exact W.zret hC.1 hC.2.1 hC.2.2.2.1 hn (fun t ht _ => ⟨vi x, H, rfl, trivial, hq, by rw [ht]; exact hP, hS.F ht, h0⟩) hS.2.2 hd hC.2.2.2.2.2.1
theorem g_vret (hd : decode b pc = .ok (.return_, 1)) (hr : ret = none) (hq : Q (vi 0) H) : Gp l cid D ad tx rf Lc d own b nL ret pc ls [] H Q := by
  subst hr
  intro H0 h0 p e R s m args below meth c Hc locs lsC A hC ho hP hD hS hl
  exact W.vret hC.1 hC.2.1 hC.2.2.2.1 (fun t ht _ => ⟨vi 0, H, rfl, trivial, hq, by rw [ht]; exact hP, hS.F ht, h0⟩) hS.2.2 hd hC.2.2.2.2.2.1
/-- fewer locals are known -/
def xless : List (Option AV) → List (Option AV) → Prop
  | [], _ => True
  | none :: a, _ :: b => xless a b
  | some v :: a, w :: b => w = some v ∧ xless a b
  | none :: a, [] => xless a []
  | some _ :: _, [] => False
theorem xless_get : ∀ {a c : List (Option AV)} (_ : xless a c) {i : Nat} {v : AV}, a[i]? = some (some v) → c[i]? = some (some v) := by
  intro a
  induction a with
  | nil => intro c _ i v h; simp at h
  | cons x a ih =>
    intro c hl i v h
    cases c with
    | nil =>
      cases x with
      | none => cases i with
        | zero => simp at h
        | succ i => exact absurd (ih (c := []) hl (i := i) (v := v) (by simpa using h)) (by simp)
      | some x => exact hl.elim
    | cons y c =>
      cases x with
      | none => cases i with
        | zero => simp at h
        | succ i => simpa using ih hl (i := i) (v := v) (by simpa using h)
      | some x =>
        obtain ⟨rfl, hl⟩ := hl
        cases i with
        | zero => simpa using h
        | succ i => simpa using ih hl (i := i) (v := v) (by simpa using h)
theorem g_drop {ls2 : List (Option AV)} (h : xless ls2 ls) (k : Gp l cid D ad tx rf Lc d own b nL ret pc ls2 st H Q) : Gp l cid D ad tx rf Lc d own b nL ret pc ls st H Q := by
  intro H0 h0 p e R s m args below meth c Hc locs lsC A hC ho hP hD hS hl
  refine k H0 h0 p e R s m args below meth c Hc locs lsC A hC ⟨fun v hv => ?_, ho.2⟩ hP hD hS (lv_mono hl fun q hq => ?_)
  · obtain ⟨i, hi⟩ := List.mem_iff_getElem?.mp hv
    exact ho.1 v (List.mem_of_getElem? (xless_get h hi))
  · obtain ⟨i, v, hi, rfl⟩ := mem_lcv.mp hq
    exact mem_lcv.mpr ⟨i, v, xless_get h hi, rfl⟩
theorem Gp.mono {Q2 : AV → HH → Prop} (h : Gp l cid D ad tx rf Lc d own b nL ret pc ls st H Q) (hq : ∀ v H2, Q v H2 → Q2 v H2) : Gp l cid D ad tx rf Lc d own b nL ret pc ls st H Q2 := by
  intro H0 h0 p e R s m args below meth c Hc locs lsC A hC ho hP hD hS hl
  intro T hT X
  obtain ⟨t, a1, o, b1, b2, ⟨v, H2, c1, c2, c3, c4⟩, b4⟩ := h H0 h0 p e R s m args below meth c Hc locs lsC A hC ho hP hD hS hl T hT X
  exact ⟨t, a1, o, b1, b2, ⟨v, H2, c1, c2, hq _ _ c3, c4⟩, b4⟩
end RUL
end
section
/-! RULES: fields, rows, statics, texts. -/
section HRU
variable {l : Launch} {cid : Nat → ClassId} {D : va_G} {ad : Nat → Nat → Nat} {tx : List (List Int32)} {rf : List (String × Nat × String)} {Lc : List (Nat × Nat)} {d : Nat} {own : String} {b : ByteArray} {nL : Nat} {ret : Option FieldType} {pc : Nat} {ls : List (Option AV)} {st : List AV} {H : HH} {Q : AV → HH → Prop}
theorem xok_in {nT kd ix : Nat} (h : xok Lc nT (vr kd ix)) (hk : kd < 60) : (kd, ix) ∈ Lc := by
  rcases h with h | h | h
  · exact h
  · exact absurd h.1 (by omega)
  · exact absurd h.1 (by omega)
theorem xcell_o {kd ci N ix : Nat} (h : xsh kd = (0, ci, N)) (f : Nat → Int32) : xcell cid ad kd ix f = .inr (ci, (List.range N).map fun k => cv ad (xld kd ix k (f k))) := by
  unfold xcell; rw [h]; rfl
theorem xcell_i {kd N ix a : Nat} (h : xsh kd = (1, a, N)) (f : Nat → Int32) : xcell cid ad kd ix f = .inl (cid 0, N, .inl f) := by
  unfold xcell; rw [h]; rfl
theorem xcell_z {kd N ix a : Nat} (h : xsh kd = (2, a, N)) (f : Nat → Int32) : xcell cid ad kd ix f = .inl (cid 1, N, .inl f) := by
  unfold xcell; rw [h]; rfl
theorem xcell_q {kd t N ix a : Nat} (h : xsh kd = (t + 3, a, N)) (f : Nat → Int32) : xcell cid ad kd ix f = .inl (cid (t + 2), N, .inr (.inr (.inr (.inr fun j => some (ad (xra kd).1 ((xra kd).2 ix j)))))) := by
  unfold xcell; rw [h]; rfl
theorem g_get {kd ix ci N k index : Nat} {C : String} {T : u_T} {v : AV} (hd : decode b pc = .ok (.getfield index, 3)) (h60 : kd < 60) (hsh : xsh kd = (0, ci, N)) (hc : xcl[ci]? = some (C, T, N)) (hin : ∀ w ∈ u_ws C T N, w ∈ xtbl) (hk : k < N)
    (hm : Cond.fieldLink own index (T k).1 (T k).2.1 (T k).2.2.1 ∈ xtbl) (hv : xld kd ix k (H kd ix k) = v) (kk : Gp l cid D ad tx rf Lc d own b nL ret (pc + 3) ls (v :: st) H Q) : Gp l cid D ad tx rf Lc d own b nL ret pc ls (vr kd ix :: st) H Q := by
  intro H0 h0 p e R s m args below meth c Hc locs lsC A hC ho hP hD hS hl
  subst hv
  obtain ⟨hx, hb, hml, hr, hown, hlk, hts, hR, hK, hZ, hrf, hA, hcl⟩ := id hC
  have hi := xok_in ho.top h60
  obtain ⟨q0, hq, hw⟩ := xw_at (cid := cid) (ad := ad) (H := H) hi
  rw [xcell_o hsh] at hw
  refine va_get (T := T) (ref := (T k).1) hx hb hts hin hown hK hP q0 hw hc k hk (hts _ hm) (fun x h => h) (v := cv ad (xld kd ix k (H kd ix k))) (by simp [hk]) hd ?_
  exact kk H0 h0 p e R s m args below meth c Hc locs lsC A hC (ho.pop.push (hcl.2.2.1 _ hi k _)) hP hD hS hl
/-- putfield: what is behind it, in Lean's words -/
theorem xset_o {kd ix ci N k q0 : Nat} {x : Int32} {v : AV} (hsh : xsh kd = (0, ci, N)) (hn : Lc.Nodup) (hq : Lc[q0]? = some (kd, ix)) (hv : xld kd ix k x = v) :
    (xw cid ad Lc H).set q0 (ad kd ix, .inr (ci, ((List.range N).map fun j => cv ad (xld kd ix j (H kd ix j))).set k (cv ad v))) = xw cid ad Lc (hu H kd ix k x) := by
  rw [← hrow_upd, ← xw_set hn hq, xcell_o hsh]
  congr 4
  apply List.ext_getElem?
  intro i
  by_cases hi : k = i
  · subst hi
    by_cases hl : k < N
    · rw [List.getElem?_set_self (by simpa using hl)]
      simp [hl, upd, hv]
    · rw [List.getElem?_eq_none (by simpa using hl), List.getElem?_eq_none (by simpa using hl)]
  · rw [List.getElem?_set_ne hi]
    simp only [List.getElem?_map]
    cases hj : (List.range N)[i]? with
    | none => rfl
    | some j =>
      have hij : j = i := by
        obtain ⟨h1, h2⟩ := List.getElem?_eq_some_iff.mp hj
        rw [← h2]; simp
      subst hij
      have hne : ¬ j = k := fun e => hi e.symm
      simp [upd, hne]
theorem g_putG {kd ix ci N k index : Nat} {C : String} {T : u_T} {v : AV} {x : Int32} {ty : FieldType} (ty0 : Nat → FieldType) (hd : decode b pc = .ok (.putfield index, 3)) (h60 : kd < 60) (hsh : xsh kd = (0, ci, N)) (hc : xcl[ci]? = some (C, T, N)) (hin : ∀ w ∈ u_ws C T N, w ∈ xtbl) (hty : ∀ k, k < N → parseFieldDescriptor (T k).2.2.1 = some (ty0 k)) (hnm : ∀ a, a < N → ∀ b, b < N → a ≠ b → (T a).2.1 ≠ (T b).2.1) (hk : k < N)
    (hm : Cond.fieldLink own index (T k).1 (T k).2.1 (T k).2.2.1 ∈ xtbl) (hfin : (T k).2.2.2 = false) (hpd : parseFieldDescriptor (T k).2.2.1 = some ty) (hv : xld kd ix k x = v) (hnr : narrow ty (cv ad v) = cv ad v) (hfit : fits ty (cv ad v) = true) (kk : Gp l cid D ad tx rf Lc d own b nL ret (pc + 3) ls st (hu H kd ix k x) Q) : Gp l cid D ad tx rf Lc d own b nL ret pc ls (v :: vr kd ix :: st) H Q := by
  intro H0 h0 p e R s m args below meth c Hc locs lsC A hC ho hP hD hS hl
  obtain ⟨hx, hb, hml, hr, hown, hlk, hts, hR, hK, hZ, hrf, hA, hcl⟩ := id hC
  have hi := xok_in ho.pop.top h60
  obtain ⟨q0, hq, hw⟩ := xw_at (cid := cid) (ad := ad) (H := H) hi
  rw [xcell_o hsh] at hw
  refine va_put (T := T) (ref := (T k).1) hx hb hts hin ty0 hty hnm hown hK hP hD hS q0 hw hc k hk (hts _ hm) (fun x h => h) hfin hpd hnr hfit (by simpa using hk) hd (fun H1 locs1 hP1 hD1 hS1 => ?_)
  rw [xset_o hsh hcl.1 hq hv] at hP1
  exact kk H0 (h0.hu hi) p e R s m args below meth c H1 locs1 lsC A hC ho.pop.pop hP1 (xw_D hD) hS1 hl
/-- an int field -/
theorem g_put {kd ix ci N k index : Nat} {C : String} {T : u_T} {x : Int32} (ty0 : Nat → FieldType) (hd : decode b pc = .ok (.putfield index, 3)) (h60 : kd < 60) (hsh : xsh kd = (0, ci, N)) (hc : xcl[ci]? = some (C, T, N)) (hin : ∀ w ∈ u_ws C T N, w ∈ xtbl) (hty : ∀ k, k < N → parseFieldDescriptor (T k).2.2.1 = some (ty0 k)) (hnm : ∀ a, a < N → ∀ b, b < N → a ≠ b → (T a).2.1 ≠ (T b).2.1) (hk : k < N)
    (hm : Cond.fieldLink own index (T k).1 (T k).2.1 (T k).2.2.1 ∈ xtbl) (hfin : (T k).2.2.2 = false) (hpd : parseFieldDescriptor (T k).2.2.1 = some .int) (hv : ∀ y, xld kd ix k y = vi y) (kk : Gp l cid D ad tx rf Lc d own b nL ret (pc + 3) ls st (hu H kd ix k x) Q) : Gp l cid D ad tx rf Lc d own b nL ret pc ls (vi x :: vr kd ix :: st) H Q :=
  g_putG ty0 hd h60 hsh hc hin hty hnm hk hm hfin hpd (hv x) rfl rfl kk
/-- a boolean field -/
theorem g_putZ {kd ix ci N k index : Nat} {C : String} {T : u_T} {x : Int32} (ty0 : Nat → FieldType) (hd : decode b pc = .ok (.putfield index, 3)) (h60 : kd < 60) (hsh : xsh kd = (0, ci, N)) (hc : xcl[ci]? = some (C, T, N)) (hin : ∀ w ∈ u_ws C T N, w ∈ xtbl) (hty : ∀ k, k < N → parseFieldDescriptor (T k).2.2.1 = some (ty0 k)) (hnm : ∀ a, a < N → ∀ b, b < N → a ≠ b → (T a).2.1 ≠ (T b).2.1) (hk : k < N)
    (hm : Cond.fieldLink own index (T k).1 (T k).2.1 (T k).2.2.1 ∈ xtbl) (hfin : (T k).2.2.2 = false) (hpd : parseFieldDescriptor (T k).2.2.1 = some .boolean) (hv : ∀ y, xld kd ix k y = vi y) (h01 : x = 0 ∨ x = 1) (kk : Gp l cid D ad tx rf Lc d own b nL ret (pc + 3) ls st (hu H kd ix k x) Q) : Gp l cid D ad tx rf Lc d own b nL ret pc ls (vi x :: vr kd ix :: st) H Q :=
  g_putG ty0 hd h60 hsh hc hin hty hnm hk hm hfin hpd (hv x) (by rcases h01 with rfl | rfl <;> rfl) (by rcases h01 with rfl | rfl <;> rfl) kk
/-- the law of a ride: none -/
theorem g_putN {index : Nat} (hd : decode b pc = .ok (.putfield index, 3)) (hm : Cond.fieldLink own index "ThreePoints$Ride" "law" "LThreePoints$Text;" ∈ xtbl) {ix : Nat} (kk : Gp l cid D ad tx rf Lc d own b nL ret (pc + 3) ls st (hu H 19 ix 2 0) Q) : Gp l cid D ad tx rf Lc d own b nL ret pc ls (vn :: vr 19 ix :: st) H Q :=
  g_putG (T := xT_Ride) (k := 2) (N := 4) (ci := 8) (C := "ThreePoints$Ride") (ty := .object "ThreePoints$Text") xy_Ride hd (by decide) rfl rfl xi_Ride xy_Ride_ok xn_Ride (by decide) hm rfl (by decide +kernel) rfl rfl rfl kk
/-- the law of a ride: a text -/
theorem g_putT {index : Nat} (hd : decode b pc = .ok (.putfield index, 3)) (hm : Cond.fieldLink own index "ThreePoints$Ride" "law" "LThreePoints$Text;" ∈ xtbl) {ix t : Nat} (ht : t < 7) (kk : Gp l cid D ad tx rf Lc d own b nL ret (pc + 3) ls st (hu H 19 ix 2 (nI (t + 1))) Q) : Gp l cid D ad tx rf Lc d own b nL ret pc ls (vr 11 t :: vr 19 ix :: st) H Q := by
  refine g_putG (T := xT_Ride) (k := 2) (N := 4) (ci := 8) (C := "ThreePoints$Ride") (ty := .object "ThreePoints$Text") xy_Ride hd (by decide) rfl rfl xi_Ride xy_Ride_ok xn_Ride (by decide) hm rfl (by decide +kernel) ?_ rfl rfl kk
  rcases (show t = 0 ∨ t = 1 ∨ t = 2 ∨ t = 3 ∨ t = 4 ∨ t = 5 ∨ t = 6 by omega) with rfl | rfl | rfl | rfl | rfl | rfl | rfl <;> rfl
-- rows
theorem g_iald {kd ix N a : Nat} {i : Int32} (hd : decode b pc = .ok (.iaload, 1)) (h60 : kd < 60) (hsh : xsh kd = (1, a, N)) (hin : vp_in i N) (kk : Gp l cid D ad tx rf Lc d own b nL ret (pc + 1) ls (vi (H kd ix i.toNatClampNeg) :: st) H Q) : Gp l cid D ad tx rf Lc d own b nL ret pc ls (vi i :: vr kd ix :: st) H Q := by
  intro H0 h0 p e R s m args below meth c Hc locs lsC A hC ho hP hD hS hl
  obtain ⟨hx, hb, hml, hr, hown, hlk, hts, hR, hK, hZ, hrf, hA, hcl⟩ := id hC
  have hi := xok_in ho.pop.top h60
  obtain ⟨q0, hq, hw⟩ := xw_at (cid := cid) (ad := ad) (H := H) hi
  rw [xcell_i hsh] at hw
  exact va_iald hx hb hK hP q0 0 hw rfl hin hd (kk H0 h0 p e R s m args below meth c Hc locs lsC A hC (ho.pop.pop.push trivial) hP hD hS hl)
theorem g_zald {kd ix N a : Nat} {i : Int32} (hd : decode b pc = .ok (.baload, 1)) (h60 : kd < 60) (hsh : xsh kd = (2, a, N)) (hin : vp_in i N) (kk : Gp l cid D ad tx rf Lc d own b nL ret (pc + 1) ls (vi (H kd ix i.toNatClampNeg) :: st) H Q) : Gp l cid D ad tx rf Lc d own b nL ret pc ls (vi i :: vr kd ix :: st) H Q := by
  intro H0 h0 p e R s m args below meth c Hc locs lsC A hC ho hP hD hS hl
  obtain ⟨hx, hb, hml, hr, hown, hlk, hts, hR, hK, hZ, hrf, hA, hcl⟩ := id hC
  have hi := xok_in ho.pop.top h60
  obtain ⟨q0, hq, hw⟩ := xw_at (cid := cid) (ad := ad) (H := H) hi
  rw [xcell_z hsh] at hw
  exact va_zald hx hb hK hP q0 1 hw rfl hin hd (kk H0 h0 p e R s m args below meth c Hc locs lsC A hC (ho.pop.pop.push trivial) hP hD hS hl)
theorem g_aald {kd ix N t a : Nat} {i : Int32} (hd : decode b pc = .ok (.aaload, 1)) (h60 : kd < 60) (hsh : xsh kd = (t + 3, a, N)) (ht : t < 3) (hin : vp_in i N) {v : AV} (hv : vr (xra kd).1 ((xra kd).2 ix i.toNatClampNeg) = v) (kk : Gp l cid D ad tx rf Lc d own b nL ret (pc + 1) ls (v :: st) H Q) : Gp l cid D ad tx rf Lc d own b nL ret pc ls (vi i :: vr kd ix :: st) H Q := by
  intro H0 h0 p e R s m args below meth c Hc locs lsC A hC ho hP hD hS hl
  subst hv
  obtain ⟨hx, hb, hml, hr, hown, hlk, hts, hR, hK, hZ, hrf, hA, hcl⟩ := id hC
  have hi := xok_in ho.pop.top h60
  obtain ⟨q0, hq, hw⟩ := xw_at (cid := cid) (ad := ad) (H := H) hi
  rw [xcell_q hsh] at hw
  have hok := hcl.2.2.2 _ hi (by show 3 ≤ (xsh kd).1; rw [hsh]; exact Nat.le_add_left 3 t) i.toNatClampNeg (by
    show i.toNatClampNeg < (xsh kd).2.2
    rw [hsh]
    exact Nat.lt_of_not_le fun z => hin (Or.inr z))
  have kk' := kk H0 h0 p e R s m args below meth c Hc locs lsC A hC (ho.pop.pop.push hok) hP hD hS hl
  rcases (show t = 0 ∨ t = 1 ∨ t = 2 by omega) with rfl | rfl | rfl
  · exact va_aldq hx hb hK hP q0 2 hw rfl hin hd kk'
  · exact va_aldq hx hb hK hP q0 3 hw rfl hin hd kk'
  · exact va_aldq hx hb hK hP q0 4 hw rfl hin hd kk'
theorem g_iast {kd ix N a : Nat} {i x : Int32} (hd : decode b pc = .ok (.iastore, 1)) (h60 : kd < 60) (hsh : xsh kd = (1, a, N)) (hin : vp_in i N) (kk : Gp l cid D ad tx rf Lc d own b nL ret (pc + 1) ls st (hu H kd ix i.toNatClampNeg x) Q) : Gp l cid D ad tx rf Lc d own b nL ret pc ls (vi x :: vi i :: vr kd ix :: st) H Q := by
  intro H0 h0 p e R s m args below meth c Hc locs lsC A hC ho hP hD hS hl
  obtain ⟨hx, hb, hml, hr, hown, hlk, hts, hR, hK, hZ, hrf, hA, hcl⟩ := id hC
  have hi := xok_in ho.pop.pop.top h60
  obtain ⟨q0, hq, hw⟩ := xw_at (cid := cid) (ad := ad) (H := H) hi
  rw [xcell_i hsh] at hw
  refine va_iast hx hb hK hP hD hS q0 0 hw rfl hin hd (fun H1 locs1 hP1 hD1 hS1 => ?_)
  rw [← xcell_i (cid := cid) (ad := ad) (ix := ix) hsh, xw_set hcl.1 hq, hrow_upd] at hP1
  exact kk H0 (h0.hu hi) p e R s m args below meth c H1 locs1 lsC A hC ho.pop.pop.pop hP1 (xw_D hD) hS1 hl
theorem g_zast {kd ix N a : Nat} {i x : Int32} (hd : decode b pc = .ok (.bastore, 1)) (h60 : kd < 60) (hsh : xsh kd = (2, a, N)) (hin : vp_in i N) (h01 : x = 0 ∨ x = 1) (kk : Gp l cid D ad tx rf Lc d own b nL ret (pc + 1) ls st (hu H kd ix i.toNatClampNeg x) Q) : Gp l cid D ad tx rf Lc d own b nL ret pc ls (vi x :: vi i :: vr kd ix :: st) H Q := by
  intro H0 h0 p e R s m args below meth c Hc locs lsC A hC ho hP hD hS hl
  obtain ⟨hx, hb, hml, hr, hown, hlk, hts, hR, hK, hZ, hrf, hA, hcl⟩ := id hC
  have hi := xok_in ho.pop.pop.top h60
  obtain ⟨q0, hq, hw⟩ := xw_at (cid := cid) (ad := ad) (H := H) hi
  rw [xcell_z hsh] at hw
  have hx1 : vp_nar .boolean x = x := by rcases h01 with rfl | rfl <;> rfl
  refine va_zast hx hb hK hP hD hS q0 1 hw rfl hin hd (fun H1 locs1 hP1 hD1 hS1 => ?_)
  rw [hx1, ← xcell_z (cid := cid) (ad := ad) (ix := ix) hsh, xw_set hcl.1 hq, hrow_upd] at hP1
  exact kk H0 (h0.hu hi) p e R s m args below meth c H1 locs1 lsC A hC ho.pop.pop.pop hP1 (xw_D hD) hS1 hl
theorem g_alen {kd ix N a : Nat} {v : Int32} (hd : decode b pc = .ok (.arraylength, 1)) (h60 : kd < 60) (hsh : xsh kd = (1, a, N)) (hv : Int32.ofNat N = v) (kk : Gp l cid D ad tx rf Lc d own b nL ret (pc + 1) ls (vi v :: st) H Q) : Gp l cid D ad tx rf Lc d own b nL ret pc ls (vr kd ix :: st) H Q := by
  intro H0 h0 p e R s m args below meth c Hc locs lsC A hC ho hP hD hS hl
  obtain ⟨hx, hb, hml, hr, hown, hlk, hts, hR, hK, hZ, hrf, hA, hcl⟩ := id hC
  have hi := xok_in ho.top h60
  obtain ⟨q0, hq, hw⟩ := xw_at (cid := cid) (ad := ad) (H := H) hi
  rw [xcell_i hsh] at hw
  exact va_alen hx hb hK hP q0 0 hw rfl hv hd (kk H0 h0 p e R s m args below meth c Hc locs lsC A hC (ho.pop.push trivial) hP hD hS hl)
-- statics
theorem g_gsACR {index : Nat} (hd : decode b pc = .ok (.getstatic index, 3)) (hm : Cond.fieldLink own index "ThreePoints" "ACROSS" "[I" ∈ xtbl) (kk : Gp l cid D ad tx rf Lc d own b nL ret (pc + 3) ls (vr 62 0 :: st) H Q) : Gp l cid D ad tx rf Lc d own b nL ret pc ls st H Q := by
  intro H0 h0 p e R s m args below meth c Hc locs lsC A hC ho hP hD hS hl
  obtain ⟨hx, hb, hml, hr, hown, hlk, hts, hR, hK, hZ, hrf, hA, hcl⟩ := id hC
  exact va_gets hx hb hZ.1 hS hown (hts _ hm) (fun x h => h) hd (kk H0 h0 p e R s m args below meth c Hc locs lsC A hC (ho.push (Or.inr (Or.inr ⟨by omega, rfl⟩))) hP hD hS hl)
theorem g_gsBND {index : Nat} (hd : decode b pc = .ok (.getstatic index, 3)) (hm : Cond.fieldLink own index "ThreePoints$Text" "BOUNDS" "[I" ∈ xtbl) (kk : Gp l cid D ad tx rf Lc d own b nL ret (pc + 3) ls (vr 63 0 :: st) H Q) : Gp l cid D ad tx rf Lc d own b nL ret pc ls st H Q := by
  intro H0 h0 p e R s m args below meth c Hc locs lsC A hC ho hP hD hS hl
  obtain ⟨hx, hb, hml, hr, hown, hlk, hts, hR, hK, hZ, hrf, hA, hcl⟩ := id hC
  exact va_gets hx hb hZ.2.2.1 hS hown (hts _ hm) (fun x h => h) hd (kk H0 h0 p e R s m args below meth c Hc locs lsC A hC (ho.push (Or.inr (Or.inr ⟨by omega, rfl⟩))) hP hD hS hl)
theorem g_gsABV {index : Nat} (hd : decode b pc = .ok (.getstatic index, 3)) (hm : Cond.fieldLink own index "ThreePoints$Vehicle" "ABOVE" "[I" ∈ xtbl) (kk : Gp l cid D ad tx rf Lc d own b nL ret (pc + 3) ls (vr 64 0 :: st) H Q) : Gp l cid D ad tx rf Lc d own b nL ret pc ls st H Q := by
  intro H0 h0 p e R s m args below meth c Hc locs lsC A hC ho hP hD hS hl
  obtain ⟨hx, hb, hml, hr, hown, hlk, hts, hR, hK, hZ, hrf, hA, hcl⟩ := id hC
  exact va_gets hx hb hZ.2.2.2.2.1 hS hown (hts _ hm) (fun x h => h) hd (kk H0 h0 p e R s m args below meth c Hc locs lsC A hC (ho.push (Or.inr (Or.inr ⟨by omega, rfl⟩))) hP hD hS hl)
theorem g_gsCMP {index : Nat} (hd : decode b pc = .ok (.getstatic index, 3)) (hm : Cond.fieldLink own index "java/lang/String" "COMPACT_STRINGS" "Z" ∈ xtbl) (kk : Gp l cid D ad tx rf Lc d own b nL ret (pc + 3) ls (vi 1 :: st) H Q) : Gp l cid D ad tx rf Lc d own b nL ret pc ls st H Q := by
  intro H0 h0 p e R s m args below meth c Hc locs lsC A hC ho hP hD hS hl
  obtain ⟨hx, hb, hml, hr, hown, hlk, hts, hR, hK, hZ, hrf, hA, hcl⟩ := id hC
  exact va_gets hx hb hZ.2.2.2.2.2.2.1 hS hown (hts _ hm) (fun x h => h) hd (kk H0 h0 p e R s m args below meth c Hc locs lsC A hC (ho.push trivial) hP hD hS hl)
theorem g_gsSIO {index : Nat} (hd : decode b pc = .ok (.getstatic index, 3)) (hm : Cond.fieldLink own index "jdk/internal/util/Preconditions" "SIOOBE_FORMATTER" "Ljava/util/function/BiFunction;" ∈ xtbl) (kk : Gp l cid D ad tx rf Lc d own b nL ret (pc + 3) ls (vr 65 0 :: st) H Q) : Gp l cid D ad tx rf Lc d own b nL ret pc ls st H Q := by
  intro H0 h0 p e R s m args below meth c Hc locs lsC A hC ho hP hD hS hl
  obtain ⟨hx, hb, hml, hr, hown, hlk, hts, hR, hK, hZ, hrf, hA, hcl⟩ := id hC
  exact va_gets hx hb hZ.2.2.2.2.2.2.2.2 hS hown (hts _ hm) (fun x h => h) hd (kk H0 h0 p e R s m args below meth c Hc locs lsC A hC (ho.push (Or.inr (Or.inr ⟨by omega, rfl⟩))) hP hD hS hl)
theorem g_ialdACR {i : Int32} (hd : decode b pc = .ok (.iaload, 1)) (hin : vp_in i 16) (kk : Gp l cid D ad tx rf Lc d own b nL ret (pc + 1) ls (vi (xACR.getD i.toNatClampNeg 0) :: st) H Q) : Gp l cid D ad tx rf Lc d own b nL ret pc ls (vi i :: vr 62 0 :: st) H Q := by
  intro H0 h0 p e R s m args below meth c Hc locs lsC A hC ho hP hD hS hl
  obtain ⟨hx, hb, hml, hr, hown, hlk, hts, hR, hK, hZ, hrf, hA, hcl⟩ := id hC
  exact va_ti hx hb hZ.2.1 hS hin rfl hd (kk H0 h0 p e R s m args below meth c Hc locs lsC A hC (ho.pop.pop.push trivial) hP hD hS hl)
theorem g_ialdBND {i : Int32} (hd : decode b pc = .ok (.iaload, 1)) (hin : vp_in i 3) (kk : Gp l cid D ad tx rf Lc d own b nL ret (pc + 1) ls (vi (xBND.getD i.toNatClampNeg 0) :: st) H Q) : Gp l cid D ad tx rf Lc d own b nL ret pc ls (vi i :: vr 63 0 :: st) H Q := by
  intro H0 h0 p e R s m args below meth c Hc locs lsC A hC ho hP hD hS hl
  obtain ⟨hx, hb, hml, hr, hown, hlk, hts, hR, hK, hZ, hrf, hA, hcl⟩ := id hC
  exact va_ti hx hb hZ.2.2.2.1 hS hin rfl hd (kk H0 h0 p e R s m args below meth c Hc locs lsC A hC (ho.pop.pop.push trivial) hP hD hS hl)
theorem g_ialdABV {i : Int32} (hd : decode b pc = .ok (.iaload, 1)) (hin : vp_in i 6) (kk : Gp l cid D ad tx rf Lc d own b nL ret (pc + 1) ls (vi (xABV.getD i.toNatClampNeg 0) :: st) H Q) : Gp l cid D ad tx rf Lc d own b nL ret pc ls (vi i :: vr 64 0 :: st) H Q := by
  intro H0 h0 p e R s m args below meth c Hc locs lsC A hC ho hP hD hS hl
  obtain ⟨hx, hb, hml, hr, hown, hlk, hts, hR, hK, hZ, hrf, hA, hcl⟩ := id hC
  exact va_ti hx hb hZ.2.2.2.2.2.1 hS hin rfl hd (kk H0 h0 p e R s m args below meth c Hc locs lsC A hC (ho.pop.pop.push trivial) hP hD hS hl)
-- texts
theorem xok_tx {nT kd i : Nat} (hcl : xclo Lc nT) (h : xok Lc nT (vr kd i)) (h1 : 60 ≤ kd) (h2 : kd ≤ 61) : i < nT := by
  rcases h with h | h | h
  · exact absurd (hcl.2.1 _ h) (by show ¬ kd < 60; omega)
  · exact h.2.2
  · exact absurd h.1 (by omega)
theorem g_ldcS {index i : Nat} {t : String} (hd : decode b pc = .ok (.ldc index, 2)) (hi : rf[i]? = some (own, index, t)) (hlt : i < tx.length) (kk : Gp l cid D ad tx rf Lc d own b nL ret (pc + 2) ls (vr 60 i :: st) H Q) : Gp l cid D ad tx rf Lc d own b nL ret pc ls st H Q := by
  intro H0 h0 p e R s m args below meth c Hc locs lsC A hC ho hP hD hS hl
  obtain ⟨hx, hb, hml, hr, hown, hlk, hts, hR, hK, hZ, hrf, hA, hcl⟩ := id hC
  exact va_ldcS hx hb hown (hrf.1 i _ hi) hd (kk H0 h0 p e R s m args below meth c Hc locs lsC A hC (ho.push (Or.inr (Or.inl ⟨by omega, by omega, hlt⟩))) hP hD hS hl)
theorem g_strV {index i : Nat} (hd : decode b pc = .ok (.getfield index, 3)) (hm : Cond.fieldLink own index "java/lang/String" "value" "[B" ∈ xtbl) (kk : Gp l cid D ad tx rf Lc d own b nL ret (pc + 3) ls (vr 61 i :: st) H Q) : Gp l cid D ad tx rf Lc d own b nL ret pc ls (vr 60 i :: st) H Q := by
  intro H0 h0 p e R s m args below meth c Hc locs lsC A hC ho hP hD hS hl
  obtain ⟨hx, hb, hml, hr, hown, hlk, hts, hR, hK, hZ, hrf, hA, hcl⟩ := id hC
  have hi := xok_tx hcl ho.top (by omega) (by omega)
  exact vk_getf hx hb (hZ.2.2.2.2.2.2.2.1.1 i hi).2.2.1 hS hown (hts _ hm) (fun x h => h) hd (kk H0 h0 p e R s m args below meth c Hc locs lsC A hC (ho.pop.push (Or.inr (Or.inl ⟨by omega, by omega, hi⟩))) hP hD hS hl)
theorem g_strC {index i : Nat} (hd : decode b pc = .ok (.getfield index, 3)) (hm : Cond.fieldLink own index "java/lang/String" "coder" "B" ∈ xtbl) (kk : Gp l cid D ad tx rf Lc d own b nL ret (pc + 3) ls (vi 0 :: st) H Q) : Gp l cid D ad tx rf Lc d own b nL ret pc ls (vr 60 i :: st) H Q := by
  intro H0 h0 p e R s m args below meth c Hc locs lsC A hC ho hP hD hS hl
  obtain ⟨hx, hb, hml, hr, hown, hlk, hts, hR, hK, hZ, hrf, hA, hcl⟩ := id hC
  have hi := xok_tx hcl ho.top (by omega) (by omega)
  exact vk_getf hx hb (hZ.2.2.2.2.2.2.2.1.1 i hi).2.1 hS hown (hts _ hm) (fun x h => h) hd (kk H0 h0 p e R s m args below meth c Hc locs lsC A hC (ho.pop.push trivial) hP hD hS hl)
theorem g_bald {i : Nat} {j : Int32} (hd : decode b pc = .ok (.baload, 1)) (hin : vp_in j (tx.getD i []).length) (kk : Gp l cid D ad tx rf Lc d own b nL ret (pc + 1) ls (vi ((tx.getD i []).getD j.toNatClampNeg 0) :: st) H Q) : Gp l cid D ad tx rf Lc d own b nL ret pc ls (vi j :: vr 61 i :: st) H Q := by
  intro H0 h0 p e R s m args below meth c Hc locs lsC A hC ho hP hD hS hl
  obtain ⟨hx, hb, hml, hr, hown, hlk, hts, hR, hK, hZ, hrf, hA, hcl⟩ := id hC
  have hi := xok_tx hcl ho.pop.top (by omega) (by omega)
  have hT := (hZ.2.2.2.2.2.2.2.1.1 i hi).2.2.2
  have hlen : (tx.map List.length).getD i 0 = (tx.getD i []).length := by simp [List.getD, hi]
  rw [hlen] at hT
  exact va_tb hx hb hT hS hin rfl hd (kk H0 h0 p e R s m args below meth c Hc locs lsC A hC (ho.pop.pop.push trivial) hP hD hS hl)
theorem g_blen {i : Nat} (hd : decode b pc = .ok (.arraylength, 1)) (kk : Gp l cid D ad tx rf Lc d own b nL ret (pc + 1) ls (vi (nI (tx.getD i []).length) :: st) H Q) : Gp l cid D ad tx rf Lc d own b nL ret pc ls (vr 61 i :: st) H Q := by
  intro H0 h0 p e R s m args below meth c Hc locs lsC A hC ho hP hD hS hl
  obtain ⟨hx, hb, hml, hr, hown, hlk, hts, hR, hK, hZ, hrf, hA, hcl⟩ := id hC
  have hi := xok_tx hcl ho.top (by omega) (by omega)
  have hT := (hZ.2.2.2.2.2.2.2.1.1 i hi).2.2.2
  have hlen : (tx.map List.length).getD i 0 = (tx.getD i []).length := by simp [List.getD, hi]
  rw [hlen] at hT
  exact va_tlen hx hb hT hS rfl hd (kk H0 h0 p e R s m args below meth c Hc locs lsC A hC (ho.pop.push trivial) hP hD hS hl)
end HRU
end
section
/-! RULES: calls. -/
def xpu (ret : Option FieldType) (v : AV) (st : List AV) : List AV := match ret with
  | none => st
  | some _ => v :: st
def xcat (v : AV) : Nat := match v with
  | .inr (.inl _) => 2
  | _ => 1
theorem xcat_eq {ad : Nat → Nat → Nat} (v : AV) : (cv ad v).category = xcat v := by
  rcases v with x | x | _ | ⟨k, i⟩ <;> rfl
theorem xcats {ad : Nat → Nat → Nat} (st : List AV) : (st.map (cv ad)).map (fun v => v.category) = st.map xcat := by
  rw [List.map_map]
  exact List.map_congr_left fun v _ => xcat_eq v
section CRU
variable {l : Launch} {cid : Nat → ClassId} {D : va_G} {ad : Nat → Nat → Nat} {tx : List (List Int32)} {rf : List (String × Nat × String)} {Lc : List (Nat × Nat)} {d : Nat} {own : String} {b : ByteArray} {nL : Nat} {ret : Option FieldType} {pc : Nat} {ls : List (Option AV)} {st : List AV} {H : HH} {Q Q2 : AV → HH → Prop}
theorem xgood {y : MethodName} {b2 : ByteArray} {n2 : Nat} {r2 : Option FieldType} (hc : Cond.code y b2 n2 r2 ∈ xtbl) : GoodIn xtbl (Cond.code y b2 n2 r2 :: xtbl) := by
  have hall : ∀ w ∈ xtbl, w ∈ xtbl ∧ ((w.onTables && w.keeps) = true ∨ ∃ ty, w = .arrayClass ty) := fun w h => ⟨h, good_of_word (List.mem_filter.mp h).2⟩
  intro w h
  rcases List.mem_cons.mp h with rfl | h
  · exact hall _ hc
  · exact hall _ h
variable (cid D ad tx rf Lc) in
/-- a contract's start: the world is the heap's picture -/
def xPc (vs : List AV) (H : HH) (sz : Nat) : Array Value → State → Prop := va_Pc (vs.map (cv ad)) (fun U => U.heap.size = sz ∧ va_P D xcl (xw cid ad Lc H) U.heap ∧ va_K D xcl (xtys cid) U ∧ va_D (fun _ => True) (xw cid ad Lc H) ∧ xStat ad tx (va_A (xw cid ad Lc H) sz) U U.heap ∧ xRefs ad rf U)
theorem xmet {y : MethodName} {vs : List AV} {sz : Nat} (hcl : xclo Lc tx.length) (hy : plainName y.cls = true) (h : Gp l cid D ad tx rf Lc d y.cls b nL ret 0 (xent vs) [] H Q) (hok : ∀ v ∈ vs, xok Lc tx.length v) (hn : (vs.map xcat).sum ≤ nL) :
    Met l y (Cond.code y b nL ret :: xtbl) (xrm d) (xPc cid D ad tx rf Lc vs H sz) (xQ cid D ad tx Lc ret Q (va_A (xw cid ad Lc H) sz) H) 0 0 (va_A (xw cid ad Lc H) sz) := by
  refine Met.ofW (cc := b) (maxL := nL) (ret := ret) hy rfl ?_
  intro p e s m args below meth c s₁ B hml hv
  obtain ⟨rfl, hsz, hP, hK, hD0, hZ, hrf⟩ := hv
  have hx := B.exec
  have hb := B.bytes
  have hr := B.returns
  have hts := atoms_spec (ws := Cond.code y b nL ret :: xtbl) B.pre
  have hown : s.vm.findClass y.cls = some m.cls := findClass_of_methodNamed B.named
  have hlocks := B.notSynchronized
  subst hsz
  have hD := hD0.self (sz := s.heap.size)
  have hlen : (lg_sl (vs.map (cv ad))).length ≤ nL := by
    refine Nat.le_trans (Nat.le_of_eq ?_) hn
    clear h hok hn hts B hx hb hr hown hlocks hD hD0 hZ hrf hP hK hml
    induction vs with
    | nil => rfl
    | cons v r ih =>
      have e : lg_sl (List.map (cv ad) (v :: r)) = (if (cv ad v).category = 2 then [Slot.val (cv ad v), .second] else [Slot.val (cv ad v)]) ++ lg_sl (r.map (cv ad)) := by simp [lg_sl]
      rw [e, List.length_append, ih]
      rcases v with x | x | _ | ⟨k, i⟩ <;> simp [cv, Value.category, xcat]
  have hl := lv_entry (vs.map (cv ad)) (n := nL) hlen
  rw [lg_entry_eq]
  generalize (lg_sl (vs.map (cv ad)) ++ List.replicate (nL - (lg_sl (vs.map (cv ad))).length) Slot.unset).toArray = lsC at hl ⊢
  rw [← xent_args] at hl
  exact h H xag.rf p e _ s m _ below meth c s.heap [] lsC _ ⟨hx, hb, hml, hr, hown, hlocks, fun w hw => hts w (List.mem_cons_of_mem _ hw), rfl, hK, hZ, hrf, fun q hq => Or.inr hq, hcl⟩
    ⟨fun v hv => by
      obtain ⟨i, hi⟩ := List.mem_iff_getElem?.mp hv
      have aux : ∀ (ws : List AV) (i : Nat), (xent ws)[i]? = some (some v) → v ∈ ws := by
        intro ws
        induction ws with
        | nil => intro i h; simp [xent] at h
        | cons w r ih =>
          intro i h
          rcases w with x | x | _ | ⟨k, j⟩
          · cases i with
            | zero => simp [xent] at h; rw [← h]; exact List.mem_cons_self
            | succ i => exact List.mem_cons_of_mem _ (ih i (by simpa [xent] using h))
          · cases i with
            | zero => simp [xent] at h; rw [← h]; exact List.mem_cons_self
            | succ i => cases i with
              | zero => simp [xent] at h
              | succ i => exact List.mem_cons_of_mem _ (ih i (by simpa [xent] using h))
          · cases i with
            | zero => simp [xent] at h; rw [← h]; exact List.mem_cons_self
            | succ i => exact List.mem_cons_of_mem _ (ih i (by simpa [xent] using h))
          · cases i with
            | zero => simp [xent] at h; rw [← h]; exact List.mem_cons_self
            | succ i => exact List.mem_cons_of_mem _ (ih i (by simpa [xent] using h))
      exact hok v (aux vs i hi), fun v hv => by cases hv⟩ hP hD va_S.rf hl
theorem xblind {vs : List AV} {sz : Nat} : FrameBlind (xPc cid D ad tx rf Lc vs H sz) := by
  intro a U g mk q
  obtain ⟨q0, q1, qP, qK, qD, qZ, qR⟩ := q
  exact ⟨q0, q1, qP, va_K.moved (u := U) (U := U.calling g mk a) (Vm.Alike.refl U.vm) qK, qD, xStat.moved ad tx (u := U) (U := U.calling g mk a) (Vm.Alike.refl U.vm) qZ, ⟨fun i r h => vk_R.same (u := U) rfl (qR.1 i r h), fun q h => va_Nw.same rfl (u := U) rfl (qR.2 q h)⟩⟩
/-- behind a call's run -/
theorem xback {p : Program} {e : Env} {R : Room} {s : State} {m : MethodId} {args : Array Value} {below : List Frame} {meth : Method} {c : Code} {Hc : Heap} {locs : List Loc} {lsC : Array Slot} {A : Nat → Prop} {st0 : List Value} {r2 : Option FieldType} {a : Array Value} {H2 : HH}
    (hr : va_Run p l e R s m args below meth c Hc locs 0 0 0 0 (F0 m pc lsC st0) (st.map (cv ad)) (xQ cid D ad tx Lc r2 Q2 (va_A (xw cid ad Lc H2) Hc.size) H2 a) (va_A (xw cid ad Lc H2) Hc.size))
    {H0 : HH} (h0 : xag Lc H0 H2) (hC : xC cid D ad tx rf Lc p c meth s m args R A d own b nL ret) (ho : xoks Lc tx.length ls st) (hD : va_D A (xw cid ad Lc H2)) (hS : va_S A s.heap Hc locs) (hl : lv_has lsC nL (lcv ad 0 ls))
    (kk : ∀ v H', Q2 v H' → Gp l cid D ad tx rf Lc d own b nL ret (pc + 3) ls (xpu r2 v st) H' Q) : W p l e R s m args below meth c Hc locs 0 0 (MQ below (xQ cid D ad tx Lc ret Q A H0) args s 0 0 A) (F0 m pc lsC st0) := by
  have hA1 : ∀ q, va_A (xw cid ad Lc H2) Hc.size q → A q := by
    intro q h
    rcases h with ⟨k, e, h⟩ | h
    · exact hD.2 k (q, e) h
    · exact hC.2.2.2.2.2.2.2.2.2.2.2.1 q (Nat.le_trans hS.1 h)
  intro T hT X
  obtain ⟨v, st₀, t, T', L, hst0, X', hL, e1, e2, ⟨v', H', hv, hok, hq, hP1, ⟨hz, hk⟩, hag⟩, stp⟩ := hr T hT X
  rw [hst0] at hz hk
  have W1 := kk v' H' hq H0 (h0.tr hag) p e R s m args below meth c T'.heap (locs ++ L) lsC A hC
    (by
      cases r2 with
      | none => exact ho
      | some _ => exact ho.push hok)
    (by rw [e1]; exact hP1) (xw_D hD)
    ⟨Nat.le_trans hS.1 (by rw [e1]; exact hz), fun q h1 h2 => by rw [e1, hk q (Nat.lt_of_lt_of_le h1 hS.1) (fun z => h2 (hA1 q z))]; exact hS.2.1 q h1 h2, fun q hq => by
      rcases List.mem_append.mp hq with h | h
      · exact hS.2.2 q h
      · exact hA1 _ (hL q h)⟩ hl
  obtain ⟨t2, a1, b1⟩ := W1 T' rfl X'
  refine ⟨t2, stp t2 ?_, b1⟩
  have hst : v.toList ++ st.map (cv ad) = (xpu r2 v' st).map (cv ad) := by
    cases r2 with
    | none => cases hv; rfl
    | some _ => cases hv; rfl
  show Steps p.tables e below (T'.setTop { method := m, pc := pc + 3, locals := lsC, stack := v.toList ++ st.map (cv ad), locked := none }) t2
  rw [hst]
  exact a1
theorem xprec {s : State} {Hc : Heap} {A : Nat → Prop} {locs : List Loc} {vs : List AV} (hK : va_K D xcl (xtys cid) s) (hP : va_P D xcl (xw cid ad Lc H) Hc) (hD : va_D A (xw cid ad Lc H)) (hZ : xStat ad tx A s s.heap) (hrf : xRefs ad rf s) (hS : va_S A s.heap Hc locs) (hA : ∀ q, s.heap.size ≤ q → A q) :
    ∀ U : State, U.heap = Hc → s.WarmedH U.vm → xPc cid D ad tx rf Lc vs H Hc.size (vs.map (cv ad)).toArray U := by
  intro U hU hW
  refine ⟨rfl, by rw [hU], by rw [hU]; exact hP, va_K.moved hW.alike hK, hD.weaken (fun _ _ _ _ => trivial), ?_, ⟨fun i r h => vk_R.warm hW (hrf.1 i r h), fun q h => va_Nw.warmM hW (hrf.2 q h)⟩⟩
  rw [hU]
  refine ((hZ.kept ad tx hS.2.1).moved ad tx hW.alike).narrow ad tx fun q h => ?_
  rcases h with ⟨k, e, h⟩ | h
  · exact hD.2 k (q, e) h
  · exact hA q (Nat.le_trans hS.1 h)
/-- the words of a method that is called -/
def xM (y : MethodName) (b2 : ByteArray) (n2 : Nat) (r2 : Option FieldType) (n : Nat) : Prop := Cond.code y b2 n2 r2 ∈ xtbl ∧ Cond.initialized y.cls ∈ xtbl ∧ plainName y.cls = true ∧ (y.cls ≠ "java/lang/invoke/MethodHandle" ∧ y.cls ≠ "java/lang/invoke/VarHandle" ∧ (parseMethodDescriptor y.desc).map (fun d => d.parameters.length) = some n) ∧ n2 ≤ 20
theorem g_callV {y : MethodName} {b2 : ByteArray} {n2 n ci N kd ix index : Nat} {r2 : Option FieldType} {T : u_T} {vs : List AV} {st0 : List AV} (hd : decode b pc = .ok (.invokevirtual index, 3)) (hM : xM y b2 n2 r2 n) (hlink : Cond.methodLink own index y ∈ xtbl) (hinst : Cond.instanceMethod y ∈ xtbl) (hsel : Cond.selects y.cls y y ∈ xtbl)
    (h60 : kd < 60) (hsh : xsh kd = (0, ci, N)) (hc : xcl[ci]? = some (y.cls, T, N)) (hlen : vs.length = n) (hst : st0 = vs.reverse ++ vr kd ix :: st) (hcat : (st.map xcat).sum ≤ 8) (hsum : ((vr kd ix :: vs).map xcat).sum ≤ n2)
    (h : Gp l cid D ad tx rf Lc d y.cls b2 n2 r2 0 (xent (vr kd ix :: vs)) [] H Q2) (kk : ∀ v H', Q2 v H' → Gp l cid D ad tx rf Lc (d + 1) own b nL ret (pc + 3) ls (xpu r2 v st) H' Q) : Gp l cid D ad tx rf Lc (d + 1) own b nL ret pc ls st0 H Q := by
  subst hst
  intro H0 h0 p e R s m args below meth c Hc locs lsC A hC ho hP hD hS hl
  obtain ⟨hx, hb, hml, hr, hown, hlk, hts, hR, hK, hZ, hrf, hA, hcl⟩ := id hC
  have hov : xok Lc tx.length (vr kd ix) := ho.2 _ (by simp)
  obtain ⟨q0, hq, hw⟩ := xw_at (cid := cid) (ad := ad) (H := H) (xok_in hov h60)
  rw [xcell_o hsh] at hw
  have hmet := xmet (sz := Hc.size) (y := y) (vs := vr kd ix :: vs) hcl hM.2.2.1 h (fun v hv => by
    rcases List.mem_cons.mp hv with rfl | hv
    · exact hov
    · exact ho.2 _ (by simp [hv])) hsum
  have hrun := va_runV (C := y.cls) (As := vs.map (cv ad)) (rest := st.map (cv ad)) (b := ad kd ix) (g := F0 m pc lsC ((vs.reverse ++ vr kd ix :: st).map (cv ad))) (H := Hc) (locs := locs) (cells := 0) (slots := 0) (p := p) (e := e) (R := R) (below := below) (meth := meth) (index := index) ⟨hx, hb, hml, hown, hts⟩ hmet
    ⟨callB_of n hts (xgood hM.1) rfl rfl rfl (hts _ hM.2.1) (hts _ hlink) hM.2.2.2.1 (by subst hR; have := hM.2.2.2.2; simp only [xrm]; omega), hts _ hinst, hts _ hsel⟩
    ⟨xblind, va_recv hK hP hc hw, xprec hK hP hD hZ hrf hS hA⟩ rfl (by simpa using hlen) hl.1 (by simp [cv]) (by rw [xcats]; exact (by simpa [JFrame.monitorRoom] using hcat)) hd ⟨Nat.zero_le _, Nat.zero_le _⟩
  exact xback hrun h0 hC ⟨ho.1, fun v hv => ho.2 v (by simp [hv])⟩ hD hS hl kk
theorem g_callStr {y : MethodName} {b2 : ByteArray} {n2 n i index : Nat} {r2 : Option FieldType} {vs : List AV} {st0 : List AV} (hd : decode b pc = .ok (.invokevirtual index, 3)) (hM : xM y b2 n2 r2 n) (hlink : Cond.methodLink own index y ∈ xtbl) (hinst : Cond.instanceMethod y ∈ xtbl) (hsel : Cond.selects y.cls y y ∈ xtbl)
    (hc : y.cls = "java/lang/String") (hlen : vs.length = n) (hst : st0 = vs.reverse ++ vr 60 i :: st) (hcat : (st.map xcat).sum ≤ 8) (hsum : ((vr 60 i :: vs).map xcat).sum ≤ n2)
    (h : Gp l cid D ad tx rf Lc d y.cls b2 n2 r2 0 (xent (vr 60 i :: vs)) [] H Q2) (kk : ∀ v H', Q2 v H' → Gp l cid D ad tx rf Lc (d + 1) own b nL ret (pc + 3) ls (xpu r2 v st) H' Q) : Gp l cid D ad tx rf Lc (d + 1) own b nL ret pc ls st0 H Q := by
  subst hst
  intro H0 h0 p e R s m args below meth c Hc locs lsC A hC ho hP hD hS hl
  obtain ⟨hx, hb, hml, hr, hown, hlk, hts, hR, hK, hZ, hrf, hA, hcl⟩ := id hC
  have hov : xok Lc tx.length (vr 60 i) := ho.2 _ (by simp)
  have hi := xok_tx hcl hov (by omega) (by omega)
  have hmet := xmet (sz := Hc.size) (y := y) (vs := vr 60 i :: vs) hcl hM.2.2.1 h (fun v hv => by
    rcases List.mem_cons.mp hv with rfl | hv
    · exact hov
    · exact ho.2 _ (by simp [hv])) hsum
  have hrun := va_runV (C := y.cls) (As := vs.map (cv ad)) (rest := st.map (cv ad)) (b := ad 60 i) (g := F0 m pc lsC ((vs.reverse ++ vr 60 i :: st).map (cv ad))) (H := Hc) (locs := locs) (cells := 0) (slots := 0) (p := p) (e := e) (R := R) (below := below) (meth := meth) (index := index) ⟨hx, hb, hml, hown, hts⟩ hmet
    ⟨callB_of n hts (xgood hM.1) rfl rfl rfl (hts _ hM.2.1) (hts _ hlink) hM.2.2.2.1 (by subst hR; have := hM.2.2.2.2; simp only [xrm]; omega), hts _ hinst, hts _ hsel⟩
    ⟨xblind, by rw [hc]; exact vk_recv hZ.2.2.2.2.2.2.2.1 hi hS, xprec hK hP hD hZ hrf hS hA⟩ rfl (by simpa using hlen) hl.1 (by simp [cv]) (by rw [xcats]; exact (by simpa [JFrame.monitorRoom] using hcat)) hd ⟨Nat.zero_le _, Nat.zero_le _⟩
  exact xback hrun h0 hC ⟨ho.1, fun v hv => ho.2 v (by simp [hv])⟩ hD hS hl kk
theorem g_callS {y : MethodName} {b2 : ByteArray} {n2 n index : Nat} {r2 : Option FieldType} {vs : List AV} {st0 : List AV} (hd : decode b pc = .ok (.invokestatic index, 3)) (hM : xM y b2 n2 r2 n) (hlink : Cond.methodLink own index y ∈ xtbl) (hstat : Cond.static y ∈ xtbl)
    (hlen : vs.length = n) (hst : st0 = vs.reverse ++ st) (hcat : (st.map xcat).sum ≤ 8) (hsum : (vs.map xcat).sum ≤ n2)
    (h : Gp l cid D ad tx rf Lc d y.cls b2 n2 r2 0 (xent vs) [] H Q2) (kk : ∀ v H', Q2 v H' → Gp l cid D ad tx rf Lc (d + 1) own b nL ret (pc + 3) ls (xpu r2 v st) H' Q) : Gp l cid D ad tx rf Lc (d + 1) own b nL ret pc ls st0 H Q := by
  subst hst
  intro H0 h0 p e R s m args below meth c Hc locs lsC A hC ho hP hD hS hl
  obtain ⟨hx, hb, hml, hr, hown, hlk, hts, hR, hK, hZ, hrf, hA, hcl⟩ := id hC
  have hmet := xmet (sz := Hc.size) (y := y) (vs := vs) hcl hM.2.2.1 h (fun v hv => ho.2 _ (by simp [hv])) hsum
  have hrun := va_runS (As := vs.map (cv ad)) (rest := st.map (cv ad)) (g := F0 m pc lsC ((vs.reverse ++ st).map (cv ad))) (H := Hc) (locs := locs) (cells := 0) (slots := 0) (p := p) (e := e) (R := R) (below := below) (meth := meth) (index := index) ⟨hx, hb, hml, hown, hts⟩ hmet
    ⟨callB_of n hts (xgood hM.1) rfl rfl rfl (hts _ hM.2.1) (hts _ hlink) hM.2.2.2.1 (by subst hR; have := hM.2.2.2.2; simp only [xrm]; omega), hts _ hstat⟩
    ⟨xblind, xprec hK hP hD hZ hrf hS hA⟩ rfl (by simpa using hlen) hl.1 (by simp) (by rw [xcats]; exact (by simpa [JFrame.monitorRoom] using hcat)) hd ⟨Nat.zero_le _, Nat.zero_le _⟩
  exact xback hrun h0 hC ⟨ho.1, fun v hv => ho.2 v (by simp [hv])⟩ hD hS hl kk
/-- a static method of a nest mate -/
theorem g_callSN {y : MethodName} {b2 : ByteArray} {n2 n index : Nat} {r2 : Option FieldType} {host : String} {vs : List AV} {st0 : List AV} (hd : decode b pc = .ok (.invokestatic index, 3)) (hM : xM y b2 n2 r2 n) (hlink : (own, index, y, host) ∈ xNST) (hstat : Cond.static y ∈ xtbl)
    (hlen : vs.length = n) (hst : st0 = vs.reverse ++ st) (hcat : (st.map xcat).sum ≤ 8) (hsum : (vs.map xcat).sum ≤ n2)
    (h : Gp l cid D ad tx rf Lc d y.cls b2 n2 r2 0 (xent vs) [] H Q2) (kk : ∀ v H', Q2 v H' → Gp l cid D ad tx rf Lc (d + 1) own b nL ret (pc + 3) ls (xpu r2 v st) H' Q) : Gp l cid D ad tx rf Lc (d + 1) own b nL ret pc ls st0 H Q := by
  subst hst
  intro H0 h0 p e R s m args below meth c Hc locs lsC A hC ho hP hD hS hl
  obtain ⟨hx, hb, hml, hr, hown, hlk, hts, hR, hK, hZ, hrf, hA, hcl⟩ := id hC
  have hmet := xmet (sz := Hc.size) (y := y) (vs := vs) hcl hM.2.2.1 h (fun v hv => ho.2 _ (by simp [hv])) hsum
  have hrun := va_runSN (host := host) (As := vs.map (cv ad)) (rest := st.map (cv ad)) (g := F0 m pc lsC ((vs.reverse ++ st).map (cv ad))) (H := Hc) (locs := locs) (cells := 0) (slots := 0) (p := p) (e := e) (R := R) (below := below) (meth := meth) (index := index) ⟨hx, hb, hml, hown, hts⟩ hmet
    ⟨va_cnB n hts (xgood hM.1) rfl rfl rfl (hrf.2 _ hlink) (hts _ hM.2.1) hM.2.2.2.1 (by subst hR; have := hM.2.2.2.2; simp only [xrm]; omega), hts _ hstat, trivial⟩
    ⟨xblind, xprec hK hP hD hZ hrf hS hA⟩ rfl (by simpa using hlen) hl.1 (by simp) (by rw [xcats]; exact (by simpa [JFrame.monitorRoom] using hcat)) hd ⟨Nat.zero_le _, Nat.zero_le _⟩
  exact xback hrun h0 hC ⟨ho.1, fun v hv => ho.2 v (by simp [hv])⟩ hD hS hl kk
end CRU
end
section
/-! RULES: names, loops, Math.max, Math.min, System.arraycopy; what stands for both sides of the law. -/
abbrev xrem (x y : Int32) : Int32 := x - x / y * y
theorem vp_lit {i : Int32} {n : Nat} (h : (decide (i < 0) || decide (n ≤ i.toNatClampNeg)) = false) : vp_in i n := by
  intro q
  rcases q with q | q
  · simp [q] at h
  · simp [q] at h
section MRU
variable {l : Launch} {cid : Nat → ClassId} {D : va_G} {ad : Nat → Nat → Nat} {tx : List (List Int32)} {rf : List (String × Nat × String)} {Lc : List (Nat × Nat)} {d : Nat} {own : String} {b : ByteArray} {nL : Nat} {ret : Option FieldType} {pc : Nat} {ls : List (Option AV)} {st : List AV} {H : HH} {Q Q2 : AV → HH → Prop}
theorem g_topi {x : Int32} (k : ∀ y, y = x → Gp l cid D ad tx rf Lc d own b nL ret pc ls (vi y :: st) H Q) : Gp l cid D ad tx rf Lc d own b nL ret pc ls (vi x :: st) H Q := k x rfl
theorem g_topl {x : Int64} (k : ∀ y, y = x → Gp l cid D ad tx rf Lc d own b nL ret pc ls (vl y :: st) H Q) : Gp l cid D ad tx rf Lc d own b nL ret pc ls (vl x :: st) H Q := k x rfl
theorem g_heap (k : ∀ H1, H1 = H → Gp l cid D ad tx rf Lc d own b nL ret pc ls st H1 Q) : Gp l cid D ad tx rf Lc d own b nL ret pc ls st H Q := k H rfl
theorem g_mmax {index : Nat} {x y : Int32} (hd : decode b pc = .ok (.invokestatic index, 3)) (hm : Cond.methodLink own index Lib.Math.max.name ∈ xtbl) (h1 : Cond.static Lib.Math.max.name ∈ xtbl) (h2 : Cond.initialized "java/lang/Math" ∈ xtbl) (h3 : Cond.code Lib.Math.max.name Lib.Math.max.code 2 (some .int) ∈ xtbl) (hcat : (st.map xcat).sum ≤ 8)
    (k : Gp l cid D ad tx rf Lc (d + 1) own b nL ret (pc + 3) ls (vi (if x < y then y else x) :: st) H Q) : Gp l cid D ad tx rf Lc (d + 1) own b nL ret pc ls (vi y :: vi x :: st) H Q := by
  intro H0 h0 p e R s m args below meth c Hc locs lsC A hC ho hP hD hS hl
  obtain ⟨hx, hb, hml, hr, hown, hlk, hts, hR, hK, hZ, hrf, hA, hcl⟩ := id hC
  subst hR
  exact va_mmax hx hb (hml.trans hl.1.symm) hown (hts _ hm) (hts _ h1) (hts _ h2) (hts _ h3) (by simp only [xrm]; omega) (by rw [xcats]; simp only [xrm]; omega) (Nat.zero_le _) (Nat.zero_le _) hd (k H0 h0 p e _ s m args below meth c Hc locs lsC A hC (ho.pop.pop.push trivial) hP hD hS hl)
theorem g_mmin {index : Nat} {x y : Int32} (hd : decode b pc = .ok (.invokestatic index, 3)) (hm : Cond.methodLink own index Lib.Math.min.name ∈ xtbl) (h1 : Cond.static Lib.Math.min.name ∈ xtbl) (h2 : Cond.initialized "java/lang/Math" ∈ xtbl) (h3 : Cond.code Lib.Math.min.name Lib.Math.min.code 2 (some .int) ∈ xtbl) (hcat : (st.map xcat).sum ≤ 8)
    (k : Gp l cid D ad tx rf Lc (d + 1) own b nL ret (pc + 3) ls (vi (if y < x then y else x) :: st) H Q) : Gp l cid D ad tx rf Lc (d + 1) own b nL ret pc ls (vi y :: vi x :: st) H Q := by
  intro H0 h0 p e R s m args below meth c Hc locs lsC A hC ho hP hD hS hl
  obtain ⟨hx, hb, hml, hr, hown, hlk, hts, hR, hK, hZ, hrf, hA, hcl⟩ := id hC
  subst hR
  exact va_mmin hx hb (hml.trans hl.1.symm) hown (hts _ hm) (hts _ h1) (hts _ h2) (hts _ h3) (by simp only [xrm]; omega) (by rw [xcats]; simp only [xrm]; omega) (Nat.zero_le _) (Nat.zero_le _) hd (k H0 h0 p e _ s m args below meth c Hc locs lsC A hC (ho.pop.pop.push trivial) hP hD hS hl)
/-- System.arraycopy between rows of ints -/
theorem g_copy {index : Nat} {k0 i0 k1 i1 a0 a1 n0 n1 : Nat} {sp dp n : Int32} (hd : decode b pc = .ok (.invokestatic index, 3)) (hm : Cond.methodLink own index arraycopyName ∈ xtbl) (h1 : Cond.native arraycopyName ∈ xtbl) (h2 : Cond.static arraycopyName ∈ xtbl) (h3 : Cond.initialized "java/lang/System" ∈ xtbl) (hcat : (st.map xcat).sum ≤ 8)
    (hk0 : k0 < 60) (hk1 : k1 < 60) (hs0 : xsh k0 = (1, a0, n0)) (hs1 : xsh k1 = (1, a1, n1)) (q1 : ¬ sp < 0) (q2 : ¬ dp < 0) (q3 : ¬ n < 0) (q4 : sp.toNatClampNeg + n.toNatClampNeg ≤ n0) (q5 : dp.toNatClampNeg + n.toNatClampNeg ≤ n1)
    (k : Gp l cid D ad tx rf Lc (d + 1) own b nL ret (pc + 3) ls st (hrow H k1 i1 (va_cpy (H k0 i0) (H k1 i1) sp.toNatClampNeg dp.toNatClampNeg n.toNatClampNeg)) Q) : Gp l cid D ad tx rf Lc (d + 1) own b nL ret pc ls (vi n :: vi dp :: vr k1 i1 :: vi sp :: vr k0 i0 :: st) H Q := by
  intro H0 h0 p e R s m args below meth c Hc locs lsC A hC ho hP hD hS hl
  obtain ⟨hx, hb, hml, hr, hown, hlk, hts, hR, hK, hZ, hrf, hA, hcl⟩ := id hC
  subst hR
  obtain ⟨p0, hp0, hw0⟩ := xw_at (cid := cid) (ad := ad) (H := H) (xok_in (ho.2 (vr k0 i0) (by simp)) hk0)
  obtain ⟨p1, hp1, hw1⟩ := xw_at (cid := cid) (ad := ad) (H := H) (xok_in (ho.2 (vr k1 i1) (by simp)) hk1)
  rw [xcell_i hs0] at hw0
  rw [xcell_i hs1] at hw1
  have hnf : nativeFrameWords "java/lang/System" "arraycopy" 5 ≤ 30 := by decide +kernel
  refine va_copyi hx hb (hml.trans hl.1.symm) hown (hts _ hm) (hts _ h1) (hts _ h2) (hts _ h3) hK hP hD hS p0 p1 0 0 hw0 hw1 rfl rfl rfl q1 q2 q3 q4 q5 (fun _ _ => rfl) (by simp only [xrm]; omega) (by rw [xcats]; simp only [xrm]; omega) hd (fun H1 locs1 hP1 hD1 hS1 => ?_)
  rw [← xcell_i (cid := cid) (ad := ad) (ix := i1) hs1, xw_set hcl.1 hp1] at hP1
  exact k H0 (h0.row (xok_in (ho.2 (vr k1 i1) (by simp)) hk1)) p e _ s m args below meth c H1 locs1 lsC A hC ⟨ho.1, fun v hv => ho.2 v (by simp [hv])⟩ hP1 (xw_D hD) hS1 hl
end MRU
/-- a loop: an invariant, a measure that falls -/
theorem xloop {σ : Type} (I : σ → HH → Prop) (μ : σ → HH → Nat) (G : σ → HH → Prop) (h : ∀ x H, I x H → (∀ y H1, I y H1 → μ y H1 < μ x H → G y H1) → G x H) : ∀ x H, I x H → G x H := by
  have key : ∀ n x H, μ x H < n → I x H → G x H := by
    intro n
    induction n with
    | zero => intro x H q; exact absurd q (Nat.not_lt_zero _)
    | succ n ih => exact fun x H q hI => h x H hI fun y H1 hy hlt => ih y H1 (by omega) hy
  exact fun x H hI => key _ x H (Nat.lt_succ_self _) hI
theorem xsw {x : Int32} {m : Int} (hm : (Int32.ofInt m).toInt = m) (h : ¬ x = Int32.ofInt m) : ¬ x.toInt = m := fun e => h (Int32.toInt_inj.mp (e.trans hm.symm))
def qi (Q : Int32 → HH → Prop) : AV → HH → Prop := fun v H => ∃ r, v = vi r ∧ Q r H
def ql (Q : Int64 → HH → Prop) : AV → HH → Prop := fun v H => ∃ r, v = vl r ∧ Q r H
def qv (Q : HH → Prop) : AV → HH → Prop := fun _ H => Q H
abbrev XE : Type := Launch × (Nat → ClassId) × va_G × (Nat → Nat → Nat)
/-- the texts that the class holds as constants: whose, which entry, what; their bytes -/
def xRF : List (String × Nat × String) := [("ThreePoints", 58, "clears 1 ; wears 1 + steers ; sure 90 ;"), ("ThreePoints$Tape", 101, "more"), ("ThreePoints$Tape", 105, "wall"), ("ThreePoints$Tape", 107, "heading"), ("ThreePoints$Tape", 109, "place"), ("ThreePoints$Tape", 111, "width"), ("ThreePoints$Tape", 113, "steers"), ("ThreePoints$Tape", 85, "clears"), ("ThreePoints$Tape", 91, "wears"), ("ThreePoints$Tape", 93, "sure"), ("ThreePoints$Tape", 95, "or"), ("ThreePoints$Tape", 97, "and"), ("ThreePoints$Tape", 99, "not"), ("ThreePoints$Tape", 80, "();+-*<=")]
def xTX : List (List Int32) := [[99, 108, 101, 97, 114, 115, 32, 49, 32, 59, 32, 119, 101, 97, 114, 115, 32, 49, 32, 43, 32, 115, 116, 101, 101, 114, 115, 32, 59, 32, 115, 117, 114, 101, 32, 57, 48, 32, 59], [109, 111, 114, 101], [119, 97, 108, 108], [104, 101, 97, 100, 105, 110, 103], [112, 108, 97, 99, 101], [119, 105, 100, 116, 104], [115, 116, 101, 101, 114, 115], [99, 108, 101, 97, 114, 115], [119, 101, 97, 114, 115], [115, 117, 114, 101], [111, 114], [97, 110, 100], [110, 111, 116], [40, 41, 59, 43, 45, 42, 60, 61]]
section MR2
variable {l : Launch} {cid : Nat → ClassId} {D : va_G} {ad : Nat → Nat → Nat} {tx : List (List Int32)} {rf : List (String × Nat × String)} {Lc : List (Nat × Nat)} {d : Nat} {own : String} {b : ByteArray} {nL : Nat} {ret : Option FieldType} {pc : Nat} {ls : List (Option AV)} {st : List AV} {H : HH} {Q Q2 : AV → HH → Prop}
theorem g_topE {x y : Int32} (e : x = y) (k : Gp l cid D ad tx rf Lc d own b nL ret pc ls (vi y :: st) H Q) : Gp l cid D ad tx rf Lc d own b nL ret pc ls (vi x :: st) H Q := e ▸ k
theorem g_heapE {H1 : HH} (e : H = H1) (k : Gp l cid D ad tx rf Lc d own b nL ret pc ls st H1 Q) : Gp l cid D ad tx rf Lc d own b nL ret pc ls st H Q := e ▸ k
end MR2
abbrev xmax (x y : Int32) : Int32 := if x < y then y else x
abbrev xmin (x y : Int32) : Int32 := if y < x then y else x
theorem nbool {x : Int32} (h : x = 0 ∨ x = 1) : narrow .boolean (.int x) = .int x := by rcases h with rfl | rfl <;> rfl
end
