section
-- ===== PART A: goes FIRST, ahead of the names: the tables' words, and 'selects' of the private methods out of them =====
/-- a private method of a class that the tables say can be made, by its rows of tables_1 -/
def lw_okq (q : MethodName × Nat) : Prop := (q.1.cls ≠ "java/lang/invoke/MethodHandle" ∧ q.1.cls ≠ "java/lang/invoke/VarHandle") ∧ Cond.instantiable q.1.cls q.2 ∈ tables_1 ∧ Cond.privateMethod q.1 ∈ tables_1 ∧ Cond.instanceMethod q.1 ∈ tables_1
theorem lw_p0 : lw_okq (⟨"ThreePoints$Tape", "endOfToken", "(I)I"⟩, 6) := ⟨⟨by decide +kernel, by decide +kernel⟩, List.mem_of_getElem? (i := 118) (by decide +kernel), List.mem_of_getElem? (i := 331) (by decide +kernel), List.mem_of_getElem? (i := 332) (by decide +kernel)⟩
theorem lw_p1 : lw_okq (⟨"ThreePoints$Tape", "byteAt", "(I)I"⟩, 6) := ⟨⟨by decide +kernel, by decide +kernel⟩, List.mem_of_getElem? (i := 118) (by decide +kernel), List.mem_of_getElem? (i := 335) (by decide +kernel), List.mem_of_getElem? (i := 336) (by decide +kernel)⟩
theorem lw_p2 : lw_okq (⟨"ThreePoints$Tape", "numberAt", "(II)I"⟩, 6) := ⟨⟨by decide +kernel, by decide +kernel⟩, List.mem_of_getElem? (i := 118) (by decide +kernel), List.mem_of_getElem? (i := 348) (by decide +kernel), List.mem_of_getElem? (i := 349) (by decide +kernel)⟩
theorem lw_p3 : lw_okq (⟨"ThreePoints$Tape", "nameAt", "(II)I"⟩, 6) := ⟨⟨by decide +kernel, by decide +kernel⟩, List.mem_of_getElem? (i := 118) (by decide +kernel), List.mem_of_getElem? (i := 352) (by decide +kernel), List.mem_of_getElem? (i := 353) (by decide +kernel)⟩
theorem lw_p4 : lw_okq (⟨"ThreePoints$Tape", "spells", "(IILjava/lang/String;)Z"⟩, 6) := ⟨⟨by decide +kernel, by decide +kernel⟩, List.mem_of_getElem? (i := 118) (by decide +kernel), List.mem_of_getElem? (i := 357) (by decide +kernel), List.mem_of_getElem? (i := 358) (by decide +kernel)⟩
theorem lw_p5 : lw_okq (⟨"ThreePoints$Tape", "kindAt", "(II)I"⟩, 6) := ⟨⟨by decide +kernel, by decide +kernel⟩, List.mem_of_getElem? (i := 118) (by decide +kernel), List.mem_of_getElem? (i := 366) (by decide +kernel), List.mem_of_getElem? (i := 367) (by decide +kernel)⟩
theorem lw_p6 : lw_okq (⟨"ThreePoints$Tape", "wordKindAt", "(II)I"⟩, 6) := ⟨⟨by decide +kernel, by decide +kernel⟩, List.mem_of_getElem? (i := 118) (by decide +kernel), List.mem_of_getElem? (i := 370) (by decide +kernel), List.mem_of_getElem? (i := 371) (by decide +kernel)⟩
theorem lw_p7 : lw_okq (⟨"ThreePoints$Reader", "goTo", "(I)V"⟩, 5) := ⟨⟨by decide +kernel, by decide +kernel⟩, List.mem_of_getElem? (i := 112) (by decide +kernel), List.mem_of_getElem? (i := 448) (by decide +kernel), List.mem_of_getElem? (i := 449) (by decide +kernel)⟩
theorem lw_p8 : lw_okq (⟨"ThreePoints$Reader", "readPart", "(II)Z"⟩, 5) := ⟨⟨by decide +kernel, by decide +kernel⟩, List.mem_of_getElem? (i := 112) (by decide +kernel), List.mem_of_getElem? (i := 456) (by decide +kernel), List.mem_of_getElem? (i := 457) (by decide +kernel)⟩
theorem lw_p9 : lw_okq (⟨"ThreePoints$Reader", "readOr", "()Z"⟩, 5) := ⟨⟨by decide +kernel, by decide +kernel⟩, List.mem_of_getElem? (i := 112) (by decide +kernel), List.mem_of_getElem? (i := 460) (by decide +kernel), List.mem_of_getElem? (i := 461) (by decide +kernel)⟩
theorem lw_p10 : lw_okq (⟨"ThreePoints$Reader", "readAnd", "()Z"⟩, 5) := ⟨⟨by decide +kernel, by decide +kernel⟩, List.mem_of_getElem? (i := 112) (by decide +kernel), List.mem_of_getElem? (i := 464) (by decide +kernel), List.mem_of_getElem? (i := 465) (by decide +kernel)⟩
theorem lw_p11 : lw_okq (⟨"ThreePoints$Reader", "readNot", "()Z"⟩, 5) := ⟨⟨by decide +kernel, by decide +kernel⟩, List.mem_of_getElem? (i := 112) (by decide +kernel), List.mem_of_getElem? (i := 468) (by decide +kernel), List.mem_of_getElem? (i := 469) (by decide +kernel)⟩
theorem lw_p12 : lw_okq (⟨"ThreePoints$Reader", "readComparison", "()Z"⟩, 5) := ⟨⟨by decide +kernel, by decide +kernel⟩, List.mem_of_getElem? (i := 112) (by decide +kernel), List.mem_of_getElem? (i := 472) (by decide +kernel), List.mem_of_getElem? (i := 473) (by decide +kernel)⟩
theorem lw_p13 : lw_okq (⟨"ThreePoints$Reader", "readSum", "()Z"⟩, 5) := ⟨⟨by decide +kernel, by decide +kernel⟩, List.mem_of_getElem? (i := 112) (by decide +kernel), List.mem_of_getElem? (i := 476) (by decide +kernel), List.mem_of_getElem? (i := 477) (by decide +kernel)⟩
theorem lw_p14 : lw_okq (⟨"ThreePoints$Reader", "readTerm", "()Z"⟩, 5) := ⟨⟨by decide +kernel, by decide +kernel⟩, List.mem_of_getElem? (i := 112) (by decide +kernel), List.mem_of_getElem? (i := 480) (by decide +kernel), List.mem_of_getElem? (i := 481) (by decide +kernel)⟩
theorem lw_p15 : lw_okq (⟨"ThreePoints$Reader", "readOne", "()Z"⟩, 5) := ⟨⟨by decide +kernel, by decide +kernel⟩, List.mem_of_getElem? (i := 112) (by decide +kernel), List.mem_of_getElem? (i := 484) (by decide +kernel), List.mem_of_getElem? (i := 485) (by decide +kernel)⟩
def lw_privs_1 : List (MethodName × Nat) := [(⟨"ThreePoints$Tape", "endOfToken", "(I)I"⟩, 6), (⟨"ThreePoints$Tape", "byteAt", "(I)I"⟩, 6), (⟨"ThreePoints$Tape", "numberAt", "(II)I"⟩, 6), (⟨"ThreePoints$Tape", "nameAt", "(II)I"⟩, 6), (⟨"ThreePoints$Tape", "spells", "(IILjava/lang/String;)Z"⟩, 6), (⟨"ThreePoints$Tape", "kindAt", "(II)I"⟩, 6), (⟨"ThreePoints$Tape", "wordKindAt", "(II)I"⟩, 6), (⟨"ThreePoints$Reader", "goTo", "(I)V"⟩, 5), (⟨"ThreePoints$Reader", "readPart", "(II)Z"⟩, 5), (⟨"ThreePoints$Reader", "readOr", "()Z"⟩, 5), (⟨"ThreePoints$Reader", "readAnd", "()Z"⟩, 5), (⟨"ThreePoints$Reader", "readNot", "()Z"⟩, 5), (⟨"ThreePoints$Reader", "readComparison", "()Z"⟩, 5), (⟨"ThreePoints$Reader", "readSum", "()Z"⟩, 5), (⟨"ThreePoints$Reader", "readTerm", "()Z"⟩, 5), (⟨"ThreePoints$Reader", "readOne", "()Z"⟩, 5)]
theorem lw_r1 : ∀ q ∈ lw_privs_1, lw_okq q := List.forall_mem_cons.mpr ⟨lw_p0, List.forall_mem_cons.mpr ⟨lw_p1, List.forall_mem_cons.mpr ⟨lw_p2, List.forall_mem_cons.mpr ⟨lw_p3, List.forall_mem_cons.mpr ⟨lw_p4, List.forall_mem_cons.mpr ⟨lw_p5, List.forall_mem_cons.mpr ⟨lw_p6, List.forall_mem_cons.mpr ⟨lw_p7, List.forall_mem_cons.mpr ⟨lw_p8, List.forall_mem_cons.mpr ⟨lw_p9, List.forall_mem_cons.mpr ⟨lw_p10, List.forall_mem_cons.mpr ⟨lw_p11, List.forall_mem_cons.mpr ⟨lw_p12, List.forall_mem_cons.mpr ⟨lw_p13, List.forall_mem_cons.mpr ⟨lw_p14, List.forall_mem_cons.mpr ⟨lw_p15, fun _ h => absurd h List.not_mem_nil⟩⟩⟩⟩⟩⟩⟩⟩⟩⟩⟩⟩⟩⟩⟩⟩
theorem lw_p16 : lw_okq (⟨"ThreePoints$Reader", "mayOpen", "()Z"⟩, 5) := ⟨⟨by decide +kernel, by decide +kernel⟩, List.mem_of_getElem? (i := 112) (by decide +kernel), List.mem_of_getElem? (i := 496) (by decide +kernel), List.mem_of_getElem? (i := 497) (by decide +kernel)⟩
theorem lw_p17 : lw_okq (⟨"ThreePoints", "think", "(I)V"⟩, 9) := ⟨⟨by decide +kernel, by decide +kernel⟩, List.mem_of_getElem? (i := 21) (by decide +kernel), List.mem_of_getElem? (i := 559) (by decide +kernel), List.mem_of_getElem? (i := 560) (by decide +kernel)⟩
theorem lw_p18 : lw_okq (⟨"ThreePoints", "isVehicle", "(I)Z"⟩, 9) := ⟨⟨by decide +kernel, by decide +kernel⟩, List.mem_of_getElem? (i := 21) (by decide +kernel), List.mem_of_getElem? (i := 567) (by decide +kernel), List.mem_of_getElem? (i := 568) (by decide +kernel)⟩
theorem lw_p19 : lw_okq (⟨"ThreePoints", "isPlaceHeading", "(I)Z"⟩, 9) := ⟨⟨by decide +kernel, by decide +kernel⟩, List.mem_of_getElem? (i := 21) (by decide +kernel), List.mem_of_getElem? (i := 639) (by decide +kernel), List.mem_of_getElem? (i := 640) (by decide +kernel)⟩
theorem lw_p20 : lw_okq (⟨"ThreePoints", "isPlace", "(I)Z"⟩, 9) := ⟨⟨by decide +kernel, by decide +kernel⟩, List.mem_of_getElem? (i := 21) (by decide +kernel), List.mem_of_getElem? (i := 643) (by decide +kernel), List.mem_of_getElem? (i := 644) (by decide +kernel)⟩
theorem lw_p21 : lw_okq (⟨"ThreePoints", "addVehicle", "(II)I"⟩, 9) := ⟨⟨by decide +kernel, by decide +kernel⟩, List.mem_of_getElem? (i := 21) (by decide +kernel), List.mem_of_getElem? (i := 655) (by decide +kernel), List.mem_of_getElem? (i := 656) (by decide +kernel)⟩
theorem lw_p22 : lw_okq (⟨"ThreePoints$Search", "lower", "(II)V"⟩, 8) := ⟨⟨by decide +kernel, by decide +kernel⟩, List.mem_of_getElem? (i := 214) (by decide +kernel), List.mem_of_getElem? (i := 725) (by decide +kernel), List.mem_of_getElem? (i := 726) (by decide +kernel)⟩
theorem lw_p23 : lw_okq (⟨"ThreePoints$Search", "unlink", "(I)V"⟩, 8) := ⟨⟨by decide +kernel, by decide +kernel⟩, List.mem_of_getElem? (i := 214) (by decide +kernel), List.mem_of_getElem? (i := 729) (by decide +kernel), List.mem_of_getElem? (i := 730) (by decide +kernel)⟩
theorem lw_p24 : lw_okq (⟨"ThreePoints$Search", "lowerAhead", "(LThreePoints$Ride;II)V"⟩, 8) := ⟨⟨by decide +kernel, by decide +kernel⟩, List.mem_of_getElem? (i := 214) (by decide +kernel), List.mem_of_getElem? (i := 734) (by decide +kernel), List.mem_of_getElem? (i := 735) (by decide +kernel)⟩
theorem lw_p25 : lw_okq (⟨"ThreePoints$Search", "addBehind", "(LThreePoints$Ride;III)I"⟩, 8) := ⟨⟨by decide +kernel, by decide +kernel⟩, List.mem_of_getElem? (i := 214) (by decide +kernel), List.mem_of_getElem? (i := 771) (by decide +kernel), List.mem_of_getElem? (i := 772) (by decide +kernel)⟩
theorem lw_p26 : lw_okq (⟨"ThreePoints", "refusalOfMoves", "(II)I"⟩, 9) := ⟨⟨by decide +kernel, by decide +kernel⟩, List.mem_of_getElem? (i := 21) (by decide +kernel), List.mem_of_getElem? (i := 783) (by decide +kernel), List.mem_of_getElem? (i := 784) (by decide +kernel)⟩
theorem lw_p27 : lw_okq (⟨"ThreePointsModel", "next", "()V"⟩, 39) := ⟨⟨by decide +kernel, by decide +kernel⟩, List.mem_of_getElem? (i := 910) (by decide +kernel), List.mem_of_getElem? (i := 920) (by decide +kernel), List.mem_of_getElem? (i := 921) (by decide +kernel)⟩
theorem lw_p28 : lw_okq (⟨"ThreePointsModel", "wordFrom", "(II)I"⟩, 39) := ⟨⟨by decide +kernel, by decide +kernel⟩, List.mem_of_getElem? (i := 910) (by decide +kernel), List.mem_of_getElem? (i := 927) (by decide +kernel), List.mem_of_getElem? (i := 928) (by decide +kernel)⟩
theorem lw_p29 : lw_okq (⟨"ThreePointsModel", "eRead", "()Z"⟩, 39) := ⟨⟨by decide +kernel, by decide +kernel⟩, List.mem_of_getElem? (i := 910) (by decide +kernel), List.mem_of_getElem? (i := 931) (by decide +kernel), List.mem_of_getElem? (i := 932) (by decide +kernel)⟩
theorem lw_p30 : lw_okq (⟨"ThreePointsModel", "puts", "(I)V"⟩, 39) := ⟨⟨by decide +kernel, by decide +kernel⟩, List.mem_of_getElem? (i := 910) (by decide +kernel), List.mem_of_getElem? (i := 936) (by decide +kernel), List.mem_of_getElem? (i := 937) (by decide +kernel)⟩
theorem lw_p31 : lw_okq (⟨"ThreePointsModel", "unwinds", "(I)V"⟩, 39) := ⟨⟨by decide +kernel, by decide +kernel⟩, List.mem_of_getElem? (i := 910) (by decide +kernel), List.mem_of_getElem? (i := 940) (by decide +kernel), List.mem_of_getElem? (i := 941) (by decide +kernel)⟩
def lw_privs_2 : List (MethodName × Nat) := [(⟨"ThreePoints$Reader", "mayOpen", "()Z"⟩, 5), (⟨"ThreePoints", "think", "(I)V"⟩, 9), (⟨"ThreePoints", "isVehicle", "(I)Z"⟩, 9), (⟨"ThreePoints", "isPlaceHeading", "(I)Z"⟩, 9), (⟨"ThreePoints", "isPlace", "(I)Z"⟩, 9), (⟨"ThreePoints", "addVehicle", "(II)I"⟩, 9), (⟨"ThreePoints$Search", "lower", "(II)V"⟩, 8), (⟨"ThreePoints$Search", "unlink", "(I)V"⟩, 8), (⟨"ThreePoints$Search", "lowerAhead", "(LThreePoints$Ride;II)V"⟩, 8), (⟨"ThreePoints$Search", "addBehind", "(LThreePoints$Ride;III)I"⟩, 8), (⟨"ThreePoints", "refusalOfMoves", "(II)I"⟩, 9), (⟨"ThreePointsModel", "next", "()V"⟩, 39), (⟨"ThreePointsModel", "wordFrom", "(II)I"⟩, 39), (⟨"ThreePointsModel", "eRead", "()Z"⟩, 39), (⟨"ThreePointsModel", "puts", "(I)V"⟩, 39), (⟨"ThreePointsModel", "unwinds", "(I)V"⟩, 39)]
theorem lw_r2 : ∀ q ∈ lw_privs_2, lw_okq q := List.forall_mem_cons.mpr ⟨lw_p16, List.forall_mem_cons.mpr ⟨lw_p17, List.forall_mem_cons.mpr ⟨lw_p18, List.forall_mem_cons.mpr ⟨lw_p19, List.forall_mem_cons.mpr ⟨lw_p20, List.forall_mem_cons.mpr ⟨lw_p21, List.forall_mem_cons.mpr ⟨lw_p22, List.forall_mem_cons.mpr ⟨lw_p23, List.forall_mem_cons.mpr ⟨lw_p24, List.forall_mem_cons.mpr ⟨lw_p25, List.forall_mem_cons.mpr ⟨lw_p26, List.forall_mem_cons.mpr ⟨lw_p27, List.forall_mem_cons.mpr ⟨lw_p28, List.forall_mem_cons.mpr ⟨lw_p29, List.forall_mem_cons.mpr ⟨lw_p30, List.forall_mem_cons.mpr ⟨lw_p31, fun _ h => absurd h List.not_mem_nil⟩⟩⟩⟩⟩⟩⟩⟩⟩⟩⟩⟩⟩⟩⟩⟩
theorem lw_p32 : lw_okq (⟨"ThreePointsModel", "opensOne", "(I)Z"⟩, 39) := ⟨⟨by decide +kernel, by decide +kernel⟩, List.mem_of_getElem? (i := 910) (by decide +kernel), List.mem_of_getElem? (i := 947) (by decide +kernel), List.mem_of_getElem? (i := 948) (by decide +kernel)⟩
theorem lw_p33 : lw_okq (⟨"ThreePointsModel", "holds", "(I)V"⟩, 39) := ⟨⟨by decide +kernel, by decide +kernel⟩, List.mem_of_getElem? (i := 910) (by decide +kernel), List.mem_of_getElem? (i := 951) (by decide +kernel), List.mem_of_getElem? (i := 952) (by decide +kernel)⟩
theorem lw_p34 : lw_okq (⟨"ThreePointsModel", "signOf", "()I"⟩, 39) := ⟨⟨by decide +kernel, by decide +kernel⟩, List.mem_of_getElem? (i := 910) (by decide +kernel), List.mem_of_getElem? (i := 955) (by decide +kernel), List.mem_of_getElem? (i := 956) (by decide +kernel)⟩
theorem lw_p35 : lw_okq (⟨"ThreePointsModel", "between", "(I)Z"⟩, 39) := ⟨⟨by decide +kernel, by decide +kernel⟩, List.mem_of_getElem? (i := 910) (by decide +kernel), List.mem_of_getElem? (i := 959) (by decide +kernel), List.mem_of_getElem? (i := 960) (by decide +kernel)⟩
theorem lw_p36 : lw_okq (⟨"ThreePointsModel", "doAllFit", "()Z"⟩, 39) := ⟨⟨by decide +kernel, by decide +kernel⟩, List.mem_of_getElem? (i := 910) (by decide +kernel), List.mem_of_getElem? (i := 1089) (by decide +kernel), List.mem_of_getElem? (i := 1090) (by decide +kernel)⟩
theorem lw_p37 : lw_okq (⟨"ThreePointsModel", "isPlace", "(I)Z"⟩, 39) := ⟨⟨by decide +kernel, by decide +kernel⟩, List.mem_of_getElem? (i := 910) (by decide +kernel), List.mem_of_getElem? (i := 1093) (by decide +kernel), List.mem_of_getElem? (i := 1094) (by decide +kernel)⟩
theorem lw_p38 : lw_okq (⟨"ThreePointsModel", "fitsAt", "(III)Z"⟩, 39) := ⟨⟨by decide +kernel, by decide +kernel⟩, List.mem_of_getElem? (i := 910) (by decide +kernel), List.mem_of_getElem? (i := 1097) (by decide +kernel), List.mem_of_getElem? (i := 1098) (by decide +kernel)⟩
theorem lw_p39 : lw_okq (⟨"ThreePointsModel", "frontOf", "(I)I"⟩, 39) := ⟨⟨by decide +kernel, by decide +kernel⟩, List.mem_of_getElem? (i := 910) (by decide +kernel), List.mem_of_getElem? (i := 1101) (by decide +kernel), List.mem_of_getElem? (i := 1102) (by decide +kernel)⟩
theorem lw_p40 : lw_okq (⟨"ThreePointsModel", "backOf", "(I)I"⟩, 39) := ⟨⟨by decide +kernel, by decide +kernel⟩, List.mem_of_getElem? (i := 910) (by decide +kernel), List.mem_of_getElem? (i := 1105) (by decide +kernel), List.mem_of_getElem? (i := 1106) (by decide +kernel)⟩
theorem lw_p41 : lw_okq (⟨"ThreePointsModel", "asksOf", "(IIIIII)I"⟩, 39) := ⟨⟨by decide +kernel, by decide +kernel⟩, List.mem_of_getElem? (i := 910) (by decide +kernel), List.mem_of_getElem? (i := 1109) (by decide +kernel), List.mem_of_getElem? (i := 1110) (by decide +kernel)⟩
theorem lw_p42 : lw_okq (⟨"ThreePointsModel", "says", "(I)I"⟩, 39) := ⟨⟨by decide +kernel, by decide +kernel⟩, List.mem_of_getElem? (i := 910) (by decide +kernel), List.mem_of_getElem? (i := 1113) (by decide +kernel), List.mem_of_getElem? (i := 1114) (by decide +kernel)⟩
theorem lw_p43 : lw_okq (⟨"ThreePointsModel", "isVehicle", "(I)Z"⟩, 39) := ⟨⟨by decide +kernel, by decide +kernel⟩, List.mem_of_getElem? (i := 910) (by decide +kernel), List.mem_of_getElem? (i := 1139) (by decide +kernel), List.mem_of_getElem? (i := 1140) (by decide +kernel)⟩
theorem lw_p44 : lw_okq (⟨"ThreePointsModel", "isBoth", "(I)Z"⟩, 39) := ⟨⟨by decide +kernel, by decide +kernel⟩, List.mem_of_getElem? (i := 910) (by decide +kernel), List.mem_of_getElem? (i := 1143) (by decide +kernel), List.mem_of_getElem? (i := 1144) (by decide +kernel)⟩
theorem lw_p45 : lw_okq (⟨"ThreePointsModel", "canGo", "(III)Z"⟩, 39) := ⟨⟨by decide +kernel, by decide +kernel⟩, List.mem_of_getElem? (i := 910) (by decide +kernel), List.mem_of_getElem? (i := 1163) (by decide +kernel), List.mem_of_getElem? (i := 1164) (by decide +kernel)⟩
theorem lw_p46 : lw_okq (⟨"ThreePointsModel", "placeBy", "(III)I"⟩, 39) := ⟨⟨by decide +kernel, by decide +kernel⟩, List.mem_of_getElem? (i := 910) (by decide +kernel), List.mem_of_getElem? (i := 1167) (by decide +kernel), List.mem_of_getElem? (i := 1168) (by decide +kernel)⟩
theorem lw_p47 : lw_okq (⟨"ThreePointsModel", "headingBy", "(IIII)I"⟩, 39) := ⟨⟨by decide +kernel, by decide +kernel⟩, List.mem_of_getElem? (i := 910) (by decide +kernel), List.mem_of_getElem? (i := 1171) (by decide +kernel), List.mem_of_getElem? (i := 1172) (by decide +kernel)⟩
def lw_privs_3 : List (MethodName × Nat) := [(⟨"ThreePointsModel", "opensOne", "(I)Z"⟩, 39), (⟨"ThreePointsModel", "holds", "(I)V"⟩, 39), (⟨"ThreePointsModel", "signOf", "()I"⟩, 39), (⟨"ThreePointsModel", "between", "(I)Z"⟩, 39), (⟨"ThreePointsModel", "doAllFit", "()Z"⟩, 39), (⟨"ThreePointsModel", "isPlace", "(I)Z"⟩, 39), (⟨"ThreePointsModel", "fitsAt", "(III)Z"⟩, 39), (⟨"ThreePointsModel", "frontOf", "(I)I"⟩, 39), (⟨"ThreePointsModel", "backOf", "(I)I"⟩, 39), (⟨"ThreePointsModel", "asksOf", "(IIIIII)I"⟩, 39), (⟨"ThreePointsModel", "says", "(I)I"⟩, 39), (⟨"ThreePointsModel", "isVehicle", "(I)Z"⟩, 39), (⟨"ThreePointsModel", "isBoth", "(I)Z"⟩, 39), (⟨"ThreePointsModel", "canGo", "(III)Z"⟩, 39), (⟨"ThreePointsModel", "placeBy", "(III)I"⟩, 39), (⟨"ThreePointsModel", "headingBy", "(IIII)I"⟩, 39)]
theorem lw_r3 : ∀ q ∈ lw_privs_3, lw_okq q := List.forall_mem_cons.mpr ⟨lw_p32, List.forall_mem_cons.mpr ⟨lw_p33, List.forall_mem_cons.mpr ⟨lw_p34, List.forall_mem_cons.mpr ⟨lw_p35, List.forall_mem_cons.mpr ⟨lw_p36, List.forall_mem_cons.mpr ⟨lw_p37, List.forall_mem_cons.mpr ⟨lw_p38, List.forall_mem_cons.mpr ⟨lw_p39, List.forall_mem_cons.mpr ⟨lw_p40, List.forall_mem_cons.mpr ⟨lw_p41, List.forall_mem_cons.mpr ⟨lw_p42, List.forall_mem_cons.mpr ⟨lw_p43, List.forall_mem_cons.mpr ⟨lw_p44, List.forall_mem_cons.mpr ⟨lw_p45, List.forall_mem_cons.mpr ⟨lw_p46, List.forall_mem_cons.mpr ⟨lw_p47, fun _ h => absurd h List.not_mem_nil⟩⟩⟩⟩⟩⟩⟩⟩⟩⟩⟩⟩⟩⟩⟩⟩
theorem lw_p48 : lw_okq (⟨"ThreePointsModel", "turnsOf", "(III)I"⟩, 39) := ⟨⟨by decide +kernel, by decide +kernel⟩, List.mem_of_getElem? (i := 910) (by decide +kernel), List.mem_of_getElem? (i := 1175) (by decide +kernel), List.mem_of_getElem? (i := 1176) (by decide +kernel)⟩
theorem lw_p49 : lw_okq (⟨"ThreePointsModel", "goes", "(III)V"⟩, 39) := ⟨⟨by decide +kernel, by decide +kernel⟩, List.mem_of_getElem? (i := 910) (by decide +kernel), List.mem_of_getElem? (i := 1179) (by decide +kernel), List.mem_of_getElem? (i := 1180) (by decide +kernel)⟩
theorem lw_p50 : lw_okq (⟨"ThreePointsModel", "tellsLane", "(IZ)V"⟩, 39) := ⟨⟨by decide +kernel, by decide +kernel⟩, List.mem_of_getElem? (i := 910) (by decide +kernel), List.mem_of_getElem? (i := 1194) (by decide +kernel), List.mem_of_getElem? (i := 1195) (by decide +kernel)⟩
theorem lw_p51 : lw_okq (⟨"ThreePointsModel", "firstStep", "(II)I"⟩, 39) := ⟨⟨by decide +kernel, by decide +kernel⟩, List.mem_of_getElem? (i := 910) (by decide +kernel), List.mem_of_getElem? (i := 1198) (by decide +kernel), List.mem_of_getElem? (i := 1199) (by decide +kernel)⟩
theorem lw_p52 : lw_okq (⟨"ThreePointsModel", "stateOf", "(I)I"⟩, 39) := ⟨⟨by decide +kernel, by decide +kernel⟩, List.mem_of_getElem? (i := 910) (by decide +kernel), List.mem_of_getElem? (i := 1203) (by decide +kernel), List.mem_of_getElem? (i := 1204) (by decide +kernel)⟩
theorem lw_p53 : lw_okq (⟨"ThreePointsModel", "stateBehind", "(IIII)I"⟩, 39) := ⟨⟨by decide +kernel, by decide +kernel⟩, List.mem_of_getElem? (i := 910) (by decide +kernel), List.mem_of_getElem? (i := 1207) (by decide +kernel), List.mem_of_getElem? (i := 1208) (by decide +kernel)⟩
theorem lw_p54 : lw_okq (⟨"ThreePointsModel", "seeks", "(III)V"⟩, 39) := ⟨⟨by decide +kernel, by decide +kernel⟩, List.mem_of_getElem? (i := 910) (by decide +kernel), List.mem_of_getElem? (i := 1211) (by decide +kernel), List.mem_of_getElem? (i := 1212) (by decide +kernel)⟩
theorem lw_p55 : lw_okq (⟨"ThreePointsModel", "costsStep", "(IIII)I"⟩, 39) := ⟨⟨by decide +kernel, by decide +kernel⟩, List.mem_of_getElem? (i := 910) (by decide +kernel), List.mem_of_getElem? (i := 1215) (by decide +kernel), List.mem_of_getElem? (i := 1216) (by decide +kernel)⟩
theorem lw_p56 : lw_okq (⟨"ThreePointsModel", "otherOf", "(I)I"⟩, 39) := ⟨⟨by decide +kernel, by decide +kernel⟩, List.mem_of_getElem? (i := 910) (by decide +kernel), List.mem_of_getElem? (i := 1219) (by decide +kernel), List.mem_of_getElem? (i := 1220) (by decide +kernel)⟩
theorem lw_p57 : lw_okq (⟨"ThreePointsModel", "leastTo", "(I)I"⟩, 39) := ⟨⟨by decide +kernel, by decide +kernel⟩, List.mem_of_getElem? (i := 910) (by decide +kernel), List.mem_of_getElem? (i := 1223) (by decide +kernel), List.mem_of_getElem? (i := 1224) (by decide +kernel)⟩
theorem lw_p58 : lw_okq (⟨"ThreePointsModel", "fromBegin", "(III)I"⟩, 39) := ⟨⟨by decide +kernel, by decide +kernel⟩, List.mem_of_getElem? (i := 910) (by decide +kernel), List.mem_of_getElem? (i := 1234) (by decide +kernel), List.mem_of_getElem? (i := 1235) (by decide +kernel)⟩
theorem lw_p59 : lw_okq (⟨"ThreePointsModel", "sheetWrong", "(II)I"⟩, 39) := ⟨⟨by decide +kernel, by decide +kernel⟩, List.mem_of_getElem? (i := 910) (by decide +kernel), List.mem_of_getElem? (i := 1258) (by decide +kernel), List.mem_of_getElem? (i := 1259) (by decide +kernel)⟩
theorem lw_p60 : lw_okq (⟨"ThreePointsModel", "firstWrong", "(II)I"⟩, 39) := ⟨⟨by decide +kernel, by decide +kernel⟩, List.mem_of_getElem? (i := 910) (by decide +kernel), List.mem_of_getElem? (i := 1262) (by decide +kernel), List.mem_of_getElem? (i := 1263) (by decide +kernel)⟩
theorem lw_p61 : lw_okq (⟨"ThreePointsModel", "keeps", "(I)V"⟩, 39) := ⟨⟨by decide +kernel, by decide +kernel⟩, List.mem_of_getElem? (i := 910) (by decide +kernel), List.mem_of_getElem? (i := 1266) (by decide +kernel), List.mem_of_getElem? (i := 1267) (by decide +kernel)⟩
theorem lw_p62 : lw_okq (⟨"ThreePointsModel", "laysBack", "(I)V"⟩, 39) := ⟨⟨by decide +kernel, by decide +kernel⟩, List.mem_of_getElem? (i := 910) (by decide +kernel), List.mem_of_getElem? (i := 1270) (by decide +kernel), List.mem_of_getElem? (i := 1271) (by decide +kernel)⟩
theorem lw_p63 : lw_okq (⟨"ThreePointsModel", "driveBy", "(III)V"⟩, 39) := ⟨⟨by decide +kernel, by decide +kernel⟩, List.mem_of_getElem? (i := 910) (by decide +kernel), List.mem_of_getElem? (i := 1295) (by decide +kernel), List.mem_of_getElem? (i := 1296) (by decide +kernel)⟩
def lw_privs_4 : List (MethodName × Nat) := [(⟨"ThreePointsModel", "turnsOf", "(III)I"⟩, 39), (⟨"ThreePointsModel", "goes", "(III)V"⟩, 39), (⟨"ThreePointsModel", "tellsLane", "(IZ)V"⟩, 39), (⟨"ThreePointsModel", "firstStep", "(II)I"⟩, 39), (⟨"ThreePointsModel", "stateOf", "(I)I"⟩, 39), (⟨"ThreePointsModel", "stateBehind", "(IIII)I"⟩, 39), (⟨"ThreePointsModel", "seeks", "(III)V"⟩, 39), (⟨"ThreePointsModel", "costsStep", "(IIII)I"⟩, 39), (⟨"ThreePointsModel", "otherOf", "(I)I"⟩, 39), (⟨"ThreePointsModel", "leastTo", "(I)I"⟩, 39), (⟨"ThreePointsModel", "fromBegin", "(III)I"⟩, 39), (⟨"ThreePointsModel", "sheetWrong", "(II)I"⟩, 39), (⟨"ThreePointsModel", "firstWrong", "(II)I"⟩, 39), (⟨"ThreePointsModel", "keeps", "(I)V"⟩, 39), (⟨"ThreePointsModel", "laysBack", "(I)V"⟩, 39), (⟨"ThreePointsModel", "driveBy", "(III)V"⟩, 39)]
theorem lw_r4 : ∀ q ∈ lw_privs_4, lw_okq q := List.forall_mem_cons.mpr ⟨lw_p48, List.forall_mem_cons.mpr ⟨lw_p49, List.forall_mem_cons.mpr ⟨lw_p50, List.forall_mem_cons.mpr ⟨lw_p51, List.forall_mem_cons.mpr ⟨lw_p52, List.forall_mem_cons.mpr ⟨lw_p53, List.forall_mem_cons.mpr ⟨lw_p54, List.forall_mem_cons.mpr ⟨lw_p55, List.forall_mem_cons.mpr ⟨lw_p56, List.forall_mem_cons.mpr ⟨lw_p57, List.forall_mem_cons.mpr ⟨lw_p58, List.forall_mem_cons.mpr ⟨lw_p59, List.forall_mem_cons.mpr ⟨lw_p60, List.forall_mem_cons.mpr ⟨lw_p61, List.forall_mem_cons.mpr ⟨lw_p62, List.forall_mem_cons.mpr ⟨lw_p63, fun _ h => absurd h List.not_mem_nil⟩⟩⟩⟩⟩⟩⟩⟩⟩⟩⟩⟩⟩⟩⟩⟩
def lw_privs : List (MethodName × Nat) := lw_privs_1 ++ (lw_privs_2 ++ (lw_privs_3 ++ (lw_privs_4)))
def lw_tbl : List Cond := k2_sels lw_privs ++ tables_1
theorem lw_privs_ok : ∀ q ∈ lw_privs, lw_okq q := by
  show ∀ q ∈ lw_privs_1 ++ (lw_privs_2 ++ (lw_privs_3 ++ (lw_privs_4))), lw_okq q
  exact List.forall_mem_append.mpr ⟨lw_r1, List.forall_mem_append.mpr ⟨lw_r2, List.forall_mem_append.mpr ⟨lw_r3, lw_r4⟩⟩⟩
end
section
/-! Names of the classes, their fields; the kinds of objects (a kind and a number in it), where static pointers lead. Printed by wip/gen/gen02.py. -/
/-- the tables' words that hold in every state of the run -/
def xtbl : List Cond := lw_tbl.filter goodWord
theorem xtbl_in {w : Cond} (h : w ∈ xtbl) : w ∈ lw_tbl := (List.mem_filter.mp h).1
theorem xtbl_of {w : Cond} (h : w ∈ lw_tbl) (hg : goodWord w = true) : w ∈ xtbl := List.mem_filter.mpr ⟨h, hg⟩
/-- a word of the tables, by its place (behind the private methods' words) -/
theorem xtbl_at {w : Cond} (i : Nat) (h : lw_tbl[i]? = some w) (hg : goodWord w = true) : w ∈ xtbl := xtbl_of (List.mem_of_getElem? h) hg
def xR_Main : String := "ThreePoints"
def xT_Main : u_T := fun k => match k with
  | 0 => ("ThreePoints", "yard", "LThreePoints$Yard;", true)
  | 1 => ("ThreePoints", "kept", "LThreePoints$Yard;", true)
  | 2 => ("ThreePoints", "hasImage", "Z", false)
  | 3 => ("ThreePoints", "reader", "LThreePoints$Reader;", true)
  | 4 => ("ThreePoints", "texts", "[LThreePoints$Text;", true)
  | 5 => ("ThreePoints", "textCount", "I", false)
  | 6 => ("ThreePoints", "sheets", "[LThreePoints$Sheet;", true)
  | 7 => ("ThreePoints", "ride", "LThreePoints$Ride;", true)
  | _ => ("ThreePoints", "search", "LThreePoints$Search;", true)
def xy_Main : Nat → FieldType := fun k => match k with
  | 0 => .object "ThreePoints$Yard"
  | 1 => .object "ThreePoints$Yard"
  | 2 => .boolean
  | 3 => .object "ThreePoints$Reader"
  | 4 => .array (.object "ThreePoints$Text")
  | 5 => .int
  | 6 => .array (.object "ThreePoints$Sheet")
  | 7 => .object "ThreePoints$Ride"
  | _ => .object "ThreePoints$Search"
theorem xn_Main : ∀ a, a < 9 → ∀ b, b < 9 → a ≠ b → (xT_Main a).2.1 ≠ (xT_Main b).2.1 := by decide +kernel
theorem xy_Main_ok : ∀ k, k < 9 → parseFieldDescriptor (xT_Main k).2.2.1 = some (xy_Main k) := by decide +kernel
theorem xi_Main : ∀ w ∈ u_ws "ThreePoints" xT_Main 9, w ∈ xtbl := fun w h => xtbl_of ((by decide +kernel : ∀ w ∈ u_ws "ThreePoints" xT_Main 9, w ∈ lw_tbl) w h) ((by decide +kernel : ∀ w ∈ u_ws "ThreePoints" xT_Main 9, goodWord w = true) w h)
def xR_Yard : String := "ThreePoints$Yard"
def xT_Yard : u_T := fun k => match k with
  | 0 => ("ThreePoints$Yard", "lane", "LThreePoints$Lane;", true)
  | 1 => ("ThreePoints$Yard", "vehicles", "[LThreePoints$Vehicle;", true)
  | _ => ("ThreePoints$Yard", "count", "I", false)
def xy_Yard : Nat → FieldType := fun k => match k with
  | 0 => .object "ThreePoints$Lane"
  | 1 => .array (.object "ThreePoints$Vehicle")
  | _ => .int
theorem xn_Yard : ∀ a, a < 3 → ∀ b, b < 3 → a ≠ b → (xT_Yard a).2.1 ≠ (xT_Yard b).2.1 := by decide +kernel
theorem xy_Yard_ok : ∀ k, k < 3 → parseFieldDescriptor (xT_Yard k).2.2.1 = some (xy_Yard k) := by decide +kernel
theorem xi_Yard : ∀ w ∈ u_ws "ThreePoints$Yard" xT_Yard 3, w ∈ xtbl := fun w h => xtbl_of ((by decide +kernel : ∀ w ∈ u_ws "ThreePoints$Yard" xT_Yard 3, w ∈ lw_tbl) w h) ((by decide +kernel : ∀ w ∈ u_ws "ThreePoints$Yard" xT_Yard 3, goodWord w = true) w h)
def xR_Lane : String := "ThreePoints$Lane"
def xT_Lane : u_T := fun k => match k with
  | 0 => ("ThreePoints$Lane", "width", "I", false)
  | 1 => ("ThreePoints$Lane", "opening", "I", false)
  | _ => ("ThreePoints$Lane", "law", "I", false)
def xy_Lane : Nat → FieldType := fun k => match k with
  | 0 => .int
  | 1 => .int
  | _ => .int
theorem xn_Lane : ∀ a, a < 3 → ∀ b, b < 3 → a ≠ b → (xT_Lane a).2.1 ≠ (xT_Lane b).2.1 := by decide +kernel
theorem xy_Lane_ok : ∀ k, k < 3 → parseFieldDescriptor (xT_Lane k).2.2.1 = some (xy_Lane k) := by decide +kernel
theorem xi_Lane : ∀ w ∈ u_ws "ThreePoints$Lane" xT_Lane 3, w ∈ xtbl := fun w h => xtbl_of ((by decide +kernel : ∀ w ∈ u_ws "ThreePoints$Lane" xT_Lane 3, w ∈ lw_tbl) w h) ((by decide +kernel : ∀ w ∈ u_ws "ThreePoints$Lane" xT_Lane 3, goodWord w = true) w h)
def xR_Vehicle : String := "ThreePoints$Vehicle"
def xT_Vehicle : u_T := fun k => match k with
  | 0 => ("ThreePoints$Vehicle", "kind", "I", false)
  | 1 => ("ThreePoints$Vehicle", "more", "I", false)
  | 2 => ("ThreePoints$Vehicle", "place", "I", false)
  | 3 => ("ThreePoints$Vehicle", "heading", "I", false)
  | 4 => ("ThreePoints$Vehicle", "points", "I", false)
  | 5 => ("ThreePoints$Vehicle", "wear", "I", false)
  | _ => ("ThreePoints$Vehicle", "last", "I", false)
def xy_Vehicle : Nat → FieldType := fun k => match k with
  | 0 => .int
  | 1 => .int
  | 2 => .int
  | 3 => .int
  | 4 => .int
  | 5 => .int
  | _ => .int
theorem xn_Vehicle : ∀ a, a < 7 → ∀ b, b < 7 → a ≠ b → (xT_Vehicle a).2.1 ≠ (xT_Vehicle b).2.1 := by decide +kernel
theorem xy_Vehicle_ok : ∀ k, k < 7 → parseFieldDescriptor (xT_Vehicle k).2.2.1 = some (xy_Vehicle k) := by decide +kernel
theorem xi_Vehicle : ∀ w ∈ u_ws "ThreePoints$Vehicle" xT_Vehicle 7, w ∈ xtbl := fun w h => xtbl_of ((by decide +kernel : ∀ w ∈ u_ws "ThreePoints$Vehicle" xT_Vehicle 7, w ∈ lw_tbl) w h) ((by decide +kernel : ∀ w ∈ u_ws "ThreePoints$Vehicle" xT_Vehicle 7, goodWord w = true) w h)
def xR_Reader : String := "ThreePoints$Reader"
def xT_Reader : u_T := fun k => match k with
  | 0 => ("ThreePoints$Reader", "tape", "LThreePoints$Tape;", true)
  | 1 => ("ThreePoints$Reader", "draft", "LThreePoints$Text;", true)
  | 2 => ("ThreePoints$Reader", "now", "I", false)
  | 3 => ("ThreePoints$Reader", "token", "I", false)
  | _ => ("ThreePoints$Reader", "open", "I", false)
def xy_Reader : Nat → FieldType := fun k => match k with
  | 0 => .object "ThreePoints$Tape"
  | 1 => .object "ThreePoints$Text"
  | 2 => .int
  | 3 => .int
  | _ => .int
theorem xn_Reader : ∀ a, a < 5 → ∀ b, b < 5 → a ≠ b → (xT_Reader a).2.1 ≠ (xT_Reader b).2.1 := by decide +kernel
theorem xy_Reader_ok : ∀ k, k < 5 → parseFieldDescriptor (xT_Reader k).2.2.1 = some (xy_Reader k) := by decide +kernel
theorem xi_Reader : ∀ w ∈ u_ws "ThreePoints$Reader" xT_Reader 5, w ∈ xtbl := fun w h => xtbl_of ((by decide +kernel : ∀ w ∈ u_ws "ThreePoints$Reader" xT_Reader 5, w ∈ lw_tbl) w h) ((by decide +kernel : ∀ w ∈ u_ws "ThreePoints$Reader" xT_Reader 5, goodWord w = true) w h)
def xR_Tape : String := "ThreePoints$Tape"
def xT_Tape : u_T := fun k => match k with
  | 0 => ("ThreePoints$Tape", "bytes", "[I", true)
  | 1 => ("ThreePoints$Tape", "size", "I", false)
  | 2 => ("ThreePoints$Tape", "kinds", "[I", true)
  | 3 => ("ThreePoints$Tape", "starts", "[I", true)
  | 4 => ("ThreePoints$Tape", "values", "[I", true)
  | _ => ("ThreePoints$Tape", "tokens", "I", false)
def xy_Tape : Nat → FieldType := fun k => match k with
  | 0 => .array .int
  | 1 => .int
  | 2 => .array .int
  | 3 => .array .int
  | 4 => .array .int
  | _ => .int
theorem xn_Tape : ∀ a, a < 6 → ∀ b, b < 6 → a ≠ b → (xT_Tape a).2.1 ≠ (xT_Tape b).2.1 := by decide +kernel
theorem xy_Tape_ok : ∀ k, k < 6 → parseFieldDescriptor (xT_Tape k).2.2.1 = some (xy_Tape k) := by decide +kernel
theorem xi_Tape : ∀ w ∈ u_ws "ThreePoints$Tape" xT_Tape 6, w ∈ xtbl := fun w h => xtbl_of ((by decide +kernel : ∀ w ∈ u_ws "ThreePoints$Tape" xT_Tape 6, w ∈ lw_tbl) w h) ((by decide +kernel : ∀ w ∈ u_ws "ThreePoints$Tape" xT_Tape 6, goodWord w = true) w h)
def xR_Text : String := "ThreePoints$Text"
def xT_Text : u_T := fun k => match k with
  | 0 => ("ThreePoints$Text", "code", "[I", true)
  | 1 => ("ThreePoints$Text", "size", "I", false)
  | 2 => ("ThreePoints$Text", "partEnds", "[I", true)
  | _ => ("ThreePoints$Text", "stack", "[I", true)
def xy_Text : Nat → FieldType := fun k => match k with
  | 0 => .array .int
  | 1 => .int
  | 2 => .array .int
  | _ => .array .int
theorem xn_Text : ∀ a, a < 4 → ∀ b, b < 4 → a ≠ b → (xT_Text a).2.1 ≠ (xT_Text b).2.1 := by decide +kernel
theorem xy_Text_ok : ∀ k, k < 4 → parseFieldDescriptor (xT_Text k).2.2.1 = some (xy_Text k) := by decide +kernel
theorem xi_Text : ∀ w ∈ u_ws "ThreePoints$Text" xT_Text 4, w ∈ xtbl := fun w h => xtbl_of ((by decide +kernel : ∀ w ∈ u_ws "ThreePoints$Text" xT_Text 4, w ∈ lw_tbl) w h) ((by decide +kernel : ∀ w ∈ u_ws "ThreePoints$Text" xT_Text 4, goodWord w = true) w h)
def xR_Sheet : String := "ThreePoints$Sheet"
def xT_Sheet : u_T := fun k => match k with
  | 0 => ("ThreePoints$Sheet", "numbers", "[I", true)
  | 1 => ("ThreePoints$Sheet", "sort", "I", false)
  | _ => ("ThreePoints$Sheet", "size", "I", false)
def xy_Sheet : Nat → FieldType := fun k => match k with
  | 0 => .array .int
  | 1 => .int
  | _ => .int
theorem xn_Sheet : ∀ a, a < 3 → ∀ b, b < 3 → a ≠ b → (xT_Sheet a).2.1 ≠ (xT_Sheet b).2.1 := by decide +kernel
theorem xy_Sheet_ok : ∀ k, k < 3 → parseFieldDescriptor (xT_Sheet k).2.2.1 = some (xy_Sheet k) := by decide +kernel
theorem xi_Sheet : ∀ w ∈ u_ws "ThreePoints$Sheet" xT_Sheet 3, w ∈ xtbl := fun w h => xtbl_of ((by decide +kernel : ∀ w ∈ u_ws "ThreePoints$Sheet" xT_Sheet 3, w ∈ lw_tbl) w h) ((by decide +kernel : ∀ w ∈ u_ws "ThreePoints$Sheet" xT_Sheet 3, goodWord w = true) w h)
def xR_Ride : String := "ThreePoints$Ride"
def xT_Ride : u_T := fun k => match k with
  | 0 => ("ThreePoints$Ride", "lane", "LThreePoints$Lane;", true)
  | 1 => ("ThreePoints$Ride", "vehicle", "LThreePoints$Vehicle;", true)
  | 2 => ("ThreePoints$Ride", "law", "LThreePoints$Text;", false)
  | _ => ("ThreePoints$Ride", "names", "[I", true)
def xy_Ride : Nat → FieldType := fun k => match k with
  | 0 => .object "ThreePoints$Lane"
  | 1 => .object "ThreePoints$Vehicle"
  | 2 => .object "ThreePoints$Text"
  | _ => .array .int
theorem xn_Ride : ∀ a, a < 4 → ∀ b, b < 4 → a ≠ b → (xT_Ride a).2.1 ≠ (xT_Ride b).2.1 := by decide +kernel
theorem xy_Ride_ok : ∀ k, k < 4 → parseFieldDescriptor (xT_Ride k).2.2.1 = some (xy_Ride k) := by decide +kernel
theorem xi_Ride : ∀ w ∈ u_ws "ThreePoints$Ride" xT_Ride 4, w ∈ xtbl := fun w h => xtbl_of ((by decide +kernel : ∀ w ∈ u_ws "ThreePoints$Ride" xT_Ride 4, w ∈ lw_tbl) w h) ((by decide +kernel : ∀ w ∈ u_ws "ThreePoints$Ride" xT_Ride 4, goodWord w = true) w h)
def xR_Search : String := "ThreePoints$Search"
def xT_Search : u_T := fun k => match k with
  | 0 => ("ThreePoints$Search", "goal", "I", false)
  | 1 => ("ThreePoints$Search", "fitting", "[Z", true)
  | 2 => ("ThreePoints$Search", "costs", "[I", true)
  | 3 => ("ThreePoints$Search", "heads", "[I", true)
  | 4 => ("ThreePoints$Search", "nexts", "[I", true)
  | 5 => ("ThreePoints$Search", "previous", "[I", true)
  | 6 => ("ThreePoints$Search", "waiting", "I", false)
  | _ => ("ThreePoints$Search", "firstStep", "I", false)
def xy_Search : Nat → FieldType := fun k => match k with
  | 0 => .int
  | 1 => .array .boolean
  | 2 => .array .int
  | 3 => .array .int
  | 4 => .array .int
  | 5 => .array .int
  | 6 => .int
  | _ => .int
theorem xn_Search : ∀ a, a < 8 → ∀ b, b < 8 → a ≠ b → (xT_Search a).2.1 ≠ (xT_Search b).2.1 := by decide +kernel
theorem xy_Search_ok : ∀ k, k < 8 → parseFieldDescriptor (xT_Search k).2.2.1 = some (xy_Search k) := by decide +kernel
theorem xi_Search : ∀ w ∈ u_ws "ThreePoints$Search" xT_Search 8, w ∈ xtbl := fun w h => xtbl_of ((by decide +kernel : ∀ w ∈ u_ws "ThreePoints$Search" xT_Search 8, w ∈ lw_tbl) w h) ((by decide +kernel : ∀ w ∈ u_ws "ThreePoints$Search" xT_Search 8, goodWord w = true) w h)
def xR_Model : String := "ThreePointsModel"
def xT_Model : u_T := fun k => match k with
  | 0 => ("ThreePointsModel", "across", "[I", true)
  | 1 => ("ThreePointsModel", "width", "I", false)
  | 2 => ("ThreePointsModel", "opening", "I", false)
  | 3 => ("ThreePointsModel", "vehicles", "I", false)
  | 4 => ("ThreePointsModel", "kind", "[I", true)
  | 5 => ("ThreePointsModel", "moreOf", "[I", true)
  | 6 => ("ThreePointsModel", "rows", "[I", true)
  | 7 => ("ThreePointsModel", "tape", "[I", true)
  | 8 => ("ThreePointsModel", "taped", "I", false)
  | 9 => ("ThreePointsModel", "codes", "[I", true)
  | 10 => ("ThreePointsModel", "starts", "[I", true)
  | 11 => ("ThreePointsModel", "texts", "I", false)
  | 12 => ("ThreePointsModel", "rule", "I", false)
  | 13 => ("ThreePointsModel", "hasImage", "Z", false)
  | 14 => ("ThreePointsModel", "imageRows", "[I", true)
  | 15 => ("ThreePointsModel", "imageHeld", "[I", true)
  | 16 => ("ThreePointsModel", "sheetSort", "[I", true)
  | 17 => ("ThreePointsModel", "sheetSize", "[I", true)
  | 18 => ("ThreePointsModel", "cells", "[I", true)
  | 19 => ("ThreePointsModel", "law", "[I", true)
  | 20 => ("ThreePointsModel", "at", "I", false)
  | 21 => ("ThreePointsModel", "begun", "I", false)
  | 22 => ("ThreePointsModel", "token", "I", false)
  | 23 => ("ThreePointsModel", "value", "I", false)
  | 24 => ("ThreePointsModel", "words", "[I", true)
  | 25 => ("ThreePointsModel", "held", "[I", true)
  | 26 => ("ThreePointsModel", "heldMany", "I", false)
  | 27 => ("ThreePointsModel", "opens", "I", false)
  | 28 => ("ThreePointsModel", "out", "I", false)
  | 29 => ("ThreePointsModel", "stack", "[I", true)
  | 30 => ("ThreePointsModel", "named", "[I", true)
  | 31 => ("ThreePointsModel", "fitsIn", "[Z", true)
  | 32 => ("ThreePointsModel", "wearIn", "[I", true)
  | 33 => ("ThreePointsModel", "dist", "[I", true)
  | 34 => ("ThreePointsModel", "queued", "[Z", true)
  | 35 => ("ThreePointsModel", "queue", "[I", true)
  | 36 => ("ThreePointsModel", "kept", "[I", true)
  | 37 => ("ThreePointsModel", "last", "[I", true)
  | _ => ("ThreePointsModel", "hitsIn", "I", false)
def xy_Model : Nat → FieldType := fun k => match k with
  | 0 => .array .int
  | 1 => .int
  | 2 => .int
  | 3 => .int
  | 4 => .array .int
  | 5 => .array .int
  | 6 => .array .int
  | 7 => .array .int
  | 8 => .int
  | 9 => .array .int
  | 10 => .array .int
  | 11 => .int
  | 12 => .int
  | 13 => .boolean
  | 14 => .array .int
  | 15 => .array .int
  | 16 => .array .int
  | 17 => .array .int
  | 18 => .array .int
  | 19 => .array .int
  | 20 => .int
  | 21 => .int
  | 22 => .int
  | 23 => .int
  | 24 => .array .int
  | 25 => .array .int
  | 26 => .int
  | 27 => .int
  | 28 => .int
  | 29 => .array .int
  | 30 => .array .int
  | 31 => .array .boolean
  | 32 => .array .int
  | 33 => .array .int
  | 34 => .array .boolean
  | 35 => .array .int
  | 36 => .array .int
  | 37 => .array .int
  | _ => .int
theorem xn_Model : ∀ a, a < 39 → ∀ b, b < 39 → a ≠ b → (xT_Model a).2.1 ≠ (xT_Model b).2.1 := by decide +kernel
theorem xy_Model_ok : ∀ k, k < 39 → parseFieldDescriptor (xT_Model k).2.2.1 = some (xy_Model k) := by decide +kernel
theorem xi_Model : ∀ w ∈ u_ws "ThreePointsModel" xT_Model 39, w ∈ xtbl := fun w h => xtbl_of ((by decide +kernel : ∀ w ∈ u_ws "ThreePointsModel" xT_Model 39, w ∈ lw_tbl) w h) ((by decide +kernel : ∀ w ∈ u_ws "ThreePointsModel" xT_Model 39, goodWord w = true) w h)
def xcl : List vw_C := [("ThreePoints", xT_Main, 9), ("ThreePoints$Yard", xT_Yard, 3), ("ThreePoints$Lane", xT_Lane, 3), ("ThreePoints$Vehicle", xT_Vehicle, 7), ("ThreePoints$Reader", xT_Reader, 5), ("ThreePoints$Tape", xT_Tape, 6), ("ThreePoints$Text", xT_Text, 4), ("ThreePoints$Sheet", xT_Sheet, 3), ("ThreePoints$Ride", xT_Ride, 4), ("ThreePoints$Search", xT_Search, 8), ("ThreePointsModel", xT_Model, 39)]
/-- what a kind is: 0 an object of class a with n fields, 1 a row of n ints, 2 of n booleans, 3 .. 5 of n references -/
def xsh (kd : Nat) : Nat × Nat × Nat := match kd with
  | 0 => (0, 0, 9)
  | 1 => (0, 1, 3)
  | 2 => (0, 2, 3)
  | 3 => (0, 3, 7)
  | 4 => (3, 0, 4)
  | 5 => (0, 4, 5)
  | 6 => (0, 5, 6)
  | 7 => (1, 0, 160)
  | 8 => (1, 0, 160)
  | 9 => (1, 0, 160)
  | 10 => (1, 0, 160)
  | 11 => (0, 6, 4)
  | 12 => (1, 0, 160)
  | 13 => (1, 0, 3)
  | 14 => (1, 0, 160)
  | 15 => (4, 0, 6)
  | 16 => (0, 7, 3)
  | 17 => (1, 0, 40)
  | 18 => (5, 0, 4)
  | 19 => (0, 8, 4)
  | 20 => (1, 0, 6)
  | 21 => (0, 9, 8)
  | 22 => (2, 0, 976)
  | 23 => (1, 0, 1952)
  | 24 => (1, 0, 128)
  | 25 => (1, 0, 1952)
  | 26 => (1, 0, 1952)
  | 30 => (0, 10, 39)
  | 31 => (1, 0, 16)
  | 32 => (1, 0, 4)
  | 33 => (1, 0, 4)
  | 34 => (1, 0, 20)
  | 35 => (1, 0, 160)
  | 36 => (1, 0, 1200)
  | 37 => (1, 0, 24)
  | 38 => (1, 0, 20)
  | 39 => (1, 0, 4)
  | 40 => (1, 0, 4)
  | 41 => (1, 0, 4)
  | 42 => (1, 0, 160)
  | 43 => (1, 0, 39)
  | 44 => (1, 0, 96)
  | 45 => (1, 0, 200)
  | 46 => (1, 0, 200)
  | 47 => (1, 0, 6)
  | 48 => (2, 0, 976)
  | 49 => (1, 0, 1952)
  | 50 => (1, 0, 2928)
  | 51 => (2, 0, 2928)
  | 52 => (1, 0, 2928)
  | 53 => (1, 0, 5)
  | 54 => (1, 0, 5)
  | _ => (9, 0, 0)
/-- where the final reference in field k of kind kd leads: a kind, and a number by the number -/
def xsp (kd k : Nat) : Option (Nat × (Nat → Nat)) := match kd, k with
  | 0, 0 => some (1, fun _ => 0)
  | 0, 1 => some (1, fun _ => 1)
  | 0, 3 => some (5, fun _ => 0)
  | 0, 4 => some (15, fun _ => 0)
  | 0, 6 => some (18, fun _ => 0)
  | 0, 7 => some (19, fun _ => 0)
  | 0, 8 => some (21, fun _ => 0)
  | 1, 0 => some (2, fun i => i)
  | 1, 1 => some (4, fun i => i)
  | 5, 0 => some (6, fun _ => 0)
  | 5, 1 => some (11, fun _ => 6)
  | 6, 0 => some (7, fun _ => 0)
  | 6, 2 => some (8, fun _ => 0)
  | 6, 3 => some (9, fun _ => 0)
  | 6, 4 => some (10, fun _ => 0)
  | 11, 0 => some (12, fun i => i)
  | 11, 2 => some (13, fun i => i)
  | 11, 3 => some (14, fun i => i)
  | 16, 0 => some (17, fun i => i)
  | 19, 0 => some (2, fun _ => 2)
  | 19, 1 => some (3, fun _ => 8)
  | 19, 3 => some (20, fun _ => 0)
  | 21, 1 => some (22, fun _ => 0)
  | 21, 2 => some (23, fun _ => 0)
  | 21, 3 => some (24, fun _ => 0)
  | 21, 4 => some (25, fun _ => 0)
  | 21, 5 => some (26, fun _ => 0)
  | 30, 0 => some (31, fun _ => 0)
  | 30, 4 => some (32, fun _ => 0)
  | 30, 5 => some (33, fun _ => 0)
  | 30, 6 => some (34, fun _ => 0)
  | 30, 7 => some (35, fun _ => 0)
  | 30, 9 => some (36, fun _ => 0)
  | 30, 10 => some (37, fun _ => 0)
  | 30, 14 => some (38, fun _ => 0)
  | 30, 15 => some (39, fun _ => 0)
  | 30, 16 => some (40, fun _ => 0)
  | 30, 17 => some (41, fun _ => 0)
  | 30, 18 => some (42, fun _ => 0)
  | 30, 19 => some (43, fun _ => 0)
  | 30, 24 => some (44, fun _ => 0)
  | 30, 25 => some (45, fun _ => 0)
  | 30, 29 => some (46, fun _ => 0)
  | 30, 30 => some (47, fun _ => 0)
  | 30, 31 => some (48, fun _ => 0)
  | 30, 32 => some (49, fun _ => 0)
  | 30, 33 => some (50, fun _ => 0)
  | 30, 34 => some (51, fun _ => 0)
  | 30, 35 => some (52, fun _ => 0)
  | 30, 36 => some (53, fun _ => 0)
  | 30, 37 => some (54, fun _ => 0)
  | _, _ => none
/-- the kind of what a row of references holds, and the number at j -/
def xra (kd : Nat) : Nat × (Nat → Nat → Nat) := match kd with
  | 4 => (3, fun i j => 4 * i + j)
  | 15 => (11, fun _ j => j)
  | 18 => (16, fun _ j => j)
  | _ => (99, fun _ j => j)
def xLC : List (Nat × Nat) := [(0, 0), (1, 0), (1, 1), (2, 0), (2, 1), (2, 2), (3, 0), (3, 1), (3, 2), (3, 3), (3, 4), (3, 5), (3, 6), (3, 7), (3, 8), (4, 0), (4, 1), (5, 0), (6, 0), (7, 0), (8, 0), (9, 0), (10, 0), (11, 0), (11, 1), (11, 2), (11, 3), (11, 4), (11, 5), (11, 6), (12, 0), (12, 1), (12, 2), (12, 3), (12, 4), (12, 5), (12, 6), (13, 0), (13, 1), (13, 2), (13, 3), (13, 4), (13, 5), (13, 6), (14, 0), (14, 1), (14, 2), (14, 3), (14, 4), (14, 5), (14, 6), (15, 0), (16, 0), (16, 1), (16, 2), (16, 3), (17, 0), (17, 1), (17, 2), (17, 3), (18, 0), (19, 0), (20, 0), (21, 0), (22, 0), (23, 0), (24, 0), (25, 0), (26, 0)]
def xLM : List (Nat × Nat) := [(30, 0), (31, 0), (32, 0), (33, 0), (34, 0), (35, 0), (36, 0), (37, 0), (38, 0), (39, 0), (40, 0), (41, 0), (42, 0), (43, 0), (44, 0), (45, 0), (46, 0), (47, 0), (48, 0), (49, 0), (50, 0), (51, 0), (52, 0), (53, 0), (54, 0)]
end
section
/-! THE MACHINE'S STATE AS PURE VALUES: a value is an int, a long, null or a reference (a kind, a number in it); the heap is a function of kind, number, slot. 'Gp' says of a place in a method: from any machine state that looks so, the method goes on and returns, with Q of its value and the heap. The rules g_.. turn Gp at an instruction into Gp at the next. -/
abbrev AV : Type := Int32 ⊕ (Int64 ⊕ Option (Nat × Nat))
abbrev HH : Type := Nat → Nat → Nat → Int32
abbrev vi (x : Int32) : AV := Sum.inl x
abbrev vl (x : Int64) : AV := Sum.inr (Sum.inl x)
abbrev vn : AV := Sum.inr (Sum.inr none)
abbrev vr (k i : Nat) : AV := Sum.inr (Sum.inr (some (k, i)))
def cv (ad : Nat → Nat → Nat) (v : AV) : Value := match v with
  | .inl x => .int x
  | .inr (.inl x) => .long x
  | .inr (.inr none) => .null
  | .inr (.inr (some (k, i))) => .ref (ad k i)
/-- one slot of one object becomes x -/
def hu (H : HH) (kd ix k : Nat) (x : Int32) : HH := fun a b c => if a = kd ∧ b = ix ∧ c = k then x else H a b c
/-- one object's slots become f -/
def hrow (H : HH) (kd ix : Nat) (f : Nat → Int32) : HH := fun a b => if a = kd ∧ b = ix then f else H a b
/-- what field k of an object holds, as a value -/
def xld (kd ix k : Nat) (x : Int32) : AV := match xsp kd k with
  | some t => vr t.1 (t.2 ix)
  | none => if kd = 19 ∧ k = 2 then (if 0 < x ∧ x < 8 then vr 11 (x.toNatClampNeg - 1) else vn) else vi x
def xcell (cid : Nat → ClassId) (ad : Nat → Nat → Nat) (kd ix : Nat) (f : Nat → Int32) : va_E := match xsh kd with
  | (0, ci, n) => .inr (ci, (List.range n).map fun k => cv ad (xld kd ix k (f k)))
  | (1, _, n) => .inl (cid 0, n, .inl f)
  | (2, _, n) => .inl (cid 1, n, .inl f)
  | (t, _, n) => .inl (cid (t - 1), n, .inr (.inr (.inr (.inr fun j => some (ad (xra kd).1 ((xra kd).2 ix j))))))
def xw (cid : Nat → ClassId) (ad : Nat → Nat → Nat) (Lc : List (Nat × Nat)) (H : HH) : va_W := Lc.map fun q => (ad q.1 q.2, xcell cid ad q.1 q.2 (H q.1 q.2))
def xtys (cid : Nat → ClassId) : List (ClassId × FieldType) := [(cid 0, .int), (cid 1, .boolean), (cid 2, .object "ThreePoints$Vehicle"), (cid 3, .object "ThreePoints$Text"), (cid 4, .object "ThreePoints$Sheet")]
def xrm (d : Nat) : Room := { frames := d, cells := 0, slots := 0, locals := d * 64 }
/-- rows that never change: which kinds they are (62 ACROSS, 63 BOUNDS, 64 ABOVE; 60 the texts, 61 their bytes) -/
def xACR : List Int32 := [0, 3, 6, 7, 8, 7, 6, 3, 0, -3, -6, -7, -8, -7, -6, -3]
def xBND : List Int32 := [9, 99, 100]
def xABV : List Int32 := [-1, 0, 0, 1, 2, 0]
abbrev vstr (a b c d e f g h i j k l m n : List Int32) : List (List Int32) := [a, b, c, d, e, f, g, h, i, j, k, l, m, n]
section STAT
variable (ad : Nat → Nat → Nat) (tx : List (List Int32))
def xStat (A : Nat → Prop) (U : State) (H : Heap) : Prop :=
  va_Z "ThreePoints" "ACROSS" "[I" (.ref (ad 62 0)) A U H ∧ va_T .int (ad 62 0) 16 (fun j => .int (xACR.getD j 0)) A U H ∧
  va_Z "ThreePoints$Text" "BOUNDS" "[I" (.ref (ad 63 0)) A U H ∧ va_T .int (ad 63 0) 3 (fun j => .int (xBND.getD j 0)) A U H ∧
  va_Z "ThreePoints$Vehicle" "ABOVE" "[I" (.ref (ad 64 0)) A U H ∧ va_T .int (ad 64 0) 6 (fun j => .int (xABV.getD j 0)) A U H ∧
  va_Z "java/lang/String" "COMPACT_STRINGS" "Z" (.int 1) A U H ∧ vk_S tx.length (tx.map List.length) tx (ad 60) (ad 61) A U H ∧
  va_Z "jdk/internal/util/Preconditions" "SIOOBE_FORMATTER" "Ljava/util/function/BiFunction;" (.ref (ad 65 0)) A U H
theorem xStat.moved {A : Nat → Prop} {u U : State} {H : Heap} (hvm : u.vm.Alike U.vm) (h : xStat ad tx A u H) : xStat ad tx A U H := by
  obtain ⟨h1, h2, h3, h4, h5, h6, h7, h8, h9⟩ := h
  exact ⟨h1.moved hvm, h2.moved hvm, h3.moved hvm, h4.moved hvm, h5.moved hvm, h6.moved hvm, h7.moved hvm, h8.moved hvm, h9.moved hvm⟩
theorem xStat.kept {A : Nat → Prop} {U : State} {H H1 : Heap} (h : xStat ad tx A U H) (hq : ∀ a : Nat, a < H.size → ¬ A a → H1[a]? = H[a]?) : xStat ad tx A U H1 := by
  obtain ⟨h1, h2, h3, h4, h5, h6, h7, h8, h9⟩ := h
  exact ⟨h1.kept hq, h2.kept hq, h3.kept hq, h4.kept hq, h5.kept hq, h6.kept hq, h7.kept hq, h8.kept hq, h9.kept hq⟩
theorem xStat.narrow {A B : Nat → Prop} {U : State} {H : Heap} (h : xStat ad tx A U H) (hAB : ∀ q, B q → A q) : xStat ad tx B U H := by
  obtain ⟨h1, h2, h3, h4, h5, h6, h7, h8, h9⟩ := h
  exact ⟨h1.narrow hAB, h2.narrow hAB, h3.narrow hAB, h4.narrow hAB, h5.narrow hAB, h6.narrow hAB, h7.narrow hAB, h8.narrow hAB, h9.narrow hAB⟩
end STAT
/-- the locals, by place: a value that is held, or nothing that is known -/
def lcv (ad : Nat → Nat → Nat) : Nat → List (Option AV) → List (Nat × Value)
  | _, [] => []
  | i, some v :: r => (i, cv ad v) :: lcv ad (i + 1) r
  | i, none :: r => lcv ad (i + 1) r
theorem mem_lcv {ad : Nat → Nat → Nat} {q : Nat × Value} : ∀ {ls : List (Option AV)} {j : Nat}, q ∈ lcv ad j ls ↔ ∃ (k : Nat) (v : AV), ls[k]? = some (some v) ∧ q = (j + k, cv ad v) := by
  intro ls
  induction ls with
  | nil => intro j; simp [lcv]
  | cons o r ih =>
    intro j
    cases o with
    | none =>
      rw [lcv, ih]
      constructor
      · rintro ⟨k, v, h, e⟩
        exact ⟨k + 1, v, by simpa using h, by rw [e]; congr 1; omega⟩
      · rintro ⟨k, v, h, e⟩
        cases k with
        | zero => simp at h
        | succ k => exact ⟨k, v, by simpa using h, by rw [e]; congr 1; omega⟩
    | some w =>
      rw [lcv, List.mem_cons, ih]
      constructor
      · rintro (rfl | ⟨k, v, h, e⟩)
        · exact ⟨0, w, by simp, rfl⟩
        · exact ⟨k + 1, v, by simpa using h, by rw [e]; congr 1; omega⟩
      · rintro ⟨k, v, h, e⟩
        cases k with
        | zero =>
          have hv : w = v := by simpa using h
          subst hv
          exact Or.inl e
        | succ k => exact Or.inr ⟨k, v, by simpa using h, by rw [e]; congr 1; omega⟩
theorem lv_mono {ls : Array Slot} {nL : Nat} {l l' : List (Nat × Value)} (h : lv_has ls nL l) (hs : ∀ q ∈ l', q ∈ l) : lv_has ls nL l' := ⟨h.1, h.2.1, fun q hq => h.2.2 q (hs q hq)⟩
/-- is the value at place i - 1 no long -/
def xnl (ls : List (Option AV)) (i : Nat) : Bool := match i with
  | 0 => true
  | k + 1 => match ls[k]? with
    | some (some (.inr (.inl _))) => false
    | _ => true
theorem cv_cat {ad : Nat → Nat → Nat} {v : AV} (h : (cv ad v).category = 2) : ∃ x, v = vl x := by
  rcases v with x | x | _ | ⟨k, i⟩
  · simp [cv, Value.category] at h
  · exact ⟨x, rfl⟩
  · simp [cv, Value.category] at h
  · simp [cv, Value.category] at h
theorem lcv_store {ad : Nat → Nat → Nat} {ls : List (Option AV)} {i : Nat} {v : AV} (hnl : xnl ls i = true) : ∀ q ∈ lcv ad 0 (ls.set i (some v)), q ∈ (i, cv ad v) :: (lcv ad 0 ls).filter (fun q => !(q.1 == i) && !(q.1 + 1 == i && q.2.category == 2)) := by
  intro q hq
  obtain ⟨k, w, h, rfl⟩ := mem_lcv.mp hq
  rw [Nat.zero_add]
  by_cases hk : i = k
  · subst hk
    rw [List.getElem?_set] at h
    by_cases hl : i < ls.length
    · simp [hl] at h
      subst h
      exact List.mem_cons_self
    · simp [hl] at h
  · rw [List.getElem?_set_ne hk] at h
    refine List.mem_cons_of_mem _ (List.mem_filter.mpr ⟨mem_lcv.mpr ⟨k, w, h, by rw [Nat.zero_add]⟩, ?_⟩)
    have h1 : ¬ k = i := fun e => hk e.symm
    simp only [Bool.and_eq_true, Bool.not_eq_true', beq_eq_false_iff_ne, ne_eq, h1, not_false_eq_true, true_and, Bool.and_eq_false_iff]
    by_cases h2 : k + 1 = i
    · right
      by_cases hc : (cv ad w).category = 2
      · obtain ⟨x, rfl⟩ := cv_cat hc
        subst h2
        simp [xnl, h] at hnl
      · simp [hc]
    · left
      exact h2
theorem lcv_store2 {ad : Nat → Nat → Nat} {ls : List (Option AV)} {i : Nat} {v : AV} (hnl : xnl ls i = true) : ∀ q ∈ lcv ad 0 ((ls.set i (some v)).set (i + 1) none), q ∈ (i, cv ad v) :: (lcv ad 0 ls).filter (fun q => !(q.1 == i) && (!(q.1 == i + 1) && !(q.1 + 1 == i && q.2.category == 2))) := by
  intro q hq
  obtain ⟨k, w, h, rfl⟩ := mem_lcv.mp hq
  have hk1 : ¬ i + 1 = k := by
    intro e
    subst e
    rw [List.getElem?_set] at h
    by_cases hl : i + 1 < (ls.set i (some v)).length
    · simp [hl] at h
    · simp [hl] at h
  rw [List.getElem?_set_ne hk1] at h
  have hm := lcv_store (ad := ad) hnl _ (mem_lcv.mpr ⟨k, w, h, rfl⟩)
  rcases List.mem_cons.mp hm with e | hm
  · rw [e]; exact List.mem_cons_self
  · refine List.mem_cons_of_mem _ (List.mem_filter.mpr ⟨(List.mem_filter.mp hm).1, ?_⟩)
    have h2 := (List.mem_filter.mp hm).2
    have h1 : ¬ (0 + k = i + 1) := by omega
    simp only [Bool.and_eq_true] at h2 ⊢
    refine ⟨h2.1, ?_, h2.2⟩
    simpa using (show ¬ k = i + 1 by omega)
/-- a method's locals at its start: a long takes two places -/
def xent : List AV → List (Option AV)
  | [] => []
  | .inr (.inl x) :: r => some (vl x) :: none :: xent r
  | v :: r => some v :: xent r
theorem xent_args {ad : Nat → Nat → Nat} : ∀ (vs : List AV) (i : Nat), lcv ad i (xent vs) = lv_args i (vs.map (cv ad)) := by
  intro vs
  induction vs with
  | nil => intro i; rfl
  | cons v r ih =>
    intro i
    rcases v with x | x | _ | ⟨k, j⟩
    · show _ :: lcv ad (i + 1) (xent r) = _
      rw [ih]
      simp [lv_args, cv, Value.category]
    · show _ :: lcv ad (i + 1 + 1) (xent r) = _
      rw [ih]
      simp [lv_args, cv, Value.category]
    · show _ :: lcv ad (i + 1) (xent r) = _
      rw [ih]
      simp [lv_args, cv, Value.category]
    · show _ :: lcv ad (i + 1) (xent r) = _
      rw [ih]
      simp [lv_args, cv, Value.category]
end
section
/-! 'Gp': from any machine state that looks like (pc, ls, st, H) in a frame of that method, it goes on and returns, with Q of its value and the heap; its room is xrm d. -/
def xok (Lc : List (Nat × Nat)) (nT : Nat) (v : AV) : Prop := match v with
  | .inr (.inr (some (k, i))) => (k, i) ∈ Lc ∨ (60 ≤ k ∧ k ≤ 61 ∧ i < nT) ∨ (62 ≤ k ∧ i = 0)
  | _ => True
def xoks (Lc : List (Nat × Nat)) (nT : Nat) (ls : List (Option AV)) (st : List AV) : Prop := (∀ v, some v ∈ ls → xok Lc nT v) ∧ ∀ v ∈ st, xok Lc nT v
theorem xoks.push {Lc : List (Nat × Nat)} {nT : Nat} {ls : List (Option AV)} {st : List AV} {v : AV} (h : xoks Lc nT ls st) (hv : xok Lc nT v) : xoks Lc nT ls (v :: st) := ⟨h.1, fun w hw => (List.mem_cons.mp hw).elim (fun e => e ▸ hv) (h.2 w)⟩
theorem xoks.pop {Lc : List (Nat × Nat)} {nT : Nat} {ls : List (Option AV)} {st : List AV} {v : AV} (h : xoks Lc nT ls (v :: st)) : xoks Lc nT ls st := ⟨h.1, fun w hw => h.2 w (List.mem_cons_of_mem _ hw)⟩
theorem xoks.top {Lc : List (Nat × Nat)} {nT : Nat} {ls : List (Option AV)} {st : List AV} {v : AV} (h : xoks Lc nT ls (v :: st)) : xok Lc nT v := h.2 v List.mem_cons_self
theorem xoks.loc {Lc : List (Nat × Nat)} {nT : Nat} {ls : List (Option AV)} {st : List AV} {v : AV} {i : Nat} (h : xoks Lc nT ls st) (hi : ls[i]? = some (some v)) : xok Lc nT v := h.1 v (List.mem_of_getElem? hi)
theorem xoks.set {Lc : List (Nat × Nat)} {nT : Nat} {ls : List (Option AV)} {st : List AV} {v : AV} {i : Nat} (h : xoks Lc nT ls st) (hv : xok Lc nT v) : xoks Lc nT (ls.set i (some v)) st := by
  refine ⟨fun w hw => ?_, h.2⟩
  rcases List.mem_or_eq_of_mem_set hw with q | q
  · exact h.1 w q
  · cases q
    exact hv
theorem xoks.unset {Lc : List (Nat × Nat)} {nT : Nat} {ls : List (Option AV)} {st : List AV} {i : Nat} (h : xoks Lc nT ls st) : xoks Lc nT (ls.set i none) st := by
  refine ⟨fun w hw => ?_, h.2⟩
  rcases List.mem_or_eq_of_mem_set hw with q | q
  · exact h.1 w q
  · cases q
/-- the layout: no object twice, kinds under 60, where references lead is in it -/
def xclo (Lc : List (Nat × Nat)) (nT : Nat) : Prop := Lc.Nodup ∧ (∀ q ∈ Lc, q.1 < 60) ∧ (∀ q ∈ Lc, ∀ k x, xok Lc nT (xld q.1 q.2 k x)) ∧ ∀ q ∈ Lc, 3 ≤ (xsh q.1).1 → ∀ j, j < (xsh q.1).2.2 → xok Lc nT (vr (xra q.1).1 ((xra q.1).2 q.2 j))
/-- nest mates' methods that are called: whose entry, which, what, the host -/
def xNST : List (String × Nat × MethodName × String) := [("ThreePoints$Ride", 49, ⟨"ThreePoints", "across", "(I)I"⟩, "ThreePoints"), ("ThreePoints$Sheet", 41, ⟨"ThreePoints", "isWithin", "(III)Z"⟩, "ThreePoints")]
section GP
variable (l : Launch) (cid : Nat → ClassId) (D : va_G) (ad : Nat → Nat → Nat) (tx : List (List Int32)) (rf : List (String × Nat × String)) (Lc : List (Nat × Nat))
def xRefs (U : State) : Prop := (∀ i r, rf[i]? = some r → vk_R r.1 r.2.1 r.2.2 (ad 60 i) U) ∧ ∀ q ∈ xNST, va_Nw (.methodLinkNest q.1 q.2.1 q.2.2.1 q.2.2.2) U
def xC (p : Program) (c : Code) (meth : Method) (s : State) (m : MethodId) (args : Array Value) (R : Room) (A : Nat → Prop) (d : Nat) (own : String) (b : ByteArray) (nL : Nat) (ret : Option FieldType) : Prop :=
  p.tables.exec = Jvm.exec ∧ c.code = b ∧ c.maxLocals = nL ∧ meth.sig.returnType = ret ∧ s.vm.findClass own = some m.cls ∧ meth.locks = false ∧ (∀ w ∈ xtbl, w.before args s = true) ∧ R = xrm d ∧
  va_K D xcl (xtys cid) s ∧ xStat ad tx A s s.heap ∧ xRefs ad rf s ∧ (∀ q, s.heap.size ≤ q → A q) ∧ xclo Lc tx.length
def xrt (ret : Option FieldType) (v : AV) : Option Value := match ret with
  | none => none
  | some _ => some (cv ad v)
def xQ (ret : Option FieldType) (Q : AV → HH → Prop) (A : Nat → Prop) : Array Value → State → Outcome → State → Prop := fun _ st oc t =>
  ∃ v H', oc = .returned (xrt ad ret v) ∧ xok Lc tx.length v ∧ Q v H' ∧ va_P D xcl (xw cid ad Lc H') t.heap ∧ va_F A st t
def Gp (d : Nat) (own : String) (b : ByteArray) (nL : Nat) (ret : Option FieldType) (pc : Nat) (ls : List (Option AV)) (st : List AV) (H : HH) (Q : AV → HH → Prop) : Prop :=
  ∀ (p : Program) (e : Env) (R : Room) (s : State) (m : MethodId) (args : Array Value) (below : List Frame) (meth : Method) (c : Code) (Hc : Heap) (locs : List Loc) (lsC : Array Slot) (A : Nat → Prop),
    xC cid D ad tx rf Lc p c meth s m args R A d own b nL ret → xoks Lc tx.length ls st → va_P D xcl (xw cid ad Lc H) Hc → va_D A (xw cid ad Lc H) → va_S A s.heap Hc locs → lv_has lsC nL (lcv ad 0 ls) →
    W p l e R s m args below meth c Hc locs 0 0 (MQ below (xQ cid D ad tx Lc ret Q A) args s 0 0 A) (F0 m pc lsC (st.map (cv ad)))
end GP
section XW
variable {cid : Nat → ClassId} {D : va_G} {ad : Nat → Nat → Nat} {Lc : List (Nat × Nat)} {H : HH} {A : Nat → Prop} {Hc : Heap}
theorem xw_at {kd ix : Nat} (h : (kd, ix) ∈ Lc) : ∃ q0 : Nat, Lc[q0]? = some (kd, ix) ∧ (xw cid ad Lc H)[q0]? = some (ad kd ix, xcell cid ad kd ix (H kd ix)) := by
  obtain ⟨i, hi⟩ := List.mem_iff_getElem?.mp h
  exact ⟨i, hi, by simp [xw, hi]⟩
theorem xw_D {H' : HH} (h : va_D A (xw cid ad Lc H)) : va_D A (xw cid ad Lc H') := by
  refine ⟨fun i j p q hp hq e => ?_, fun k q hq => ?_⟩
  · simp only [xw, List.getElem?_map, Option.map_eq_some_iff] at hp hq
    obtain ⟨a, ha, rfl⟩ := hp
    obtain ⟨b, hb, rfl⟩ := hq
    exact h.1 i j (ad a.1 a.2, xcell cid ad a.1 a.2 (H a.1 a.2)) (ad b.1 b.2, xcell cid ad b.1 b.2 (H b.1 b.2)) (by simp only [xw, List.getElem?_map, ha, Option.map_some]) (by simp only [xw, List.getElem?_map, hb, Option.map_some]) e
  · simp only [xw, List.getElem?_map, Option.map_eq_some_iff] at hq
    obtain ⟨a, ha, rfl⟩ := hq
    exact h.2 k (ad a.1 a.2, xcell cid ad a.1 a.2 (H a.1 a.2)) (by simp only [xw, List.getElem?_map, ha, Option.map_some])
theorem xw_set {kd ix q0 : Nat} (hn : Lc.Nodup) (hq : Lc[q0]? = some (kd, ix)) (f : Nat → Int32) : (xw cid ad Lc H).set q0 (ad kd ix, xcell cid ad kd ix f) = xw cid ad Lc (hrow H kd ix f) := by
  apply List.ext_getElem?
  intro i
  by_cases hi : q0 = i
  · subst hi
    have hl : q0 < Lc.length := (List.getElem?_eq_some_iff.mp hq).1
    rw [List.getElem?_set_self (by simpa [xw] using hl)]
    simp [xw, hq, hrow]
  · rw [List.getElem?_set_ne hi]
    simp only [xw, List.getElem?_map]
    cases ha : Lc[i]? with
    | none => rfl
    | some a =>
      have hne : ¬ (a.1 = kd ∧ a.2 = ix) := by
        rintro ⟨h1, h2⟩
        have ea : a = (kd, ix) := by rw [← h1, ← h2]
        subst ea
        exact hi ((List.getElem?_inj (List.getElem?_eq_some_iff.mp hq).1 hn).mp (hq.trans ha.symm))
      simp [hrow, hne]
theorem hrow_upd (H : HH) (kd ix k : Nat) (x : Int32) : hrow H kd ix (upd (H kd ix) k x) = hu H kd ix k x := by
  funext a b c
  show (if a = kd ∧ b = ix then upd (H kd ix) k x else H a b) c = if a = kd ∧ b = ix ∧ c = k then x else H a b c
  by_cases h : a = kd ∧ b = ix
  · obtain ⟨rfl, rfl⟩ := h
    rw [if_pos ⟨rfl, rfl⟩]
    show (if c = k then x else H a b c) = _
    by_cases hc : c = k
    · rw [if_pos hc, if_pos ⟨rfl, rfl, hc⟩]
    · rw [if_neg hc, if_neg (fun q => hc q.2.2)]
  · rw [if_neg h, if_neg (fun q => h ⟨q.1, q.2.1⟩)]
end XW
end
section
/-! RULES: constants, locals, stack, arithmetic, branches. Printed by wip/gen/gen05.py. -/
section RUL
variable {l : Launch} {cid : Nat → ClassId} {D : va_G} {ad : Nat → Nat → Nat} {tx : List (List Int32)} {rf : List (String × Nat × String)} {Lc : List (Nat × Nat)} {d : Nat} {own : String} {b : ByteArray} {nL : Nat} {ret : Option FieldType} {pc : Nat} {ls : List (Option AV)} {st : List AV} {H : HH} {Q : AV → HH → Prop}
theorem g_iconst {n : Int} {v : Int32} (hd : decode b pc = .ok (.iconst n, 1)) (hv : Int32.ofInt n = v) (k : Gp l cid D ad tx rf Lc d own b nL ret (pc + 1) ls (vi v :: st) H Q) : Gp l cid D ad tx rf Lc d own b nL ret pc ls (st) H Q := by
  intro p e R s m args below meth c Hc locs lsC A hC ho hP hD hS hl
  exact lv_iconst hC.1 hC.2.1 hd hv (k p e R s m args below meth c Hc locs lsC A hC (ho.push trivial) hP hD hS hl)
theorem g_bipush {n : Int} {v : Int32} (hd : decode b pc = .ok (.bipush n, 2)) (hv : (Int8.ofInt n).toInt32 = v) (k : Gp l cid D ad tx rf Lc d own b nL ret (pc + 2) ls (vi v :: st) H Q) : Gp l cid D ad tx rf Lc d own b nL ret pc ls (st) H Q := by
  intro p e R s m args below meth c Hc locs lsC A hC ho hP hD hS hl
  exact lv_bipush hC.1 hC.2.1 hd hv (k p e R s m args below meth c Hc locs lsC A hC (ho.push trivial) hP hD hS hl)
theorem g_sipush {n : Int} {v : Int32} (hd : decode b pc = .ok (.sipush n, 3)) (hv : (Int16.ofInt n).toInt32 = v) (k : Gp l cid D ad tx rf Lc d own b nL ret (pc + 3) ls (vi v :: st) H Q) : Gp l cid D ad tx rf Lc d own b nL ret pc ls (st) H Q := by
  intro p e R s m args below meth c Hc locs lsC A hC ho hP hD hS hl
  exact lv_sipush hC.1 hC.2.1 hd hv (k p e R s m args below meth c Hc locs lsC A hC (ho.push trivial) hP hD hS hl)
theorem g_lconst {n : Fin 2} {v : Int64} (hd : decode b pc = .ok (.lconst n, 1)) (hv : Int64.ofNat (n : Nat) = v) (k : Gp l cid D ad tx rf Lc d own b nL ret (pc + 1) ls (vl v :: st) H Q) : Gp l cid D ad tx rf Lc d own b nL ret pc ls (st) H Q := by
  intro p e R s m args below meth c Hc locs lsC A hC ho hP hD hS hl
  exact lv_lconst hC.1 hC.2.1 hd hv (k p e R s m args below meth c Hc locs lsC A hC (ho.push trivial) hP hD hS hl)
theorem g_ldc {index : Nat} {v : Int32} (hd : decode b pc = .ok (.ldc index, 2)) (hm : Cond.constant own index v ∈ xtbl) (k : Gp l cid D ad tx rf Lc d own b nL ret (pc + 2) ls (vi v :: st) H Q) : Gp l cid D ad tx rf Lc d own b nL ret pc ls (st) H Q := by
  intro p e R s m args below meth c Hc locs lsC A hC ho hP hD hS hl
  exact lv_ldc hC.1 hC.2.1 hC.2.2.2.2.1 (hC.2.2.2.2.2.2.1 _ hm) hd (k p e R s m args below meth c Hc locs lsC A hC (ho.push trivial) hP hD hS hl)
theorem g_ldcw {index : Nat} {v : Int32} (hd : decode b pc = .ok (.ldc_w index, 3)) (hm : Cond.constant own index v ∈ xtbl) (k : Gp l cid D ad tx rf Lc d own b nL ret (pc + 3) ls (vi v :: st) H Q) : Gp l cid D ad tx rf Lc d own b nL ret pc ls (st) H Q := by
  intro p e R s m args below meth c Hc locs lsC A hC ho hP hD hS hl
  exact lv_ldcw hC.1 hC.2.1 hC.2.2.2.2.1 (hC.2.2.2.2.2.2.1 _ hm) hd (k p e R s m args below meth c Hc locs lsC A hC (ho.push trivial) hP hD hS hl)
theorem g_ldc2 {index : Nat} {v : Int64} (hd : decode b pc = .ok (.ldc2_w index, 3)) (hm : Cond.constantLong own index v ∈ xtbl) (k : Gp l cid D ad tx rf Lc d own b nL ret (pc + 3) ls (vl v :: st) H Q) : Gp l cid D ad tx rf Lc d own b nL ret pc ls (st) H Q := by
  intro p e R s m args below meth c Hc locs lsC A hC ho hP hD hS hl
  exact lv_ldc2 hC.1 hC.2.1 hC.2.2.2.2.1 (hC.2.2.2.2.2.2.1 _ hm) hd (k p e R s m args below meth c Hc locs lsC A hC (ho.push trivial) hP hD hS hl)
theorem g_null (hd : decode b pc = .ok (.aconst_null, 1)) (k : Gp l cid D ad tx rf Lc d own b nL ret (pc + 1) ls (vn :: st) H Q) : Gp l cid D ad tx rf Lc d own b nL ret pc ls (st) H Q := by
  intro p e R s m args below meth c Hc locs lsC A hC ho hP hD hS hl
  exact lv_null hC.1 hC.2.1 hd (k p e R s m args below meth c Hc locs lsC A hC (ho.push trivial) hP hD hS hl)
theorem lv_at1 {ls : List (Option AV)} {ad : Nat → Nat → Nat} {lsC : Array Slot} {nL i : Nat} {v : AV} (hl : lv_has lsC nL (lcv ad 0 ls)) (h : ls[i]? = some (some v)) : lsC[i]? = some (.val (cv ad v)) := hl.2.2 (i, cv ad v) (mem_lcv.mpr ⟨i, v, h, by rw [Nat.zero_add]⟩)
theorem g_iload_n {q : Fin 4} {i : Nat} {x : Int32} (hd : decode b pc = .ok (.iload_n q, 1)) (hi : (q : Nat) = i) (h : ls[i]? = some (some (vi x))) (k : Gp l cid D ad tx rf Lc d own b nL ret (pc + 1) ls (vi x :: st) H Q) : Gp l cid D ad tx rf Lc d own b nL ret pc ls (st) H Q := by
  intro p e R s m args below meth c Hc locs lsC A hC ho hP hD hS hl
  exact lv_iload_n hC.1 hC.2.1 hd hi (lv_at1 hl h) (k p e R s m args below meth c Hc locs lsC A hC (ho.push trivial) hP hD hS hl)
theorem g_iload {i : Nat} {x : Int32} (hd : decode b pc = .ok (.iload i, 2)) (h : ls[i]? = some (some (vi x))) (k : Gp l cid D ad tx rf Lc d own b nL ret (pc + 2) ls (vi x :: st) H Q) : Gp l cid D ad tx rf Lc d own b nL ret pc ls (st) H Q := by
  intro p e R s m args below meth c Hc locs lsC A hC ho hP hD hS hl
  exact lv_iload hC.1 hC.2.1 hd (lv_at1 hl h) (k p e R s m args below meth c Hc locs lsC A hC (ho.push trivial) hP hD hS hl)
theorem g_lload_n {q : Fin 4} {i : Nat} {x : Int64} (hd : decode b pc = .ok (.lload_n q, 1)) (hi : (q : Nat) = i) (h : ls[i]? = some (some (vl x))) (k : Gp l cid D ad tx rf Lc d own b nL ret (pc + 1) ls (vl x :: st) H Q) : Gp l cid D ad tx rf Lc d own b nL ret pc ls (st) H Q := by
  intro p e R s m args below meth c Hc locs lsC A hC ho hP hD hS hl
  exact lv_lload_n hC.1 hC.2.1 hd hi (lv_at1 hl h) (k p e R s m args below meth c Hc locs lsC A hC (ho.push trivial) hP hD hS hl)
theorem g_lload {i : Nat} {x : Int64} (hd : decode b pc = .ok (.lload i, 2)) (h : ls[i]? = some (some (vl x))) (k : Gp l cid D ad tx rf Lc d own b nL ret (pc + 2) ls (vl x :: st) H Q) : Gp l cid D ad tx rf Lc d own b nL ret pc ls (st) H Q := by
  intro p e R s m args below meth c Hc locs lsC A hC ho hP hD hS hl
  exact lv_lload hC.1 hC.2.1 hd (lv_at1 hl h) (k p e R s m args below meth c Hc locs lsC A hC (ho.push trivial) hP hD hS hl)
theorem g_aload_n {q : Fin 4} {i : Nat} {kd ix : Nat} (hd : decode b pc = .ok (.aload_n q, 1)) (hi : (q : Nat) = i) (h : ls[i]? = some (some (vr kd ix))) (k : Gp l cid D ad tx rf Lc d own b nL ret (pc + 1) ls (vr kd ix :: st) H Q) : Gp l cid D ad tx rf Lc d own b nL ret pc ls (st) H Q := by
  intro p e R s m args below meth c Hc locs lsC A hC ho hP hD hS hl
  exact lv_aload_n hC.1 hC.2.1 hd hi (lv_at1 hl h) (k p e R s m args below meth c Hc locs lsC A hC (ho.push (ho.loc h)) hP hD hS hl)
theorem g_aload {i : Nat} {kd ix : Nat} (hd : decode b pc = .ok (.aload i, 2)) (h : ls[i]? = some (some (vr kd ix))) (k : Gp l cid D ad tx rf Lc d own b nL ret (pc + 2) ls (vr kd ix :: st) H Q) : Gp l cid D ad tx rf Lc d own b nL ret pc ls (st) H Q := by
  intro p e R s m args below meth c Hc locs lsC A hC ho hP hD hS hl
  exact lv_aload hC.1 hC.2.1 hd (lv_at1 hl h) (k p e R s m args below meth c Hc locs lsC A hC (ho.push (ho.loc h)) hP hD hS hl)
theorem g_istore_n {q : Fin 4} {i : Nat} {x : Int32} {ls2 : List (Option AV)} (hd : decode b pc = .ok (.istore_n q, 1)) (hi : (q : Nat) = i) (hn : i < nL) (hb : xnl ls i = true) (e : (ls.set i (some (vi x))) = ls2) (k : Gp l cid D ad tx rf Lc d own b nL ret (pc + 1) ls2 st H Q) : Gp l cid D ad tx rf Lc d own b nL ret pc ls (vi x :: st) H Q := by
  subst e
  intro p e R s m args below meth c Hc locs lsC A hC ho hP hD hS hl
  exact lv_istore_n hC.1 hC.2.1 hd hi hl hn rfl (fun lsC2 hl2 => k p e R s m args below meth c Hc locs lsC2 A hC (ho.pop.set ho.top) hP hD hS (lv_mono hl2 (lcv_store hb)))
theorem g_istore {i : Nat} {x : Int32} {ls2 : List (Option AV)} (hd : decode b pc = .ok (.istore i, 2)) (hn : i < nL) (hb : xnl ls i = true) (e : (ls.set i (some (vi x))) = ls2) (k : Gp l cid D ad tx rf Lc d own b nL ret (pc + 2) ls2 st H Q) : Gp l cid D ad tx rf Lc d own b nL ret pc ls (vi x :: st) H Q := by
  subst e
  intro p e R s m args below meth c Hc locs lsC A hC ho hP hD hS hl
  exact lv_istore hC.1 hC.2.1 hd hl hn rfl (fun lsC2 hl2 => k p e R s m args below meth c Hc locs lsC2 A hC (ho.pop.set ho.top) hP hD hS (lv_mono hl2 (lcv_store hb)))
theorem g_lstore_n {q : Fin 4} {i : Nat} {x : Int64} {ls2 : List (Option AV)} (hd : decode b pc = .ok (.lstore_n q, 1)) (hi : (q : Nat) = i) (hn : i + 1 < nL) (hb : xnl ls i = true) (e : ((ls.set i (some (vl x))).set (i + 1) none) = ls2) (k : Gp l cid D ad tx rf Lc d own b nL ret (pc + 1) ls2 st H Q) : Gp l cid D ad tx rf Lc d own b nL ret pc ls (vl x :: st) H Q := by
  subst e
  intro p e R s m args below meth c Hc locs lsC A hC ho hP hD hS hl
  exact lv_lstore_n hC.1 hC.2.1 hd hi hl hn rfl (fun lsC2 hl2 => k p e R s m args below meth c Hc locs lsC2 A hC ((ho.pop.set ho.top).unset) hP hD hS (lv_mono hl2 (lcv_store2 hb)))
theorem g_lstore {i : Nat} {x : Int64} {ls2 : List (Option AV)} (hd : decode b pc = .ok (.lstore i, 2)) (hn : i + 1 < nL) (hb : xnl ls i = true) (e : ((ls.set i (some (vl x))).set (i + 1) none) = ls2) (k : Gp l cid D ad tx rf Lc d own b nL ret (pc + 2) ls2 st H Q) : Gp l cid D ad tx rf Lc d own b nL ret pc ls (vl x :: st) H Q := by
  subst e
  intro p e R s m args below meth c Hc locs lsC A hC ho hP hD hS hl
  exact lv_lstore hC.1 hC.2.1 hd hl hn rfl (fun lsC2 hl2 => k p e R s m args below meth c Hc locs lsC2 A hC ((ho.pop.set ho.top).unset) hP hD hS (lv_mono hl2 (lcv_store2 hb)))
theorem g_astore_n {q : Fin 4} {i : Nat} {kd ix : Nat} {ls2 : List (Option AV)} (hd : decode b pc = .ok (.astore_n q, 1)) (hi : (q : Nat) = i) (hn : i < nL) (hb : xnl ls i = true) (e : (ls.set i (some (vr kd ix))) = ls2) (k : Gp l cid D ad tx rf Lc d own b nL ret (pc + 1) ls2 st H Q) : Gp l cid D ad tx rf Lc d own b nL ret pc ls (vr kd ix :: st) H Q := by
  subst e
  intro p e R s m args below meth c Hc locs lsC A hC ho hP hD hS hl
  exact lv_astore_n hC.1 hC.2.1 hd hi hl hn rfl (fun lsC2 hl2 => k p e R s m args below meth c Hc locs lsC2 A hC (ho.pop.set ho.top) hP hD hS (lv_mono hl2 (lcv_store hb)))
theorem g_astore {i : Nat} {kd ix : Nat} {ls2 : List (Option AV)} (hd : decode b pc = .ok (.astore i, 2)) (hn : i < nL) (hb : xnl ls i = true) (e : (ls.set i (some (vr kd ix))) = ls2) (k : Gp l cid D ad tx rf Lc d own b nL ret (pc + 2) ls2 st H Q) : Gp l cid D ad tx rf Lc d own b nL ret pc ls (vr kd ix :: st) H Q := by
  subst e
  intro p e R s m args below meth c Hc locs lsC A hC ho hP hD hS hl
  exact lv_astore hC.1 hC.2.1 hd hl hn rfl (fun lsC2 hl2 => k p e R s m args below meth c Hc locs lsC2 A hC (ho.pop.set ho.top) hP hD hS (lv_mono hl2 (lcv_store hb)))
theorem g_iinc {i : Nat} {n : Int} {x v : Int32} {ls2 : List (Option AV)} (hd : decode b pc = .ok (.iinc i n, 3)) (h : ls[i]? = some (some (vi x))) (hv : x + Int32.ofInt n = v) (hn : i < nL) (hb : xnl ls i = true) (e : ls.set i (some (vi v)) = ls2) (k : Gp l cid D ad tx rf Lc d own b nL ret (pc + 3) ls2 st H Q) : Gp l cid D ad tx rf Lc d own b nL ret pc ls st H Q := by
  subst e
  intro p e R s m args below meth c Hc locs lsC A hC ho hP hD hS hl
  obtain ⟨k0, hk0⟩ := List.mem_iff_getElem?.mp (mem_lcv (ad := ad) (j := 0) (q := (i, Value.int x)) |>.mpr ⟨i, vi x, h, by rw [Nat.zero_add]; rfl⟩)
  exact lv_iinc hC.1 hC.2.1 hd hl hk0 hv hn rfl (fun lsC2 hl2 => k p e R s m args below meth c Hc locs lsC2 A hC (ho.set trivial) hP hD hS (lv_mono hl2 (lcv_store hb)))
theorem g_iadd {x y : Int32} (hd : decode b pc = .ok (.iadd, 1)) (k : Gp l cid D ad tx rf Lc d own b nL ret (pc + 1) ls (vi (x + y) :: st) H Q) : Gp l cid D ad tx rf Lc d own b nL ret pc ls (vi y :: vi x :: st) H Q := by
  intro p e R s m args below meth c Hc locs lsC A hC ho hP hD hS hl
  exact lv_iadd hC.1 hC.2.1 hd (k p e R s m args below meth c Hc locs lsC A hC (ho.pop.pop.push trivial) hP hD hS hl)
theorem g_isub {x y : Int32} (hd : decode b pc = .ok (.isub, 1)) (k : Gp l cid D ad tx rf Lc d own b nL ret (pc + 1) ls (vi (x - y) :: st) H Q) : Gp l cid D ad tx rf Lc d own b nL ret pc ls (vi y :: vi x :: st) H Q := by
  intro p e R s m args below meth c Hc locs lsC A hC ho hP hD hS hl
  exact lv_isub hC.1 hC.2.1 hd (k p e R s m args below meth c Hc locs lsC A hC (ho.pop.pop.push trivial) hP hD hS hl)
theorem g_imul {x y : Int32} (hd : decode b pc = .ok (.imul, 1)) (k : Gp l cid D ad tx rf Lc d own b nL ret (pc + 1) ls (vi (x * y) :: st) H Q) : Gp l cid D ad tx rf Lc d own b nL ret pc ls (vi y :: vi x :: st) H Q := by
  intro p e R s m args below meth c Hc locs lsC A hC ho hP hD hS hl
  exact lv_imul hC.1 hC.2.1 hd (k p e R s m args below meth c Hc locs lsC A hC (ho.pop.pop.push trivial) hP hD hS hl)
theorem g_iand {x y : Int32} (hd : decode b pc = .ok (.iand, 1)) (k : Gp l cid D ad tx rf Lc d own b nL ret (pc + 1) ls (vi (x &&& y) :: st) H Q) : Gp l cid D ad tx rf Lc d own b nL ret pc ls (vi y :: vi x :: st) H Q := by
  intro p e R s m args below meth c Hc locs lsC A hC ho hP hD hS hl
  exact lv_iand hC.1 hC.2.1 hd (k p e R s m args below meth c Hc locs lsC A hC (ho.pop.pop.push trivial) hP hD hS hl)
theorem g_ior {x y : Int32} (hd : decode b pc = .ok (.ior, 1)) (k : Gp l cid D ad tx rf Lc d own b nL ret (pc + 1) ls (vi (x ||| y) :: st) H Q) : Gp l cid D ad tx rf Lc d own b nL ret pc ls (vi y :: vi x :: st) H Q := by
  intro p e R s m args below meth c Hc locs lsC A hC ho hP hD hS hl
  exact lv_ior hC.1 hC.2.1 hd (k p e R s m args below meth c Hc locs lsC A hC (ho.pop.pop.push trivial) hP hD hS hl)
theorem g_ishl {x y : Int32} (hd : decode b pc = .ok (.ishl, 1)) (k : Gp l cid D ad tx rf Lc d own b nL ret (pc + 1) ls (vi (x <<< (y &&& 31)) :: st) H Q) : Gp l cid D ad tx rf Lc d own b nL ret pc ls (vi y :: vi x :: st) H Q := by
  intro p e R s m args below meth c Hc locs lsC A hC ho hP hD hS hl
  exact lv_ishl hC.1 hC.2.1 hd (k p e R s m args below meth c Hc locs lsC A hC (ho.pop.pop.push trivial) hP hD hS hl)
theorem g_ishr {x y : Int32} (hd : decode b pc = .ok (.ishr, 1)) (k : Gp l cid D ad tx rf Lc d own b nL ret (pc + 1) ls (vi (x >>> (y &&& 31)) :: st) H Q) : Gp l cid D ad tx rf Lc d own b nL ret pc ls (vi y :: vi x :: st) H Q := by
  intro p e R s m args below meth c Hc locs lsC A hC ho hP hD hS hl
  exact lv_ishr hC.1 hC.2.1 hd (k p e R s m args below meth c Hc locs lsC A hC (ho.pop.pop.push trivial) hP hD hS hl)
theorem g_idiv {x y : Int32} (hd : decode b pc = .ok (.idiv, 1)) (hne : ¬ y = 0) (k : Gp l cid D ad tx rf Lc d own b nL ret (pc + 1) ls (vi (x / y) :: st) H Q) : Gp l cid D ad tx rf Lc d own b nL ret pc ls (vi y :: vi x :: st) H Q := by
  intro p e R s m args below meth c Hc locs lsC A hC ho hP hD hS hl
  exact lv_idiv hC.1 hC.2.1 hd hne (k p e R s m args below meth c Hc locs lsC A hC (ho.pop.pop.push trivial) hP hD hS hl)
theorem g_irem {x y : Int32} (hd : decode b pc = .ok (.irem, 1)) (hne : ¬ y = 0) (k : Gp l cid D ad tx rf Lc d own b nL ret (pc + 1) ls (vi (x - x / y * y) :: st) H Q) : Gp l cid D ad tx rf Lc d own b nL ret pc ls (vi y :: vi x :: st) H Q := by
  intro p e R s m args below meth c Hc locs lsC A hC ho hP hD hS hl
  exact lv_irem hC.1 hC.2.1 hd hne (k p e R s m args below meth c Hc locs lsC A hC (ho.pop.pop.push trivial) hP hD hS hl)
theorem g_iushr {x y v : Int32} (hd : decode b pc = .ok (.iushr, 1)) (hv : (x.toUInt32 >>> (y.toUInt32 &&& Int32.toUInt32 31)).toInt32 = v) (k : Gp l cid D ad tx rf Lc d own b nL ret (pc + 1) ls (vi v :: st) H Q) : Gp l cid D ad tx rf Lc d own b nL ret pc ls (vi y :: vi x :: st) H Q := by
  intro p e R s m args below meth c Hc locs lsC A hC ho hP hD hS hl
  exact lv_iushr hC.1 hC.2.1 hd hv (k p e R s m args below meth c Hc locs lsC A hC (ho.pop.pop.push trivial) hP hD hS hl)
theorem g_ineg {x : Int32} (hd : decode b pc = .ok (.ineg, 1)) (k : Gp l cid D ad tx rf Lc d own b nL ret (pc + 1) ls (vi (-x) :: st) H Q) : Gp l cid D ad tx rf Lc d own b nL ret pc ls (vi x :: st) H Q := by
  intro p e R s m args below meth c Hc locs lsC A hC ho hP hD hS hl
  exact lv_ineg hC.1 hC.2.1 hd (k p e R s m args below meth c Hc locs lsC A hC (ho.pop.push trivial) hP hD hS hl)
theorem g_i2b {x : Int32} (hd : decode b pc = .ok (.i2b, 1)) (k : Gp l cid D ad tx rf Lc d own b nL ret (pc + 1) ls (vi (x.toInt8.toInt32) :: st) H Q) : Gp l cid D ad tx rf Lc d own b nL ret pc ls (vi x :: st) H Q := by
  intro p e R s m args below meth c Hc locs lsC A hC ho hP hD hS hl
  exact lv_i2b hC.1 hC.2.1 hd rfl (k p e R s m args below meth c Hc locs lsC A hC (ho.pop.push trivial) hP hD hS hl)
theorem g_i2s {x : Int32} (hd : decode b pc = .ok (.i2s, 1)) (k : Gp l cid D ad tx rf Lc d own b nL ret (pc + 1) ls (vi (x.toInt16.toInt32) :: st) H Q) : Gp l cid D ad tx rf Lc d own b nL ret pc ls (vi x :: st) H Q := by
  intro p e R s m args below meth c Hc locs lsC A hC ho hP hD hS hl
  exact lv_i2s hC.1 hC.2.1 hd rfl (k p e R s m args below meth c Hc locs lsC A hC (ho.pop.push trivial) hP hD hS hl)
theorem g_i2c {x : Int32} (hd : decode b pc = .ok (.i2c, 1)) (k : Gp l cid D ad tx rf Lc d own b nL ret (pc + 1) ls (vi ((x.toUInt32 % 65536).toInt32) :: st) H Q) : Gp l cid D ad tx rf Lc d own b nL ret pc ls (vi x :: st) H Q := by
  intro p e R s m args below meth c Hc locs lsC A hC ho hP hD hS hl
  exact lv_i2c hC.1 hC.2.1 hd rfl (k p e R s m args below meth c Hc locs lsC A hC (ho.pop.push trivial) hP hD hS hl)
theorem g_i2l {x : Int32} (hd : decode b pc = .ok (.i2l, 1)) (k : Gp l cid D ad tx rf Lc d own b nL ret (pc + 1) ls (vl x.toInt64 :: st) H Q) : Gp l cid D ad tx rf Lc d own b nL ret pc ls (vi x :: st) H Q := by
  intro p e R s m args below meth c Hc locs lsC A hC ho hP hD hS hl
  exact lv_i2l hC.1 hC.2.1 hd rfl (k p e R s m args below meth c Hc locs lsC A hC (ho.pop.push trivial) hP hD hS hl)
theorem g_l2i {x : Int64} (hd : decode b pc = .ok (.l2i, 1)) (k : Gp l cid D ad tx rf Lc d own b nL ret (pc + 1) ls (vi x.toInt32 :: st) H Q) : Gp l cid D ad tx rf Lc d own b nL ret pc ls (vl x :: st) H Q := by
  intro p e R s m args below meth c Hc locs lsC A hC ho hP hD hS hl
  exact lv_l2i hC.1 hC.2.1 hd rfl (k p e R s m args below meth c Hc locs lsC A hC (ho.pop.push trivial) hP hD hS hl)
theorem g_ladd {x y : Int64} (hd : decode b pc = .ok (.ladd, 1)) (k : Gp l cid D ad tx rf Lc d own b nL ret (pc + 1) ls (vl (x + y) :: st) H Q) : Gp l cid D ad tx rf Lc d own b nL ret pc ls (vl y :: vl x :: st) H Q := by
  intro p e R s m args below meth c Hc locs lsC A hC ho hP hD hS hl
  exact lv_ladd hC.1 hC.2.1 hd (k p e R s m args below meth c Hc locs lsC A hC (ho.pop.pop.push trivial) hP hD hS hl)
theorem g_lmul {x y : Int64} (hd : decode b pc = .ok (.lmul, 1)) (k : Gp l cid D ad tx rf Lc d own b nL ret (pc + 1) ls (vl (x * y) :: st) H Q) : Gp l cid D ad tx rf Lc d own b nL ret pc ls (vl y :: vl x :: st) H Q := by
  intro p e R s m args below meth c Hc locs lsC A hC ho hP hD hS hl
  exact lv_lmul hC.1 hC.2.1 hd (k p e R s m args below meth c Hc locs lsC A hC (ho.pop.pop.push trivial) hP hD hS hl)
theorem g_ldiv {x y : Int64} (hd : decode b pc = .ok (.ldiv, 1)) (hne : ¬ y = 0) (k : Gp l cid D ad tx rf Lc d own b nL ret (pc + 1) ls (vl (x / y) :: st) H Q) : Gp l cid D ad tx rf Lc d own b nL ret pc ls (vl y :: vl x :: st) H Q := by
  intro p e R s m args below meth c Hc locs lsC A hC ho hP hD hS hl
  exact lv_ldiv hC.1 hC.2.1 hd hne (k p e R s m args below meth c Hc locs lsC A hC (ho.pop.pop.push trivial) hP hD hS hl)
theorem g_lrem {x y : Int64} (hd : decode b pc = .ok (.lrem, 1)) (hne : ¬ y = 0) (k : Gp l cid D ad tx rf Lc d own b nL ret (pc + 1) ls (vl (x - x / y * y) :: st) H Q) : Gp l cid D ad tx rf Lc d own b nL ret pc ls (vl y :: vl x :: st) H Q := by
  intro p e R s m args below meth c Hc locs lsC A hC ho hP hD hS hl
  exact lv_lrem hC.1 hC.2.1 hd hne (k p e R s m args below meth c Hc locs lsC A hC (ho.pop.pop.push trivial) hP hD hS hl)
theorem g_lcmp {x y : Int64} (hd : decode b pc = .ok (.lcmp, 1)) (k : Gp l cid D ad tx rf Lc d own b nL ret (pc + 1) ls (vi (lg_cmp x y) :: st) H Q) : Gp l cid D ad tx rf Lc d own b nL ret pc ls (vl y :: vl x :: st) H Q := by
  intro p e R s m args below meth c Hc locs lsC A hC ho hP hD hS hl
  exact W.lcmp hC.1 hC.2.1 hd (k p e R s m args below meth c Hc locs lsC A hC (ho.pop.pop.push trivial) hP hD hS hl)
theorem g_dup {v : AV} (hd : decode b pc = .ok (.dup, 1)) (hv : (cv ad v).category = 1) (k : Gp l cid D ad tx rf Lc d own b nL ret (pc + 1) ls (v :: v :: st) H Q) : Gp l cid D ad tx rf Lc d own b nL ret pc ls (v :: st) H Q := by
  intro p e R s m args below meth c Hc locs lsC A hC ho hP hD hS hl
  exact lv_dup hC.1 hC.2.1 hd hv (k p e R s m args below meth c Hc locs lsC A hC (ho.push ho.top) hP hD hS hl)
theorem g_pop {v : AV} (hd : decode b pc = .ok (.pop, 1)) (hv : (cv ad v).category = 1) (k : Gp l cid D ad tx rf Lc d own b nL ret (pc + 1) ls (st) H Q) : Gp l cid D ad tx rf Lc d own b nL ret pc ls (v :: st) H Q := by
  intro p e R s m args below meth c Hc locs lsC A hC ho hP hD hS hl
  exact lv_pop hC.1 hC.2.1 hd hv (k p e R s m args below meth c Hc locs lsC A hC (ho.pop) hP hD hS hl)
theorem g_if_eq {x : Int32} {off : Int} {tgt : Nat} (hd : decode b pc = .ok (.ifCond .eq off, 3)) (ht : (pc : Int) + off = (tgt : Int)) (kt : x = 0 → Gp l cid D ad tx rf Lc d own b nL ret tgt ls st H Q) (kf : ¬ x = 0 → Gp l cid D ad tx rf Lc d own b nL ret (pc + 3) ls st H Q) : Gp l cid D ad tx rf Lc d own b nL ret pc ls (vi x :: st) H Q := by
  intro p e R s m args below meth c Hc locs lsC A hC ho hP hD hS hl
  exact lv_if_eq hC.1 hC.2.1 hd ht (fun h => kt h p e R s m args below meth c Hc locs lsC A hC ho.pop hP hD hS hl) (fun h => kf h p e R s m args below meth c Hc locs lsC A hC ho.pop hP hD hS hl)
theorem g_icmp_eq {x y : Int32} {off : Int} {tgt : Nat} (hd : decode b pc = .ok (.if_icmp .eq off, 3)) (ht : (pc : Int) + off = (tgt : Int)) (kt : x = y → Gp l cid D ad tx rf Lc d own b nL ret tgt ls st H Q) (kf : ¬ x = y → Gp l cid D ad tx rf Lc d own b nL ret (pc + 3) ls st H Q) : Gp l cid D ad tx rf Lc d own b nL ret pc ls (vi y :: vi x :: st) H Q := by
  intro p e R s m args below meth c Hc locs lsC A hC ho hP hD hS hl
  exact lv_icmp_eq hC.1 hC.2.1 hd ht (fun h => kt h p e R s m args below meth c Hc locs lsC A hC ho.pop.pop hP hD hS hl) (fun h => kf h p e R s m args below meth c Hc locs lsC A hC ho.pop.pop hP hD hS hl)
theorem g_if_ne {x : Int32} {off : Int} {tgt : Nat} (hd : decode b pc = .ok (.ifCond .ne off, 3)) (ht : (pc : Int) + off = (tgt : Int)) (kt : ¬ x = 0 → Gp l cid D ad tx rf Lc d own b nL ret tgt ls st H Q) (kf : x = 0 → Gp l cid D ad tx rf Lc d own b nL ret (pc + 3) ls st H Q) : Gp l cid D ad tx rf Lc d own b nL ret pc ls (vi x :: st) H Q := by
  intro p e R s m args below meth c Hc locs lsC A hC ho hP hD hS hl
  exact lv_if_ne hC.1 hC.2.1 hd ht (fun h => kt h p e R s m args below meth c Hc locs lsC A hC ho.pop hP hD hS hl) (fun h => kf h p e R s m args below meth c Hc locs lsC A hC ho.pop hP hD hS hl)
theorem g_icmp_ne {x y : Int32} {off : Int} {tgt : Nat} (hd : decode b pc = .ok (.if_icmp .ne off, 3)) (ht : (pc : Int) + off = (tgt : Int)) (kt : ¬ x = y → Gp l cid D ad tx rf Lc d own b nL ret tgt ls st H Q) (kf : x = y → Gp l cid D ad tx rf Lc d own b nL ret (pc + 3) ls st H Q) : Gp l cid D ad tx rf Lc d own b nL ret pc ls (vi y :: vi x :: st) H Q := by
  intro p e R s m args below meth c Hc locs lsC A hC ho hP hD hS hl
  exact lv_icmp_ne hC.1 hC.2.1 hd ht (fun h => kt h p e R s m args below meth c Hc locs lsC A hC ho.pop.pop hP hD hS hl) (fun h => kf h p e R s m args below meth c Hc locs lsC A hC ho.pop.pop hP hD hS hl)
theorem g_if_lt {x : Int32} {off : Int} {tgt : Nat} (hd : decode b pc = .ok (.ifCond .lt off, 3)) (ht : (pc : Int) + off = (tgt : Int)) (kt : x < 0 → Gp l cid D ad tx rf Lc d own b nL ret tgt ls st H Q) (kf : ¬ x < 0 → Gp l cid D ad tx rf Lc d own b nL ret (pc + 3) ls st H Q) : Gp l cid D ad tx rf Lc d own b nL ret pc ls (vi x :: st) H Q := by
  intro p e R s m args below meth c Hc locs lsC A hC ho hP hD hS hl
  exact lv_if_lt hC.1 hC.2.1 hd ht (fun h => kt h p e R s m args below meth c Hc locs lsC A hC ho.pop hP hD hS hl) (fun h => kf h p e R s m args below meth c Hc locs lsC A hC ho.pop hP hD hS hl)
theorem g_icmp_lt {x y : Int32} {off : Int} {tgt : Nat} (hd : decode b pc = .ok (.if_icmp .lt off, 3)) (ht : (pc : Int) + off = (tgt : Int)) (kt : x < y → Gp l cid D ad tx rf Lc d own b nL ret tgt ls st H Q) (kf : ¬ x < y → Gp l cid D ad tx rf Lc d own b nL ret (pc + 3) ls st H Q) : Gp l cid D ad tx rf Lc d own b nL ret pc ls (vi y :: vi x :: st) H Q := by
  intro p e R s m args below meth c Hc locs lsC A hC ho hP hD hS hl
  exact lv_icmp_lt hC.1 hC.2.1 hd ht (fun h => kt h p e R s m args below meth c Hc locs lsC A hC ho.pop.pop hP hD hS hl) (fun h => kf h p e R s m args below meth c Hc locs lsC A hC ho.pop.pop hP hD hS hl)
theorem g_if_ge {x : Int32} {off : Int} {tgt : Nat} (hd : decode b pc = .ok (.ifCond .ge off, 3)) (ht : (pc : Int) + off = (tgt : Int)) (kt : 0 ≤ x → Gp l cid D ad tx rf Lc d own b nL ret tgt ls st H Q) (kf : ¬ 0 ≤ x → Gp l cid D ad tx rf Lc d own b nL ret (pc + 3) ls st H Q) : Gp l cid D ad tx rf Lc d own b nL ret pc ls (vi x :: st) H Q := by
  intro p e R s m args below meth c Hc locs lsC A hC ho hP hD hS hl
  exact lv_if_ge hC.1 hC.2.1 hd ht (fun h => kt h p e R s m args below meth c Hc locs lsC A hC ho.pop hP hD hS hl) (fun h => kf h p e R s m args below meth c Hc locs lsC A hC ho.pop hP hD hS hl)
theorem g_icmp_ge {x y : Int32} {off : Int} {tgt : Nat} (hd : decode b pc = .ok (.if_icmp .ge off, 3)) (ht : (pc : Int) + off = (tgt : Int)) (kt : y ≤ x → Gp l cid D ad tx rf Lc d own b nL ret tgt ls st H Q) (kf : ¬ y ≤ x → Gp l cid D ad tx rf Lc d own b nL ret (pc + 3) ls st H Q) : Gp l cid D ad tx rf Lc d own b nL ret pc ls (vi y :: vi x :: st) H Q := by
  intro p e R s m args below meth c Hc locs lsC A hC ho hP hD hS hl
  exact lv_icmp_ge hC.1 hC.2.1 hd ht (fun h => kt h p e R s m args below meth c Hc locs lsC A hC ho.pop.pop hP hD hS hl) (fun h => kf h p e R s m args below meth c Hc locs lsC A hC ho.pop.pop hP hD hS hl)
theorem g_if_gt {x : Int32} {off : Int} {tgt : Nat} (hd : decode b pc = .ok (.ifCond .gt off, 3)) (ht : (pc : Int) + off = (tgt : Int)) (kt : 0 < x → Gp l cid D ad tx rf Lc d own b nL ret tgt ls st H Q) (kf : ¬ 0 < x → Gp l cid D ad tx rf Lc d own b nL ret (pc + 3) ls st H Q) : Gp l cid D ad tx rf Lc d own b nL ret pc ls (vi x :: st) H Q := by
  intro p e R s m args below meth c Hc locs lsC A hC ho hP hD hS hl
  exact lv_if_gt hC.1 hC.2.1 hd ht (fun h => kt h p e R s m args below meth c Hc locs lsC A hC ho.pop hP hD hS hl) (fun h => kf h p e R s m args below meth c Hc locs lsC A hC ho.pop hP hD hS hl)
theorem g_icmp_gt {x y : Int32} {off : Int} {tgt : Nat} (hd : decode b pc = .ok (.if_icmp .gt off, 3)) (ht : (pc : Int) + off = (tgt : Int)) (kt : y < x → Gp l cid D ad tx rf Lc d own b nL ret tgt ls st H Q) (kf : ¬ y < x → Gp l cid D ad tx rf Lc d own b nL ret (pc + 3) ls st H Q) : Gp l cid D ad tx rf Lc d own b nL ret pc ls (vi y :: vi x :: st) H Q := by
  intro p e R s m args below meth c Hc locs lsC A hC ho hP hD hS hl
  exact lv_icmp_gt hC.1 hC.2.1 hd ht (fun h => kt h p e R s m args below meth c Hc locs lsC A hC ho.pop.pop hP hD hS hl) (fun h => kf h p e R s m args below meth c Hc locs lsC A hC ho.pop.pop hP hD hS hl)
theorem g_if_le {x : Int32} {off : Int} {tgt : Nat} (hd : decode b pc = .ok (.ifCond .le off, 3)) (ht : (pc : Int) + off = (tgt : Int)) (kt : x ≤ 0 → Gp l cid D ad tx rf Lc d own b nL ret tgt ls st H Q) (kf : ¬ x ≤ 0 → Gp l cid D ad tx rf Lc d own b nL ret (pc + 3) ls st H Q) : Gp l cid D ad tx rf Lc d own b nL ret pc ls (vi x :: st) H Q := by
  intro p e R s m args below meth c Hc locs lsC A hC ho hP hD hS hl
  exact lv_if_le hC.1 hC.2.1 hd ht (fun h => kt h p e R s m args below meth c Hc locs lsC A hC ho.pop hP hD hS hl) (fun h => kf h p e R s m args below meth c Hc locs lsC A hC ho.pop hP hD hS hl)
theorem g_icmp_le {x y : Int32} {off : Int} {tgt : Nat} (hd : decode b pc = .ok (.if_icmp .le off, 3)) (ht : (pc : Int) + off = (tgt : Int)) (kt : x ≤ y → Gp l cid D ad tx rf Lc d own b nL ret tgt ls st H Q) (kf : ¬ x ≤ y → Gp l cid D ad tx rf Lc d own b nL ret (pc + 3) ls st H Q) : Gp l cid D ad tx rf Lc d own b nL ret pc ls (vi y :: vi x :: st) H Q := by
  intro p e R s m args below meth c Hc locs lsC A hC ho hP hD hS hl
  exact lv_icmp_le hC.1 hC.2.1 hd ht (fun h => kt h p e R s m args below meth c Hc locs lsC A hC ho.pop.pop hP hD hS hl) (fun h => kf h p e R s m args below meth c Hc locs lsC A hC ho.pop.pop hP hD hS hl)
theorem g_goto {off : Int} {tgt : Nat} (hd : decode b pc = .ok (.goto off, 3)) (ht : (pc : Int) + off = (tgt : Int)) (k : Gp l cid D ad tx rf Lc d own b nL ret tgt ls st H Q) : Gp l cid D ad tx rf Lc d own b nL ret pc ls st H Q := by
  intro p e R s m args below meth c Hc locs lsC A hC ho hP hD hS hl
  exact lv_goto hC.1 hC.2.1 hd ht (k p e R s m args below meth c Hc locs lsC A hC ho hP hD hS hl)
theorem g_nonnullR {kd ix : Nat} {off : Int} {tgt : Nat} (hd : decode b pc = .ok (.ifnonnull off, 3)) (ht : (pc : Int) + off = (tgt : Int)) (k : Gp l cid D ad tx rf Lc d own b nL ret tgt ls st H Q) : Gp l cid D ad tx rf Lc d own b nL ret pc ls (vr kd ix :: st) H Q := by
  intro p e R s m args below meth c Hc locs lsC A hC ho hP hD hS hl
  exact lv_ifnonnull hC.1 hC.2.1 hd ht (k p e R s m args below meth c Hc locs lsC A hC ho.pop hP hD hS hl)
theorem g_nonnullN {off : Int} (hd : decode b pc = .ok (.ifnonnull off, 3)) (k : Gp l cid D ad tx rf Lc d own b nL ret (pc + 3) ls st H Q) : Gp l cid D ad tx rf Lc d own b nL ret pc ls (vn :: st) H Q := by
  intro p e R s m args below meth c Hc locs lsC A hC ho hP hD hS hl
  exact lv_ifnonnullN hC.1 hC.2.1 hd (k p e R s m args below meth c Hc locs lsC A hC ho.pop hP hD hS hl)
theorem g_tableIn {dflt lo hi : Int} {offs : Array Int} {len : Nat} {x : Int32} {off : Int} {tgt : Nat} (hd : decode b pc = .ok (.tableswitch dflt lo hi offs, len)) (h1 : ¬ x.toInt < lo) (h2 : ¬ hi < x.toInt) (hof : offs[(x.toInt - lo).toNat]? = some off) (ht : (pc : Int) + off = (tgt : Int)) (k : Gp l cid D ad tx rf Lc d own b nL ret tgt ls st H Q) : Gp l cid D ad tx rf Lc d own b nL ret pc ls (vi x :: st) H Q := by
  intro p e R s m args below meth c Hc locs lsC A hC ho hP hD hS hl
  exact lv_tableIn hC.1 hC.2.1 hd h1 h2 hof ht (k p e R s m args below meth c Hc locs lsC A hC ho.pop hP hD hS hl)
theorem g_tableOut {dflt lo hi : Int} {offs : Array Int} {len : Nat} {x : Int32} {tgt : Nat} (hd : decode b pc = .ok (.tableswitch dflt lo hi offs, len)) (h : x.toInt < lo ∨ hi < x.toInt) (ht : (pc : Int) + dflt = (tgt : Int)) (k : Gp l cid D ad tx rf Lc d own b nL ret tgt ls st H Q) : Gp l cid D ad tx rf Lc d own b nL ret pc ls (vi x :: st) H Q := by
  intro p e R s m args below meth c Hc locs lsC A hC ho hP hD hS hl
  exact lv_tableOut hC.1 hC.2.1 hd h ht (k p e R s m args below meth c Hc locs lsC A hC ho.pop hP hD hS hl)
theorem g_iret {x : Int32} (hd : decode b pc = .ok (.ireturn, 1)) (hr : ret = some .int) (hq : Q (vi x) H) : Gp l cid D ad tx rf Lc d own b nL ret pc ls [vi x] H Q := by
  subst hr
  intro p e R s m args below meth c Hc locs lsC A hC ho hP hD hS hl
  exact W.iret hC.1 hC.2.1 hC.2.2.2.1 (fun t ht _ => ⟨vi x, H, rfl, trivial, hq, by rw [ht]; exact hP, hS.F ht⟩) hS.2.2 hd hC.2.2.2.2.2.1
theorem g_lret {x : Int64} (hd : decode b pc = .ok (.lreturn, 1)) (hr : ret = some .long) (hq : Q (vl x) H) : Gp l cid D ad tx rf Lc d own b nL ret pc ls [vl x] H Q := by
  subst hr
  intro p e R s m args below meth c Hc locs lsC A hC ho hP hD hS hl
  exact W.lret hC.1 hC.2.1 hC.2.2.2.1 (fun t ht _ => ⟨vl x, H, rfl, trivial, hq, by rw [ht]; exact hP, hS.F ht⟩) hS.2.2 hd hC.2.2.2.2.2.1
theorem g_zret {x : Int32} {ty : FieldType} (hd : decode b pc = .ok (.ireturn, 1)) (hr : ret = some ty) (hn : narrow ty (.int x) = .int x) (hq : Q (vi x) H) : Gp l cid D ad tx rf Lc d own b nL ret pc ls [vi x] H Q := by
  subst hr
  intro p e R s m args below meth c Hc locs lsC A hC ho hP hD hS hl
  exact W.zret hC.1 hC.2.1 hC.2.2.2.1 hn (fun t ht _ => ⟨vi x, H, rfl, trivial, hq, by rw [ht]; exact hP, hS.F ht⟩) hS.2.2 hd hC.2.2.2.2.2.1
theorem g_vret (hd : decode b pc = .ok (.return_, 1)) (hr : ret = none) (hq : Q (vi 0) H) : Gp l cid D ad tx rf Lc d own b nL ret pc ls [] H Q := by
  subst hr
  intro p e R s m args below meth c Hc locs lsC A hC ho hP hD hS hl
  exact W.vret hC.1 hC.2.1 hC.2.2.2.1 (fun t ht _ => ⟨vi 0, H, rfl, trivial, hq, by rw [ht]; exact hP, hS.F ht⟩) hS.2.2 hd hC.2.2.2.2.2.1
/-- fewer locals are known -/
def xless : List (Option AV) → List (Option AV) → Prop
  | [], _ => True
  | none :: a, _ :: b => xless a b
  | some v :: a, w :: b => w = some v ∧ xless a b
  | none :: a, [] => xless a []
  | some _ :: _, [] => False
theorem xless_get : ∀ {a c : List (Option AV)} (_ : xless a c) {i : Nat} {v : AV}, a[i]? = some (some v) → c[i]? = some (some v) := by
  intro a
  induction a with
  | nil => intro c _ i v h; simp at h
  | cons x a ih =>
    intro c hl i v h
    cases c with
    | nil =>
      cases x with
      | none => cases i with
        | zero => simp at h
        | succ i => exact absurd (ih (c := []) hl (i := i) (v := v) (by simpa using h)) (by simp)
      | some x => exact hl.elim
    | cons y c =>
      cases x with
      | none => cases i with
        | zero => simp at h
        | succ i => simpa using ih hl (i := i) (v := v) (by simpa using h)
      | some x =>
        obtain ⟨rfl, hl⟩ := hl
        cases i with
        | zero => simpa using h
        | succ i => simpa using ih hl (i := i) (v := v) (by simpa using h)
theorem g_drop {ls2 : List (Option AV)} (h : xless ls2 ls) (k : Gp l cid D ad tx rf Lc d own b nL ret pc ls2 st H Q) : Gp l cid D ad tx rf Lc d own b nL ret pc ls st H Q := by
  intro p e R s m args below meth c Hc locs lsC A hC ho hP hD hS hl
  refine k p e R s m args below meth c Hc locs lsC A hC ⟨fun v hv => ?_, ho.2⟩ hP hD hS (lv_mono hl fun q hq => ?_)
  · obtain ⟨i, hi⟩ := List.mem_iff_getElem?.mp hv
    exact ho.1 v (List.mem_of_getElem? (xless_get h hi))
  · obtain ⟨i, v, hi, rfl⟩ := mem_lcv.mp hq
    exact mem_lcv.mpr ⟨i, v, xless_get h hi, rfl⟩
theorem Gp.mono {Q2 : AV → HH → Prop} (h : Gp l cid D ad tx rf Lc d own b nL ret pc ls st H Q) (hq : ∀ v H2, Q v H2 → Q2 v H2) : Gp l cid D ad tx rf Lc d own b nL ret pc ls st H Q2 := by
  intro p e R s m args below meth c Hc locs lsC A hC ho hP hD hS hl
  intro T hT X
  obtain ⟨t, a1, o, b1, b2, ⟨v, H2, c1, c2, c3, c4⟩, b4⟩ := h p e R s m args below meth c Hc locs lsC A hC ho hP hD hS hl T hT X
  exact ⟨t, a1, o, b1, b2, ⟨v, H2, c1, c2, hq _ _ c3, c4⟩, b4⟩
end RUL
end
section
/-! RULES: fields, rows, statics, texts. -/
section HRU
variable {l : Launch} {cid : Nat → ClassId} {D : va_G} {ad : Nat → Nat → Nat} {tx : List (List Int32)} {rf : List (String × Nat × String)} {Lc : List (Nat × Nat)} {d : Nat} {own : String} {b : ByteArray} {nL : Nat} {ret : Option FieldType} {pc : Nat} {ls : List (Option AV)} {st : List AV} {H : HH} {Q : AV → HH → Prop}
theorem xok_in {nT kd ix : Nat} (h : xok Lc nT (vr kd ix)) (hk : kd < 60) : (kd, ix) ∈ Lc := by
  rcases h with h | h | h
  · exact h
  · exact absurd h.1 (by omega)
  · exact absurd h.1 (by omega)
theorem xcell_o {kd ci N ix : Nat} (h : xsh kd = (0, ci, N)) (f : Nat → Int32) : xcell cid ad kd ix f = .inr (ci, (List.range N).map fun k => cv ad (xld kd ix k (f k))) := by
  unfold xcell; rw [h]; rfl
theorem xcell_i {kd N ix a : Nat} (h : xsh kd = (1, a, N)) (f : Nat → Int32) : xcell cid ad kd ix f = .inl (cid 0, N, .inl f) := by
  unfold xcell; rw [h]; rfl
theorem xcell_z {kd N ix a : Nat} (h : xsh kd = (2, a, N)) (f : Nat → Int32) : xcell cid ad kd ix f = .inl (cid 1, N, .inl f) := by
  unfold xcell; rw [h]; rfl
theorem xcell_q {kd t N ix a : Nat} (h : xsh kd = (t + 3, a, N)) (f : Nat → Int32) : xcell cid ad kd ix f = .inl (cid (t + 2), N, .inr (.inr (.inr (.inr fun j => some (ad (xra kd).1 ((xra kd).2 ix j)))))) := by
  unfold xcell; rw [h]; rfl
theorem g_get {kd ix ci N k index : Nat} {C : String} {T : u_T} {v : AV} (hd : decode b pc = .ok (.getfield index, 3)) (h60 : kd < 60) (hsh : xsh kd = (0, ci, N)) (hc : xcl[ci]? = some (C, T, N)) (hin : ∀ w ∈ u_ws C T N, w ∈ xtbl) (hk : k < N)
    (hm : Cond.fieldLink own index (T k).1 (T k).2.1 (T k).2.2.1 ∈ xtbl) (hv : xld kd ix k (H kd ix k) = v) (kk : Gp l cid D ad tx rf Lc d own b nL ret (pc + 3) ls (v :: st) H Q) : Gp l cid D ad tx rf Lc d own b nL ret pc ls (vr kd ix :: st) H Q := by
  intro p e R s m args below meth c Hc locs lsC A hC ho hP hD hS hl
  subst hv
  obtain ⟨hx, hb, hml, hr, hown, hlk, hts, hR, hK, hZ, hrf, hA, hcl⟩ := id hC
  have hi := xok_in ho.top h60
  obtain ⟨q0, hq, hw⟩ := xw_at (cid := cid) (ad := ad) (H := H) hi
  rw [xcell_o hsh] at hw
  refine va_get (T := T) (ref := (T k).1) hx hb hts hin hown hK hP q0 hw hc k hk (hts _ hm) (fun x h => h) (v := cv ad (xld kd ix k (H kd ix k))) (by simp [hk]) hd ?_
  exact kk p e R s m args below meth c Hc locs lsC A hC (ho.pop.push (hcl.2.2.1 _ hi k _)) hP hD hS hl
/-- putfield: what is behind it, in Lean's words -/
theorem xset_o {kd ix ci N k q0 : Nat} {x : Int32} {v : AV} (hsh : xsh kd = (0, ci, N)) (hn : Lc.Nodup) (hq : Lc[q0]? = some (kd, ix)) (hv : xld kd ix k x = v) :
    (xw cid ad Lc H).set q0 (ad kd ix, .inr (ci, ((List.range N).map fun j => cv ad (xld kd ix j (H kd ix j))).set k (cv ad v))) = xw cid ad Lc (hu H kd ix k x) := by
  rw [← hrow_upd, ← xw_set hn hq, xcell_o hsh]
  congr 4
  apply List.ext_getElem?
  intro i
  by_cases hi : k = i
  · subst hi
    by_cases hl : k < N
    · rw [List.getElem?_set_self (by simpa using hl)]
      simp [hl, upd, hv]
    · rw [List.getElem?_eq_none (by simpa using hl), List.getElem?_eq_none (by simpa using hl)]
  · rw [List.getElem?_set_ne hi]
    simp only [List.getElem?_map]
    cases hj : (List.range N)[i]? with
    | none => rfl
    | some j =>
      have hij : j = i := by
        obtain ⟨h1, h2⟩ := List.getElem?_eq_some_iff.mp hj
        rw [← h2]; simp
      subst hij
      have hne : ¬ j = k := fun e => hi e.symm
      simp [upd, hne]
theorem g_putG {kd ix ci N k index : Nat} {C : String} {T : u_T} {v : AV} {x : Int32} {ty : FieldType} (ty0 : Nat → FieldType) (hd : decode b pc = .ok (.putfield index, 3)) (h60 : kd < 60) (hsh : xsh kd = (0, ci, N)) (hc : xcl[ci]? = some (C, T, N)) (hin : ∀ w ∈ u_ws C T N, w ∈ xtbl) (hty : ∀ k, k < N → parseFieldDescriptor (T k).2.2.1 = some (ty0 k)) (hnm : ∀ a, a < N → ∀ b, b < N → a ≠ b → (T a).2.1 ≠ (T b).2.1) (hk : k < N)
    (hm : Cond.fieldLink own index (T k).1 (T k).2.1 (T k).2.2.1 ∈ xtbl) (hfin : (T k).2.2.2 = false) (hpd : parseFieldDescriptor (T k).2.2.1 = some ty) (hv : xld kd ix k x = v) (hnr : narrow ty (cv ad v) = cv ad v) (hfit : fits ty (cv ad v) = true) (kk : Gp l cid D ad tx rf Lc d own b nL ret (pc + 3) ls st (hu H kd ix k x) Q) : Gp l cid D ad tx rf Lc d own b nL ret pc ls (v :: vr kd ix :: st) H Q := by
  intro p e R s m args below meth c Hc locs lsC A hC ho hP hD hS hl
  obtain ⟨hx, hb, hml, hr, hown, hlk, hts, hR, hK, hZ, hrf, hA, hcl⟩ := id hC
  have hi := xok_in ho.pop.top h60
  obtain ⟨q0, hq, hw⟩ := xw_at (cid := cid) (ad := ad) (H := H) hi
  rw [xcell_o hsh] at hw
  refine va_put (T := T) (ref := (T k).1) hx hb hts hin ty0 hty hnm hown hK hP hD hS q0 hw hc k hk (hts _ hm) (fun x h => h) hfin hpd hnr hfit (by simpa using hk) hd (fun H1 locs1 hP1 hD1 hS1 => ?_)
  rw [xset_o hsh hcl.1 hq hv] at hP1
  exact kk p e R s m args below meth c H1 locs1 lsC A hC ho.pop.pop hP1 (xw_D hD) hS1 hl
/-- an int field -/
theorem g_put {kd ix ci N k index : Nat} {C : String} {T : u_T} {x : Int32} (ty0 : Nat → FieldType) (hd : decode b pc = .ok (.putfield index, 3)) (h60 : kd < 60) (hsh : xsh kd = (0, ci, N)) (hc : xcl[ci]? = some (C, T, N)) (hin : ∀ w ∈ u_ws C T N, w ∈ xtbl) (hty : ∀ k, k < N → parseFieldDescriptor (T k).2.2.1 = some (ty0 k)) (hnm : ∀ a, a < N → ∀ b, b < N → a ≠ b → (T a).2.1 ≠ (T b).2.1) (hk : k < N)
    (hm : Cond.fieldLink own index (T k).1 (T k).2.1 (T k).2.2.1 ∈ xtbl) (hfin : (T k).2.2.2 = false) (hpd : parseFieldDescriptor (T k).2.2.1 = some .int) (hv : ∀ y, xld kd ix k y = vi y) (kk : Gp l cid D ad tx rf Lc d own b nL ret (pc + 3) ls st (hu H kd ix k x) Q) : Gp l cid D ad tx rf Lc d own b nL ret pc ls (vi x :: vr kd ix :: st) H Q :=
  g_putG ty0 hd h60 hsh hc hin hty hnm hk hm hfin hpd (hv x) rfl rfl kk
/-- a boolean field -/
theorem g_putZ {kd ix ci N k index : Nat} {C : String} {T : u_T} {x : Int32} (ty0 : Nat → FieldType) (hd : decode b pc = .ok (.putfield index, 3)) (h60 : kd < 60) (hsh : xsh kd = (0, ci, N)) (hc : xcl[ci]? = some (C, T, N)) (hin : ∀ w ∈ u_ws C T N, w ∈ xtbl) (hty : ∀ k, k < N → parseFieldDescriptor (T k).2.2.1 = some (ty0 k)) (hnm : ∀ a, a < N → ∀ b, b < N → a ≠ b → (T a).2.1 ≠ (T b).2.1) (hk : k < N)
    (hm : Cond.fieldLink own index (T k).1 (T k).2.1 (T k).2.2.1 ∈ xtbl) (hfin : (T k).2.2.2 = false) (hpd : parseFieldDescriptor (T k).2.2.1 = some .boolean) (hv : ∀ y, xld kd ix k y = vi y) (h01 : x = 0 ∨ x = 1) (kk : Gp l cid D ad tx rf Lc d own b nL ret (pc + 3) ls st (hu H kd ix k x) Q) : Gp l cid D ad tx rf Lc d own b nL ret pc ls (vi x :: vr kd ix :: st) H Q :=
  g_putG ty0 hd h60 hsh hc hin hty hnm hk hm hfin hpd (hv x) (by rcases h01 with rfl | rfl <;> rfl) (by rcases h01 with rfl | rfl <;> rfl) kk
/-- the law of a ride: none -/
theorem g_putN {index : Nat} (hd : decode b pc = .ok (.putfield index, 3)) (hm : Cond.fieldLink own index "ThreePoints$Ride" "law" "LThreePoints$Text;" ∈ xtbl) {ix : Nat} (kk : Gp l cid D ad tx rf Lc d own b nL ret (pc + 3) ls st (hu H 19 ix 2 0) Q) : Gp l cid D ad tx rf Lc d own b nL ret pc ls (vn :: vr 19 ix :: st) H Q :=
  g_putG (T := xT_Ride) (k := 2) (N := 4) (ci := 8) (C := "ThreePoints$Ride") (ty := .object "ThreePoints$Text") xy_Ride hd (by decide) rfl rfl xi_Ride xy_Ride_ok xn_Ride (by decide) hm rfl (by decide +kernel) rfl rfl rfl kk
/-- the law of a ride: a text -/
theorem g_putT {index : Nat} (hd : decode b pc = .ok (.putfield index, 3)) (hm : Cond.fieldLink own index "ThreePoints$Ride" "law" "LThreePoints$Text;" ∈ xtbl) {ix t : Nat} (ht : t < 7) (kk : Gp l cid D ad tx rf Lc d own b nL ret (pc + 3) ls st (hu H 19 ix 2 (nI (t + 1))) Q) : Gp l cid D ad tx rf Lc d own b nL ret pc ls (vr 11 t :: vr 19 ix :: st) H Q := by
  refine g_putG (T := xT_Ride) (k := 2) (N := 4) (ci := 8) (C := "ThreePoints$Ride") (ty := .object "ThreePoints$Text") xy_Ride hd (by decide) rfl rfl xi_Ride xy_Ride_ok xn_Ride (by decide) hm rfl (by decide +kernel) ?_ rfl rfl kk
  rcases (show t = 0 ∨ t = 1 ∨ t = 2 ∨ t = 3 ∨ t = 4 ∨ t = 5 ∨ t = 6 by omega) with rfl | rfl | rfl | rfl | rfl | rfl | rfl <;> rfl
-- rows
theorem g_iald {kd ix N a : Nat} {i : Int32} (hd : decode b pc = .ok (.iaload, 1)) (h60 : kd < 60) (hsh : xsh kd = (1, a, N)) (hin : vp_in i N) (kk : Gp l cid D ad tx rf Lc d own b nL ret (pc + 1) ls (vi (H kd ix i.toNatClampNeg) :: st) H Q) : Gp l cid D ad tx rf Lc d own b nL ret pc ls (vi i :: vr kd ix :: st) H Q := by
  intro p e R s m args below meth c Hc locs lsC A hC ho hP hD hS hl
  obtain ⟨hx, hb, hml, hr, hown, hlk, hts, hR, hK, hZ, hrf, hA, hcl⟩ := id hC
  have hi := xok_in ho.pop.top h60
  obtain ⟨q0, hq, hw⟩ := xw_at (cid := cid) (ad := ad) (H := H) hi
  rw [xcell_i hsh] at hw
  exact va_iald hx hb hK hP q0 0 hw rfl hin hd (kk p e R s m args below meth c Hc locs lsC A hC (ho.pop.pop.push trivial) hP hD hS hl)
theorem g_zald {kd ix N a : Nat} {i : Int32} (hd : decode b pc = .ok (.baload, 1)) (h60 : kd < 60) (hsh : xsh kd = (2, a, N)) (hin : vp_in i N) (kk : Gp l cid D ad tx rf Lc d own b nL ret (pc + 1) ls (vi (H kd ix i.toNatClampNeg) :: st) H Q) : Gp l cid D ad tx rf Lc d own b nL ret pc ls (vi i :: vr kd ix :: st) H Q := by
  intro p e R s m args below meth c Hc locs lsC A hC ho hP hD hS hl
  obtain ⟨hx, hb, hml, hr, hown, hlk, hts, hR, hK, hZ, hrf, hA, hcl⟩ := id hC
  have hi := xok_in ho.pop.top h60
  obtain ⟨q0, hq, hw⟩ := xw_at (cid := cid) (ad := ad) (H := H) hi
  rw [xcell_z hsh] at hw
  exact va_zald hx hb hK hP q0 1 hw rfl hin hd (kk p e R s m args below meth c Hc locs lsC A hC (ho.pop.pop.push trivial) hP hD hS hl)
theorem g_aald {kd ix N t a : Nat} {i : Int32} (hd : decode b pc = .ok (.aaload, 1)) (h60 : kd < 60) (hsh : xsh kd = (t + 3, a, N)) (ht : t < 3) (hin : vp_in i N) {v : AV} (hv : vr (xra kd).1 ((xra kd).2 ix i.toNatClampNeg) = v) (kk : Gp l cid D ad tx rf Lc d own b nL ret (pc + 1) ls (v :: st) H Q) : Gp l cid D ad tx rf Lc d own b nL ret pc ls (vi i :: vr kd ix :: st) H Q := by
  intro p e R s m args below meth c Hc locs lsC A hC ho hP hD hS hl
  subst hv
  obtain ⟨hx, hb, hml, hr, hown, hlk, hts, hR, hK, hZ, hrf, hA, hcl⟩ := id hC
  have hi := xok_in ho.pop.top h60
  obtain ⟨q0, hq, hw⟩ := xw_at (cid := cid) (ad := ad) (H := H) hi
  rw [xcell_q hsh] at hw
  have hok := hcl.2.2.2 _ hi (by show 3 ≤ (xsh kd).1; rw [hsh]; exact Nat.le_add_left 3 t) i.toNatClampNeg (by
    show i.toNatClampNeg < (xsh kd).2.2
    rw [hsh]
    exact Nat.lt_of_not_le fun z => hin (Or.inr z))
  have kk' := kk p e R s m args below meth c Hc locs lsC A hC (ho.pop.pop.push hok) hP hD hS hl
  rcases (show t = 0 ∨ t = 1 ∨ t = 2 by omega) with rfl | rfl | rfl
  · exact va_aldq hx hb hK hP q0 2 hw rfl hin hd kk'
  · exact va_aldq hx hb hK hP q0 3 hw rfl hin hd kk'
  · exact va_aldq hx hb hK hP q0 4 hw rfl hin hd kk'
theorem g_iast {kd ix N a : Nat} {i x : Int32} (hd : decode b pc = .ok (.iastore, 1)) (h60 : kd < 60) (hsh : xsh kd = (1, a, N)) (hin : vp_in i N) (kk : Gp l cid D ad tx rf Lc d own b nL ret (pc + 1) ls st (hu H kd ix i.toNatClampNeg x) Q) : Gp l cid D ad tx rf Lc d own b nL ret pc ls (vi x :: vi i :: vr kd ix :: st) H Q := by
  intro p e R s m args below meth c Hc locs lsC A hC ho hP hD hS hl
  obtain ⟨hx, hb, hml, hr, hown, hlk, hts, hR, hK, hZ, hrf, hA, hcl⟩ := id hC
  have hi := xok_in ho.pop.pop.top h60
  obtain ⟨q0, hq, hw⟩ := xw_at (cid := cid) (ad := ad) (H := H) hi
  rw [xcell_i hsh] at hw
  refine va_iast hx hb hK hP hD hS q0 0 hw rfl hin hd (fun H1 locs1 hP1 hD1 hS1 => ?_)
  rw [← xcell_i (cid := cid) (ad := ad) (ix := ix) hsh, xw_set hcl.1 hq, hrow_upd] at hP1
  exact kk p e R s m args below meth c H1 locs1 lsC A hC ho.pop.pop.pop hP1 (xw_D hD) hS1 hl
theorem g_zast {kd ix N a : Nat} {i x : Int32} (hd : decode b pc = .ok (.bastore, 1)) (h60 : kd < 60) (hsh : xsh kd = (2, a, N)) (hin : vp_in i N) (h01 : x = 0 ∨ x = 1) (kk : Gp l cid D ad tx rf Lc d own b nL ret (pc + 1) ls st (hu H kd ix i.toNatClampNeg x) Q) : Gp l cid D ad tx rf Lc d own b nL ret pc ls (vi x :: vi i :: vr kd ix :: st) H Q := by
  intro p e R s m args below meth c Hc locs lsC A hC ho hP hD hS hl
  obtain ⟨hx, hb, hml, hr, hown, hlk, hts, hR, hK, hZ, hrf, hA, hcl⟩ := id hC
  have hi := xok_in ho.pop.pop.top h60
  obtain ⟨q0, hq, hw⟩ := xw_at (cid := cid) (ad := ad) (H := H) hi
  rw [xcell_z hsh] at hw
  have hx1 : vp_nar .boolean x = x := by rcases h01 with rfl | rfl <;> rfl
  refine va_zast hx hb hK hP hD hS q0 1 hw rfl hin hd (fun H1 locs1 hP1 hD1 hS1 => ?_)
  rw [hx1, ← xcell_z (cid := cid) (ad := ad) (ix := ix) hsh, xw_set hcl.1 hq, hrow_upd] at hP1
  exact kk p e R s m args below meth c H1 locs1 lsC A hC ho.pop.pop.pop hP1 (xw_D hD) hS1 hl
theorem g_alen {kd ix N a : Nat} {v : Int32} (hd : decode b pc = .ok (.arraylength, 1)) (h60 : kd < 60) (hsh : xsh kd = (1, a, N)) (hv : Int32.ofNat N = v) (kk : Gp l cid D ad tx rf Lc d own b nL ret (pc + 1) ls (vi v :: st) H Q) : Gp l cid D ad tx rf Lc d own b nL ret pc ls (vr kd ix :: st) H Q := by
  intro p e R s m args below meth c Hc locs lsC A hC ho hP hD hS hl
  obtain ⟨hx, hb, hml, hr, hown, hlk, hts, hR, hK, hZ, hrf, hA, hcl⟩ := id hC
  have hi := xok_in ho.top h60
  obtain ⟨q0, hq, hw⟩ := xw_at (cid := cid) (ad := ad) (H := H) hi
  rw [xcell_i hsh] at hw
  exact va_alen hx hb hK hP q0 0 hw rfl hv hd (kk p e R s m args below meth c Hc locs lsC A hC (ho.pop.push trivial) hP hD hS hl)
-- statics
theorem g_gsACR {index : Nat} (hd : decode b pc = .ok (.getstatic index, 3)) (hm : Cond.fieldLink own index "ThreePoints" "ACROSS" "[I" ∈ xtbl) (kk : Gp l cid D ad tx rf Lc d own b nL ret (pc + 3) ls (vr 62 0 :: st) H Q) : Gp l cid D ad tx rf Lc d own b nL ret pc ls st H Q := by
  intro p e R s m args below meth c Hc locs lsC A hC ho hP hD hS hl
  obtain ⟨hx, hb, hml, hr, hown, hlk, hts, hR, hK, hZ, hrf, hA, hcl⟩ := id hC
  exact va_gets hx hb hZ.1 hS hown (hts _ hm) (fun x h => h) hd (kk p e R s m args below meth c Hc locs lsC A hC (ho.push (Or.inr (Or.inr ⟨by omega, rfl⟩))) hP hD hS hl)
theorem g_gsBND {index : Nat} (hd : decode b pc = .ok (.getstatic index, 3)) (hm : Cond.fieldLink own index "ThreePoints$Text" "BOUNDS" "[I" ∈ xtbl) (kk : Gp l cid D ad tx rf Lc d own b nL ret (pc + 3) ls (vr 63 0 :: st) H Q) : Gp l cid D ad tx rf Lc d own b nL ret pc ls st H Q := by
  intro p e R s m args below meth c Hc locs lsC A hC ho hP hD hS hl
  obtain ⟨hx, hb, hml, hr, hown, hlk, hts, hR, hK, hZ, hrf, hA, hcl⟩ := id hC
  exact va_gets hx hb hZ.2.2.1 hS hown (hts _ hm) (fun x h => h) hd (kk p e R s m args below meth c Hc locs lsC A hC (ho.push (Or.inr (Or.inr ⟨by omega, rfl⟩))) hP hD hS hl)
theorem g_gsABV {index : Nat} (hd : decode b pc = .ok (.getstatic index, 3)) (hm : Cond.fieldLink own index "ThreePoints$Vehicle" "ABOVE" "[I" ∈ xtbl) (kk : Gp l cid D ad tx rf Lc d own b nL ret (pc + 3) ls (vr 64 0 :: st) H Q) : Gp l cid D ad tx rf Lc d own b nL ret pc ls st H Q := by
  intro p e R s m args below meth c Hc locs lsC A hC ho hP hD hS hl
  obtain ⟨hx, hb, hml, hr, hown, hlk, hts, hR, hK, hZ, hrf, hA, hcl⟩ := id hC
  exact va_gets hx hb hZ.2.2.2.2.1 hS hown (hts _ hm) (fun x h => h) hd (kk p e R s m args below meth c Hc locs lsC A hC (ho.push (Or.inr (Or.inr ⟨by omega, rfl⟩))) hP hD hS hl)
theorem g_gsCMP {index : Nat} (hd : decode b pc = .ok (.getstatic index, 3)) (hm : Cond.fieldLink own index "java/lang/String" "COMPACT_STRINGS" "Z" ∈ xtbl) (kk : Gp l cid D ad tx rf Lc d own b nL ret (pc + 3) ls (vi 1 :: st) H Q) : Gp l cid D ad tx rf Lc d own b nL ret pc ls st H Q := by
  intro p e R s m args below meth c Hc locs lsC A hC ho hP hD hS hl
  obtain ⟨hx, hb, hml, hr, hown, hlk, hts, hR, hK, hZ, hrf, hA, hcl⟩ := id hC
  exact va_gets hx hb hZ.2.2.2.2.2.2.1 hS hown (hts _ hm) (fun x h => h) hd (kk p e R s m args below meth c Hc locs lsC A hC (ho.push trivial) hP hD hS hl)
theorem g_gsSIO {index : Nat} (hd : decode b pc = .ok (.getstatic index, 3)) (hm : Cond.fieldLink own index "jdk/internal/util/Preconditions" "SIOOBE_FORMATTER" "Ljava/util/function/BiFunction;" ∈ xtbl) (kk : Gp l cid D ad tx rf Lc d own b nL ret (pc + 3) ls (vr 65 0 :: st) H Q) : Gp l cid D ad tx rf Lc d own b nL ret pc ls st H Q := by
  intro p e R s m args below meth c Hc locs lsC A hC ho hP hD hS hl
  obtain ⟨hx, hb, hml, hr, hown, hlk, hts, hR, hK, hZ, hrf, hA, hcl⟩ := id hC
  exact va_gets hx hb hZ.2.2.2.2.2.2.2.2 hS hown (hts _ hm) (fun x h => h) hd (kk p e R s m args below meth c Hc locs lsC A hC (ho.push (Or.inr (Or.inr ⟨by omega, rfl⟩))) hP hD hS hl)
theorem g_ialdACR {i : Int32} (hd : decode b pc = .ok (.iaload, 1)) (hin : vp_in i 16) (kk : Gp l cid D ad tx rf Lc d own b nL ret (pc + 1) ls (vi (xACR.getD i.toNatClampNeg 0) :: st) H Q) : Gp l cid D ad tx rf Lc d own b nL ret pc ls (vi i :: vr 62 0 :: st) H Q := by
  intro p e R s m args below meth c Hc locs lsC A hC ho hP hD hS hl
  obtain ⟨hx, hb, hml, hr, hown, hlk, hts, hR, hK, hZ, hrf, hA, hcl⟩ := id hC
  exact va_ti hx hb hZ.2.1 hS hin rfl hd (kk p e R s m args below meth c Hc locs lsC A hC (ho.pop.pop.push trivial) hP hD hS hl)
theorem g_ialdBND {i : Int32} (hd : decode b pc = .ok (.iaload, 1)) (hin : vp_in i 3) (kk : Gp l cid D ad tx rf Lc d own b nL ret (pc + 1) ls (vi (xBND.getD i.toNatClampNeg 0) :: st) H Q) : Gp l cid D ad tx rf Lc d own b nL ret pc ls (vi i :: vr 63 0 :: st) H Q := by
  intro p e R s m args below meth c Hc locs lsC A hC ho hP hD hS hl
  obtain ⟨hx, hb, hml, hr, hown, hlk, hts, hR, hK, hZ, hrf, hA, hcl⟩ := id hC
  exact va_ti hx hb hZ.2.2.2.1 hS hin rfl hd (kk p e R s m args below meth c Hc locs lsC A hC (ho.pop.pop.push trivial) hP hD hS hl)
theorem g_ialdABV {i : Int32} (hd : decode b pc = .ok (.iaload, 1)) (hin : vp_in i 6) (kk : Gp l cid D ad tx rf Lc d own b nL ret (pc + 1) ls (vi (xABV.getD i.toNatClampNeg 0) :: st) H Q) : Gp l cid D ad tx rf Lc d own b nL ret pc ls (vi i :: vr 64 0 :: st) H Q := by
  intro p e R s m args below meth c Hc locs lsC A hC ho hP hD hS hl
  obtain ⟨hx, hb, hml, hr, hown, hlk, hts, hR, hK, hZ, hrf, hA, hcl⟩ := id hC
  exact va_ti hx hb hZ.2.2.2.2.2.1 hS hin rfl hd (kk p e R s m args below meth c Hc locs lsC A hC (ho.pop.pop.push trivial) hP hD hS hl)
-- texts
theorem xok_tx {nT kd i : Nat} (hcl : xclo Lc nT) (h : xok Lc nT (vr kd i)) (h1 : 60 ≤ kd) (h2 : kd ≤ 61) : i < nT := by
  rcases h with h | h | h
  · exact absurd (hcl.2.1 _ h) (by show ¬ kd < 60; omega)
  · exact h.2.2
  · exact absurd h.1 (by omega)
theorem g_ldcS {index i : Nat} {t : String} (hd : decode b pc = .ok (.ldc index, 2)) (hi : rf[i]? = some (own, index, t)) (hlt : i < tx.length) (kk : Gp l cid D ad tx rf Lc d own b nL ret (pc + 2) ls (vr 60 i :: st) H Q) : Gp l cid D ad tx rf Lc d own b nL ret pc ls st H Q := by
  intro p e R s m args below meth c Hc locs lsC A hC ho hP hD hS hl
  obtain ⟨hx, hb, hml, hr, hown, hlk, hts, hR, hK, hZ, hrf, hA, hcl⟩ := id hC
  exact va_ldcS hx hb hown (hrf.1 i _ hi) hd (kk p e R s m args below meth c Hc locs lsC A hC (ho.push (Or.inr (Or.inl ⟨by omega, by omega, hlt⟩))) hP hD hS hl)
theorem g_strV {index i : Nat} (hd : decode b pc = .ok (.getfield index, 3)) (hm : Cond.fieldLink own index "java/lang/String" "value" "[B" ∈ xtbl) (kk : Gp l cid D ad tx rf Lc d own b nL ret (pc + 3) ls (vr 61 i :: st) H Q) : Gp l cid D ad tx rf Lc d own b nL ret pc ls (vr 60 i :: st) H Q := by
  intro p e R s m args below meth c Hc locs lsC A hC ho hP hD hS hl
  obtain ⟨hx, hb, hml, hr, hown, hlk, hts, hR, hK, hZ, hrf, hA, hcl⟩ := id hC
  have hi := xok_tx hcl ho.top (by omega) (by omega)
  exact vk_getf hx hb (hZ.2.2.2.2.2.2.2.1.1 i hi).2.2.1 hS hown (hts _ hm) (fun x h => h) hd (kk p e R s m args below meth c Hc locs lsC A hC (ho.pop.push (Or.inr (Or.inl ⟨by omega, by omega, hi⟩))) hP hD hS hl)
theorem g_strC {index i : Nat} (hd : decode b pc = .ok (.getfield index, 3)) (hm : Cond.fieldLink own index "java/lang/String" "coder" "B" ∈ xtbl) (kk : Gp l cid D ad tx rf Lc d own b nL ret (pc + 3) ls (vi 0 :: st) H Q) : Gp l cid D ad tx rf Lc d own b nL ret pc ls (vr 60 i :: st) H Q := by
  intro p e R s m args below meth c Hc locs lsC A hC ho hP hD hS hl
  obtain ⟨hx, hb, hml, hr, hown, hlk, hts, hR, hK, hZ, hrf, hA, hcl⟩ := id hC
  have hi := xok_tx hcl ho.top (by omega) (by omega)
  exact vk_getf hx hb (hZ.2.2.2.2.2.2.2.1.1 i hi).2.1 hS hown (hts _ hm) (fun x h => h) hd (kk p e R s m args below meth c Hc locs lsC A hC (ho.pop.push trivial) hP hD hS hl)
theorem g_bald {i : Nat} {j : Int32} (hd : decode b pc = .ok (.baload, 1)) (hin : vp_in j (tx.getD i []).length) (kk : Gp l cid D ad tx rf Lc d own b nL ret (pc + 1) ls (vi ((tx.getD i []).getD j.toNatClampNeg 0) :: st) H Q) : Gp l cid D ad tx rf Lc d own b nL ret pc ls (vi j :: vr 61 i :: st) H Q := by
  intro p e R s m args below meth c Hc locs lsC A hC ho hP hD hS hl
  obtain ⟨hx, hb, hml, hr, hown, hlk, hts, hR, hK, hZ, hrf, hA, hcl⟩ := id hC
  have hi := xok_tx hcl ho.pop.top (by omega) (by omega)
  have hT := (hZ.2.2.2.2.2.2.2.1.1 i hi).2.2.2
  have hlen : (tx.map List.length).getD i 0 = (tx.getD i []).length := by simp [List.getD, hi]
  rw [hlen] at hT
  exact va_tb hx hb hT hS hin rfl hd (kk p e R s m args below meth c Hc locs lsC A hC (ho.pop.pop.push trivial) hP hD hS hl)
theorem g_blen {i : Nat} (hd : decode b pc = .ok (.arraylength, 1)) (kk : Gp l cid D ad tx rf Lc d own b nL ret (pc + 1) ls (vi (nI (tx.getD i []).length) :: st) H Q) : Gp l cid D ad tx rf Lc d own b nL ret pc ls (vr 61 i :: st) H Q := by
  intro p e R s m args below meth c Hc locs lsC A hC ho hP hD hS hl
  obtain ⟨hx, hb, hml, hr, hown, hlk, hts, hR, hK, hZ, hrf, hA, hcl⟩ := id hC
  have hi := xok_tx hcl ho.top (by omega) (by omega)
  have hT := (hZ.2.2.2.2.2.2.2.1.1 i hi).2.2.2
  have hlen : (tx.map List.length).getD i 0 = (tx.getD i []).length := by simp [List.getD, hi]
  rw [hlen] at hT
  exact va_tlen hx hb hT hS rfl hd (kk p e R s m args below meth c Hc locs lsC A hC (ho.pop.push trivial) hP hD hS hl)
end HRU
end
section
/-! RULES: calls. -/
def xpu (ret : Option FieldType) (v : AV) (st : List AV) : List AV := match ret with
  | none => st
  | some _ => v :: st
def xcat (v : AV) : Nat := match v with
  | .inr (.inl _) => 2
  | _ => 1
theorem xcat_eq {ad : Nat → Nat → Nat} (v : AV) : (cv ad v).category = xcat v := by
  rcases v with x | x | _ | ⟨k, i⟩ <;> rfl
theorem xcats {ad : Nat → Nat → Nat} (st : List AV) : (st.map (cv ad)).map (fun v => v.category) = st.map xcat := by
  rw [List.map_map]
  exact List.map_congr_left fun v _ => xcat_eq v
section CRU
variable {l : Launch} {cid : Nat → ClassId} {D : va_G} {ad : Nat → Nat → Nat} {tx : List (List Int32)} {rf : List (String × Nat × String)} {Lc : List (Nat × Nat)} {d : Nat} {own : String} {b : ByteArray} {nL : Nat} {ret : Option FieldType} {pc : Nat} {ls : List (Option AV)} {st : List AV} {H : HH} {Q Q2 : AV → HH → Prop}
theorem xgood {y : MethodName} {b2 : ByteArray} {n2 : Nat} {r2 : Option FieldType} (hc : Cond.code y b2 n2 r2 ∈ xtbl) : GoodIn xtbl (Cond.code y b2 n2 r2 :: xtbl) := by
  have hall : ∀ w ∈ xtbl, w ∈ xtbl ∧ ((w.onTables && w.keeps) = true ∨ ∃ ty, w = .arrayClass ty) := fun w h => ⟨h, good_of_word (List.mem_filter.mp h).2⟩
  intro w h
  rcases List.mem_cons.mp h with rfl | h
  · exact hall _ hc
  · exact hall _ h
variable (cid D ad tx rf Lc) in
/-- a contract's start: the world is the heap's picture -/
def xPc (vs : List AV) (H : HH) (sz : Nat) : Array Value → State → Prop := va_Pc (vs.map (cv ad)) (fun U => U.heap.size = sz ∧ va_P D xcl (xw cid ad Lc H) U.heap ∧ va_K D xcl (xtys cid) U ∧ va_D (fun _ => True) (xw cid ad Lc H) ∧ xStat ad tx (va_A (xw cid ad Lc H) sz) U U.heap ∧ xRefs ad rf U)
theorem xmet {y : MethodName} {vs : List AV} {sz : Nat} (hcl : xclo Lc tx.length) (hy : plainName y.cls = true) (h : Gp l cid D ad tx rf Lc d y.cls b nL ret 0 (xent vs) [] H Q) (hok : ∀ v ∈ vs, xok Lc tx.length v) (hn : (vs.map xcat).sum ≤ nL) :
    Met l y (Cond.code y b nL ret :: xtbl) (xrm d) (xPc cid D ad tx rf Lc vs H sz) (xQ cid D ad tx Lc ret Q (va_A (xw cid ad Lc H) sz)) 0 0 (va_A (xw cid ad Lc H) sz) := by
  refine Met.ofW (cc := b) (maxL := nL) (ret := ret) hy rfl ?_
  intro p e s m args below meth c s₁ B hml hv
  obtain ⟨rfl, hsz, hP, hK, hD0, hZ, hrf⟩ := hv
  have hx := B.exec
  have hb := B.bytes
  have hr := B.returns
  have hts := atoms_spec (ws := Cond.code y b nL ret :: xtbl) B.pre
  have hown : s.vm.findClass y.cls = some m.cls := findClass_of_methodNamed B.named
  have hlocks := B.notSynchronized
  subst hsz
  have hD := hD0.self (sz := s.heap.size)
  have hlen : (lg_sl (vs.map (cv ad))).length ≤ nL := by
    refine Nat.le_trans (Nat.le_of_eq ?_) hn
    clear h hok hn hts B hx hb hr hown hlocks hD hD0 hZ hrf hP hK hml
    induction vs with
    | nil => rfl
    | cons v r ih =>
      have e : lg_sl (List.map (cv ad) (v :: r)) = (if (cv ad v).category = 2 then [Slot.val (cv ad v), .second] else [Slot.val (cv ad v)]) ++ lg_sl (r.map (cv ad)) := by simp [lg_sl]
      rw [e, List.length_append, ih]
      rcases v with x | x | _ | ⟨k, i⟩ <;> simp [cv, Value.category, xcat]
  have hl := lv_entry (vs.map (cv ad)) (n := nL) hlen
  rw [lg_entry_eq]
  generalize (lg_sl (vs.map (cv ad)) ++ List.replicate (nL - (lg_sl (vs.map (cv ad))).length) Slot.unset).toArray = lsC at hl ⊢
  rw [← xent_args] at hl
  exact h p e _ s m _ below meth c s.heap [] lsC _ ⟨hx, hb, hml, hr, hown, hlocks, fun w hw => hts w (List.mem_cons_of_mem _ hw), rfl, hK, hZ, hrf, fun q hq => Or.inr hq, hcl⟩
    ⟨fun v hv => by
      obtain ⟨i, hi⟩ := List.mem_iff_getElem?.mp hv
      have aux : ∀ (ws : List AV) (i : Nat), (xent ws)[i]? = some (some v) → v ∈ ws := by
        intro ws
        induction ws with
        | nil => intro i h; simp [xent] at h
        | cons w r ih =>
          intro i h
          rcases w with x | x | _ | ⟨k, j⟩
          · cases i with
            | zero => simp [xent] at h; rw [← h]; exact List.mem_cons_self
            | succ i => exact List.mem_cons_of_mem _ (ih i (by simpa [xent] using h))
          · cases i with
            | zero => simp [xent] at h; rw [← h]; exact List.mem_cons_self
            | succ i => cases i with
              | zero => simp [xent] at h
              | succ i => exact List.mem_cons_of_mem _ (ih i (by simpa [xent] using h))
          · cases i with
            | zero => simp [xent] at h; rw [← h]; exact List.mem_cons_self
            | succ i => exact List.mem_cons_of_mem _ (ih i (by simpa [xent] using h))
          · cases i with
            | zero => simp [xent] at h; rw [← h]; exact List.mem_cons_self
            | succ i => exact List.mem_cons_of_mem _ (ih i (by simpa [xent] using h))
      exact hok v (aux vs i hi), fun v hv => by cases hv⟩ hP hD va_S.rf hl
theorem xblind {vs : List AV} {sz : Nat} : FrameBlind (xPc cid D ad tx rf Lc vs H sz) := by
  intro a U g mk q
  obtain ⟨q0, q1, qP, qK, qD, qZ, qR⟩ := q
  exact ⟨q0, q1, qP, va_K.moved (u := U) (U := U.calling g mk a) (Vm.Alike.refl U.vm) qK, qD, xStat.moved ad tx (u := U) (U := U.calling g mk a) (Vm.Alike.refl U.vm) qZ, ⟨fun i r h => vk_R.same (u := U) rfl (qR.1 i r h), fun q h => va_Nw.same rfl (u := U) rfl (qR.2 q h)⟩⟩
/-- behind a call's run -/
theorem xback {p : Program} {e : Env} {R : Room} {s : State} {m : MethodId} {args : Array Value} {below : List Frame} {meth : Method} {c : Code} {Hc : Heap} {locs : List Loc} {lsC : Array Slot} {A : Nat → Prop} {st0 : List Value} {r2 : Option FieldType} {a : Array Value} {H2 : HH}
    (hr : va_Run p l e R s m args below meth c Hc locs 0 0 0 0 (F0 m pc lsC st0) (st.map (cv ad)) (xQ cid D ad tx Lc r2 Q2 (va_A (xw cid ad Lc H2) Hc.size) a) (va_A (xw cid ad Lc H2) Hc.size))
    (hC : xC cid D ad tx rf Lc p c meth s m args R A d own b nL ret) (ho : xoks Lc tx.length ls st) (hD : va_D A (xw cid ad Lc H2)) (hS : va_S A s.heap Hc locs) (hl : lv_has lsC nL (lcv ad 0 ls))
    (kk : ∀ v H', Q2 v H' → Gp l cid D ad tx rf Lc d own b nL ret (pc + 3) ls (xpu r2 v st) H' Q) : W p l e R s m args below meth c Hc locs 0 0 (MQ below (xQ cid D ad tx Lc ret Q A) args s 0 0 A) (F0 m pc lsC st0) := by
  have hA1 : ∀ q, va_A (xw cid ad Lc H2) Hc.size q → A q := by
    intro q h
    rcases h with ⟨k, e, h⟩ | h
    · exact hD.2 k (q, e) h
    · exact hC.2.2.2.2.2.2.2.2.2.2.2.1 q (Nat.le_trans hS.1 h)
  intro T hT X
  obtain ⟨v, st₀, t, T', L, h0, X', hL, e1, e2, ⟨v', H', hv, hok, hq, hP1, hz, hk⟩, stp⟩ := hr T hT X
  rw [h0] at hz hk
  have W1 := kk v' H' hq p e R s m args below meth c T'.heap (locs ++ L) lsC A hC
    (by
      cases r2 with
      | none => exact ho
      | some _ => exact ho.push hok)
    (by rw [e1]; exact hP1) (xw_D hD)
    ⟨Nat.le_trans hS.1 (by rw [e1]; exact hz), fun q h1 h2 => by rw [e1, hk q (Nat.lt_of_lt_of_le h1 hS.1) (fun z => h2 (hA1 q z))]; exact hS.2.1 q h1 h2, fun q hq => by
      rcases List.mem_append.mp hq with h | h
      · exact hS.2.2 q h
      · exact hA1 _ (hL q h)⟩ hl
  obtain ⟨t2, a1, b1⟩ := W1 T' rfl X'
  refine ⟨t2, stp t2 ?_, b1⟩
  have hst : v.toList ++ st.map (cv ad) = (xpu r2 v' st).map (cv ad) := by
    cases r2 with
    | none => cases hv; rfl
    | some _ => cases hv; rfl
  show Steps p.tables e below (T'.setTop { method := m, pc := pc + 3, locals := lsC, stack := v.toList ++ st.map (cv ad), locked := none }) t2
  rw [hst]
  exact a1
theorem xprec {s : State} {Hc : Heap} {A : Nat → Prop} {locs : List Loc} {vs : List AV} (hK : va_K D xcl (xtys cid) s) (hP : va_P D xcl (xw cid ad Lc H) Hc) (hD : va_D A (xw cid ad Lc H)) (hZ : xStat ad tx A s s.heap) (hrf : xRefs ad rf s) (hS : va_S A s.heap Hc locs) (hA : ∀ q, s.heap.size ≤ q → A q) :
    ∀ U : State, U.heap = Hc → s.WarmedH U.vm → xPc cid D ad tx rf Lc vs H Hc.size (vs.map (cv ad)).toArray U := by
  intro U hU hW
  refine ⟨rfl, by rw [hU], by rw [hU]; exact hP, va_K.moved hW.alike hK, hD.weaken (fun _ _ _ _ => trivial), ?_, ⟨fun i r h => vk_R.warm hW (hrf.1 i r h), fun q h => va_Nw.warmM hW (hrf.2 q h)⟩⟩
  rw [hU]
  refine ((hZ.kept ad tx hS.2.1).moved ad tx hW.alike).narrow ad tx fun q h => ?_
  rcases h with ⟨k, e, h⟩ | h
  · exact hD.2 k (q, e) h
  · exact hA q (Nat.le_trans hS.1 h)
/-- the words of a method that is called -/
def xM (y : MethodName) (b2 : ByteArray) (n2 : Nat) (r2 : Option FieldType) (n : Nat) : Prop := Cond.code y b2 n2 r2 ∈ xtbl ∧ Cond.initialized y.cls ∈ xtbl ∧ plainName y.cls = true ∧ (y.cls ≠ "java/lang/invoke/MethodHandle" ∧ y.cls ≠ "java/lang/invoke/VarHandle" ∧ (parseMethodDescriptor y.desc).map (fun d => d.parameters.length) = some n) ∧ n2 ≤ 20
theorem g_callV {y : MethodName} {b2 : ByteArray} {n2 n ci N kd ix index : Nat} {r2 : Option FieldType} {T : u_T} {vs : List AV} {st0 : List AV} (hd : decode b pc = .ok (.invokevirtual index, 3)) (hM : xM y b2 n2 r2 n) (hlink : Cond.methodLink own index y ∈ xtbl) (hinst : Cond.instanceMethod y ∈ xtbl) (hsel : Cond.selects y.cls y y ∈ xtbl)
    (h60 : kd < 60) (hsh : xsh kd = (0, ci, N)) (hc : xcl[ci]? = some (y.cls, T, N)) (hlen : vs.length = n) (hst : st0 = vs.reverse ++ vr kd ix :: st) (hcat : (st.map xcat).sum ≤ 8) (hsum : ((vr kd ix :: vs).map xcat).sum ≤ n2)
    (h : Gp l cid D ad tx rf Lc d y.cls b2 n2 r2 0 (xent (vr kd ix :: vs)) [] H Q2) (kk : ∀ v H', Q2 v H' → Gp l cid D ad tx rf Lc (d + 1) own b nL ret (pc + 3) ls (xpu r2 v st) H' Q) : Gp l cid D ad tx rf Lc (d + 1) own b nL ret pc ls st0 H Q := by
  subst hst
  intro p e R s m args below meth c Hc locs lsC A hC ho hP hD hS hl
  obtain ⟨hx, hb, hml, hr, hown, hlk, hts, hR, hK, hZ, hrf, hA, hcl⟩ := id hC
  have hov : xok Lc tx.length (vr kd ix) := ho.2 _ (by simp)
  obtain ⟨q0, hq, hw⟩ := xw_at (cid := cid) (ad := ad) (H := H) (xok_in hov h60)
  rw [xcell_o hsh] at hw
  have hmet := xmet (sz := Hc.size) (y := y) (vs := vr kd ix :: vs) hcl hM.2.2.1 h (fun v hv => by
    rcases List.mem_cons.mp hv with rfl | hv
    · exact hov
    · exact ho.2 _ (by simp [hv])) hsum
  have hrun := va_runV (C := y.cls) (As := vs.map (cv ad)) (rest := st.map (cv ad)) (b := ad kd ix) (g := F0 m pc lsC ((vs.reverse ++ vr kd ix :: st).map (cv ad))) (H := Hc) (locs := locs) (cells := 0) (slots := 0) (p := p) (e := e) (R := R) (below := below) (meth := meth) (index := index) ⟨hx, hb, hml, hown, hts⟩ hmet
    ⟨callB_of n hts (xgood hM.1) rfl rfl rfl (hts _ hM.2.1) (hts _ hlink) hM.2.2.2.1 (by subst hR; have := hM.2.2.2.2; simp only [xrm]; omega), hts _ hinst, hts _ hsel⟩
    ⟨xblind, va_recv hK hP hc hw, xprec hK hP hD hZ hrf hS hA⟩ rfl (by simpa using hlen) hl.1 (by simp [cv]) (by rw [xcats]; exact (by simpa [JFrame.monitorRoom] using hcat)) hd ⟨Nat.zero_le _, Nat.zero_le _⟩
  exact xback hrun hC ⟨ho.1, fun v hv => ho.2 v (by simp [hv])⟩ hD hS hl kk
theorem g_callStr {y : MethodName} {b2 : ByteArray} {n2 n i index : Nat} {r2 : Option FieldType} {vs : List AV} {st0 : List AV} (hd : decode b pc = .ok (.invokevirtual index, 3)) (hM : xM y b2 n2 r2 n) (hlink : Cond.methodLink own index y ∈ xtbl) (hinst : Cond.instanceMethod y ∈ xtbl) (hsel : Cond.selects y.cls y y ∈ xtbl)
    (hc : y.cls = "java/lang/String") (hlen : vs.length = n) (hst : st0 = vs.reverse ++ vr 60 i :: st) (hcat : (st.map xcat).sum ≤ 8) (hsum : ((vr 60 i :: vs).map xcat).sum ≤ n2)
    (h : Gp l cid D ad tx rf Lc d y.cls b2 n2 r2 0 (xent (vr 60 i :: vs)) [] H Q2) (kk : ∀ v H', Q2 v H' → Gp l cid D ad tx rf Lc (d + 1) own b nL ret (pc + 3) ls (xpu r2 v st) H' Q) : Gp l cid D ad tx rf Lc (d + 1) own b nL ret pc ls st0 H Q := by
  subst hst
  intro p e R s m args below meth c Hc locs lsC A hC ho hP hD hS hl
  obtain ⟨hx, hb, hml, hr, hown, hlk, hts, hR, hK, hZ, hrf, hA, hcl⟩ := id hC
  have hov : xok Lc tx.length (vr 60 i) := ho.2 _ (by simp)
  have hi := xok_tx hcl hov (by omega) (by omega)
  have hmet := xmet (sz := Hc.size) (y := y) (vs := vr 60 i :: vs) hcl hM.2.2.1 h (fun v hv => by
    rcases List.mem_cons.mp hv with rfl | hv
    · exact hov
    · exact ho.2 _ (by simp [hv])) hsum
  have hrun := va_runV (C := y.cls) (As := vs.map (cv ad)) (rest := st.map (cv ad)) (b := ad 60 i) (g := F0 m pc lsC ((vs.reverse ++ vr 60 i :: st).map (cv ad))) (H := Hc) (locs := locs) (cells := 0) (slots := 0) (p := p) (e := e) (R := R) (below := below) (meth := meth) (index := index) ⟨hx, hb, hml, hown, hts⟩ hmet
    ⟨callB_of n hts (xgood hM.1) rfl rfl rfl (hts _ hM.2.1) (hts _ hlink) hM.2.2.2.1 (by subst hR; have := hM.2.2.2.2; simp only [xrm]; omega), hts _ hinst, hts _ hsel⟩
    ⟨xblind, by rw [hc]; exact vk_recv hZ.2.2.2.2.2.2.2.1 hi hS, xprec hK hP hD hZ hrf hS hA⟩ rfl (by simpa using hlen) hl.1 (by simp [cv]) (by rw [xcats]; exact (by simpa [JFrame.monitorRoom] using hcat)) hd ⟨Nat.zero_le _, Nat.zero_le _⟩
  exact xback hrun hC ⟨ho.1, fun v hv => ho.2 v (by simp [hv])⟩ hD hS hl kk
theorem g_callS {y : MethodName} {b2 : ByteArray} {n2 n index : Nat} {r2 : Option FieldType} {vs : List AV} {st0 : List AV} (hd : decode b pc = .ok (.invokestatic index, 3)) (hM : xM y b2 n2 r2 n) (hlink : Cond.methodLink own index y ∈ xtbl) (hstat : Cond.static y ∈ xtbl)
    (hlen : vs.length = n) (hst : st0 = vs.reverse ++ st) (hcat : (st.map xcat).sum ≤ 8) (hsum : (vs.map xcat).sum ≤ n2)
    (h : Gp l cid D ad tx rf Lc d y.cls b2 n2 r2 0 (xent vs) [] H Q2) (kk : ∀ v H', Q2 v H' → Gp l cid D ad tx rf Lc (d + 1) own b nL ret (pc + 3) ls (xpu r2 v st) H' Q) : Gp l cid D ad tx rf Lc (d + 1) own b nL ret pc ls st0 H Q := by
  subst hst
  intro p e R s m args below meth c Hc locs lsC A hC ho hP hD hS hl
  obtain ⟨hx, hb, hml, hr, hown, hlk, hts, hR, hK, hZ, hrf, hA, hcl⟩ := id hC
  have hmet := xmet (sz := Hc.size) (y := y) (vs := vs) hcl hM.2.2.1 h (fun v hv => ho.2 _ (by simp [hv])) hsum
  have hrun := va_runS (As := vs.map (cv ad)) (rest := st.map (cv ad)) (g := F0 m pc lsC ((vs.reverse ++ st).map (cv ad))) (H := Hc) (locs := locs) (cells := 0) (slots := 0) (p := p) (e := e) (R := R) (below := below) (meth := meth) (index := index) ⟨hx, hb, hml, hown, hts⟩ hmet
    ⟨callB_of n hts (xgood hM.1) rfl rfl rfl (hts _ hM.2.1) (hts _ hlink) hM.2.2.2.1 (by subst hR; have := hM.2.2.2.2; simp only [xrm]; omega), hts _ hstat⟩
    ⟨xblind, xprec hK hP hD hZ hrf hS hA⟩ rfl (by simpa using hlen) hl.1 (by simp) (by rw [xcats]; exact (by simpa [JFrame.monitorRoom] using hcat)) hd ⟨Nat.zero_le _, Nat.zero_le _⟩
  exact xback hrun hC ⟨ho.1, fun v hv => ho.2 v (by simp [hv])⟩ hD hS hl kk
/-- a static method of a nest mate -/
theorem g_callSN {y : MethodName} {b2 : ByteArray} {n2 n index : Nat} {r2 : Option FieldType} {host : String} {vs : List AV} {st0 : List AV} (hd : decode b pc = .ok (.invokestatic index, 3)) (hM : xM y b2 n2 r2 n) (hlink : (own, index, y, host) ∈ xNST) (hstat : Cond.static y ∈ xtbl)
    (hlen : vs.length = n) (hst : st0 = vs.reverse ++ st) (hcat : (st.map xcat).sum ≤ 8) (hsum : (vs.map xcat).sum ≤ n2)
    (h : Gp l cid D ad tx rf Lc d y.cls b2 n2 r2 0 (xent vs) [] H Q2) (kk : ∀ v H', Q2 v H' → Gp l cid D ad tx rf Lc (d + 1) own b nL ret (pc + 3) ls (xpu r2 v st) H' Q) : Gp l cid D ad tx rf Lc (d + 1) own b nL ret pc ls st0 H Q := by
  subst hst
  intro p e R s m args below meth c Hc locs lsC A hC ho hP hD hS hl
  obtain ⟨hx, hb, hml, hr, hown, hlk, hts, hR, hK, hZ, hrf, hA, hcl⟩ := id hC
  have hmet := xmet (sz := Hc.size) (y := y) (vs := vs) hcl hM.2.2.1 h (fun v hv => ho.2 _ (by simp [hv])) hsum
  have hrun := va_runSN (host := host) (As := vs.map (cv ad)) (rest := st.map (cv ad)) (g := F0 m pc lsC ((vs.reverse ++ st).map (cv ad))) (H := Hc) (locs := locs) (cells := 0) (slots := 0) (p := p) (e := e) (R := R) (below := below) (meth := meth) (index := index) ⟨hx, hb, hml, hown, hts⟩ hmet
    ⟨va_cnB n hts (xgood hM.1) rfl rfl rfl (hrf.2 _ hlink) (hts _ hM.2.1) hM.2.2.2.1 (by subst hR; have := hM.2.2.2.2; simp only [xrm]; omega), hts _ hstat, trivial⟩
    ⟨xblind, xprec hK hP hD hZ hrf hS hA⟩ rfl (by simpa using hlen) hl.1 (by simp) (by rw [xcats]; exact (by simpa [JFrame.monitorRoom] using hcat)) hd ⟨Nat.zero_le _, Nat.zero_le _⟩
  exact xback hrun hC ⟨ho.1, fun v hv => ho.2 v (by simp [hv])⟩ hD hS hl kk
end CRU
end
section
/-! RULES: names, loops, Math.max, Math.min, System.arraycopy; what stands for both sides of the law. -/
abbrev xrem (x y : Int32) : Int32 := x - x / y * y
theorem vp_lit {i : Int32} {n : Nat} (h : (decide (i < 0) || decide (n ≤ i.toNatClampNeg)) = false) : vp_in i n := by
  intro q
  rcases q with q | q
  · simp [q] at h
  · simp [q] at h
section MRU
variable {l : Launch} {cid : Nat → ClassId} {D : va_G} {ad : Nat → Nat → Nat} {tx : List (List Int32)} {rf : List (String × Nat × String)} {Lc : List (Nat × Nat)} {d : Nat} {own : String} {b : ByteArray} {nL : Nat} {ret : Option FieldType} {pc : Nat} {ls : List (Option AV)} {st : List AV} {H : HH} {Q Q2 : AV → HH → Prop}
theorem g_topi {x : Int32} (k : ∀ y, y = x → Gp l cid D ad tx rf Lc d own b nL ret pc ls (vi y :: st) H Q) : Gp l cid D ad tx rf Lc d own b nL ret pc ls (vi x :: st) H Q := k x rfl
theorem g_topl {x : Int64} (k : ∀ y, y = x → Gp l cid D ad tx rf Lc d own b nL ret pc ls (vl y :: st) H Q) : Gp l cid D ad tx rf Lc d own b nL ret pc ls (vl x :: st) H Q := k x rfl
theorem g_heap (k : ∀ H1, H1 = H → Gp l cid D ad tx rf Lc d own b nL ret pc ls st H1 Q) : Gp l cid D ad tx rf Lc d own b nL ret pc ls st H Q := k H rfl
theorem g_mmax {index : Nat} {x y : Int32} (hd : decode b pc = .ok (.invokestatic index, 3)) (hm : Cond.methodLink own index Lib.Math.max.name ∈ xtbl) (h1 : Cond.static Lib.Math.max.name ∈ xtbl) (h2 : Cond.initialized "java/lang/Math" ∈ xtbl) (h3 : Cond.code Lib.Math.max.name Lib.Math.max.code 2 (some .int) ∈ xtbl) (hcat : (st.map xcat).sum ≤ 8)
    (k : Gp l cid D ad tx rf Lc (d + 1) own b nL ret (pc + 3) ls (vi (if x < y then y else x) :: st) H Q) : Gp l cid D ad tx rf Lc (d + 1) own b nL ret pc ls (vi y :: vi x :: st) H Q := by
  intro p e R s m args below meth c Hc locs lsC A hC ho hP hD hS hl
  obtain ⟨hx, hb, hml, hr, hown, hlk, hts, hR, hK, hZ, hrf, hA, hcl⟩ := id hC
  subst hR
  exact va_mmax hx hb (hml.trans hl.1.symm) hown (hts _ hm) (hts _ h1) (hts _ h2) (hts _ h3) (by simp only [xrm]; omega) (by rw [xcats]; simp only [xrm]; omega) (Nat.zero_le _) (Nat.zero_le _) hd (k p e _ s m args below meth c Hc locs lsC A hC (ho.pop.pop.push trivial) hP hD hS hl)
theorem g_mmin {index : Nat} {x y : Int32} (hd : decode b pc = .ok (.invokestatic index, 3)) (hm : Cond.methodLink own index Lib.Math.min.name ∈ xtbl) (h1 : Cond.static Lib.Math.min.name ∈ xtbl) (h2 : Cond.initialized "java/lang/Math" ∈ xtbl) (h3 : Cond.code Lib.Math.min.name Lib.Math.min.code 2 (some .int) ∈ xtbl) (hcat : (st.map xcat).sum ≤ 8)
    (k : Gp l cid D ad tx rf Lc (d + 1) own b nL ret (pc + 3) ls (vi (if y < x then y else x) :: st) H Q) : Gp l cid D ad tx rf Lc (d + 1) own b nL ret pc ls (vi y :: vi x :: st) H Q := by
  intro p e R s m args below meth c Hc locs lsC A hC ho hP hD hS hl
  obtain ⟨hx, hb, hml, hr, hown, hlk, hts, hR, hK, hZ, hrf, hA, hcl⟩ := id hC
  subst hR
  exact va_mmin hx hb (hml.trans hl.1.symm) hown (hts _ hm) (hts _ h1) (hts _ h2) (hts _ h3) (by simp only [xrm]; omega) (by rw [xcats]; simp only [xrm]; omega) (Nat.zero_le _) (Nat.zero_le _) hd (k p e _ s m args below meth c Hc locs lsC A hC (ho.pop.pop.push trivial) hP hD hS hl)
/-- System.arraycopy between rows of ints -/
theorem g_copy {index : Nat} {k0 i0 k1 i1 a0 a1 n0 n1 : Nat} {sp dp n : Int32} (hd : decode b pc = .ok (.invokestatic index, 3)) (hm : Cond.methodLink own index arraycopyName ∈ xtbl) (h1 : Cond.native arraycopyName ∈ xtbl) (h2 : Cond.static arraycopyName ∈ xtbl) (h3 : Cond.initialized "java/lang/System" ∈ xtbl) (hcat : (st.map xcat).sum ≤ 8)
    (hk0 : k0 < 60) (hk1 : k1 < 60) (hs0 : xsh k0 = (1, a0, n0)) (hs1 : xsh k1 = (1, a1, n1)) (q1 : ¬ sp < 0) (q2 : ¬ dp < 0) (q3 : ¬ n < 0) (q4 : sp.toNatClampNeg + n.toNatClampNeg ≤ n0) (q5 : dp.toNatClampNeg + n.toNatClampNeg ≤ n1)
    (k : Gp l cid D ad tx rf Lc (d + 1) own b nL ret (pc + 3) ls st (hrow H k1 i1 (va_cpy (H k0 i0) (H k1 i1) sp.toNatClampNeg dp.toNatClampNeg n.toNatClampNeg)) Q) : Gp l cid D ad tx rf Lc (d + 1) own b nL ret pc ls (vi n :: vi dp :: vr k1 i1 :: vi sp :: vr k0 i0 :: st) H Q := by
  intro p e R s m args below meth c Hc locs lsC A hC ho hP hD hS hl
  obtain ⟨hx, hb, hml, hr, hown, hlk, hts, hR, hK, hZ, hrf, hA, hcl⟩ := id hC
  subst hR
  obtain ⟨p0, hp0, hw0⟩ := xw_at (cid := cid) (ad := ad) (H := H) (xok_in (ho.2 (vr k0 i0) (by simp)) hk0)
  obtain ⟨p1, hp1, hw1⟩ := xw_at (cid := cid) (ad := ad) (H := H) (xok_in (ho.2 (vr k1 i1) (by simp)) hk1)
  rw [xcell_i hs0] at hw0
  rw [xcell_i hs1] at hw1
  have hnf : nativeFrameWords "java/lang/System" "arraycopy" 5 ≤ 30 := by decide +kernel
  refine va_copyi hx hb (hml.trans hl.1.symm) hown (hts _ hm) (hts _ h1) (hts _ h2) (hts _ h3) hK hP hD hS p0 p1 0 0 hw0 hw1 rfl rfl rfl q1 q2 q3 q4 q5 (fun _ _ => rfl) (by simp only [xrm]; omega) (by rw [xcats]; simp only [xrm]; omega) hd (fun H1 locs1 hP1 hD1 hS1 => ?_)
  rw [← xcell_i (cid := cid) (ad := ad) (ix := i1) hs1, xw_set hcl.1 hp1] at hP1
  exact k p e _ s m args below meth c H1 locs1 lsC A hC ⟨ho.1, fun v hv => ho.2 v (by simp [hv])⟩ hP1 (xw_D hD) hS1 hl
end MRU
/-- a loop: an invariant, a measure that falls -/
theorem xloop {σ : Type} (I : σ → HH → Prop) (μ : σ → HH → Nat) (G : σ → HH → Prop) (h : ∀ x H, I x H → (∀ y H1, I y H1 → μ y H1 < μ x H → G y H1) → G x H) : ∀ x H, I x H → G x H := by
  have key : ∀ n x H, μ x H < n → I x H → G x H := by
    intro n
    induction n with
    | zero => intro x H q; exact absurd q (Nat.not_lt_zero _)
    | succ n ih => exact fun x H q hI => h x H hI fun y H1 hy hlt => ih y H1 (by omega) hy
  exact fun x H hI => key _ x H (Nat.lt_succ_self _) hI
theorem xsw {x : Int32} {m : Int} (hm : (Int32.ofInt m).toInt = m) (h : ¬ x = Int32.ofInt m) : ¬ x.toInt = m := fun e => h (Int32.toInt_inj.mp (e.trans hm.symm))
def qi (Q : Int32 → HH → Prop) : AV → HH → Prop := fun v H => ∃ r, v = vi r ∧ Q r H
def ql (Q : Int64 → HH → Prop) : AV → HH → Prop := fun v H => ∃ r, v = vl r ∧ Q r H
def qv (Q : HH → Prop) : AV → HH → Prop := fun _ H => Q H
abbrev XE : Type := Launch × (Nat → ClassId) × va_G × (Nat → Nat → Nat)
/-- the texts that the class holds as constants: whose, which entry, what; their bytes -/
def xRF : List (String × Nat × String) := [("ThreePoints", 58, "clears 1 ; wears 1 + steers ; sure 90 ;"), ("ThreePoints$Tape", 101, "more"), ("ThreePoints$Tape", 105, "wall"), ("ThreePoints$Tape", 107, "heading"), ("ThreePoints$Tape", 109, "place"), ("ThreePoints$Tape", 111, "width"), ("ThreePoints$Tape", 113, "steers"), ("ThreePoints$Tape", 85, "clears"), ("ThreePoints$Tape", 91, "wears"), ("ThreePoints$Tape", 93, "sure"), ("ThreePoints$Tape", 95, "or"), ("ThreePoints$Tape", 97, "and"), ("ThreePoints$Tape", 99, "not"), ("ThreePoints$Tape", 80, "();+-*<=")]
def xTX : List (List Int32) := [[99, 108, 101, 97, 114, 115, 32, 49, 32, 59, 32, 119, 101, 97, 114, 115, 32, 49, 32, 43, 32, 115, 116, 101, 101, 114, 115, 32, 59, 32, 115, 117, 114, 101, 32, 57, 48, 32, 59], [109, 111, 114, 101], [119, 97, 108, 108], [104, 101, 97, 100, 105, 110, 103], [112, 108, 97, 99, 101], [119, 105, 100, 116, 104], [115, 116, 101, 101, 114, 115], [99, 108, 101, 97, 114, 115], [119, 101, 97, 114, 115], [115, 117, 114, 101], [111, 114], [97, 110, 100], [110, 111, 116], [40, 41, 59, 43, 45, 42, 60, 61]]
section MR2
variable {l : Launch} {cid : Nat → ClassId} {D : va_G} {ad : Nat → Nat → Nat} {tx : List (List Int32)} {rf : List (String × Nat × String)} {Lc : List (Nat × Nat)} {d : Nat} {own : String} {b : ByteArray} {nL : Nat} {ret : Option FieldType} {pc : Nat} {ls : List (Option AV)} {st : List AV} {H : HH} {Q Q2 : AV → HH → Prop}
theorem g_topE {x y : Int32} (e : x = y) (k : Gp l cid D ad tx rf Lc d own b nL ret pc ls (vi y :: st) H Q) : Gp l cid D ad tx rf Lc d own b nL ret pc ls (vi x :: st) H Q := e ▸ k
theorem g_heapE {H1 : HH} (e : H = H1) (k : Gp l cid D ad tx rf Lc d own b nL ret pc ls st H1 Q) : Gp l cid D ad tx rf Lc d own b nL ret pc ls st H Q := e ▸ k
end MR2
abbrev xmax (x y : Int32) : Int32 := if x < y then y else x
abbrev xmin (x y : Int32) : Int32 := if y < x then y else x
theorem nbool {x : Int32} (h : x = 0 ∨ x = 1) : narrow .boolean (.int x) = .int x := by rcases h with rfl | rfl <;> rfl
end
section
/-! Arrays.fill over a row of ints -/
abbrev g_fill (E : XE) (d pc : Nat) (ls : List (Option AV)) (st : List AV) (H : HH) (Q : AV → HH → Prop) : Prop := Gp E.1 E.2.1 E.2.2.1 E.2.2.2 xTX xRF xLC d "java/util/Arrays" prog_19_method_103_code 4 none pc ls st H Q
def c_fill (E : XE) (d kd _N ix : Nat) (v : Int32) (H : HH) (Q : HH → Prop) : Prop := g_fill E d 0 (xent [vr kd ix, vi v]) [] H (qv Q)
set_option maxRecDepth 20000 in
theorem xm_fill : xM ⟨"java/util/Arrays", "fill", "([II)V"⟩ prog_19_method_103_code 4 none 2 := ⟨xtbl_at 510 rfl rfl, xtbl_at 81 rfl (by decide +kernel), by decide +kernel, by decide +kernel, by decide⟩
end
section
/-! words of the tables, by their places; printed by wip/gen/emitall.py -/
set_option maxRecDepth 20000 in
theorem kw_0 : Cond.selects "ThreePoints$Tape" ⟨"ThreePoints$Tape", "endOfToken", "(I)I"⟩ ⟨"ThreePoints$Tape", "endOfToken", "(I)I"⟩ ∈ xtbl := xtbl_at 0 (by decide +kernel) (by decide +kernel)
set_option maxRecDepth 20000 in
theorem kw_1 : Cond.selects "ThreePoints$Tape" ⟨"ThreePoints$Tape", "byteAt", "(I)I"⟩ ⟨"ThreePoints$Tape", "byteAt", "(I)I"⟩ ∈ xtbl := xtbl_at 1 (by decide +kernel) (by decide +kernel)
set_option maxRecDepth 20000 in
theorem kw_2 : Cond.selects "ThreePoints$Tape" ⟨"ThreePoints$Tape", "numberAt", "(II)I"⟩ ⟨"ThreePoints$Tape", "numberAt", "(II)I"⟩ ∈ xtbl := xtbl_at 2 (by decide +kernel) (by decide +kernel)
set_option maxRecDepth 20000 in
theorem kw_3 : Cond.selects "ThreePoints$Tape" ⟨"ThreePoints$Tape", "nameAt", "(II)I"⟩ ⟨"ThreePoints$Tape", "nameAt", "(II)I"⟩ ∈ xtbl := xtbl_at 3 (by decide +kernel) (by decide +kernel)
set_option maxRecDepth 20000 in
theorem kw_4 : Cond.selects "ThreePoints$Tape" ⟨"ThreePoints$Tape", "spells", "(IILjava/lang/String;)Z"⟩ ⟨"ThreePoints$Tape", "spells", "(IILjava/lang/String;)Z"⟩ ∈ xtbl := xtbl_at 4 (by decide +kernel) (by decide +kernel)
set_option maxRecDepth 20000 in
theorem kw_5 : Cond.selects "ThreePoints$Tape" ⟨"ThreePoints$Tape", "kindAt", "(II)I"⟩ ⟨"ThreePoints$Tape", "kindAt", "(II)I"⟩ ∈ xtbl := xtbl_at 5 (by decide +kernel) (by decide +kernel)
set_option maxRecDepth 20000 in
theorem kw_6 : Cond.selects "ThreePoints$Tape" ⟨"ThreePoints$Tape", "wordKindAt", "(II)I"⟩ ⟨"ThreePoints$Tape", "wordKindAt", "(II)I"⟩ ∈ xtbl := xtbl_at 6 (by decide +kernel) (by decide +kernel)
set_option maxRecDepth 20000 in
theorem kw_7 : Cond.selects "ThreePoints$Reader" ⟨"ThreePoints$Reader", "goTo", "(I)V"⟩ ⟨"ThreePoints$Reader", "goTo", "(I)V"⟩ ∈ xtbl := xtbl_at 7 (by decide +kernel) (by decide +kernel)
set_option maxRecDepth 20000 in
theorem kw_8 : Cond.selects "ThreePoints$Reader" ⟨"ThreePoints$Reader", "readPart", "(II)Z"⟩ ⟨"ThreePoints$Reader", "readPart", "(II)Z"⟩ ∈ xtbl := xtbl_at 8 (by decide +kernel) (by decide +kernel)
set_option maxRecDepth 20000 in
theorem kw_9 : Cond.selects "ThreePoints$Reader" ⟨"ThreePoints$Reader", "readOr", "()Z"⟩ ⟨"ThreePoints$Reader", "readOr", "()Z"⟩ ∈ xtbl := xtbl_at 9 (by decide +kernel) (by decide +kernel)
set_option maxRecDepth 20000 in
theorem kw_10 : Cond.selects "ThreePoints$Reader" ⟨"ThreePoints$Reader", "readAnd", "()Z"⟩ ⟨"ThreePoints$Reader", "readAnd", "()Z"⟩ ∈ xtbl := xtbl_at 10 (by decide +kernel) (by decide +kernel)
set_option maxRecDepth 20000 in
theorem kw_11 : Cond.selects "ThreePoints$Reader" ⟨"ThreePoints$Reader", "readNot", "()Z"⟩ ⟨"ThreePoints$Reader", "readNot", "()Z"⟩ ∈ xtbl := xtbl_at 11 (by decide +kernel) (by decide +kernel)
set_option maxRecDepth 20000 in
theorem kw_12 : Cond.selects "ThreePoints$Reader" ⟨"ThreePoints$Reader", "readComparison", "()Z"⟩ ⟨"ThreePoints$Reader", "readComparison", "()Z"⟩ ∈ xtbl := xtbl_at 12 (by decide +kernel) (by decide +kernel)
set_option maxRecDepth 20000 in
theorem kw_13 : Cond.selects "ThreePoints$Reader" ⟨"ThreePoints$Reader", "readSum", "()Z"⟩ ⟨"ThreePoints$Reader", "readSum", "()Z"⟩ ∈ xtbl := xtbl_at 13 (by decide +kernel) (by decide +kernel)
set_option maxRecDepth 20000 in
theorem kw_14 : Cond.selects "ThreePoints$Reader" ⟨"ThreePoints$Reader", "readTerm", "()Z"⟩ ⟨"ThreePoints$Reader", "readTerm", "()Z"⟩ ∈ xtbl := xtbl_at 14 (by decide +kernel) (by decide +kernel)
set_option maxRecDepth 20000 in
theorem kw_15 : Cond.selects "ThreePoints$Reader" ⟨"ThreePoints$Reader", "readOne", "()Z"⟩ ⟨"ThreePoints$Reader", "readOne", "()Z"⟩ ∈ xtbl := xtbl_at 15 (by decide +kernel) (by decide +kernel)
set_option maxRecDepth 20000 in
theorem kw_16 : Cond.selects "ThreePoints$Reader" ⟨"ThreePoints$Reader", "mayOpen", "()Z"⟩ ⟨"ThreePoints$Reader", "mayOpen", "()Z"⟩ ∈ xtbl := xtbl_at 16 (by decide +kernel) (by decide +kernel)
set_option maxRecDepth 20000 in
theorem kw_17 : Cond.selects "ThreePoints" ⟨"ThreePoints", "think", "(I)V"⟩ ⟨"ThreePoints", "think", "(I)V"⟩ ∈ xtbl := xtbl_at 17 (by decide +kernel) (by decide +kernel)
set_option maxRecDepth 20000 in
theorem kw_18 : Cond.selects "ThreePoints" ⟨"ThreePoints", "isVehicle", "(I)Z"⟩ ⟨"ThreePoints", "isVehicle", "(I)Z"⟩ ∈ xtbl := xtbl_at 18 (by decide +kernel) (by decide +kernel)
set_option maxRecDepth 20000 in
theorem kw_19 : Cond.selects "ThreePoints" ⟨"ThreePoints", "isPlaceHeading", "(I)Z"⟩ ⟨"ThreePoints", "isPlaceHeading", "(I)Z"⟩ ∈ xtbl := xtbl_at 19 (by decide +kernel) (by decide +kernel)
set_option maxRecDepth 20000 in
theorem kw_20 : Cond.selects "ThreePoints" ⟨"ThreePoints", "isPlace", "(I)Z"⟩ ⟨"ThreePoints", "isPlace", "(I)Z"⟩ ∈ xtbl := xtbl_at 20 (by decide +kernel) (by decide +kernel)
set_option maxRecDepth 20000 in
theorem kw_21 : Cond.selects "ThreePoints" ⟨"ThreePoints", "addVehicle", "(II)I"⟩ ⟨"ThreePoints", "addVehicle", "(II)I"⟩ ∈ xtbl := xtbl_at 21 (by decide +kernel) (by decide +kernel)
set_option maxRecDepth 20000 in
theorem kw_22 : Cond.selects "ThreePoints$Search" ⟨"ThreePoints$Search", "lower", "(II)V"⟩ ⟨"ThreePoints$Search", "lower", "(II)V"⟩ ∈ xtbl := xtbl_at 22 (by decide +kernel) (by decide +kernel)
set_option maxRecDepth 20000 in
theorem kw_23 : Cond.selects "ThreePoints$Search" ⟨"ThreePoints$Search", "unlink", "(I)V"⟩ ⟨"ThreePoints$Search", "unlink", "(I)V"⟩ ∈ xtbl := xtbl_at 23 (by decide +kernel) (by decide +kernel)
set_option maxRecDepth 20000 in
theorem kw_24 : Cond.selects "ThreePoints$Search" ⟨"ThreePoints$Search", "lowerAhead", "(LThreePoints$Ride;II)V"⟩ ⟨"ThreePoints$Search", "lowerAhead", "(LThreePoints$Ride;II)V"⟩ ∈ xtbl := xtbl_at 24 (by decide +kernel) (by decide +kernel)
set_option maxRecDepth 20000 in
theorem kw_25 : Cond.selects "ThreePoints$Search" ⟨"ThreePoints$Search", "addBehind", "(LThreePoints$Ride;III)I"⟩ ⟨"ThreePoints$Search", "addBehind", "(LThreePoints$Ride;III)I"⟩ ∈ xtbl := xtbl_at 25 (by decide +kernel) (by decide +kernel)
set_option maxRecDepth 20000 in
theorem kw_26 : Cond.selects "ThreePoints" ⟨"ThreePoints", "refusalOfMoves", "(II)I"⟩ ⟨"ThreePoints", "refusalOfMoves", "(II)I"⟩ ∈ xtbl := xtbl_at 26 (by decide +kernel) (by decide +kernel)
set_option maxRecDepth 20000 in
theorem kw_27 : Cond.selects "ThreePointsModel" ⟨"ThreePointsModel", "next", "()V"⟩ ⟨"ThreePointsModel", "next", "()V"⟩ ∈ xtbl := xtbl_at 27 (by decide +kernel) (by decide +kernel)
set_option maxRecDepth 20000 in
theorem kw_28 : Cond.selects "ThreePointsModel" ⟨"ThreePointsModel", "wordFrom", "(II)I"⟩ ⟨"ThreePointsModel", "wordFrom", "(II)I"⟩ ∈ xtbl := xtbl_at 28 (by decide +kernel) (by decide +kernel)
set_option maxRecDepth 20000 in
theorem kw_29 : Cond.selects "ThreePointsModel" ⟨"ThreePointsModel", "eRead", "()Z"⟩ ⟨"ThreePointsModel", "eRead", "()Z"⟩ ∈ xtbl := xtbl_at 29 (by decide +kernel) (by decide +kernel)
set_option maxRecDepth 20000 in
theorem kw_30 : Cond.selects "ThreePointsModel" ⟨"ThreePointsModel", "puts", "(I)V"⟩ ⟨"ThreePointsModel", "puts", "(I)V"⟩ ∈ xtbl := xtbl_at 30 (by decide +kernel) (by decide +kernel)
set_option maxRecDepth 20000 in
theorem kw_31 : Cond.selects "ThreePointsModel" ⟨"ThreePointsModel", "unwinds", "(I)V"⟩ ⟨"ThreePointsModel", "unwinds", "(I)V"⟩ ∈ xtbl := xtbl_at 31 (by decide +kernel) (by decide +kernel)
set_option maxRecDepth 20000 in
theorem kw_32 : Cond.selects "ThreePointsModel" ⟨"ThreePointsModel", "opensOne", "(I)Z"⟩ ⟨"ThreePointsModel", "opensOne", "(I)Z"⟩ ∈ xtbl := xtbl_at 32 (by decide +kernel) (by decide +kernel)
set_option maxRecDepth 20000 in
theorem kw_33 : Cond.selects "ThreePointsModel" ⟨"ThreePointsModel", "holds", "(I)V"⟩ ⟨"ThreePointsModel", "holds", "(I)V"⟩ ∈ xtbl := xtbl_at 33 (by decide +kernel) (by decide +kernel)
set_option maxRecDepth 20000 in
theorem kw_34 : Cond.selects "ThreePointsModel" ⟨"ThreePointsModel", "signOf", "()I"⟩ ⟨"ThreePointsModel", "signOf", "()I"⟩ ∈ xtbl := xtbl_at 34 (by decide +kernel) (by decide +kernel)
set_option maxRecDepth 20000 in
theorem kw_35 : Cond.selects "ThreePointsModel" ⟨"ThreePointsModel", "between", "(I)Z"⟩ ⟨"ThreePointsModel", "between", "(I)Z"⟩ ∈ xtbl := xtbl_at 35 (by decide +kernel) (by decide +kernel)
set_option maxRecDepth 20000 in
theorem kw_36 : Cond.selects "ThreePointsModel" ⟨"ThreePointsModel", "doAllFit", "()Z"⟩ ⟨"ThreePointsModel", "doAllFit", "()Z"⟩ ∈ xtbl := xtbl_at 36 (by decide +kernel) (by decide +kernel)
set_option maxRecDepth 20000 in
theorem kw_37 : Cond.selects "ThreePointsModel" ⟨"ThreePointsModel", "isPlace", "(I)Z"⟩ ⟨"ThreePointsModel", "isPlace", "(I)Z"⟩ ∈ xtbl := xtbl_at 37 (by decide +kernel) (by decide +kernel)
set_option maxRecDepth 20000 in
theorem kw_38 : Cond.selects "ThreePointsModel" ⟨"ThreePointsModel", "fitsAt", "(III)Z"⟩ ⟨"ThreePointsModel", "fitsAt", "(III)Z"⟩ ∈ xtbl := xtbl_at 38 (by decide +kernel) (by decide +kernel)
set_option maxRecDepth 20000 in
theorem kw_39 : Cond.selects "ThreePointsModel" ⟨"ThreePointsModel", "frontOf", "(I)I"⟩ ⟨"ThreePointsModel", "frontOf", "(I)I"⟩ ∈ xtbl := xtbl_at 39 (by decide +kernel) (by decide +kernel)
set_option maxRecDepth 20000 in
theorem kw_40 : Cond.selects "ThreePointsModel" ⟨"ThreePointsModel", "backOf", "(I)I"⟩ ⟨"ThreePointsModel", "backOf", "(I)I"⟩ ∈ xtbl := xtbl_at 40 (by decide +kernel) (by decide +kernel)
set_option maxRecDepth 20000 in
theorem kw_41 : Cond.selects "ThreePointsModel" ⟨"ThreePointsModel", "asksOf", "(IIIIII)I"⟩ ⟨"ThreePointsModel", "asksOf", "(IIIIII)I"⟩ ∈ xtbl := xtbl_at 41 (by decide +kernel) (by decide +kernel)
set_option maxRecDepth 20000 in
theorem kw_42 : Cond.selects "ThreePointsModel" ⟨"ThreePointsModel", "says", "(I)I"⟩ ⟨"ThreePointsModel", "says", "(I)I"⟩ ∈ xtbl := xtbl_at 42 (by decide +kernel) (by decide +kernel)
set_option maxRecDepth 20000 in
theorem kw_43 : Cond.selects "ThreePointsModel" ⟨"ThreePointsModel", "isVehicle", "(I)Z"⟩ ⟨"ThreePointsModel", "isVehicle", "(I)Z"⟩ ∈ xtbl := xtbl_at 43 (by decide +kernel) (by decide +kernel)
set_option maxRecDepth 20000 in
theorem kw_44 : Cond.selects "ThreePointsModel" ⟨"ThreePointsModel", "isBoth", "(I)Z"⟩ ⟨"ThreePointsModel", "isBoth", "(I)Z"⟩ ∈ xtbl := xtbl_at 44 (by decide +kernel) (by decide +kernel)
set_option maxRecDepth 20000 in
theorem kw_45 : Cond.selects "ThreePointsModel" ⟨"ThreePointsModel", "canGo", "(III)Z"⟩ ⟨"ThreePointsModel", "canGo", "(III)Z"⟩ ∈ xtbl := xtbl_at 45 (by decide +kernel) (by decide +kernel)
set_option maxRecDepth 20000 in
theorem kw_46 : Cond.selects "ThreePointsModel" ⟨"ThreePointsModel", "placeBy", "(III)I"⟩ ⟨"ThreePointsModel", "placeBy", "(III)I"⟩ ∈ xtbl := xtbl_at 46 (by decide +kernel) (by decide +kernel)
set_option maxRecDepth 20000 in
theorem kw_47 : Cond.selects "ThreePointsModel" ⟨"ThreePointsModel", "headingBy", "(IIII)I"⟩ ⟨"ThreePointsModel", "headingBy", "(IIII)I"⟩ ∈ xtbl := xtbl_at 47 (by decide +kernel) (by decide +kernel)
set_option maxRecDepth 20000 in
theorem kw_48 : Cond.selects "ThreePointsModel" ⟨"ThreePointsModel", "turnsOf", "(III)I"⟩ ⟨"ThreePointsModel", "turnsOf", "(III)I"⟩ ∈ xtbl := xtbl_at 48 (by decide +kernel) (by decide +kernel)
set_option maxRecDepth 20000 in
theorem kw_49 : Cond.selects "ThreePointsModel" ⟨"ThreePointsModel", "goes", "(III)V"⟩ ⟨"ThreePointsModel", "goes", "(III)V"⟩ ∈ xtbl := xtbl_at 49 (by decide +kernel) (by decide +kernel)
set_option maxRecDepth 20000 in
theorem kw_50 : Cond.selects "ThreePointsModel" ⟨"ThreePointsModel", "tellsLane", "(IZ)V"⟩ ⟨"ThreePointsModel", "tellsLane", "(IZ)V"⟩ ∈ xtbl := xtbl_at 50 (by decide +kernel) (by decide +kernel)
set_option maxRecDepth 20000 in
theorem kw_51 : Cond.selects "ThreePointsModel" ⟨"ThreePointsModel", "firstStep", "(II)I"⟩ ⟨"ThreePointsModel", "firstStep", "(II)I"⟩ ∈ xtbl := xtbl_at 51 (by decide +kernel) (by decide +kernel)
set_option maxRecDepth 20000 in
theorem kw_52 : Cond.selects "ThreePointsModel" ⟨"ThreePointsModel", "stateOf", "(I)I"⟩ ⟨"ThreePointsModel", "stateOf", "(I)I"⟩ ∈ xtbl := xtbl_at 52 (by decide +kernel) (by decide +kernel)
set_option maxRecDepth 20000 in
theorem kw_53 : Cond.selects "ThreePointsModel" ⟨"ThreePointsModel", "stateBehind", "(IIII)I"⟩ ⟨"ThreePointsModel", "stateBehind", "(IIII)I"⟩ ∈ xtbl := xtbl_at 53 (by decide +kernel) (by decide +kernel)
set_option maxRecDepth 20000 in
theorem kw_54 : Cond.selects "ThreePointsModel" ⟨"ThreePointsModel", "seeks", "(III)V"⟩ ⟨"ThreePointsModel", "seeks", "(III)V"⟩ ∈ xtbl := xtbl_at 54 (by decide +kernel) (by decide +kernel)
set_option maxRecDepth 20000 in
theorem kw_55 : Cond.selects "ThreePointsModel" ⟨"ThreePointsModel", "costsStep", "(IIII)I"⟩ ⟨"ThreePointsModel", "costsStep", "(IIII)I"⟩ ∈ xtbl := xtbl_at 55 (by decide +kernel) (by decide +kernel)
set_option maxRecDepth 20000 in
theorem kw_56 : Cond.selects "ThreePointsModel" ⟨"ThreePointsModel", "otherOf", "(I)I"⟩ ⟨"ThreePointsModel", "otherOf", "(I)I"⟩ ∈ xtbl := xtbl_at 56 (by decide +kernel) (by decide +kernel)
set_option maxRecDepth 20000 in
theorem kw_57 : Cond.selects "ThreePointsModel" ⟨"ThreePointsModel", "leastTo", "(I)I"⟩ ⟨"ThreePointsModel", "leastTo", "(I)I"⟩ ∈ xtbl := xtbl_at 57 (by decide +kernel) (by decide +kernel)
set_option maxRecDepth 20000 in
theorem kw_58 : Cond.selects "ThreePointsModel" ⟨"ThreePointsModel", "fromBegin", "(III)I"⟩ ⟨"ThreePointsModel", "fromBegin", "(III)I"⟩ ∈ xtbl := xtbl_at 58 (by decide +kernel) (by decide +kernel)
set_option maxRecDepth 20000 in
theorem kw_59 : Cond.selects "ThreePointsModel" ⟨"ThreePointsModel", "sheetWrong", "(II)I"⟩ ⟨"ThreePointsModel", "sheetWrong", "(II)I"⟩ ∈ xtbl := xtbl_at 59 (by decide +kernel) (by decide +kernel)
set_option maxRecDepth 20000 in
theorem kw_60 : Cond.selects "ThreePointsModel" ⟨"ThreePointsModel", "firstWrong", "(II)I"⟩ ⟨"ThreePointsModel", "firstWrong", "(II)I"⟩ ∈ xtbl := xtbl_at 60 (by decide +kernel) (by decide +kernel)
set_option maxRecDepth 20000 in
theorem kw_61 : Cond.selects "ThreePointsModel" ⟨"ThreePointsModel", "keeps", "(I)V"⟩ ⟨"ThreePointsModel", "keeps", "(I)V"⟩ ∈ xtbl := xtbl_at 61 (by decide +kernel) (by decide +kernel)
set_option maxRecDepth 20000 in
theorem kw_62 : Cond.selects "ThreePointsModel" ⟨"ThreePointsModel", "laysBack", "(I)V"⟩ ⟨"ThreePointsModel", "laysBack", "(I)V"⟩ ∈ xtbl := xtbl_at 62 (by decide +kernel) (by decide +kernel)
set_option maxRecDepth 20000 in
theorem kw_63 : Cond.selects "ThreePointsModel" ⟨"ThreePointsModel", "driveBy", "(III)V"⟩ ⟨"ThreePointsModel", "driveBy", "(III)V"⟩ ∈ xtbl := xtbl_at 63 (by decide +kernel) (by decide +kernel)
set_option maxRecDepth 20000 in
theorem kw_65 : Cond.initialized "ThreePoints" ∈ xtbl := xtbl_at 65 (by decide +kernel) (by decide +kernel)
set_option maxRecDepth 20000 in
theorem kw_66 : Cond.initialized "ThreePoints$Yard" ∈ xtbl := xtbl_at 66 (by decide +kernel) (by decide +kernel)
set_option maxRecDepth 20000 in
theorem kw_67 : Cond.initialized "ThreePoints$Lane" ∈ xtbl := xtbl_at 67 (by decide +kernel) (by decide +kernel)
set_option maxRecDepth 20000 in
theorem kw_68 : Cond.initialized "ThreePoints$Vehicle" ∈ xtbl := xtbl_at 68 (by decide +kernel) (by decide +kernel)
set_option maxRecDepth 20000 in
theorem kw_69 : Cond.initialized "ThreePoints$Reader" ∈ xtbl := xtbl_at 69 (by decide +kernel) (by decide +kernel)
set_option maxRecDepth 20000 in
theorem kw_70 : Cond.initialized "ThreePoints$Tape" ∈ xtbl := xtbl_at 70 (by decide +kernel) (by decide +kernel)
set_option maxRecDepth 20000 in
theorem kw_71 : Cond.initialized "ThreePoints$Text" ∈ xtbl := xtbl_at 71 (by decide +kernel) (by decide +kernel)
set_option maxRecDepth 20000 in
theorem kw_72 : Cond.initialized "ThreePoints$Ride" ∈ xtbl := xtbl_at 72 (by decide +kernel) (by decide +kernel)
set_option maxRecDepth 20000 in
theorem kw_73 : Cond.initialized "ThreePoints$Search" ∈ xtbl := xtbl_at 73 (by decide +kernel) (by decide +kernel)
set_option maxRecDepth 20000 in
theorem kw_74 : Cond.initialized "ThreePoints$Sheet" ∈ xtbl := xtbl_at 74 (by decide +kernel) (by decide +kernel)
set_option maxRecDepth 20000 in
theorem kw_75 : Cond.initialized "java/lang/String" ∈ xtbl := xtbl_at 75 (by decide +kernel) (by decide +kernel)
set_option maxRecDepth 20000 in
theorem kw_76 : Cond.initialized "java/lang/StringLatin1" ∈ xtbl := xtbl_at 76 (by decide +kernel) (by decide +kernel)
set_option maxRecDepth 20000 in
theorem kw_77 : Cond.initialized "jdk/internal/util/Preconditions" ∈ xtbl := xtbl_at 77 (by decide +kernel) (by decide +kernel)
set_option maxRecDepth 20000 in
theorem kw_79 : Cond.initialized "java/lang/Math" ∈ xtbl := xtbl_at 79 (by decide +kernel) (by decide +kernel)
set_option maxRecDepth 20000 in
theorem kw_81 : Cond.initialized "java/util/Arrays" ∈ xtbl := xtbl_at 81 (by decide +kernel) (by decide +kernel)
set_option maxRecDepth 20000 in
theorem kw_82 : Cond.initialized "java/lang/System" ∈ xtbl := xtbl_at 82 (by decide +kernel) (by decide +kernel)
set_option maxRecDepth 20000 in
theorem kw_83 : Cond.initialized "ThreePointsModel" ∈ xtbl := xtbl_at 83 (by decide +kernel) (by decide +kernel)
set_option maxRecDepth 20000 in
theorem kw_104 : Cond.fieldLink "ThreePoints$Lane" 7 "ThreePoints$Lane" "width" "I" ∈ xtbl := xtbl_at 104 (by decide +kernel) (by decide +kernel)
set_option maxRecDepth 20000 in
theorem kw_105 : Cond.fieldLink "ThreePoints$Ride" 39 "ThreePoints$Lane" "width" "I" ∈ xtbl := xtbl_at 105 (by decide +kernel) (by decide +kernel)
set_option maxRecDepth 20000 in
theorem kw_106 : Cond.fieldLink "ThreePoints" 92 "ThreePoints$Lane" "width" "I" ∈ xtbl := xtbl_at 106 (by decide +kernel) (by decide +kernel)
set_option maxRecDepth 20000 in
theorem kw_107 : Cond.fieldLink "ThreePoints$Search" 57 "ThreePoints$Lane" "width" "I" ∈ xtbl := xtbl_at 107 (by decide +kernel) (by decide +kernel)
set_option maxRecDepth 20000 in
theorem kw_108 : Cond.fieldLink "ThreePoints$Lane" 13 "ThreePoints$Lane" "opening" "I" ∈ xtbl := xtbl_at 108 (by decide +kernel) (by decide +kernel)
set_option maxRecDepth 20000 in
theorem kw_109 : Cond.fieldLink "ThreePoints" 97 "ThreePoints$Lane" "opening" "I" ∈ xtbl := xtbl_at 109 (by decide +kernel) (by decide +kernel)
set_option maxRecDepth 20000 in
theorem kw_110 : Cond.fieldLink "ThreePoints$Ride" 73 "ThreePoints$Lane" "opening" "I" ∈ xtbl := xtbl_at 110 (by decide +kernel) (by decide +kernel)
set_option maxRecDepth 20000 in
theorem kw_111 : Cond.fieldLink "ThreePoints$Lane" 16 "ThreePoints$Lane" "law" "I" ∈ xtbl := xtbl_at 111 (by decide +kernel) (by decide +kernel)
set_option maxRecDepth 20000 in
theorem kw_112 : Cond.fieldLink "ThreePoints" 100 "ThreePoints$Lane" "law" "I" ∈ xtbl := xtbl_at 112 (by decide +kernel) (by decide +kernel)
set_option maxRecDepth 20000 in
theorem kw_127 : Cond.fieldLink "ThreePoints$Vehicle" 15 "ThreePoints$Vehicle" "kind" "I" ∈ xtbl := xtbl_at 127 (by decide +kernel) (by decide +kernel)
set_option maxRecDepth 20000 in
theorem kw_128 : Cond.fieldLink "ThreePoints" 147 "ThreePoints$Vehicle" "kind" "I" ∈ xtbl := xtbl_at 128 (by decide +kernel) (by decide +kernel)
set_option maxRecDepth 20000 in
theorem kw_129 : Cond.fieldLink "ThreePoints$Vehicle" 18 "ThreePoints$Vehicle" "more" "I" ∈ xtbl := xtbl_at 129 (by decide +kernel) (by decide +kernel)
set_option maxRecDepth 20000 in
theorem kw_130 : Cond.fieldLink "ThreePoints$Ride" 35 "ThreePoints$Vehicle" "more" "I" ∈ xtbl := xtbl_at 130 (by decide +kernel) (by decide +kernel)
set_option maxRecDepth 20000 in
theorem kw_131 : Cond.fieldLink "ThreePoints" 152 "ThreePoints$Vehicle" "more" "I" ∈ xtbl := xtbl_at 131 (by decide +kernel) (by decide +kernel)
set_option maxRecDepth 20000 in
theorem kw_132 : Cond.fieldLink "ThreePoints$Vehicle" 21 "ThreePoints$Vehicle" "place" "I" ∈ xtbl := xtbl_at 132 (by decide +kernel) (by decide +kernel)
set_option maxRecDepth 20000 in
theorem kw_133 : Cond.fieldLink "ThreePoints$Ride" 76 "ThreePoints$Vehicle" "place" "I" ∈ xtbl := xtbl_at 133 (by decide +kernel) (by decide +kernel)
set_option maxRecDepth 20000 in
theorem kw_134 : Cond.fieldLink "ThreePoints$Search" 104 "ThreePoints$Vehicle" "place" "I" ∈ xtbl := xtbl_at 134 (by decide +kernel) (by decide +kernel)
set_option maxRecDepth 20000 in
theorem kw_135 : Cond.fieldLink "ThreePoints" 155 "ThreePoints$Vehicle" "place" "I" ∈ xtbl := xtbl_at 135 (by decide +kernel) (by decide +kernel)
set_option maxRecDepth 20000 in
theorem kw_136 : Cond.fieldLink "ThreePoints$Vehicle" 24 "ThreePoints$Vehicle" "heading" "I" ∈ xtbl := xtbl_at 136 (by decide +kernel) (by decide +kernel)
set_option maxRecDepth 20000 in
theorem kw_137 : Cond.fieldLink "ThreePoints$Ride" 79 "ThreePoints$Vehicle" "heading" "I" ∈ xtbl := xtbl_at 137 (by decide +kernel) (by decide +kernel)
set_option maxRecDepth 20000 in
theorem kw_138 : Cond.fieldLink "ThreePoints$Search" 107 "ThreePoints$Vehicle" "heading" "I" ∈ xtbl := xtbl_at 138 (by decide +kernel) (by decide +kernel)
set_option maxRecDepth 20000 in
theorem kw_139 : Cond.fieldLink "ThreePoints" 158 "ThreePoints$Vehicle" "heading" "I" ∈ xtbl := xtbl_at 139 (by decide +kernel) (by decide +kernel)
set_option maxRecDepth 20000 in
theorem kw_140 : Cond.fieldLink "ThreePoints$Vehicle" 27 "ThreePoints$Vehicle" "points" "I" ∈ xtbl := xtbl_at 140 (by decide +kernel) (by decide +kernel)
set_option maxRecDepth 20000 in
theorem kw_141 : Cond.fieldLink "ThreePoints" 161 "ThreePoints$Vehicle" "points" "I" ∈ xtbl := xtbl_at 141 (by decide +kernel) (by decide +kernel)
set_option maxRecDepth 20000 in
theorem kw_142 : Cond.fieldLink "ThreePoints$Vehicle" 30 "ThreePoints$Vehicle" "wear" "I" ∈ xtbl := xtbl_at 142 (by decide +kernel) (by decide +kernel)
set_option maxRecDepth 20000 in
theorem kw_143 : Cond.fieldLink "ThreePoints" 164 "ThreePoints$Vehicle" "wear" "I" ∈ xtbl := xtbl_at 143 (by decide +kernel) (by decide +kernel)
set_option maxRecDepth 20000 in
theorem kw_144 : Cond.fieldLink "ThreePoints$Vehicle" 9 "ThreePoints$Vehicle" "last" "I" ∈ xtbl := xtbl_at 144 (by decide +kernel) (by decide +kernel)
set_option maxRecDepth 20000 in
theorem kw_145 : Cond.fieldLink "ThreePoints$Search" 110 "ThreePoints$Vehicle" "last" "I" ∈ xtbl := xtbl_at 145 (by decide +kernel) (by decide +kernel)
set_option maxRecDepth 20000 in
theorem kw_146 : Cond.fieldLink "ThreePoints" 167 "ThreePoints$Vehicle" "last" "I" ∈ xtbl := xtbl_at 146 (by decide +kernel) (by decide +kernel)
set_option maxRecDepth 20000 in
theorem kw_162 : Cond.fieldLink "ThreePoints$Yard" 12 "ThreePoints$Yard" "lane" "LThreePoints$Lane;" ∈ xtbl := xtbl_at 162 (by decide +kernel) (by decide +kernel)
set_option maxRecDepth 20000 in
theorem kw_163 : Cond.fieldLink "ThreePoints" 88 "ThreePoints$Yard" "lane" "LThreePoints$Lane;" ∈ xtbl := xtbl_at 163 (by decide +kernel) (by decide +kernel)
set_option maxRecDepth 20000 in
theorem kw_164 : Cond.fieldLink "ThreePoints$Yard" 20 "ThreePoints$Yard" "vehicles" "[LThreePoints$Vehicle;" ∈ xtbl := xtbl_at 164 (by decide +kernel) (by decide +kernel)
set_option maxRecDepth 20000 in
theorem kw_165 : Cond.fieldLink "ThreePoints" 143 "ThreePoints$Yard" "vehicles" "[LThreePoints$Vehicle;" ∈ xtbl := xtbl_at 165 (by decide +kernel) (by decide +kernel)
set_option maxRecDepth 20000 in
theorem kw_166 : Cond.fieldLink "ThreePoints$Yard" 32 "ThreePoints$Yard" "count" "I" ∈ xtbl := xtbl_at 166 (by decide +kernel) (by decide +kernel)
set_option maxRecDepth 20000 in
theorem kw_167 : Cond.fieldLink "ThreePoints" 85 "ThreePoints$Yard" "count" "I" ∈ xtbl := xtbl_at 167 (by decide +kernel) (by decide +kernel)
set_option maxRecDepth 20000 in
theorem kw_187 : Cond.fieldLink "ThreePoints$Tape" 11 "ThreePoints$Tape" "bytes" "[I" ∈ xtbl := xtbl_at 187 (by decide +kernel) (by decide +kernel)
set_option maxRecDepth 20000 in
theorem kw_188 : Cond.fieldLink "ThreePoints$Tape" 24 "ThreePoints$Tape" "size" "I" ∈ xtbl := xtbl_at 188 (by decide +kernel) (by decide +kernel)
set_option maxRecDepth 20000 in
theorem kw_189 : Cond.fieldLink "ThreePoints" 103 "ThreePoints$Tape" "size" "I" ∈ xtbl := xtbl_at 189 (by decide +kernel) (by decide +kernel)
set_option maxRecDepth 20000 in
theorem kw_190 : Cond.fieldLink "ThreePoints$Tape" 15 "ThreePoints$Tape" "kinds" "[I" ∈ xtbl := xtbl_at 190 (by decide +kernel) (by decide +kernel)
set_option maxRecDepth 20000 in
theorem kw_191 : Cond.fieldLink "ThreePoints$Tape" 18 "ThreePoints$Tape" "starts" "[I" ∈ xtbl := xtbl_at 191 (by decide +kernel) (by decide +kernel)
set_option maxRecDepth 20000 in
theorem kw_192 : Cond.fieldLink "ThreePoints$Tape" 21 "ThreePoints$Tape" "values" "[I" ∈ xtbl := xtbl_at 192 (by decide +kernel) (by decide +kernel)
set_option maxRecDepth 20000 in
theorem kw_193 : Cond.fieldLink "ThreePoints$Tape" 42 "ThreePoints$Tape" "tokens" "I" ∈ xtbl := xtbl_at 193 (by decide +kernel) (by decide +kernel)
set_option maxRecDepth 20000 in
theorem kw_214 : Cond.fieldLink "ThreePoints$Text" 9 "ThreePoints$Text" "code" "[I" ∈ xtbl := xtbl_at 214 (by decide +kernel) (by decide +kernel)
set_option maxRecDepth 20000 in
theorem kw_215 : Cond.fieldLink "ThreePoints$Text" 21 "ThreePoints$Text" "size" "I" ∈ xtbl := xtbl_at 215 (by decide +kernel) (by decide +kernel)
set_option maxRecDepth 20000 in
theorem kw_216 : Cond.fieldLink "ThreePoints$Text" 15 "ThreePoints$Text" "partEnds" "[I" ∈ xtbl := xtbl_at 216 (by decide +kernel) (by decide +kernel)
set_option maxRecDepth 20000 in
theorem kw_217 : Cond.fieldLink "ThreePoints$Text" 18 "ThreePoints$Text" "stack" "[I" ∈ xtbl := xtbl_at 217 (by decide +kernel) (by decide +kernel)
set_option maxRecDepth 20000 in
theorem kw_227 : Cond.fieldLink "ThreePoints$Reader" 12 "ThreePoints$Reader" "tape" "LThreePoints$Tape;" ∈ xtbl := xtbl_at 227 (by decide +kernel) (by decide +kernel)
set_option maxRecDepth 20000 in
theorem kw_228 : Cond.fieldLink "ThreePoints" 54 "ThreePoints$Reader" "tape" "LThreePoints$Tape;" ∈ xtbl := xtbl_at 228 (by decide +kernel) (by decide +kernel)
set_option maxRecDepth 20000 in
theorem kw_229 : Cond.fieldLink "ThreePoints$Reader" 21 "ThreePoints$Reader" "draft" "LThreePoints$Text;" ∈ xtbl := xtbl_at 229 (by decide +kernel) (by decide +kernel)
set_option maxRecDepth 20000 in
theorem kw_230 : Cond.fieldLink "ThreePoints" 70 "ThreePoints$Reader" "draft" "LThreePoints$Text;" ∈ xtbl := xtbl_at 230 (by decide +kernel) (by decide +kernel)
set_option maxRecDepth 20000 in
theorem kw_231 : Cond.fieldLink "ThreePoints$Reader" 46 "ThreePoints$Reader" "now" "I" ∈ xtbl := xtbl_at 231 (by decide +kernel) (by decide +kernel)
set_option maxRecDepth 20000 in
theorem kw_232 : Cond.fieldLink "ThreePoints$Reader" 43 "ThreePoints$Reader" "token" "I" ∈ xtbl := xtbl_at 232 (by decide +kernel) (by decide +kernel)
set_option maxRecDepth 20000 in
theorem kw_233 : Cond.fieldLink "ThreePoints$Reader" 31 "ThreePoints$Reader" "open" "I" ∈ xtbl := xtbl_at 233 (by decide +kernel) (by decide +kernel)
set_option maxRecDepth 20000 in
theorem kw_254 : Cond.methodLink "ThreePoints$Ride" 3 ⟨"java/lang/Object", "<init>", "()V"⟩ ∈ xtbl := xtbl_at 254 (by decide +kernel) (by decide +kernel)
set_option maxRecDepth 20000 in
theorem kw_259 : Cond.fieldLink "ThreePoints$Ride" 12 "ThreePoints$Ride" "lane" "LThreePoints$Lane;" ∈ xtbl := xtbl_at 259 (by decide +kernel) (by decide +kernel)
set_option maxRecDepth 20000 in
theorem kw_260 : Cond.fieldLink "ThreePoints$Search" 51 "ThreePoints$Ride" "lane" "LThreePoints$Lane;" ∈ xtbl := xtbl_at 260 (by decide +kernel) (by decide +kernel)
set_option maxRecDepth 20000 in
theorem kw_261 : Cond.fieldLink "ThreePoints" 114 "ThreePoints$Ride" "lane" "LThreePoints$Lane;" ∈ xtbl := xtbl_at 261 (by decide +kernel) (by decide +kernel)
set_option maxRecDepth 20000 in
theorem kw_262 : Cond.fieldLink "ThreePoints$Ride" 21 "ThreePoints$Ride" "vehicle" "LThreePoints$Vehicle;" ∈ xtbl := xtbl_at 262 (by decide +kernel) (by decide +kernel)
set_option maxRecDepth 20000 in
theorem kw_263 : Cond.fieldLink "ThreePoints$Search" 83 "ThreePoints$Ride" "vehicle" "LThreePoints$Vehicle;" ∈ xtbl := xtbl_at 263 (by decide +kernel) (by decide +kernel)
set_option maxRecDepth 20000 in
theorem kw_264 : Cond.fieldLink "ThreePoints" 183 "ThreePoints$Ride" "vehicle" "LThreePoints$Vehicle;" ∈ xtbl := xtbl_at 264 (by decide +kernel) (by decide +kernel)
set_option maxRecDepth 20000 in
theorem kw_265 : Cond.fieldLink "ThreePoints$Ride" 31 "ThreePoints$Ride" "law" "LThreePoints$Text;" ∈ xtbl := xtbl_at 265 (by decide +kernel) (by decide +kernel)
set_option maxRecDepth 20000 in
theorem kw_266 : Cond.fieldLink "ThreePoints" 225 "ThreePoints$Ride" "law" "LThreePoints$Text;" ∈ xtbl := xtbl_at 266 (by decide +kernel) (by decide +kernel)
set_option maxRecDepth 20000 in
theorem kw_267 : Cond.fieldLink "ThreePoints$Ride" 27 "ThreePoints$Ride" "names" "[I" ∈ xtbl := xtbl_at 267 (by decide +kernel) (by decide +kernel)
set_option maxRecDepth 20000 in
theorem kw_283 : Cond.fieldLink "ThreePoints$Search" 37 "ThreePoints$Search" "goal" "I" ∈ xtbl := xtbl_at 283 (by decide +kernel) (by decide +kernel)
set_option maxRecDepth 20000 in
theorem kw_284 : Cond.fieldLink "ThreePoints$Search" 11 "ThreePoints$Search" "fitting" "[Z" ∈ xtbl := xtbl_at 284 (by decide +kernel) (by decide +kernel)
set_option maxRecDepth 20000 in
theorem kw_285 : Cond.fieldLink "ThreePoints$Search" 15 "ThreePoints$Search" "costs" "[I" ∈ xtbl := xtbl_at 285 (by decide +kernel) (by decide +kernel)
set_option maxRecDepth 20000 in
theorem kw_286 : Cond.fieldLink "ThreePoints$Search" 19 "ThreePoints$Search" "heads" "[I" ∈ xtbl := xtbl_at 286 (by decide +kernel) (by decide +kernel)
set_option maxRecDepth 20000 in
theorem kw_287 : Cond.fieldLink "ThreePoints$Search" 22 "ThreePoints$Search" "nexts" "[I" ∈ xtbl := xtbl_at 287 (by decide +kernel) (by decide +kernel)
set_option maxRecDepth 20000 in
theorem kw_288 : Cond.fieldLink "ThreePoints$Search" 25 "ThreePoints$Search" "previous" "[I" ∈ xtbl := xtbl_at 288 (by decide +kernel) (by decide +kernel)
set_option maxRecDepth 20000 in
theorem kw_289 : Cond.fieldLink "ThreePoints$Search" 41 "ThreePoints$Search" "waiting" "I" ∈ xtbl := xtbl_at 289 (by decide +kernel) (by decide +kernel)
set_option maxRecDepth 20000 in
theorem kw_290 : Cond.fieldLink "ThreePoints$Search" 98 "ThreePoints$Search" "firstStep" "I" ∈ xtbl := xtbl_at 290 (by decide +kernel) (by decide +kernel)
set_option maxRecDepth 20000 in
theorem kw_291 : Cond.fieldLink "ThreePoints" 208 "ThreePoints$Search" "firstStep" "I" ∈ xtbl := xtbl_at 291 (by decide +kernel) (by decide +kernel)
set_option maxRecDepth 20000 in
theorem kw_316 : Cond.fieldLink "ThreePoints$Sheet" 11 "ThreePoints$Sheet" "numbers" "[I" ∈ xtbl := xtbl_at 316 (by decide +kernel) (by decide +kernel)
set_option maxRecDepth 20000 in
theorem kw_317 : Cond.fieldLink "ThreePoints" 265 "ThreePoints$Sheet" "numbers" "[I" ∈ xtbl := xtbl_at 317 (by decide +kernel) (by decide +kernel)
set_option maxRecDepth 20000 in
theorem kw_318 : Cond.fieldLink "ThreePoints$Sheet" 15 "ThreePoints$Sheet" "sort" "I" ∈ xtbl := xtbl_at 318 (by decide +kernel) (by decide +kernel)
set_option maxRecDepth 20000 in
theorem kw_319 : Cond.fieldLink "ThreePoints" 259 "ThreePoints$Sheet" "sort" "I" ∈ xtbl := xtbl_at 319 (by decide +kernel) (by decide +kernel)
set_option maxRecDepth 20000 in
theorem kw_320 : Cond.fieldLink "ThreePoints$Sheet" 28 "ThreePoints$Sheet" "size" "I" ∈ xtbl := xtbl_at 320 (by decide +kernel) (by decide +kernel)
set_option maxRecDepth 20000 in
theorem kw_321 : Cond.fieldLink "ThreePoints$Ride" 103 "ThreePoints$Sheet" "size" "I" ∈ xtbl := xtbl_at 321 (by decide +kernel) (by decide +kernel)
set_option maxRecDepth 20000 in
theorem kw_333 : Cond.code ⟨"ThreePoints$Tape", "write", "(Ljava/lang/String;)V"⟩ prog_7_method_4_code 3 none ∈ xtbl := xtbl_at 333 rfl rfl
set_option maxRecDepth 20000 in
theorem kw_334 : Cond.methodLink "ThreePoints$Tape" 28 ⟨"java/lang/String", "length", "()I"⟩ ∈ xtbl := xtbl_at 334 (by decide +kernel) (by decide +kernel)
set_option maxRecDepth 20000 in
theorem kw_335 : Cond.instanceMethod ⟨"java/lang/String", "length", "()I"⟩ ∈ xtbl := xtbl_at 335 (by decide +kernel) (by decide +kernel)
set_option maxRecDepth 20000 in
theorem kw_336 : Cond.selects "java/lang/String" ⟨"java/lang/String", "length", "()I"⟩ ⟨"java/lang/String", "length", "()I"⟩ ∈ xtbl := xtbl_at 336 (by decide +kernel) (by decide +kernel)
set_option maxRecDepth 20000 in
theorem kw_337 : Cond.code ⟨"java/lang/String", "length", "()I"⟩ prog_15_method_54_code 1 (some .int) ∈ xtbl := xtbl_at 337 rfl rfl
set_option maxRecDepth 20000 in
theorem kw_338 : Cond.methodLink "java/lang/String" 335 ⟨"java/lang/String", "coder", "()B"⟩ ∈ xtbl := xtbl_at 338 (by decide +kernel) (by decide +kernel)
set_option maxRecDepth 20000 in
theorem kw_339 : Cond.instanceMethod ⟨"java/lang/String", "coder", "()B"⟩ ∈ xtbl := xtbl_at 339 (by decide +kernel) (by decide +kernel)
set_option maxRecDepth 20000 in
theorem kw_340 : Cond.selects "java/lang/String" ⟨"java/lang/String", "coder", "()B"⟩ ⟨"java/lang/String", "coder", "()B"⟩ ∈ xtbl := xtbl_at 340 (by decide +kernel) (by decide +kernel)
set_option maxRecDepth 20000 in
theorem kw_341 : Cond.code ⟨"java/lang/String", "coder", "()B"⟩ prog_15_method_152_code 1 (some .byte) ∈ xtbl := xtbl_at 341 rfl rfl
set_option maxRecDepth 20000 in
theorem kw_342 : Cond.fieldLink "java/lang/String" 38 "java/lang/String" "COMPACT_STRINGS" "Z" ∈ xtbl := xtbl_at 342 (by decide +kernel) (by decide +kernel)
set_option maxRecDepth 20000 in
theorem kw_344 : Cond.methodLink "ThreePoints$Tape" 34 ⟨"java/lang/String", "charAt", "(I)C"⟩ ∈ xtbl := xtbl_at 344 (by decide +kernel) (by decide +kernel)
set_option maxRecDepth 20000 in
theorem kw_345 : Cond.instanceMethod ⟨"java/lang/String", "charAt", "(I)C"⟩ ∈ xtbl := xtbl_at 345 (by decide +kernel) (by decide +kernel)
set_option maxRecDepth 20000 in
theorem kw_346 : Cond.selects "java/lang/String" ⟨"java/lang/String", "charAt", "(I)C"⟩ ⟨"java/lang/String", "charAt", "(I)C"⟩ ∈ xtbl := xtbl_at 346 (by decide +kernel) (by decide +kernel)
set_option maxRecDepth 20000 in
theorem kw_347 : Cond.code ⟨"java/lang/String", "charAt", "(I)C"⟩ prog_15_method_56_code 2 (some .char) ∈ xtbl := xtbl_at 347 rfl rfl
set_option maxRecDepth 20000 in
theorem kw_348 : Cond.methodLink "java/lang/String" 492 ⟨"java/lang/String", "isLatin1", "()Z"⟩ ∈ xtbl := xtbl_at 348 (by decide +kernel) (by decide +kernel)
set_option maxRecDepth 20000 in
theorem kw_349 : Cond.instanceMethod ⟨"java/lang/String", "isLatin1", "()Z"⟩ ∈ xtbl := xtbl_at 349 (by decide +kernel) (by decide +kernel)
set_option maxRecDepth 20000 in
theorem kw_350 : Cond.selects "java/lang/String" ⟨"java/lang/String", "isLatin1", "()Z"⟩ ⟨"java/lang/String", "isLatin1", "()Z"⟩ ∈ xtbl := xtbl_at 350 (by decide +kernel) (by decide +kernel)
set_option maxRecDepth 20000 in
theorem kw_351 : Cond.code ⟨"java/lang/String", "isLatin1", "()Z"⟩ prog_15_method_154_code 1 (some .boolean) ∈ xtbl := xtbl_at 351 rfl rfl
set_option maxRecDepth 20000 in
theorem kw_352 : Cond.methodLink "java/lang/String" 495 ⟨"java/lang/StringLatin1", "charAt", "([BI)C"⟩ ∈ xtbl := xtbl_at 352 (by decide +kernel) (by decide +kernel)
set_option maxRecDepth 20000 in
theorem kw_353 : Cond.static ⟨"java/lang/StringLatin1", "charAt", "([BI)C"⟩ ∈ xtbl := xtbl_at 353 (by decide +kernel) (by decide +kernel)
set_option maxRecDepth 20000 in
theorem kw_354 : Cond.code ⟨"java/lang/StringLatin1", "charAt", "([BI)C"⟩ prog_16_method_2_code 2 (some .char) ∈ xtbl := xtbl_at 354 rfl rfl
set_option maxRecDepth 20000 in
theorem kw_355 : Cond.methodLink "java/lang/StringLatin1" 9 ⟨"java/lang/String", "checkIndex", "(II)V"⟩ ∈ xtbl := xtbl_at 355 (by decide +kernel) (by decide +kernel)
set_option maxRecDepth 20000 in
theorem kw_356 : Cond.static ⟨"java/lang/String", "checkIndex", "(II)V"⟩ ∈ xtbl := xtbl_at 356 (by decide +kernel) (by decide +kernel)
set_option maxRecDepth 20000 in
theorem kw_357 : Cond.code ⟨"java/lang/String", "checkIndex", "(II)V"⟩ prog_15_method_155_code 2 none ∈ xtbl := xtbl_at 357 rfl rfl
set_option maxRecDepth 20000 in
theorem kw_358 : Cond.fieldLink "java/lang/String" 1053 "jdk/internal/util/Preconditions" "SIOOBE_FORMATTER" "Ljava/util/function/BiFunction;" ∈ xtbl := xtbl_at 358 (by decide +kernel) (by decide +kernel)
set_option maxRecDepth 20000 in
theorem kw_360 : Cond.methodLink "java/lang/String" 1059 ⟨"jdk/internal/util/Preconditions", "checkIndex", "(IILjava/util/function/BiFunction;)I"⟩ ∈ xtbl := xtbl_at 360 (by decide +kernel) (by decide +kernel)
set_option maxRecDepth 20000 in
theorem kw_361 : Cond.static ⟨"jdk/internal/util/Preconditions", "checkIndex", "(IILjava/util/function/BiFunction;)I"⟩ ∈ xtbl := xtbl_at 361 (by decide +kernel) (by decide +kernel)
set_option maxRecDepth 20000 in
theorem kw_362 : Cond.code ⟨"jdk/internal/util/Preconditions", "checkIndex", "(IILjava/util/function/BiFunction;)I"⟩ prog_20_method_11_code 3 (some .int) ∈ xtbl := xtbl_at 362 rfl rfl
set_option maxRecDepth 20000 in
theorem kw_382 : Cond.methodLink "ThreePoints$Tape" 38 ⟨"ThreePoints$Tape", "add", "(I)V"⟩ ∈ xtbl := xtbl_at 382 (by decide +kernel) (by decide +kernel)
set_option maxRecDepth 20000 in
theorem kw_383 : Cond.instanceMethod ⟨"ThreePoints$Tape", "add", "(I)V"⟩ ∈ xtbl := xtbl_at 383 (by decide +kernel) (by decide +kernel)
set_option maxRecDepth 20000 in
theorem kw_384 : Cond.selects "ThreePoints$Tape" ⟨"ThreePoints$Tape", "add", "(I)V"⟩ ⟨"ThreePoints$Tape", "add", "(I)V"⟩ ∈ xtbl := xtbl_at 384 (by decide +kernel) (by decide +kernel)
set_option maxRecDepth 20000 in
theorem kw_385 : Cond.code ⟨"ThreePoints$Tape", "add", "(I)V"⟩ prog_7_method_3_code 2 none ∈ xtbl := xtbl_at 385 rfl rfl
set_option maxRecDepth 20000 in
theorem kw_386 : Cond.methodLink "ThreePoints" 66 ⟨"ThreePoints$Reader", "faultOfTape", "()I"⟩ ∈ xtbl := xtbl_at 386 (by decide +kernel) (by decide +kernel)
set_option maxRecDepth 20000 in
theorem kw_387 : Cond.instanceMethod ⟨"ThreePoints$Reader", "faultOfTape", "()I"⟩ ∈ xtbl := xtbl_at 387 (by decide +kernel) (by decide +kernel)
set_option maxRecDepth 20000 in
theorem kw_388 : Cond.selects "ThreePoints$Reader" ⟨"ThreePoints$Reader", "faultOfTape", "()I"⟩ ⟨"ThreePoints$Reader", "faultOfTape", "()I"⟩ ∈ xtbl := xtbl_at 388 (by decide +kernel) (by decide +kernel)
set_option maxRecDepth 20000 in
theorem kw_389 : Cond.code ⟨"ThreePoints$Reader", "faultOfTape", "()I"⟩ prog_3_method_2_code 2 (some .int) ∈ xtbl := xtbl_at 389 rfl rfl
set_option maxRecDepth 20000 in
theorem kw_390 : Cond.methodLink "ThreePoints$Reader" 25 ⟨"ThreePoints$Tape", "split", "()V"⟩ ∈ xtbl := xtbl_at 390 (by decide +kernel) (by decide +kernel)
set_option maxRecDepth 20000 in
theorem kw_391 : Cond.instanceMethod ⟨"ThreePoints$Tape", "split", "()V"⟩ ∈ xtbl := xtbl_at 391 (by decide +kernel) (by decide +kernel)
set_option maxRecDepth 20000 in
theorem kw_392 : Cond.selects "ThreePoints$Tape" ⟨"ThreePoints$Tape", "split", "()V"⟩ ⟨"ThreePoints$Tape", "split", "()V"⟩ ∈ xtbl := xtbl_at 392 (by decide +kernel) (by decide +kernel)
set_option maxRecDepth 20000 in
theorem kw_393 : Cond.code ⟨"ThreePoints$Tape", "split", "()V"⟩ prog_7_method_8_code 3 none ∈ xtbl := xtbl_at 393 rfl rfl
set_option maxRecDepth 20000 in
theorem kw_394 : Cond.methodLink "ThreePoints$Tape" 45 ⟨"ThreePoints$Tape", "endOfToken", "(I)I"⟩ ∈ xtbl := xtbl_at 394 (by decide +kernel) (by decide +kernel)
set_option maxRecDepth 20000 in
theorem kw_396 : Cond.instanceMethod ⟨"ThreePoints$Tape", "endOfToken", "(I)I"⟩ ∈ xtbl := xtbl_at 396 (by decide +kernel) (by decide +kernel)
set_option maxRecDepth 20000 in
theorem kw_397 : Cond.code ⟨"ThreePoints$Tape", "endOfToken", "(I)I"⟩ prog_7_method_13_code 3 (some .int) ∈ xtbl := xtbl_at 397 rfl rfl
set_option maxRecDepth 20000 in
theorem kw_398 : Cond.methodLink "ThreePoints$Tape" 49 ⟨"ThreePoints$Tape", "byteAt", "(I)I"⟩ ∈ xtbl := xtbl_at 398 (by decide +kernel) (by decide +kernel)
set_option maxRecDepth 20000 in
theorem kw_400 : Cond.instanceMethod ⟨"ThreePoints$Tape", "byteAt", "(I)I"⟩ ∈ xtbl := xtbl_at 400 (by decide +kernel) (by decide +kernel)
set_option maxRecDepth 20000 in
theorem kw_401 : Cond.code ⟨"ThreePoints$Tape", "byteAt", "(I)I"⟩ prog_7_method_9_code 2 (some .int) ∈ xtbl := xtbl_at 401 rfl rfl
set_option maxRecDepth 20000 in
theorem kw_402 : Cond.methodLink "ThreePoints$Tape" 74 ⟨"ThreePoints$Tape", "isLetter", "(I)Z"⟩ ∈ xtbl := xtbl_at 402 (by decide +kernel) (by decide +kernel)
set_option maxRecDepth 20000 in
theorem kw_403 : Cond.static ⟨"ThreePoints$Tape", "isLetter", "(I)Z"⟩ ∈ xtbl := xtbl_at 403 (by decide +kernel) (by decide +kernel)
set_option maxRecDepth 20000 in
theorem kw_404 : Cond.code ⟨"ThreePoints$Tape", "isLetter", "(I)Z"⟩ prog_7_method_11_code 1 (some .boolean) ∈ xtbl := xtbl_at 404 rfl rfl
set_option maxRecDepth 20000 in
theorem kw_405 : Cond.methodLink "ThreePoints$Tape" 56 ⟨"ThreePoints$Tape", "isDigit", "(I)Z"⟩ ∈ xtbl := xtbl_at 405 (by decide +kernel) (by decide +kernel)
set_option maxRecDepth 20000 in
theorem kw_406 : Cond.static ⟨"ThreePoints$Tape", "isDigit", "(I)Z"⟩ ∈ xtbl := xtbl_at 406 (by decide +kernel) (by decide +kernel)
set_option maxRecDepth 20000 in
theorem kw_407 : Cond.code ⟨"ThreePoints$Tape", "isDigit", "(I)Z"⟩ prog_7_method_12_code 1 (some .boolean) ∈ xtbl := xtbl_at 407 rfl rfl
set_option maxRecDepth 20000 in
theorem kw_408 : Cond.methodLink "ThreePoints$Tape" 52 ⟨"ThreePoints$Tape", "isBlank", "(I)Z"⟩ ∈ xtbl := xtbl_at 408 (by decide +kernel) (by decide +kernel)
set_option maxRecDepth 20000 in
theorem kw_409 : Cond.static ⟨"ThreePoints$Tape", "isBlank", "(I)Z"⟩ ∈ xtbl := xtbl_at 409 (by decide +kernel) (by decide +kernel)
set_option maxRecDepth 20000 in
theorem kw_410 : Cond.code ⟨"ThreePoints$Tape", "isBlank", "(I)Z"⟩ prog_7_method_10_code 1 (some .boolean) ∈ xtbl := xtbl_at 410 rfl rfl
set_option maxRecDepth 20000 in
theorem kw_411 : Cond.methodLink "ThreePoints$Tape" 59 ⟨"ThreePoints$Tape", "numberAt", "(II)I"⟩ ∈ xtbl := xtbl_at 411 (by decide +kernel) (by decide +kernel)
set_option maxRecDepth 20000 in
theorem kw_413 : Cond.instanceMethod ⟨"ThreePoints$Tape", "numberAt", "(II)I"⟩ ∈ xtbl := xtbl_at 413 (by decide +kernel) (by decide +kernel)
set_option maxRecDepth 20000 in
theorem kw_414 : Cond.code ⟨"ThreePoints$Tape", "numberAt", "(II)I"⟩ prog_7_method_15_code 5 (some .int) ∈ xtbl := xtbl_at 414 rfl rfl
set_option maxRecDepth 20000 in
theorem kw_415 : Cond.methodLink "ThreePoints$Tape" 63 ⟨"ThreePoints$Tape", "nameAt", "(II)I"⟩ ∈ xtbl := xtbl_at 415 (by decide +kernel) (by decide +kernel)
set_option maxRecDepth 20000 in
theorem kw_417 : Cond.instanceMethod ⟨"ThreePoints$Tape", "nameAt", "(II)I"⟩ ∈ xtbl := xtbl_at 417 (by decide +kernel) (by decide +kernel)
set_option maxRecDepth 20000 in
theorem kw_418 : Cond.code ⟨"ThreePoints$Tape", "nameAt", "(II)I"⟩ prog_7_method_17_code 3 (some .int) ∈ xtbl := xtbl_at 418 rfl rfl
set_option maxRecDepth 20000 in
theorem kw_420 : Cond.methodLink "ThreePoints$Tape" 87 ⟨"ThreePoints$Tape", "spells", "(IILjava/lang/String;)Z"⟩ ∈ xtbl := xtbl_at 420 (by decide +kernel) (by decide +kernel)
set_option maxRecDepth 20000 in
theorem kw_422 : Cond.instanceMethod ⟨"ThreePoints$Tape", "spells", "(IILjava/lang/String;)Z"⟩ ∈ xtbl := xtbl_at 422 (by decide +kernel) (by decide +kernel)
set_option maxRecDepth 20000 in
theorem kw_423 : Cond.code ⟨"ThreePoints$Tape", "spells", "(IILjava/lang/String;)Z"⟩ prog_7_method_18_code 5 (some .boolean) ∈ xtbl := xtbl_at 423 rfl rfl
set_option maxRecDepth 20000 in
theorem kw_429 : Cond.methodLink "ThreePoints$Tape" 66 ⟨"ThreePoints$Tape", "kindAt", "(II)I"⟩ ∈ xtbl := xtbl_at 429 (by decide +kernel) (by decide +kernel)
set_option maxRecDepth 20000 in
theorem kw_431 : Cond.instanceMethod ⟨"ThreePoints$Tape", "kindAt", "(II)I"⟩ ∈ xtbl := xtbl_at 431 (by decide +kernel) (by decide +kernel)
set_option maxRecDepth 20000 in
theorem kw_432 : Cond.code ⟨"ThreePoints$Tape", "kindAt", "(II)I"⟩ prog_7_method_14_code 4 (some .int) ∈ xtbl := xtbl_at 432 rfl rfl
set_option maxRecDepth 20000 in
theorem kw_433 : Cond.methodLink "ThreePoints$Tape" 77 ⟨"ThreePoints$Tape", "wordKindAt", "(II)I"⟩ ∈ xtbl := xtbl_at 433 (by decide +kernel) (by decide +kernel)
set_option maxRecDepth 20000 in
theorem kw_435 : Cond.instanceMethod ⟨"ThreePoints$Tape", "wordKindAt", "(II)I"⟩ ∈ xtbl := xtbl_at 435 (by decide +kernel) (by decide +kernel)
set_option maxRecDepth 20000 in
theorem kw_436 : Cond.code ⟨"ThreePoints$Tape", "wordKindAt", "(II)I"⟩ prog_7_method_16_code 3 (some .int) ∈ xtbl := xtbl_at 436 rfl rfl
set_option maxRecDepth 20000 in
theorem kw_444 : Cond.methodLink "ThreePoints$Tape" 82 ⟨"java/lang/String", "indexOf", "(I)I"⟩ ∈ xtbl := xtbl_at 444 (by decide +kernel) (by decide +kernel)
set_option maxRecDepth 20000 in
theorem kw_445 : Cond.instanceMethod ⟨"java/lang/String", "indexOf", "(I)I"⟩ ∈ xtbl := xtbl_at 445 (by decide +kernel) (by decide +kernel)
set_option maxRecDepth 20000 in
theorem kw_446 : Cond.selects "java/lang/String" ⟨"java/lang/String", "indexOf", "(I)I"⟩ ⟨"java/lang/String", "indexOf", "(I)I"⟩ ∈ xtbl := xtbl_at 446 (by decide +kernel) (by decide +kernel)
set_option maxRecDepth 20000 in
theorem kw_447 : Cond.code ⟨"java/lang/String", "indexOf", "(I)I"⟩ prog_15_method_79_code 2 (some .int) ∈ xtbl := xtbl_at 447 rfl rfl
set_option maxRecDepth 20000 in
theorem kw_448 : Cond.methodLink "java/lang/String" 633 ⟨"java/lang/String", "indexOf", "(II)I"⟩ ∈ xtbl := xtbl_at 448 (by decide +kernel) (by decide +kernel)
set_option maxRecDepth 20000 in
theorem kw_449 : Cond.instanceMethod ⟨"java/lang/String", "indexOf", "(II)I"⟩ ∈ xtbl := xtbl_at 449 (by decide +kernel) (by decide +kernel)
set_option maxRecDepth 20000 in
theorem kw_450 : Cond.selects "java/lang/String" ⟨"java/lang/String", "indexOf", "(II)I"⟩ ⟨"java/lang/String", "indexOf", "(II)I"⟩ ∈ xtbl := xtbl_at 450 (by decide +kernel) (by decide +kernel)
set_option maxRecDepth 20000 in
theorem kw_451 : Cond.code ⟨"java/lang/String", "indexOf", "(II)I"⟩ prog_15_method_80_code 3 (some .int) ∈ xtbl := xtbl_at 451 rfl rfl
set_option maxRecDepth 20000 in
theorem kw_452 : Cond.methodLink "java/lang/String" 505 ⟨"java/lang/String", "length", "()I"⟩ ∈ xtbl := xtbl_at 452 (by decide +kernel) (by decide +kernel)
set_option maxRecDepth 20000 in
theorem kw_453 : Cond.methodLink "java/lang/String" 637 ⟨"java/lang/StringLatin1", "indexOf", "([BIII)I"⟩ ∈ xtbl := xtbl_at 453 (by decide +kernel) (by decide +kernel)
set_option maxRecDepth 20000 in
theorem kw_454 : Cond.static ⟨"java/lang/StringLatin1", "indexOf", "([BIII)I"⟩ ∈ xtbl := xtbl_at 454 (by decide +kernel) (by decide +kernel)
set_option maxRecDepth 20000 in
theorem kw_455 : Cond.code ⟨"java/lang/StringLatin1", "indexOf", "([BIII)I"⟩ prog_16_method_22_code 4 (some .int) ∈ xtbl := xtbl_at 455 rfl rfl
set_option maxRecDepth 20000 in
theorem kw_456 : Cond.methodLink "java/lang/StringLatin1" 88 ⟨"java/lang/StringLatin1", "canEncode", "(I)Z"⟩ ∈ xtbl := xtbl_at 456 (by decide +kernel) (by decide +kernel)
set_option maxRecDepth 20000 in
theorem kw_457 : Cond.static ⟨"java/lang/StringLatin1", "canEncode", "(I)Z"⟩ ∈ xtbl := xtbl_at 457 (by decide +kernel) (by decide +kernel)
set_option maxRecDepth 20000 in
theorem kw_458 : Cond.code ⟨"java/lang/StringLatin1", "canEncode", "(I)Z"⟩ prog_16_method_4_code 1 (some .boolean) ∈ xtbl := xtbl_at 458 rfl rfl
set_option maxRecDepth 20000 in
theorem kw_459 : Cond.methodLink "java/lang/StringLatin1" 92 ⟨"java/lang/Math", "max", "(II)I"⟩ ∈ xtbl := xtbl_at 459 (by decide +kernel) (by decide +kernel)
set_option maxRecDepth 20000 in
theorem kw_460 : Cond.static ⟨"java/lang/Math", "max", "(II)I"⟩ ∈ xtbl := xtbl_at 460 (by decide +kernel) (by decide +kernel)
set_option maxRecDepth 20000 in
theorem kw_461 : Cond.code ⟨"java/lang/Math", "max", "(II)I"⟩ prog_14_method_65_code 2 (some .int) ∈ xtbl := xtbl_at 461 rfl rfl
set_option maxRecDepth 20000 in
theorem kw_462 : Cond.methodLink "java/lang/StringLatin1" 38 ⟨"java/lang/Math", "min", "(II)I"⟩ ∈ xtbl := xtbl_at 462 (by decide +kernel) (by decide +kernel)
set_option maxRecDepth 20000 in
theorem kw_463 : Cond.static ⟨"java/lang/Math", "min", "(II)I"⟩ ∈ xtbl := xtbl_at 463 (by decide +kernel) (by decide +kernel)
set_option maxRecDepth 20000 in
theorem kw_464 : Cond.code ⟨"java/lang/Math", "min", "(II)I"⟩ prog_14_method_69_code 2 (some .int) ∈ xtbl := xtbl_at 464 rfl rfl
set_option maxRecDepth 20000 in
theorem kw_465 : Cond.methodLink "java/lang/StringLatin1" 95 ⟨"java/lang/StringLatin1", "indexOfChar", "([BIII)I"⟩ ∈ xtbl := xtbl_at 465 (by decide +kernel) (by decide +kernel)
set_option maxRecDepth 20000 in
theorem kw_466 : Cond.static ⟨"java/lang/StringLatin1", "indexOfChar", "([BIII)I"⟩ ∈ xtbl := xtbl_at 466 (by decide +kernel) (by decide +kernel)
set_option maxRecDepth 20000 in
theorem kw_467 : Cond.code ⟨"java/lang/StringLatin1", "indexOfChar", "([BIII)I"⟩ prog_16_method_23_code 6 (some .int) ∈ xtbl := xtbl_at 467 rfl rfl
set_option maxRecDepth 20000 in
theorem kw_503 : Cond.methodLink "ThreePoints$Tape" 69 ⟨"java/lang/Math", "max", "(II)I"⟩ ∈ xtbl := xtbl_at 503 (by decide +kernel) (by decide +kernel)
set_option maxRecDepth 20000 in
theorem kw_504 : Cond.methodLink "ThreePoints$Reader" 28 ⟨"ThreePoints$Text", "clear", "()V"⟩ ∈ xtbl := xtbl_at 504 (by decide +kernel) (by decide +kernel)
set_option maxRecDepth 20000 in
theorem kw_505 : Cond.instanceMethod ⟨"ThreePoints$Text", "clear", "()V"⟩ ∈ xtbl := xtbl_at 505 (by decide +kernel) (by decide +kernel)
set_option maxRecDepth 20000 in
theorem kw_506 : Cond.selects "ThreePoints$Text" ⟨"ThreePoints$Text", "clear", "()V"⟩ ⟨"ThreePoints$Text", "clear", "()V"⟩ ∈ xtbl := xtbl_at 506 (by decide +kernel) (by decide +kernel)
set_option maxRecDepth 20000 in
theorem kw_507 : Cond.code ⟨"ThreePoints$Text", "clear", "()V"⟩ prog_8_method_2_code 1 none ∈ xtbl := xtbl_at 507 rfl rfl
set_option maxRecDepth 20000 in
theorem kw_508 : Cond.methodLink "ThreePoints$Text" 25 ⟨"java/util/Arrays", "fill", "([II)V"⟩ ∈ xtbl := xtbl_at 508 (by decide +kernel) (by decide +kernel)
set_option maxRecDepth 20000 in
theorem kw_509 : Cond.static ⟨"java/util/Arrays", "fill", "([II)V"⟩ ∈ xtbl := xtbl_at 509 (by decide +kernel) (by decide +kernel)
set_option maxRecDepth 20000 in
theorem kw_510 : Cond.code ⟨"java/util/Arrays", "fill", "([II)V"⟩ prog_19_method_103_code 4 none ∈ xtbl := xtbl_at 510 rfl rfl
set_option maxRecDepth 20000 in
theorem kw_511 : Cond.methodLink "ThreePoints$Reader" 35 ⟨"ThreePoints$Reader", "goTo", "(I)V"⟩ ∈ xtbl := xtbl_at 511 (by decide +kernel) (by decide +kernel)
set_option maxRecDepth 20000 in
theorem kw_513 : Cond.instanceMethod ⟨"ThreePoints$Reader", "goTo", "(I)V"⟩ ∈ xtbl := xtbl_at 513 (by decide +kernel) (by decide +kernel)
set_option maxRecDepth 20000 in
theorem kw_514 : Cond.code ⟨"ThreePoints$Reader", "goTo", "(I)V"⟩ prog_3_method_3_code 2 none ∈ xtbl := xtbl_at 514 rfl rfl
set_option maxRecDepth 20000 in
theorem kw_515 : Cond.methodLink "ThreePoints$Reader" 53 ⟨"ThreePoints$Tape", "kindOf", "(I)I"⟩ ∈ xtbl := xtbl_at 515 (by decide +kernel) (by decide +kernel)
set_option maxRecDepth 20000 in
theorem kw_516 : Cond.instanceMethod ⟨"ThreePoints$Tape", "kindOf", "(I)I"⟩ ∈ xtbl := xtbl_at 516 (by decide +kernel) (by decide +kernel)
set_option maxRecDepth 20000 in
theorem kw_517 : Cond.selects "ThreePoints$Tape" ⟨"ThreePoints$Tape", "kindOf", "(I)I"⟩ ⟨"ThreePoints$Tape", "kindOf", "(I)I"⟩ ∈ xtbl := xtbl_at 517 (by decide +kernel) (by decide +kernel)
set_option maxRecDepth 20000 in
theorem kw_518 : Cond.code ⟨"ThreePoints$Tape", "kindOf", "(I)I"⟩ prog_7_method_5_code 2 (some .int) ∈ xtbl := xtbl_at 518 rfl rfl
set_option maxRecDepth 20000 in
theorem kw_519 : Cond.methodLink "ThreePoints$Reader" 39 ⟨"ThreePoints$Reader", "readPart", "(II)Z"⟩ ∈ xtbl := xtbl_at 519 (by decide +kernel) (by decide +kernel)
set_option maxRecDepth 20000 in
theorem kw_521 : Cond.instanceMethod ⟨"ThreePoints$Reader", "readPart", "(II)Z"⟩ ∈ xtbl := xtbl_at 521 (by decide +kernel) (by decide +kernel)
set_option maxRecDepth 20000 in
theorem kw_522 : Cond.code ⟨"ThreePoints$Reader", "readPart", "(II)Z"⟩ prog_3_method_4_code 3 (some .boolean) ∈ xtbl := xtbl_at 522 rfl rfl
set_option maxRecDepth 20000 in
theorem kw_523 : Cond.methodLink "ThreePoints$Reader" 56 ⟨"ThreePoints$Reader", "readOr", "()Z"⟩ ∈ xtbl := xtbl_at 523 (by decide +kernel) (by decide +kernel)
set_option maxRecDepth 20000 in
theorem kw_525 : Cond.instanceMethod ⟨"ThreePoints$Reader", "readOr", "()Z"⟩ ∈ xtbl := xtbl_at 525 (by decide +kernel) (by decide +kernel)
set_option maxRecDepth 20000 in
theorem kw_526 : Cond.code ⟨"ThreePoints$Reader", "readOr", "()Z"⟩ prog_3_method_5_code 2 (some .boolean) ∈ xtbl := xtbl_at 526 rfl rfl
set_option maxRecDepth 20000 in
theorem kw_527 : Cond.methodLink "ThreePoints$Reader" 63 ⟨"ThreePoints$Reader", "readAnd", "()Z"⟩ ∈ xtbl := xtbl_at 527 (by decide +kernel) (by decide +kernel)
set_option maxRecDepth 20000 in
theorem kw_529 : Cond.instanceMethod ⟨"ThreePoints$Reader", "readAnd", "()Z"⟩ ∈ xtbl := xtbl_at 529 (by decide +kernel) (by decide +kernel)
set_option maxRecDepth 20000 in
theorem kw_530 : Cond.code ⟨"ThreePoints$Reader", "readAnd", "()Z"⟩ prog_3_method_6_code 2 (some .boolean) ∈ xtbl := xtbl_at 530 rfl rfl
set_option maxRecDepth 20000 in
theorem kw_531 : Cond.methodLink "ThreePoints$Reader" 69 ⟨"ThreePoints$Reader", "readNot", "()Z"⟩ ∈ xtbl := xtbl_at 531 (by decide +kernel) (by decide +kernel)
set_option maxRecDepth 20000 in
theorem kw_533 : Cond.instanceMethod ⟨"ThreePoints$Reader", "readNot", "()Z"⟩ ∈ xtbl := xtbl_at 533 (by decide +kernel) (by decide +kernel)
set_option maxRecDepth 20000 in
theorem kw_534 : Cond.code ⟨"ThreePoints$Reader", "readNot", "()Z"⟩ prog_3_method_7_code 1 (some .boolean) ∈ xtbl := xtbl_at 534 rfl rfl
set_option maxRecDepth 20000 in
theorem kw_535 : Cond.methodLink "ThreePoints$Reader" 72 ⟨"ThreePoints$Reader", "readComparison", "()Z"⟩ ∈ xtbl := xtbl_at 535 (by decide +kernel) (by decide +kernel)
set_option maxRecDepth 20000 in
theorem kw_537 : Cond.instanceMethod ⟨"ThreePoints$Reader", "readComparison", "()Z"⟩ ∈ xtbl := xtbl_at 537 (by decide +kernel) (by decide +kernel)
set_option maxRecDepth 20000 in
theorem kw_538 : Cond.code ⟨"ThreePoints$Reader", "readComparison", "()Z"⟩ prog_3_method_8_code 2 (some .boolean) ∈ xtbl := xtbl_at 538 rfl rfl
set_option maxRecDepth 20000 in
theorem kw_539 : Cond.methodLink "ThreePoints$Reader" 78 ⟨"ThreePoints$Reader", "readSum", "()Z"⟩ ∈ xtbl := xtbl_at 539 (by decide +kernel) (by decide +kernel)
set_option maxRecDepth 20000 in
theorem kw_541 : Cond.instanceMethod ⟨"ThreePoints$Reader", "readSum", "()Z"⟩ ∈ xtbl := xtbl_at 541 (by decide +kernel) (by decide +kernel)
set_option maxRecDepth 20000 in
theorem kw_542 : Cond.code ⟨"ThreePoints$Reader", "readSum", "()Z"⟩ prog_3_method_9_code 3 (some .boolean) ∈ xtbl := xtbl_at 542 rfl rfl
set_option maxRecDepth 20000 in
theorem kw_543 : Cond.methodLink "ThreePoints$Reader" 81 ⟨"ThreePoints$Reader", "readTerm", "()Z"⟩ ∈ xtbl := xtbl_at 543 (by decide +kernel) (by decide +kernel)
set_option maxRecDepth 20000 in
theorem kw_545 : Cond.instanceMethod ⟨"ThreePoints$Reader", "readTerm", "()Z"⟩ ∈ xtbl := xtbl_at 545 (by decide +kernel) (by decide +kernel)
set_option maxRecDepth 20000 in
theorem kw_546 : Cond.code ⟨"ThreePoints$Reader", "readTerm", "()Z"⟩ prog_3_method_10_code 2 (some .boolean) ∈ xtbl := xtbl_at 546 rfl rfl
set_option maxRecDepth 20000 in
theorem kw_547 : Cond.methodLink "ThreePoints$Reader" 84 ⟨"ThreePoints$Reader", "readOne", "()Z"⟩ ∈ xtbl := xtbl_at 547 (by decide +kernel) (by decide +kernel)
set_option maxRecDepth 20000 in
theorem kw_549 : Cond.instanceMethod ⟨"ThreePoints$Reader", "readOne", "()Z"⟩ ∈ xtbl := xtbl_at 549 (by decide +kernel) (by decide +kernel)
set_option maxRecDepth 20000 in
theorem kw_550 : Cond.code ⟨"ThreePoints$Reader", "readOne", "()Z"⟩ prog_3_method_11_code 1 (some .boolean) ∈ xtbl := xtbl_at 550 rfl rfl
set_option maxRecDepth 20000 in
theorem kw_551 : Cond.methodLink "ThreePoints$Reader" 87 ⟨"ThreePoints$Tape", "valueOf", "(I)I"⟩ ∈ xtbl := xtbl_at 551 (by decide +kernel) (by decide +kernel)
set_option maxRecDepth 20000 in
theorem kw_552 : Cond.instanceMethod ⟨"ThreePoints$Tape", "valueOf", "(I)I"⟩ ∈ xtbl := xtbl_at 552 (by decide +kernel) (by decide +kernel)
set_option maxRecDepth 20000 in
theorem kw_553 : Cond.selects "ThreePoints$Tape" ⟨"ThreePoints$Tape", "valueOf", "(I)I"⟩ ⟨"ThreePoints$Tape", "valueOf", "(I)I"⟩ ∈ xtbl := xtbl_at 553 (by decide +kernel) (by decide +kernel)
set_option maxRecDepth 20000 in
theorem kw_554 : Cond.code ⟨"ThreePoints$Tape", "valueOf", "(I)I"⟩ prog_7_method_6_code 2 (some .int) ∈ xtbl := xtbl_at 554 rfl rfl
set_option maxRecDepth 20000 in
theorem kw_555 : Cond.methodLink "ThreePoints$Reader" 66 ⟨"ThreePoints$Text", "put", "(I)V"⟩ ∈ xtbl := xtbl_at 555 (by decide +kernel) (by decide +kernel)
set_option maxRecDepth 20000 in
theorem kw_556 : Cond.instanceMethod ⟨"ThreePoints$Text", "put", "(I)V"⟩ ∈ xtbl := xtbl_at 556 (by decide +kernel) (by decide +kernel)
set_option maxRecDepth 20000 in
theorem kw_557 : Cond.selects "ThreePoints$Text" ⟨"ThreePoints$Text", "put", "(I)V"⟩ ⟨"ThreePoints$Text", "put", "(I)V"⟩ ∈ xtbl := xtbl_at 557 (by decide +kernel) (by decide +kernel)
set_option maxRecDepth 20000 in
theorem kw_558 : Cond.code ⟨"ThreePoints$Text", "put", "(I)V"⟩ prog_8_method_4_code 2 none ∈ xtbl := xtbl_at 558 rfl rfl
set_option maxRecDepth 20000 in
theorem kw_559 : Cond.methodLink "ThreePoints$Reader" 75 ⟨"ThreePoints$Reader", "mayOpen", "()Z"⟩ ∈ xtbl := xtbl_at 559 (by decide +kernel) (by decide +kernel)
set_option maxRecDepth 20000 in
theorem kw_561 : Cond.instanceMethod ⟨"ThreePoints$Reader", "mayOpen", "()Z"⟩ ∈ xtbl := xtbl_at 561 (by decide +kernel) (by decide +kernel)
set_option maxRecDepth 20000 in
theorem kw_562 : Cond.code ⟨"ThreePoints$Reader", "mayOpen", "()Z"⟩ prog_3_method_12_code 1 (some .boolean) ∈ xtbl := xtbl_at 562 rfl rfl
set_option maxRecDepth 20000 in
theorem kw_563 : Cond.methodLink "ThreePoints$Reader" 60 ⟨"ThreePoints$Text", "endPart", "(I)V"⟩ ∈ xtbl := xtbl_at 563 (by decide +kernel) (by decide +kernel)
set_option maxRecDepth 20000 in
theorem kw_564 : Cond.instanceMethod ⟨"ThreePoints$Text", "endPart", "(I)V"⟩ ∈ xtbl := xtbl_at 564 (by decide +kernel) (by decide +kernel)
set_option maxRecDepth 20000 in
theorem kw_565 : Cond.selects "ThreePoints$Text" ⟨"ThreePoints$Text", "endPart", "(I)V"⟩ ⟨"ThreePoints$Text", "endPart", "(I)V"⟩ ∈ xtbl := xtbl_at 565 (by decide +kernel) (by decide +kernel)
set_option maxRecDepth 20000 in
theorem kw_566 : Cond.code ⟨"ThreePoints$Text", "endPart", "(I)V"⟩ prog_8_method_5_code 2 none ∈ xtbl := xtbl_at 566 rfl rfl
set_option maxRecDepth 20000 in
theorem kw_567 : Cond.methodLink "ThreePoints$Reader" 49 ⟨"ThreePoints$Tape", "startOf", "(I)I"⟩ ∈ xtbl := xtbl_at 567 (by decide +kernel) (by decide +kernel)
set_option maxRecDepth 20000 in
theorem kw_568 : Cond.instanceMethod ⟨"ThreePoints$Tape", "startOf", "(I)I"⟩ ∈ xtbl := xtbl_at 568 (by decide +kernel) (by decide +kernel)
set_option maxRecDepth 20000 in
theorem kw_569 : Cond.selects "ThreePoints$Tape" ⟨"ThreePoints$Tape", "startOf", "(I)I"⟩ ⟨"ThreePoints$Tape", "startOf", "(I)I"⟩ ∈ xtbl := xtbl_at 569 (by decide +kernel) (by decide +kernel)
set_option maxRecDepth 20000 in
theorem kw_570 : Cond.code ⟨"ThreePoints$Tape", "startOf", "(I)I"⟩ prog_7_method_7_code 2 (some .int) ∈ xtbl := xtbl_at 570 rfl rfl
set_option maxRecDepth 20000 in
theorem kw_571 : Cond.methodLink "ThreePoints" 74 ⟨"ThreePoints$Text", "become", "(LThreePoints$Text;)V"⟩ ∈ xtbl := xtbl_at 571 (by decide +kernel) (by decide +kernel)
set_option maxRecDepth 20000 in
theorem kw_572 : Cond.instanceMethod ⟨"ThreePoints$Text", "become", "(LThreePoints$Text;)V"⟩ ∈ xtbl := xtbl_at 572 (by decide +kernel) (by decide +kernel)
set_option maxRecDepth 20000 in
theorem kw_573 : Cond.selects "ThreePoints$Text" ⟨"ThreePoints$Text", "become", "(LThreePoints$Text;)V"⟩ ⟨"ThreePoints$Text", "become", "(LThreePoints$Text;)V"⟩ ∈ xtbl := xtbl_at 573 (by decide +kernel) (by decide +kernel)
set_option maxRecDepth 20000 in
theorem kw_574 : Cond.code ⟨"ThreePoints$Text", "become", "(LThreePoints$Text;)V"⟩ prog_8_method_3_code 2 none ∈ xtbl := xtbl_at 574 rfl rfl
set_option maxRecDepth 20000 in
theorem kw_575 : Cond.methodLink "ThreePoints$Text" 31 arraycopyName ∈ xtbl := xtbl_at 575 (by decide +kernel) (by decide +kernel)
set_option maxRecDepth 20000 in
theorem kw_576 : Cond.static arraycopyName ∈ xtbl := xtbl_at 576 (by decide +kernel) (by decide +kernel)
set_option maxRecDepth 20000 in
theorem kw_577 : Cond.native arraycopyName ∈ xtbl := xtbl_at 577 (by decide +kernel) (by decide +kernel)
set_option maxRecDepth 20000 in
theorem kw_578 : Cond.methodLink "ThreePoints" 78 ⟨"ThreePoints$Tape", "clear", "()V"⟩ ∈ xtbl := xtbl_at 578 (by decide +kernel) (by decide +kernel)
set_option maxRecDepth 20000 in
theorem kw_579 : Cond.instanceMethod ⟨"ThreePoints$Tape", "clear", "()V"⟩ ∈ xtbl := xtbl_at 579 (by decide +kernel) (by decide +kernel)
set_option maxRecDepth 20000 in
theorem kw_580 : Cond.selects "ThreePoints$Tape" ⟨"ThreePoints$Tape", "clear", "()V"⟩ ⟨"ThreePoints$Tape", "clear", "()V"⟩ ∈ xtbl := xtbl_at 580 (by decide +kernel) (by decide +kernel)
set_option maxRecDepth 20000 in
theorem kw_581 : Cond.code ⟨"ThreePoints$Tape", "clear", "()V"⟩ prog_7_method_2_code 1 none ∈ xtbl := xtbl_at 581 rfl rfl
set_option maxRecDepth 20000 in
theorem kw_582 : Cond.fieldLink "ThreePoints" 10 "ThreePoints" "yard" "LThreePoints$Yard;" ∈ xtbl := xtbl_at 582 (by decide +kernel) (by decide +kernel)
set_option maxRecDepth 20000 in
theorem kw_583 : Cond.fieldLink "ThreePoints" 16 "ThreePoints" "kept" "LThreePoints$Yard;" ∈ xtbl := xtbl_at 583 (by decide +kernel) (by decide +kernel)
set_option maxRecDepth 20000 in
theorem kw_584 : Cond.fieldLink "ThreePoints" 239 "ThreePoints" "hasImage" "Z" ∈ xtbl := xtbl_at 584 (by decide +kernel) (by decide +kernel)
set_option maxRecDepth 20000 in
theorem kw_585 : Cond.fieldLink "ThreePoints" 22 "ThreePoints" "reader" "LThreePoints$Reader;" ∈ xtbl := xtbl_at 585 (by decide +kernel) (by decide +kernel)
set_option maxRecDepth 20000 in
theorem kw_586 : Cond.fieldLink "ThreePoints" 28 "ThreePoints" "texts" "[LThreePoints$Text;" ∈ xtbl := xtbl_at 586 (by decide +kernel) (by decide +kernel)
set_option maxRecDepth 20000 in
theorem kw_587 : Cond.fieldLink "ThreePoints" 81 "ThreePoints" "textCount" "I" ∈ xtbl := xtbl_at 587 (by decide +kernel) (by decide +kernel)
set_option maxRecDepth 20000 in
theorem kw_588 : Cond.fieldLink "ThreePoints" 34 "ThreePoints" "sheets" "[LThreePoints$Sheet;" ∈ xtbl := xtbl_at 588 (by decide +kernel) (by decide +kernel)
set_option maxRecDepth 20000 in
theorem kw_589 : Cond.fieldLink "ThreePoints" 41 "ThreePoints" "ride" "LThreePoints$Ride;" ∈ xtbl := xtbl_at 589 (by decide +kernel) (by decide +kernel)
set_option maxRecDepth 20000 in
theorem kw_590 : Cond.fieldLink "ThreePoints" 48 "ThreePoints" "search" "LThreePoints$Search;" ∈ xtbl := xtbl_at 590 (by decide +kernel) (by decide +kernel)
set_option maxRecDepth 20000 in
theorem kw_614 : Cond.code ⟨"ThreePoints", "count", "(I)I"⟩ prog_1_method_2_code 2 (some .int) ∈ xtbl := xtbl_at 614 rfl rfl
set_option maxRecDepth 20000 in
theorem kw_618 : Cond.code ⟨"ThreePoints", "set", "(II)I"⟩ prog_1_method_3_code 5 (some .int) ∈ xtbl := xtbl_at 618 rfl rfl
set_option maxRecDepth 20000 in
theorem kw_619 : Cond.methodLink "ThreePoints" 106 ⟨"ThreePoints", "isWithin", "(III)Z"⟩ ∈ xtbl := xtbl_at 619 (by decide +kernel) (by decide +kernel)
set_option maxRecDepth 20000 in
theorem kw_620 : Cond.static ⟨"ThreePoints", "isWithin", "(III)Z"⟩ ∈ xtbl := xtbl_at 620 (by decide +kernel) (by decide +kernel)
set_option maxRecDepth 20000 in
theorem kw_621 : Cond.code ⟨"ThreePoints", "isWithin", "(III)Z"⟩ prog_1_method_33_code 3 (some .boolean) ∈ xtbl := xtbl_at 621 rfl rfl
set_option maxRecDepth 20000 in
theorem kw_622 : Cond.methodLink "ThreePoints" 110 ⟨"ThreePoints", "think", "(I)V"⟩ ∈ xtbl := xtbl_at 622 (by decide +kernel) (by decide +kernel)
set_option maxRecDepth 20000 in
theorem kw_624 : Cond.instanceMethod ⟨"ThreePoints", "think", "(I)V"⟩ ∈ xtbl := xtbl_at 624 (by decide +kernel) (by decide +kernel)
set_option maxRecDepth 20000 in
theorem kw_625 : Cond.code ⟨"ThreePoints", "think", "(I)V"⟩ prog_1_method_43_code 2 none ∈ xtbl := xtbl_at 625 rfl rfl
set_option maxRecDepth 20000 in
theorem kw_626 : Cond.methodLink "ThreePoints" 287 ⟨"ThreePoints$Lane", "become", "(LThreePoints$Lane;)V"⟩ ∈ xtbl := xtbl_at 626 (by decide +kernel) (by decide +kernel)
set_option maxRecDepth 20000 in
theorem kw_627 : Cond.instanceMethod ⟨"ThreePoints$Lane", "become", "(LThreePoints$Lane;)V"⟩ ∈ xtbl := xtbl_at 627 (by decide +kernel) (by decide +kernel)
set_option maxRecDepth 20000 in
theorem kw_628 : Cond.selects "ThreePoints$Lane" ⟨"ThreePoints$Lane", "become", "(LThreePoints$Lane;)V"⟩ ⟨"ThreePoints$Lane", "become", "(LThreePoints$Lane;)V"⟩ ∈ xtbl := xtbl_at 628 (by decide +kernel) (by decide +kernel)
set_option maxRecDepth 20000 in
theorem kw_629 : Cond.code ⟨"ThreePoints$Lane", "become", "(LThreePoints$Lane;)V"⟩ prog_2_method_2_code 2 none ∈ xtbl := xtbl_at 629 rfl rfl
set_option maxRecDepth 20000 in
theorem kw_630 : Cond.methodLink "ThreePoints" 126 ⟨"ThreePoints", "isVehicle", "(I)Z"⟩ ∈ xtbl := xtbl_at 630 (by decide +kernel) (by decide +kernel)
set_option maxRecDepth 20000 in
theorem kw_632 : Cond.instanceMethod ⟨"ThreePoints", "isVehicle", "(I)Z"⟩ ∈ xtbl := xtbl_at 632 (by decide +kernel) (by decide +kernel)
set_option maxRecDepth 20000 in
theorem kw_633 : Cond.code ⟨"ThreePoints", "isVehicle", "(I)Z"⟩ prog_1_method_39_code 2 (some .boolean) ∈ xtbl := xtbl_at 633 rfl rfl
set_option maxRecDepth 20000 in
theorem kw_634 : Cond.methodLink "ThreePoints" 187 ⟨"ThreePoints$Vehicle", "become", "(LThreePoints$Vehicle;)V"⟩ ∈ xtbl := xtbl_at 634 (by decide +kernel) (by decide +kernel)
set_option maxRecDepth 20000 in
theorem kw_635 : Cond.instanceMethod ⟨"ThreePoints$Vehicle", "become", "(LThreePoints$Vehicle;)V"⟩ ∈ xtbl := xtbl_at 635 (by decide +kernel) (by decide +kernel)
set_option maxRecDepth 20000 in
theorem kw_636 : Cond.selects "ThreePoints$Vehicle" ⟨"ThreePoints$Vehicle", "become", "(LThreePoints$Vehicle;)V"⟩ ⟨"ThreePoints$Vehicle", "become", "(LThreePoints$Vehicle;)V"⟩ ∈ xtbl := xtbl_at 636 (by decide +kernel) (by decide +kernel)
set_option maxRecDepth 20000 in
theorem kw_637 : Cond.code ⟨"ThreePoints$Vehicle", "become", "(LThreePoints$Vehicle;)V"⟩ prog_9_method_2_code 2 none ∈ xtbl := xtbl_at 637 rfl rfl
set_option maxRecDepth 20000 in
theorem kw_638 : Cond.methodLink "ThreePoints" 115 ⟨"ThreePoints$Ride", "fitsNow", "()Z"⟩ ∈ xtbl := xtbl_at 638 (by decide +kernel) (by decide +kernel)
set_option maxRecDepth 20000 in
theorem kw_639 : Cond.instanceMethod ⟨"ThreePoints$Ride", "fitsNow", "()Z"⟩ ∈ xtbl := xtbl_at 639 (by decide +kernel) (by decide +kernel)
set_option maxRecDepth 20000 in
theorem kw_640 : Cond.selects "ThreePoints$Ride" ⟨"ThreePoints$Ride", "fitsNow", "()Z"⟩ ⟨"ThreePoints$Ride", "fitsNow", "()Z"⟩ ∈ xtbl := xtbl_at 640 (by decide +kernel) (by decide +kernel)
set_option maxRecDepth 20000 in
theorem kw_641 : Cond.code ⟨"ThreePoints$Ride", "fitsNow", "()Z"⟩ prog_4_method_5_code 1 (some .boolean) ∈ xtbl := xtbl_at 641 rfl rfl
set_option maxRecDepth 20000 in
theorem kw_642 : Cond.methodLink "ThreePoints$Ride" 82 ⟨"ThreePoints$Ride", "fits", "(II)Z"⟩ ∈ xtbl := xtbl_at 642 (by decide +kernel) (by decide +kernel)
set_option maxRecDepth 20000 in
theorem kw_643 : Cond.instanceMethod ⟨"ThreePoints$Ride", "fits", "(II)Z"⟩ ∈ xtbl := xtbl_at 643 (by decide +kernel) (by decide +kernel)
set_option maxRecDepth 20000 in
theorem kw_644 : Cond.selects "ThreePoints$Ride" ⟨"ThreePoints$Ride", "fits", "(II)Z"⟩ ⟨"ThreePoints$Ride", "fits", "(II)Z"⟩ ∈ xtbl := xtbl_at 644 (by decide +kernel) (by decide +kernel)
set_option maxRecDepth 20000 in
theorem kw_645 : Cond.code ⟨"ThreePoints$Ride", "fits", "(II)Z"⟩ prog_4_method_4_code 8 (some .boolean) ∈ xtbl := xtbl_at 645 rfl rfl
set_option maxRecDepth 20000 in
theorem kw_647 : Cond.static ⟨"ThreePoints", "across", "(I)I"⟩ ∈ xtbl := xtbl_at 647 (by decide +kernel) (by decide +kernel)
set_option maxRecDepth 20000 in
theorem kw_648 : Cond.code ⟨"ThreePoints", "across", "(I)I"⟩ prog_1_method_36_code 1 (some .int) ∈ xtbl := xtbl_at 648 rfl rfl
set_option maxRecDepth 20000 in
theorem kw_649 : Cond.fieldLink "ThreePoints" 284 "ThreePoints" "ACROSS" "[I" ∈ xtbl := xtbl_at 649 (by decide +kernel) (by decide +kernel)
set_option maxRecDepth 20000 in
theorem kw_651 : Cond.methodLink "ThreePoints$Ride" 53 ⟨"ThreePoints$Vehicle", "front", "()I"⟩ ∈ xtbl := xtbl_at 651 (by decide +kernel) (by decide +kernel)
set_option maxRecDepth 20000 in
theorem kw_652 : Cond.instanceMethod ⟨"ThreePoints$Vehicle", "front", "()I"⟩ ∈ xtbl := xtbl_at 652 (by decide +kernel) (by decide +kernel)
set_option maxRecDepth 20000 in
theorem kw_653 : Cond.selects "ThreePoints$Vehicle" ⟨"ThreePoints$Vehicle", "front", "()I"⟩ ⟨"ThreePoints$Vehicle", "front", "()I"⟩ ∈ xtbl := xtbl_at 653 (by decide +kernel) (by decide +kernel)
set_option maxRecDepth 20000 in
theorem kw_654 : Cond.code ⟨"ThreePoints$Vehicle", "front", "()I"⟩ prog_9_method_5_code 1 (some .int) ∈ xtbl := xtbl_at 654 rfl rfl
set_option maxRecDepth 20000 in
theorem kw_655 : Cond.methodLink "ThreePoints$Ride" 57 ⟨"ThreePoints$Vehicle", "behind", "()I"⟩ ∈ xtbl := xtbl_at 655 (by decide +kernel) (by decide +kernel)
set_option maxRecDepth 20000 in
theorem kw_656 : Cond.instanceMethod ⟨"ThreePoints$Vehicle", "behind", "()I"⟩ ∈ xtbl := xtbl_at 656 (by decide +kernel) (by decide +kernel)
set_option maxRecDepth 20000 in
theorem kw_657 : Cond.selects "ThreePoints$Vehicle" ⟨"ThreePoints$Vehicle", "behind", "()I"⟩ ⟨"ThreePoints$Vehicle", "behind", "()I"⟩ ∈ xtbl := xtbl_at 657 (by decide +kernel) (by decide +kernel)
set_option maxRecDepth 20000 in
theorem kw_658 : Cond.code ⟨"ThreePoints$Vehicle", "behind", "()I"⟩ prog_9_method_6_code 1 (some .int) ∈ xtbl := xtbl_at 658 rfl rfl
set_option maxRecDepth 20000 in
theorem kw_659 : Cond.methodLink "ThreePoints$Ride" 60 ⟨"java/lang/Math", "min", "(II)I"⟩ ∈ xtbl := xtbl_at 659 (by decide +kernel) (by decide +kernel)
set_option maxRecDepth 20000 in
theorem kw_660 : Cond.methodLink "ThreePoints$Ride" 46 ⟨"ThreePoints$Ride", "says", "(IIIII)I"⟩ ∈ xtbl := xtbl_at 660 (by decide +kernel) (by decide +kernel)
set_option maxRecDepth 20000 in
theorem kw_661 : Cond.instanceMethod ⟨"ThreePoints$Ride", "says", "(IIIII)I"⟩ ∈ xtbl := xtbl_at 661 (by decide +kernel) (by decide +kernel)
set_option maxRecDepth 20000 in
theorem kw_662 : Cond.selects "ThreePoints$Ride" ⟨"ThreePoints$Ride", "says", "(IIIII)I"⟩ ⟨"ThreePoints$Ride", "says", "(IIIII)I"⟩ ∈ xtbl := xtbl_at 662 (by decide +kernel) (by decide +kernel)
set_option maxRecDepth 20000 in
theorem kw_663 : Cond.code ⟨"ThreePoints$Ride", "says", "(IIIII)I"⟩ prog_4_method_2_code 6 (some .int) ∈ xtbl := xtbl_at 663 rfl rfl
set_option maxRecDepth 20000 in
theorem kw_664 : Cond.methodLink "ThreePoints$Ride" 42 ⟨"ThreePoints$Text", "says", "(I[I)I"⟩ ∈ xtbl := xtbl_at 664 (by decide +kernel) (by decide +kernel)
set_option maxRecDepth 20000 in
theorem kw_665 : Cond.instanceMethod ⟨"ThreePoints$Text", "says", "(I[I)I"⟩ ∈ xtbl := xtbl_at 665 (by decide +kernel) (by decide +kernel)
set_option maxRecDepth 20000 in
theorem kw_666 : Cond.selects "ThreePoints$Text" ⟨"ThreePoints$Text", "says", "(I[I)I"⟩ ⟨"ThreePoints$Text", "says", "(I[I)I"⟩ ∈ xtbl := xtbl_at 666 (by decide +kernel) (by decide +kernel)
set_option maxRecDepth 20000 in
theorem kw_667 : Cond.code ⟨"ThreePoints$Text", "says", "(I[I)I"⟩ prog_8_method_6_code 7 (some .int) ∈ xtbl := xtbl_at 667 rfl rfl
set_option maxRecDepth 20000 in
theorem kw_668 : Cond.methodLink "ThreePoints$Text" 37 ⟨"ThreePoints$Text", "operand", "(I[I)I"⟩ ∈ xtbl := xtbl_at 668 (by decide +kernel) (by decide +kernel)
set_option maxRecDepth 20000 in
theorem kw_669 : Cond.static ⟨"ThreePoints$Text", "operand", "(I[I)I"⟩ ∈ xtbl := xtbl_at 669 (by decide +kernel) (by decide +kernel)
set_option maxRecDepth 20000 in
theorem kw_670 : Cond.code ⟨"ThreePoints$Text", "operand", "(I[I)I"⟩ prog_8_method_7_code 3 (some .int) ∈ xtbl := xtbl_at 670 rfl rfl
set_option maxRecDepth 20000 in
theorem kw_671 : Cond.methodLink "ThreePoints$Text" 41 ⟨"ThreePoints$Text", "joined", "(III)I"⟩ ∈ xtbl := xtbl_at 671 (by decide +kernel) (by decide +kernel)
set_option maxRecDepth 20000 in
theorem kw_672 : Cond.static ⟨"ThreePoints$Text", "joined", "(III)I"⟩ ∈ xtbl := xtbl_at 672 (by decide +kernel) (by decide +kernel)
set_option maxRecDepth 20000 in
theorem kw_673 : Cond.code ⟨"ThreePoints$Text", "joined", "(III)I"⟩ prog_8_method_8_code 3 (some .int) ∈ xtbl := xtbl_at 673 rfl rfl
set_option maxRecDepth 20000 in
theorem kw_674 : Cond.fieldLink "ThreePoints$Text" 45 "ThreePoints$Text" "BOUNDS" "[I" ∈ xtbl := xtbl_at 674 (by decide +kernel) (by decide +kernel)
set_option maxRecDepth 20000 in
theorem kw_676 : Cond.methodLink "ThreePoints$Text" 48 ⟨"java/lang/Math", "min", "(II)I"⟩ ∈ xtbl := xtbl_at 676 (by decide +kernel) (by decide +kernel)
set_option maxRecDepth 20000 in
theorem kw_677 : Cond.methodLink "ThreePoints$Text" 54 ⟨"java/lang/Math", "max", "(II)I"⟩ ∈ xtbl := xtbl_at 677 (by decide +kernel) (by decide +kernel)
set_option maxRecDepth 20000 in
theorem kw_678 : Cond.methodLink "ThreePoints$Ride" 66 ⟨"java/lang/Math", "max", "(II)I"⟩ ∈ xtbl := xtbl_at 678 (by decide +kernel) (by decide +kernel)
set_option maxRecDepth 20000 in
theorem kw_679 : Cond.methodLink "ThreePoints$Ride" 69 ⟨"ThreePoints$Ride", "isAtOpening", "(I)Z"⟩ ∈ xtbl := xtbl_at 679 (by decide +kernel) (by decide +kernel)
set_option maxRecDepth 20000 in
theorem kw_680 : Cond.static ⟨"ThreePoints$Ride", "isAtOpening", "(I)Z"⟩ ∈ xtbl := xtbl_at 680 (by decide +kernel) (by decide +kernel)
set_option maxRecDepth 20000 in
theorem kw_681 : Cond.code ⟨"ThreePoints$Ride", "isAtOpening", "(I)Z"⟩ prog_4_method_6_code 2 (some .boolean) ∈ xtbl := xtbl_at 681 rfl rfl
set_option maxRecDepth 20000 in
theorem kw_685 : Cond.code ⟨"ThreePoints", "feed", "(IIIIII)I"⟩ prog_1_method_4_code 8 (some .int) ∈ xtbl := xtbl_at 685 rfl rfl
set_option maxRecDepth 20000 in
theorem kw_686 : Cond.methodLink "ThreePoints" 119 ⟨"ThreePoints", "isByte", "(I)Z"⟩ ∈ xtbl := xtbl_at 686 (by decide +kernel) (by decide +kernel)
set_option maxRecDepth 20000 in
theorem kw_687 : Cond.static ⟨"ThreePoints", "isByte", "(I)Z"⟩ ∈ xtbl := xtbl_at 687 (by decide +kernel) (by decide +kernel)
set_option maxRecDepth 20000 in
theorem kw_688 : Cond.code ⟨"ThreePoints", "isByte", "(I)Z"⟩ prog_1_method_34_code 1 (some .boolean) ∈ xtbl := xtbl_at 688 rfl rfl
set_option maxRecDepth 20000 in
theorem kw_689 : Cond.methodLink "ThreePoints" 123 ⟨"ThreePoints$Tape", "add", "(I)V"⟩ ∈ xtbl := xtbl_at 689 (by decide +kernel) (by decide +kernel)
set_option maxRecDepth 20000 in
theorem kw_693 : Cond.code ⟨"ThreePoints", "text", "()I"⟩ prog_1_method_5_code 2 (some .int) ∈ xtbl := xtbl_at 693 rfl rfl
set_option maxRecDepth 20000 in
theorem kw_697 : Cond.code ⟨"ThreePoints", "force", "(I)I"⟩ prog_1_method_6_code 3 (some .int) ∈ xtbl := xtbl_at 697 rfl rfl
set_option maxRecDepth 20000 in
theorem kw_701 : Cond.code ⟨"ThreePoints", "asks", "(IIII)I"⟩ prog_1_method_7_code 5 (some .int) ∈ xtbl := xtbl_at 701 rfl rfl
set_option maxRecDepth 20000 in
theorem kw_702 : Cond.methodLink "ThreePoints" 129 ⟨"ThreePoints", "isPlaceHeading", "(I)Z"⟩ ∈ xtbl := xtbl_at 702 (by decide +kernel) (by decide +kernel)
set_option maxRecDepth 20000 in
theorem kw_704 : Cond.instanceMethod ⟨"ThreePoints", "isPlaceHeading", "(I)Z"⟩ ∈ xtbl := xtbl_at 704 (by decide +kernel) (by decide +kernel)
set_option maxRecDepth 20000 in
theorem kw_705 : Cond.code ⟨"ThreePoints", "isPlaceHeading", "(I)Z"⟩ prog_1_method_42_code 2 (some .boolean) ∈ xtbl := xtbl_at 705 rfl rfl
set_option maxRecDepth 20000 in
theorem kw_706 : Cond.methodLink "ThreePoints" 190 ⟨"ThreePoints", "isPlace", "(I)Z"⟩ ∈ xtbl := xtbl_at 706 (by decide +kernel) (by decide +kernel)
set_option maxRecDepth 20000 in
theorem kw_708 : Cond.instanceMethod ⟨"ThreePoints", "isPlace", "(I)Z"⟩ ∈ xtbl := xtbl_at 708 (by decide +kernel) (by decide +kernel)
set_option maxRecDepth 20000 in
theorem kw_709 : Cond.code ⟨"ThreePoints", "isPlace", "(I)Z"⟩ prog_1_method_41_code 2 (some .boolean) ∈ xtbl := xtbl_at 709 rfl rfl
set_option maxRecDepth 20000 in
theorem kw_710 : Cond.methodLink "ThreePoints" 132 ⟨"ThreePoints", "isTwoFlags", "(I)Z"⟩ ∈ xtbl := xtbl_at 710 (by decide +kernel) (by decide +kernel)
set_option maxRecDepth 20000 in
theorem kw_711 : Cond.static ⟨"ThreePoints", "isTwoFlags", "(I)Z"⟩ ∈ xtbl := xtbl_at 711 (by decide +kernel) (by decide +kernel)
set_option maxRecDepth 20000 in
theorem kw_712 : Cond.code ⟨"ThreePoints", "isTwoFlags", "(I)Z"⟩ prog_1_method_35_code 1 (some .boolean) ∈ xtbl := xtbl_at 712 rfl rfl
set_option maxRecDepth 20000 in
theorem kw_713 : Cond.methodLink "ThreePoints" 135 ⟨"ThreePoints$Ride", "says", "(IIIII)I"⟩ ∈ xtbl := xtbl_at 713 (by decide +kernel) (by decide +kernel)
set_option maxRecDepth 20000 in
theorem kw_717 : Cond.code ⟨"ThreePoints", "vehicle", "(II)I"⟩ prog_1_method_8_code 3 (some .int) ∈ xtbl := xtbl_at 717 rfl rfl
set_option maxRecDepth 20000 in
theorem kw_718 : Cond.methodLink "ThreePoints" 139 ⟨"ThreePoints", "addVehicle", "(II)I"⟩ ∈ xtbl := xtbl_at 718 (by decide +kernel) (by decide +kernel)
set_option maxRecDepth 20000 in
theorem kw_720 : Cond.instanceMethod ⟨"ThreePoints", "addVehicle", "(II)I"⟩ ∈ xtbl := xtbl_at 720 (by decide +kernel) (by decide +kernel)
set_option maxRecDepth 20000 in
theorem kw_721 : Cond.code ⟨"ThreePoints", "addVehicle", "(II)I"⟩ prog_1_method_44_code 3 (some .int) ∈ xtbl := xtbl_at 721 rfl rfl
set_option maxRecDepth 20000 in
theorem kw_722 : Cond.methodLink "ThreePoints" 193 ⟨"ThreePoints$Vehicle", "startAt", "(I)V"⟩ ∈ xtbl := xtbl_at 722 (by decide +kernel) (by decide +kernel)
set_option maxRecDepth 20000 in
theorem kw_723 : Cond.instanceMethod ⟨"ThreePoints$Vehicle", "startAt", "(I)V"⟩ ∈ xtbl := xtbl_at 723 (by decide +kernel) (by decide +kernel)
set_option maxRecDepth 20000 in
theorem kw_724 : Cond.selects "ThreePoints$Vehicle" ⟨"ThreePoints$Vehicle", "startAt", "(I)V"⟩ ⟨"ThreePoints$Vehicle", "startAt", "(I)V"⟩ ∈ xtbl := xtbl_at 724 (by decide +kernel) (by decide +kernel)
set_option maxRecDepth 20000 in
theorem kw_725 : Cond.code ⟨"ThreePoints$Vehicle", "startAt", "(I)V"⟩ prog_9_method_3_code 2 none ∈ xtbl := xtbl_at 725 rfl rfl
set_option maxRecDepth 20000 in
theorem kw_729 : Cond.code ⟨"ThreePoints", "told", "(II)I"⟩ prog_1_method_9_code 4 (some .int) ∈ xtbl := xtbl_at 729 rfl rfl
set_option maxRecDepth 20000 in
theorem kw_730 : Cond.methodLink "ThreePoints" 170 ⟨"ThreePoints$Vehicle", "front", "()I"⟩ ∈ xtbl := xtbl_at 730 (by decide +kernel) (by decide +kernel)
set_option maxRecDepth 20000 in
theorem kw_731 : Cond.methodLink "ThreePoints" 173 ⟨"ThreePoints$Vehicle", "behind", "()I"⟩ ∈ xtbl := xtbl_at 731 (by decide +kernel) (by decide +kernel)
set_option maxRecDepth 20000 in
theorem kw_735 : Cond.code ⟨"ThreePoints", "fit", "(II)I"⟩ prog_1_method_10_code 3 (some .int) ∈ xtbl := xtbl_at 735 rfl rfl
set_option maxRecDepth 20000 in
theorem kw_736 : Cond.methodLink "ThreePoints" 176 ⟨"ThreePoints$Ride", "fits", "(II)Z"⟩ ∈ xtbl := xtbl_at 736 (by decide +kernel) (by decide +kernel)
set_option maxRecDepth 20000 in
theorem kw_740 : Cond.code ⟨"ThreePoints", "drive", "(III)I"⟩ prog_1_method_11_code 4 (some .int) ∈ xtbl := xtbl_at 740 rfl rfl
set_option maxRecDepth 20000 in
theorem kw_741 : Cond.methodLink "ThreePoints" 180 ⟨"ThreePoints$Ride", "go", "(II)Z"⟩ ∈ xtbl := xtbl_at 741 (by decide +kernel) (by decide +kernel)
set_option maxRecDepth 20000 in
theorem kw_742 : Cond.instanceMethod ⟨"ThreePoints$Ride", "go", "(II)Z"⟩ ∈ xtbl := xtbl_at 742 (by decide +kernel) (by decide +kernel)
set_option maxRecDepth 20000 in
theorem kw_743 : Cond.selects "ThreePoints$Ride" ⟨"ThreePoints$Ride", "go", "(II)Z"⟩ ⟨"ThreePoints$Ride", "go", "(II)Z"⟩ ∈ xtbl := xtbl_at 743 (by decide +kernel) (by decide +kernel)
set_option maxRecDepth 20000 in
theorem kw_744 : Cond.code ⟨"ThreePoints$Ride", "go", "(II)Z"⟩ prog_4_method_9_code 5 (some .boolean) ∈ xtbl := xtbl_at 744 rfl rfl
set_option maxRecDepth 20000 in
theorem kw_745 : Cond.methodLink "ThreePoints$Ride" 89 ⟨"ThreePoints$Ride", "shift", "(II)I"⟩ ∈ xtbl := xtbl_at 745 (by decide +kernel) (by decide +kernel)
set_option maxRecDepth 20000 in
theorem kw_746 : Cond.static ⟨"ThreePoints$Ride", "shift", "(II)I"⟩ ∈ xtbl := xtbl_at 746 (by decide +kernel) (by decide +kernel)
set_option maxRecDepth 20000 in
theorem kw_747 : Cond.code ⟨"ThreePoints$Ride", "shift", "(II)I"⟩ prog_4_method_7_code 3 (some .int) ∈ xtbl := xtbl_at 747 rfl rfl
set_option maxRecDepth 20000 in
theorem kw_748 : Cond.methodLink "ThreePoints$Ride" 92 ⟨"ThreePoints$Ride", "turnedBy", "(III)I"⟩ ∈ xtbl := xtbl_at 748 (by decide +kernel) (by decide +kernel)
set_option maxRecDepth 20000 in
theorem kw_749 : Cond.instanceMethod ⟨"ThreePoints$Ride", "turnedBy", "(III)I"⟩ ∈ xtbl := xtbl_at 749 (by decide +kernel) (by decide +kernel)
set_option maxRecDepth 20000 in
theorem kw_750 : Cond.selects "ThreePoints$Ride" ⟨"ThreePoints$Ride", "turnedBy", "(III)I"⟩ ⟨"ThreePoints$Ride", "turnedBy", "(III)I"⟩ ∈ xtbl := xtbl_at 750 (by decide +kernel) (by decide +kernel)
set_option maxRecDepth 20000 in
theorem kw_751 : Cond.code ⟨"ThreePoints$Ride", "turnedBy", "(III)I"⟩ prog_4_method_8_code 4 (some .int) ∈ xtbl := xtbl_at 751 rfl rfl
set_option maxRecDepth 20000 in
theorem kw_752 : Cond.methodLink "ThreePoints$Ride" 86 ⟨"ThreePoints$Vehicle", "turns", "(II)I"⟩ ∈ xtbl := xtbl_at 752 (by decide +kernel) (by decide +kernel)
set_option maxRecDepth 20000 in
theorem kw_753 : Cond.instanceMethod ⟨"ThreePoints$Vehicle", "turns", "(II)I"⟩ ∈ xtbl := xtbl_at 753 (by decide +kernel) (by decide +kernel)
set_option maxRecDepth 20000 in
theorem kw_754 : Cond.selects "ThreePoints$Vehicle" ⟨"ThreePoints$Vehicle", "turns", "(II)I"⟩ ⟨"ThreePoints$Vehicle", "turns", "(II)I"⟩ ∈ xtbl := xtbl_at 754 (by decide +kernel) (by decide +kernel)
set_option maxRecDepth 20000 in
theorem kw_755 : Cond.code ⟨"ThreePoints$Vehicle", "turns", "(II)I"⟩ prog_9_method_7_code 4 (some .int) ∈ xtbl := xtbl_at 755 rfl rfl
set_option maxRecDepth 20000 in
theorem kw_756 : Cond.methodLink "ThreePoints$Ride" 96 ⟨"ThreePoints$Ride", "wears", "(III)I"⟩ ∈ xtbl := xtbl_at 756 (by decide +kernel) (by decide +kernel)
set_option maxRecDepth 20000 in
theorem kw_757 : Cond.instanceMethod ⟨"ThreePoints$Ride", "wears", "(III)I"⟩ ∈ xtbl := xtbl_at 757 (by decide +kernel) (by decide +kernel)
set_option maxRecDepth 20000 in
theorem kw_758 : Cond.selects "ThreePoints$Ride" ⟨"ThreePoints$Ride", "wears", "(III)I"⟩ ⟨"ThreePoints$Ride", "wears", "(III)I"⟩ ∈ xtbl := xtbl_at 758 (by decide +kernel) (by decide +kernel)
set_option maxRecDepth 20000 in
theorem kw_759 : Cond.code ⟨"ThreePoints$Ride", "wears", "(III)I"⟩ prog_4_method_3_code 4 (some .int) ∈ xtbl := xtbl_at 759 rfl rfl
set_option maxRecDepth 20000 in
theorem kw_760 : Cond.methodLink "ThreePoints$Ride" 99 ⟨"ThreePoints$Vehicle", "stepTo", "(IIII)V"⟩ ∈ xtbl := xtbl_at 760 (by decide +kernel) (by decide +kernel)
set_option maxRecDepth 20000 in
theorem kw_761 : Cond.instanceMethod ⟨"ThreePoints$Vehicle", "stepTo", "(IIII)V"⟩ ∈ xtbl := xtbl_at 761 (by decide +kernel) (by decide +kernel)
set_option maxRecDepth 20000 in
theorem kw_762 : Cond.selects "ThreePoints$Vehicle" ⟨"ThreePoints$Vehicle", "stepTo", "(IIII)V"⟩ ⟨"ThreePoints$Vehicle", "stepTo", "(IIII)V"⟩ ∈ xtbl := xtbl_at 762 (by decide +kernel) (by decide +kernel)
set_option maxRecDepth 20000 in
theorem kw_763 : Cond.code ⟨"ThreePoints$Vehicle", "stepTo", "(IIII)V"⟩ prog_9_method_8_code 5 none ∈ xtbl := xtbl_at 763 rfl rfl
set_option maxRecDepth 20000 in
theorem kw_764 : Cond.methodLink "ThreePoints$Vehicle" 37 ⟨"java/lang/Math", "min", "(II)I"⟩ ∈ xtbl := xtbl_at 764 (by decide +kernel) (by decide +kernel)
set_option maxRecDepth 20000 in
theorem kw_768 : Cond.code ⟨"ThreePoints", "begin", "(II)I"⟩ prog_1_method_12_code 4 (some .int) ∈ xtbl := xtbl_at 768 rfl rfl
set_option maxRecDepth 20000 in
theorem kw_772 : Cond.code ⟨"ThreePoints", "turned", "(II)I"⟩ prog_1_method_13_code 4 (some .int) ∈ xtbl := xtbl_at 772 rfl rfl
set_option maxRecDepth 20000 in
theorem kw_773 : Cond.methodLink "ThreePoints" 196 ⟨"ThreePoints", "otherHeading", "(I)I"⟩ ∈ xtbl := xtbl_at 773 (by decide +kernel) (by decide +kernel)
set_option maxRecDepth 20000 in
theorem kw_774 : Cond.static ⟨"ThreePoints", "otherHeading", "(I)I"⟩ ∈ xtbl := xtbl_at 774 (by decide +kernel) (by decide +kernel)
set_option maxRecDepth 20000 in
theorem kw_775 : Cond.code ⟨"ThreePoints", "otherHeading", "(I)I"⟩ prog_1_method_37_code 1 (some .int) ∈ xtbl := xtbl_at 775 rfl rfl
set_option maxRecDepth 20000 in
theorem kw_776 : Cond.methodLink "ThreePoints" 200 ⟨"ThreePoints$Search", "toHeading", "(LThreePoints$Ride;II)V"⟩ ∈ xtbl := xtbl_at 776 (by decide +kernel) (by decide +kernel)
set_option maxRecDepth 20000 in
theorem kw_777 : Cond.instanceMethod ⟨"ThreePoints$Search", "toHeading", "(LThreePoints$Ride;II)V"⟩ ∈ xtbl := xtbl_at 777 (by decide +kernel) (by decide +kernel)
set_option maxRecDepth 20000 in
theorem kw_778 : Cond.selects "ThreePoints$Search" ⟨"ThreePoints$Search", "toHeading", "(LThreePoints$Ride;II)V"⟩ ⟨"ThreePoints$Search", "toHeading", "(LThreePoints$Ride;II)V"⟩ ∈ xtbl := xtbl_at 778 (by decide +kernel) (by decide +kernel)
set_option maxRecDepth 20000 in
theorem kw_779 : Cond.code ⟨"ThreePoints$Search", "toHeading", "(LThreePoints$Ride;II)V"⟩ prog_5_method_3_code 7 none ∈ xtbl := xtbl_at 779 rfl rfl
set_option maxRecDepth 20000 in
theorem kw_780 : Cond.constant "ThreePoints$Search" 44 (2147483647) ∈ xtbl := xtbl_at 780 (by decide +kernel) (by decide +kernel)
set_option maxRecDepth 20000 in
theorem kw_781 : Cond.methodLink "ThreePoints$Search" 45 ⟨"java/util/Arrays", "fill", "([II)V"⟩ ∈ xtbl := xtbl_at 781 (by decide +kernel) (by decide +kernel)
set_option maxRecDepth 20000 in
theorem kw_782 : Cond.methodLink "ThreePoints$Search" 62 ⟨"ThreePoints$Ride", "fits", "(II)Z"⟩ ∈ xtbl := xtbl_at 782 (by decide +kernel) (by decide +kernel)
set_option maxRecDepth 20000 in
theorem kw_783 : Cond.methodLink "ThreePoints$Search" 66 ⟨"ThreePoints$Search", "state", "(III)I"⟩ ∈ xtbl := xtbl_at 783 (by decide +kernel) (by decide +kernel)
set_option maxRecDepth 20000 in
theorem kw_784 : Cond.static ⟨"ThreePoints$Search", "state", "(III)I"⟩ ∈ xtbl := xtbl_at 784 (by decide +kernel) (by decide +kernel)
set_option maxRecDepth 20000 in
theorem kw_785 : Cond.code ⟨"ThreePoints$Search", "state", "(III)I"⟩ prog_5_method_2_code 4 (some .int) ∈ xtbl := xtbl_at 785 rfl rfl
set_option maxRecDepth 20000 in
theorem kw_786 : Cond.methodLink "ThreePoints$Search" 28 ⟨"java/lang/Math", "min", "(II)I"⟩ ∈ xtbl := xtbl_at 786 (by decide +kernel) (by decide +kernel)
set_option maxRecDepth 20000 in
theorem kw_787 : Cond.methodLink "ThreePoints$Search" 34 ⟨"java/lang/Math", "max", "(II)I"⟩ ∈ xtbl := xtbl_at 787 (by decide +kernel) (by decide +kernel)
set_option maxRecDepth 20000 in
theorem kw_788 : Cond.methodLink "ThreePoints$Search" 70 ⟨"ThreePoints$Search", "lower", "(II)V"⟩ ∈ xtbl := xtbl_at 788 (by decide +kernel) (by decide +kernel)
set_option maxRecDepth 20000 in
theorem kw_790 : Cond.instanceMethod ⟨"ThreePoints$Search", "lower", "(II)V"⟩ ∈ xtbl := xtbl_at 790 (by decide +kernel) (by decide +kernel)
set_option maxRecDepth 20000 in
theorem kw_791 : Cond.code ⟨"ThreePoints$Search", "lower", "(II)V"⟩ prog_5_method_5_code 4 none ∈ xtbl := xtbl_at 791 rfl rfl
set_option maxRecDepth 20000 in
theorem kw_792 : Cond.methodLink "ThreePoints$Search" 75 ⟨"ThreePoints$Search", "unlink", "(I)V"⟩ ∈ xtbl := xtbl_at 792 (by decide +kernel) (by decide +kernel)
set_option maxRecDepth 20000 in
theorem kw_794 : Cond.instanceMethod ⟨"ThreePoints$Search", "unlink", "(I)V"⟩ ∈ xtbl := xtbl_at 794 (by decide +kernel) (by decide +kernel)
set_option maxRecDepth 20000 in
theorem kw_795 : Cond.code ⟨"ThreePoints$Search", "unlink", "(I)V"⟩ prog_5_method_6_code 4 none ∈ xtbl := xtbl_at 795 rfl rfl
set_option maxRecDepth 20000 in
theorem kw_796 : Cond.constant "ThreePoints$Search" 74 (193248) ∈ xtbl := xtbl_at 796 (by decide +kernel) (by decide +kernel)
set_option maxRecDepth 20000 in
theorem kw_797 : Cond.methodLink "ThreePoints$Search" 79 ⟨"ThreePoints$Search", "lowerAhead", "(LThreePoints$Ride;II)V"⟩ ∈ xtbl := xtbl_at 797 (by decide +kernel) (by decide +kernel)
set_option maxRecDepth 20000 in
theorem kw_799 : Cond.instanceMethod ⟨"ThreePoints$Search", "lowerAhead", "(LThreePoints$Ride;II)V"⟩ ∈ xtbl := xtbl_at 799 (by decide +kernel) (by decide +kernel)
set_option maxRecDepth 20000 in
theorem kw_800 : Cond.code ⟨"ThreePoints$Search", "lowerAhead", "(LThreePoints$Ride;II)V"⟩ prog_5_method_4_code 11 none ∈ xtbl := xtbl_at 800 rfl rfl
set_option maxRecDepth 20000 in
theorem kw_801 : Cond.methodLink "ThreePoints$Search" 87 ⟨"ThreePoints$Vehicle", "turns", "(II)I"⟩ ∈ xtbl := xtbl_at 801 (by decide +kernel) (by decide +kernel)
set_option maxRecDepth 20000 in
theorem kw_802 : Cond.methodLink "ThreePoints$Search" 92 ⟨"ThreePoints$Ride", "shift", "(II)I"⟩ ∈ xtbl := xtbl_at 802 (by decide +kernel) (by decide +kernel)
set_option maxRecDepth 20000 in
theorem kw_803 : Cond.methodLink "ThreePoints$Search" 95 ⟨"ThreePoints$Ride", "wears", "(III)I"⟩ ∈ xtbl := xtbl_at 803 (by decide +kernel) (by decide +kernel)
set_option maxRecDepth 20000 in
theorem kw_804 : Cond.methodLink "ThreePoints" 204 ⟨"ThreePoints$Search", "leastFromNow", "(LThreePoints$Ride;)I"⟩ ∈ xtbl := xtbl_at 804 (by decide +kernel) (by decide +kernel)
set_option maxRecDepth 20000 in
theorem kw_805 : Cond.instanceMethod ⟨"ThreePoints$Search", "leastFromNow", "(LThreePoints$Ride;)I"⟩ ∈ xtbl := xtbl_at 805 (by decide +kernel) (by decide +kernel)
set_option maxRecDepth 20000 in
theorem kw_806 : Cond.selects "ThreePoints$Search" ⟨"ThreePoints$Search", "leastFromNow", "(LThreePoints$Ride;)I"⟩ ⟨"ThreePoints$Search", "leastFromNow", "(LThreePoints$Ride;)I"⟩ ∈ xtbl := xtbl_at 806 (by decide +kernel) (by decide +kernel)
set_option maxRecDepth 20000 in
theorem kw_807 : Cond.code ⟨"ThreePoints$Search", "leastFromNow", "(LThreePoints$Ride;)I"⟩ prog_5_method_8_code 2 (some .int) ∈ xtbl := xtbl_at 807 rfl rfl
set_option maxRecDepth 20000 in
theorem kw_808 : Cond.methodLink "ThreePoints$Search" 113 ⟨"ThreePoints$Search", "least", "(LThreePoints$Ride;III)I"⟩ ∈ xtbl := xtbl_at 808 (by decide +kernel) (by decide +kernel)
set_option maxRecDepth 20000 in
theorem kw_809 : Cond.instanceMethod ⟨"ThreePoints$Search", "least", "(LThreePoints$Ride;III)I"⟩ ∈ xtbl := xtbl_at 809 (by decide +kernel) (by decide +kernel)
set_option maxRecDepth 20000 in
theorem kw_810 : Cond.selects "ThreePoints$Search" ⟨"ThreePoints$Search", "least", "(LThreePoints$Ride;III)I"⟩ ⟨"ThreePoints$Search", "least", "(LThreePoints$Ride;III)I"⟩ ∈ xtbl := xtbl_at 810 (by decide +kernel) (by decide +kernel)
set_option maxRecDepth 20000 in
theorem kw_811 : Cond.code ⟨"ThreePoints$Search", "least", "(LThreePoints$Ride;III)I"⟩ prog_5_method_7_code 12 (some .int) ∈ xtbl := xtbl_at 811 rfl rfl
set_option maxRecDepth 20000 in
theorem kw_812 : Cond.methodLink "ThreePoints$Search" 101 ⟨"ThreePoints$Ride", "turnedBy", "(III)I"⟩ ∈ xtbl := xtbl_at 812 (by decide +kernel) (by decide +kernel)
set_option maxRecDepth 20000 in
theorem kw_816 : Cond.code ⟨"ThreePoints", "where", "(II)I"⟩ prog_1_method_14_code 7 (some .int) ∈ xtbl := xtbl_at 816 rfl rfl
set_option maxRecDepth 20000 in
theorem kw_817 : Cond.methodLink "ThreePoints" 211 ⟨"ThreePoints$Search", "least", "(LThreePoints$Ride;III)I"⟩ ∈ xtbl := xtbl_at 817 (by decide +kernel) (by decide +kernel)
set_option maxRecDepth 20000 in
theorem kw_821 : Cond.code ⟨"ThreePoints", "narrow", "(II)I"⟩ prog_1_method_15_code 4 (some .int) ∈ xtbl := xtbl_at 821 rfl rfl
set_option maxRecDepth 20000 in
theorem kw_825 : Cond.code ⟨"ThreePoints", "cut", "(II)I"⟩ prog_1_method_16_code 4 (some .int) ∈ xtbl := xtbl_at 825 rfl rfl
set_option maxRecDepth 20000 in
theorem kw_829 : Cond.code ⟨"ThreePoints", "headings", "(I)I"⟩ prog_1_method_17_code 2 (some .int) ∈ xtbl := xtbl_at 829 rfl rfl
set_option maxRecDepth 20000 in
theorem kw_830 : Cond.methodLink "ThreePoints" 215 ⟨"ThreePoints$Search", "headingsReached", "(LThreePoints$Ride;)I"⟩ ∈ xtbl := xtbl_at 830 (by decide +kernel) (by decide +kernel)
set_option maxRecDepth 20000 in
theorem kw_831 : Cond.instanceMethod ⟨"ThreePoints$Search", "headingsReached", "(LThreePoints$Ride;)I"⟩ ∈ xtbl := xtbl_at 831 (by decide +kernel) (by decide +kernel)
set_option maxRecDepth 20000 in
theorem kw_832 : Cond.selects "ThreePoints$Search" ⟨"ThreePoints$Search", "headingsReached", "(LThreePoints$Ride;)I"⟩ ⟨"ThreePoints$Search", "headingsReached", "(LThreePoints$Ride;)I"⟩ ∈ xtbl := xtbl_at 832 (by decide +kernel) (by decide +kernel)
set_option maxRecDepth 20000 in
theorem kw_833 : Cond.code ⟨"ThreePoints$Search", "headingsReached", "(LThreePoints$Ride;)I"⟩ prog_5_method_9_code 7 (some .int) ∈ xtbl := xtbl_at 833 rfl rfl
set_option maxRecDepth 20000 in
theorem kw_834 : Cond.methodLink "ThreePoints$Search" 117 ⟨"ThreePoints$Search", "addBehind", "(LThreePoints$Ride;III)I"⟩ ∈ xtbl := xtbl_at 834 (by decide +kernel) (by decide +kernel)
set_option maxRecDepth 20000 in
theorem kw_836 : Cond.instanceMethod ⟨"ThreePoints$Search", "addBehind", "(LThreePoints$Ride;III)I"⟩ ∈ xtbl := xtbl_at 836 (by decide +kernel) (by decide +kernel)
set_option maxRecDepth 20000 in
theorem kw_837 : Cond.code ⟨"ThreePoints$Search", "addBehind", "(LThreePoints$Ride;III)I"⟩ prog_5_method_10_code 11 (some .int) ∈ xtbl := xtbl_at 837 rfl rfl
set_option maxRecDepth 20000 in
theorem kw_841 : Cond.code ⟨"ThreePoints", "best", "(I)I"⟩ prog_1_method_18_code 6 (some .int) ∈ xtbl := xtbl_at 841 rfl rfl
set_option maxRecDepth 20000 in
theorem kw_845 : Cond.code ⟨"ThreePoints", "judge", "(II)I"⟩ prog_1_method_19_code 4 (some .int) ∈ xtbl := xtbl_at 845 rfl rfl
set_option maxRecDepth 20000 in
theorem kw_846 : Cond.methodLink "ThreePoints" 218 ⟨"ThreePoints", "refusalOfMoves", "(II)I"⟩ ∈ xtbl := xtbl_at 846 (by decide +kernel) (by decide +kernel)
set_option maxRecDepth 20000 in
theorem kw_848 : Cond.instanceMethod ⟨"ThreePoints", "refusalOfMoves", "(II)I"⟩ ∈ xtbl := xtbl_at 848 (by decide +kernel) (by decide +kernel)
set_option maxRecDepth 20000 in
theorem kw_849 : Cond.code ⟨"ThreePoints", "refusalOfMoves", "(II)I"⟩ prog_1_method_45_code 3 (some .int) ∈ xtbl := xtbl_at 849 rfl rfl
set_option maxRecDepth 20000 in
theorem kw_850 : Cond.methodLink "ThreePoints" 243 ⟨"ThreePoints", "isSheet", "(I)Z"⟩ ∈ xtbl := xtbl_at 850 (by decide +kernel) (by decide +kernel)
set_option maxRecDepth 20000 in
theorem kw_851 : Cond.static ⟨"ThreePoints", "isSheet", "(I)Z"⟩ ∈ xtbl := xtbl_at 851 (by decide +kernel) (by decide +kernel)
set_option maxRecDepth 20000 in
theorem kw_852 : Cond.code ⟨"ThreePoints", "isSheet", "(I)Z"⟩ prog_1_method_40_code 1 (some .boolean) ∈ xtbl := xtbl_at 852 rfl rfl
set_option maxRecDepth 20000 in
theorem kw_853 : Cond.methodLink "ThreePoints" 250 ⟨"ThreePoints$Sheet", "isMissing", "()Z"⟩ ∈ xtbl := xtbl_at 853 (by decide +kernel) (by decide +kernel)
set_option maxRecDepth 20000 in
theorem kw_854 : Cond.instanceMethod ⟨"ThreePoints$Sheet", "isMissing", "()Z"⟩ ∈ xtbl := xtbl_at 854 (by decide +kernel) (by decide +kernel)
set_option maxRecDepth 20000 in
theorem kw_855 : Cond.selects "ThreePoints$Sheet" ⟨"ThreePoints$Sheet", "isMissing", "()Z"⟩ ⟨"ThreePoints$Sheet", "isMissing", "()Z"⟩ ∈ xtbl := xtbl_at 855 (by decide +kernel) (by decide +kernel)
set_option maxRecDepth 20000 in
theorem kw_856 : Cond.code ⟨"ThreePoints$Sheet", "isMissing", "()Z"⟩ prog_6_method_2_code 1 (some .boolean) ∈ xtbl := xtbl_at 856 rfl rfl
set_option maxRecDepth 20000 in
theorem kw_857 : Cond.methodLink "ThreePoints" 290 ⟨"ThreePoints$Sheet", "tellsMoves", "()Z"⟩ ∈ xtbl := xtbl_at 857 (by decide +kernel) (by decide +kernel)
set_option maxRecDepth 20000 in
theorem kw_858 : Cond.instanceMethod ⟨"ThreePoints$Sheet", "tellsMoves", "()Z"⟩ ∈ xtbl := xtbl_at 858 (by decide +kernel) (by decide +kernel)
set_option maxRecDepth 20000 in
theorem kw_859 : Cond.selects "ThreePoints$Sheet" ⟨"ThreePoints$Sheet", "tellsMoves", "()Z"⟩ ⟨"ThreePoints$Sheet", "tellsMoves", "()Z"⟩ ∈ xtbl := xtbl_at 859 (by decide +kernel) (by decide +kernel)
set_option maxRecDepth 20000 in
theorem kw_860 : Cond.code ⟨"ThreePoints$Sheet", "tellsMoves", "()Z"⟩ prog_6_method_8_code 2 (some .boolean) ∈ xtbl := xtbl_at 860 rfl rfl
set_option maxRecDepth 20000 in
theorem kw_862 : Cond.methodLink "ThreePoints" 221 ⟨"ThreePoints$Ride", "through", "(LThreePoints$Sheet;)I"⟩ ∈ xtbl := xtbl_at 862 (by decide +kernel) (by decide +kernel)
set_option maxRecDepth 20000 in
theorem kw_863 : Cond.instanceMethod ⟨"ThreePoints$Ride", "through", "(LThreePoints$Sheet;)I"⟩ ∈ xtbl := xtbl_at 863 (by decide +kernel) (by decide +kernel)
set_option maxRecDepth 20000 in
theorem kw_864 : Cond.selects "ThreePoints$Ride" ⟨"ThreePoints$Ride", "through", "(LThreePoints$Sheet;)I"⟩ ⟨"ThreePoints$Ride", "through", "(LThreePoints$Sheet;)I"⟩ ∈ xtbl := xtbl_at 864 (by decide +kernel) (by decide +kernel)
set_option maxRecDepth 20000 in
theorem kw_865 : Cond.code ⟨"ThreePoints$Ride", "through", "(LThreePoints$Sheet;)I"⟩ prog_4_method_10_code 5 (some .int) ∈ xtbl := xtbl_at 865 rfl rfl
set_option maxRecDepth 20000 in
theorem kw_866 : Cond.methodLink "ThreePoints$Ride" 108 ⟨"ThreePoints$Sheet", "get", "(I)I"⟩ ∈ xtbl := xtbl_at 866 (by decide +kernel) (by decide +kernel)
set_option maxRecDepth 20000 in
theorem kw_867 : Cond.instanceMethod ⟨"ThreePoints$Sheet", "get", "(I)I"⟩ ∈ xtbl := xtbl_at 867 (by decide +kernel) (by decide +kernel)
set_option maxRecDepth 20000 in
theorem kw_868 : Cond.selects "ThreePoints$Sheet" ⟨"ThreePoints$Sheet", "get", "(I)I"⟩ ⟨"ThreePoints$Sheet", "get", "(I)I"⟩ ∈ xtbl := xtbl_at 868 (by decide +kernel) (by decide +kernel)
set_option maxRecDepth 20000 in
theorem kw_869 : Cond.code ⟨"ThreePoints$Sheet", "get", "(I)I"⟩ prog_6_method_6_code 2 (some .int) ∈ xtbl := xtbl_at 869 rfl rfl
set_option maxRecDepth 20000 in
theorem kw_870 : Cond.methodLink "ThreePoints$Sheet" 37 ⟨"ThreePoints$Sheet", "has", "(I)Z"⟩ ∈ xtbl := xtbl_at 870 (by decide +kernel) (by decide +kernel)
set_option maxRecDepth 20000 in
theorem kw_871 : Cond.instanceMethod ⟨"ThreePoints$Sheet", "has", "(I)Z"⟩ ∈ xtbl := xtbl_at 871 (by decide +kernel) (by decide +kernel)
set_option maxRecDepth 20000 in
theorem kw_872 : Cond.selects "ThreePoints$Sheet" ⟨"ThreePoints$Sheet", "has", "(I)Z"⟩ ⟨"ThreePoints$Sheet", "has", "(I)Z"⟩ ∈ xtbl := xtbl_at 872 (by decide +kernel) (by decide +kernel)
set_option maxRecDepth 20000 in
theorem kw_873 : Cond.code ⟨"ThreePoints$Sheet", "has", "(I)Z"⟩ prog_6_method_4_code 2 (some .boolean) ∈ xtbl := xtbl_at 873 rfl rfl
set_option maxRecDepth 20000 in
theorem kw_874 : Cond.methodLink "ThreePoints$Ride" 111 ⟨"ThreePoints$Ride", "go", "(II)Z"⟩ ∈ xtbl := xtbl_at 874 (by decide +kernel) (by decide +kernel)
set_option maxRecDepth 20000 in
theorem kw_878 : Cond.code ⟨"ThreePoints", "ends", "(III)I"⟩ prog_1_method_20_code 5 (some .int) ∈ xtbl := xtbl_at 878 rfl rfl
set_option maxRecDepth 20000 in
theorem kw_882 : Cond.code ⟨"ThreePoints", "kinds", "(III)I"⟩ prog_1_method_21_code 9 (some .int) ∈ xtbl := xtbl_at 882 rfl rfl
set_option maxRecDepth 20000 in
theorem kw_886 : Cond.code ⟨"ThreePoints", "widths", "(III)I"⟩ prog_1_method_22_code 8 (some .int) ∈ xtbl := xtbl_at 886 rfl rfl
set_option maxRecDepth 20000 in
theorem kw_890 : Cond.code ⟨"ThreePoints", "laws", "(II)I"⟩ prog_1_method_23_code 6 (some .int) ∈ xtbl := xtbl_at 890 rfl rfl
set_option maxRecDepth 20000 in
theorem kw_894 : Cond.code ⟨"ThreePoints", "drawn", "(IIII)I"⟩ prog_1_method_24_code 6 (some .int) ∈ xtbl := xtbl_at 894 rfl rfl
set_option maxRecDepth 20000 in
theorem kw_895 : Cond.constant "ThreePoints" 227 (99999) ∈ xtbl := xtbl_at 895 (by decide +kernel) (by decide +kernel)
set_option maxRecDepth 20000 in
theorem kw_896 : Cond.methodLink "ThreePoints" 228 ⟨"ThreePoints$Ride", "byLots", "(II)I"⟩ ∈ xtbl := xtbl_at 896 (by decide +kernel) (by decide +kernel)
set_option maxRecDepth 20000 in
theorem kw_897 : Cond.instanceMethod ⟨"ThreePoints$Ride", "byLots", "(II)I"⟩ ∈ xtbl := xtbl_at 897 (by decide +kernel) (by decide +kernel)
set_option maxRecDepth 20000 in
theorem kw_898 : Cond.selects "ThreePoints$Ride" ⟨"ThreePoints$Ride", "byLots", "(II)I"⟩ ⟨"ThreePoints$Ride", "byLots", "(II)I"⟩ ∈ xtbl := xtbl_at 898 (by decide +kernel) (by decide +kernel)
set_option maxRecDepth 20000 in
theorem kw_899 : Cond.code ⟨"ThreePoints$Ride", "byLots", "(II)I"⟩ prog_4_method_11_code 9 (some .int) ∈ xtbl := xtbl_at 899 rfl rfl
set_option maxRecDepth 20000 in
theorem kw_900 : Cond.constantLong "ThreePoints$Ride" 114 (48271) ∈ xtbl := xtbl_at 900 (by decide +kernel) (by decide +kernel)
set_option maxRecDepth 20000 in
theorem kw_901 : Cond.constantLong "ThreePoints$Ride" 116 (2147483647) ∈ xtbl := xtbl_at 901 (by decide +kernel) (by decide +kernel)
set_option maxRecDepth 20000 in
theorem kw_902 : Cond.constantLong "ThreePoints$Ride" 118 (2) ∈ xtbl := xtbl_at 902 (by decide +kernel) (by decide +kernel)
set_option maxRecDepth 20000 in
theorem kw_903 : Cond.constantLong "ThreePoints$Ride" 120 (3) ∈ xtbl := xtbl_at 903 (by decide +kernel) (by decide +kernel)
set_option maxRecDepth 20000 in
theorem kw_904 : Cond.constantLong "ThreePoints$Ride" 122 (6) ∈ xtbl := xtbl_at 904 (by decide +kernel) (by decide +kernel)
set_option maxRecDepth 20000 in
theorem kw_905 : Cond.constantLong "ThreePoints$Ride" 124 (100) ∈ xtbl := xtbl_at 905 (by decide +kernel) (by decide +kernel)
set_option maxRecDepth 20000 in
theorem kw_909 : Cond.code ⟨"ThreePoints", "odds", "(IIII)J"⟩ prog_1_method_25_code 9 (some .long) ∈ xtbl := xtbl_at 909 rfl rfl
set_option maxRecDepth 20000 in
theorem kw_910 : Cond.constantLong "ThreePoints" 231 (-4611686018427387904) ∈ xtbl := xtbl_at 910 (by decide +kernel) (by decide +kernel)
set_option maxRecDepth 20000 in
theorem kw_911 : Cond.methodLink "ThreePoints" 233 ⟨"ThreePoints", "commonDivisor", "(II)I"⟩ ∈ xtbl := xtbl_at 911 (by decide +kernel) (by decide +kernel)
set_option maxRecDepth 20000 in
theorem kw_912 : Cond.static ⟨"ThreePoints", "commonDivisor", "(II)I"⟩ ∈ xtbl := xtbl_at 912 (by decide +kernel) (by decide +kernel)
set_option maxRecDepth 20000 in
theorem kw_913 : Cond.code ⟨"ThreePoints", "commonDivisor", "(II)I"⟩ prog_1_method_38_code 3 (some .int) ∈ xtbl := xtbl_at 913 rfl rfl
set_option maxRecDepth 20000 in
theorem kw_917 : Cond.code ⟨"ThreePoints", "image", "()I"⟩ prog_1_method_26_code 1 (some .int) ∈ xtbl := xtbl_at 917 rfl rfl
set_option maxRecDepth 20000 in
theorem kw_918 : Cond.methodLink "ThreePoints" 236 ⟨"ThreePoints$Yard", "become", "(LThreePoints$Yard;)V"⟩ ∈ xtbl := xtbl_at 918 (by decide +kernel) (by decide +kernel)
set_option maxRecDepth 20000 in
theorem kw_919 : Cond.instanceMethod ⟨"ThreePoints$Yard", "become", "(LThreePoints$Yard;)V"⟩ ∈ xtbl := xtbl_at 919 (by decide +kernel) (by decide +kernel)
set_option maxRecDepth 20000 in
theorem kw_920 : Cond.selects "ThreePoints$Yard" ⟨"ThreePoints$Yard", "become", "(LThreePoints$Yard;)V"⟩ ⟨"ThreePoints$Yard", "become", "(LThreePoints$Yard;)V"⟩ ∈ xtbl := xtbl_at 920 (by decide +kernel) (by decide +kernel)
set_option maxRecDepth 20000 in
theorem kw_921 : Cond.code ⟨"ThreePoints$Yard", "become", "(LThreePoints$Yard;)V"⟩ prog_10_method_2_code 3 none ∈ xtbl := xtbl_at 921 rfl rfl
set_option maxRecDepth 20000 in
theorem kw_922 : Cond.methodLink "ThreePoints$Yard" 25 ⟨"ThreePoints$Lane", "become", "(LThreePoints$Lane;)V"⟩ ∈ xtbl := xtbl_at 922 (by decide +kernel) (by decide +kernel)
set_option maxRecDepth 20000 in
theorem kw_923 : Cond.methodLink "ThreePoints$Yard" 29 ⟨"ThreePoints$Vehicle", "become", "(LThreePoints$Vehicle;)V"⟩ ∈ xtbl := xtbl_at 923 (by decide +kernel) (by decide +kernel)
set_option maxRecDepth 20000 in
theorem kw_927 : Cond.code ⟨"ThreePoints", "back", "()I"⟩ prog_1_method_27_code 1 (some .int) ∈ xtbl := xtbl_at 927 rfl rfl
set_option maxRecDepth 20000 in
theorem kw_931 : Cond.code ⟨"ThreePoints", "sheet", "(III)I"⟩ prog_1_method_28_code 4 (some .int) ∈ xtbl := xtbl_at 931 rfl rfl
set_option maxRecDepth 20000 in
theorem kw_932 : Cond.methodLink "ThreePoints" 246 ⟨"ThreePoints$Sheet", "renew", "(II)V"⟩ ∈ xtbl := xtbl_at 932 (by decide +kernel) (by decide +kernel)
set_option maxRecDepth 20000 in
theorem kw_933 : Cond.instanceMethod ⟨"ThreePoints$Sheet", "renew", "(II)V"⟩ ∈ xtbl := xtbl_at 933 (by decide +kernel) (by decide +kernel)
set_option maxRecDepth 20000 in
theorem kw_934 : Cond.selects "ThreePoints$Sheet" ⟨"ThreePoints$Sheet", "renew", "(II)V"⟩ ⟨"ThreePoints$Sheet", "renew", "(II)V"⟩ ∈ xtbl := xtbl_at 934 (by decide +kernel) (by decide +kernel)
set_option maxRecDepth 20000 in
theorem kw_935 : Cond.code ⟨"ThreePoints$Sheet", "renew", "(II)V"⟩ prog_6_method_3_code 3 none ∈ xtbl := xtbl_at 935 rfl rfl
set_option maxRecDepth 20000 in
theorem kw_936 : Cond.methodLink "ThreePoints$Sheet" 19 ⟨"java/lang/Math", "min", "(II)I"⟩ ∈ xtbl := xtbl_at 936 (by decide +kernel) (by decide +kernel)
set_option maxRecDepth 20000 in
theorem kw_937 : Cond.methodLink "ThreePoints$Sheet" 25 ⟨"java/lang/Math", "max", "(II)I"⟩ ∈ xtbl := xtbl_at 937 (by decide +kernel) (by decide +kernel)
set_option maxRecDepth 20000 in
theorem kw_938 : Cond.methodLink "ThreePoints$Sheet" 31 ⟨"java/util/Arrays", "fill", "([II)V"⟩ ∈ xtbl := xtbl_at 938 (by decide +kernel) (by decide +kernel)
set_option maxRecDepth 20000 in
theorem kw_942 : Cond.code ⟨"ThreePoints", "cell", "(III)I"⟩ prog_1_method_29_code 4 (some .int) ∈ xtbl := xtbl_at 942 rfl rfl
set_option maxRecDepth 20000 in
theorem kw_943 : Cond.methodLink "ThreePoints" 253 ⟨"ThreePoints$Sheet", "has", "(I)Z"⟩ ∈ xtbl := xtbl_at 943 (by decide +kernel) (by decide +kernel)
set_option maxRecDepth 20000 in
theorem kw_944 : Cond.methodLink "ThreePoints" 256 ⟨"ThreePoints$Sheet", "put", "(II)V"⟩ ∈ xtbl := xtbl_at 944 (by decide +kernel) (by decide +kernel)
set_option maxRecDepth 20000 in
theorem kw_945 : Cond.instanceMethod ⟨"ThreePoints$Sheet", "put", "(II)V"⟩ ∈ xtbl := xtbl_at 945 (by decide +kernel) (by decide +kernel)
set_option maxRecDepth 20000 in
theorem kw_946 : Cond.selects "ThreePoints$Sheet" ⟨"ThreePoints$Sheet", "put", "(II)V"⟩ ⟨"ThreePoints$Sheet", "put", "(II)V"⟩ ∈ xtbl := xtbl_at 946 (by decide +kernel) (by decide +kernel)
set_option maxRecDepth 20000 in
theorem kw_947 : Cond.code ⟨"ThreePoints$Sheet", "put", "(II)V"⟩ prog_6_method_7_code 3 none ∈ xtbl := xtbl_at 947 rfl rfl
set_option maxRecDepth 20000 in
theorem kw_951 : Cond.code ⟨"ThreePoints", "copy", "(IIIII)I"⟩ prog_1_method_30_code 8 (some .int) ∈ xtbl := xtbl_at 951 rfl rfl
set_option maxRecDepth 20000 in
theorem kw_952 : Cond.methodLink "ThreePoints" 262 ⟨"ThreePoints$Sheet", "hasRow", "(II)Z"⟩ ∈ xtbl := xtbl_at 952 (by decide +kernel) (by decide +kernel)
set_option maxRecDepth 20000 in
theorem kw_953 : Cond.instanceMethod ⟨"ThreePoints$Sheet", "hasRow", "(II)Z"⟩ ∈ xtbl := xtbl_at 953 (by decide +kernel) (by decide +kernel)
set_option maxRecDepth 20000 in
theorem kw_954 : Cond.selects "ThreePoints$Sheet" ⟨"ThreePoints$Sheet", "hasRow", "(II)Z"⟩ ⟨"ThreePoints$Sheet", "hasRow", "(II)Z"⟩ ∈ xtbl := xtbl_at 954 (by decide +kernel) (by decide +kernel)
set_option maxRecDepth 20000 in
theorem kw_955 : Cond.code ⟨"ThreePoints$Sheet", "hasRow", "(II)Z"⟩ prog_6_method_5_code 3 (some .boolean) ∈ xtbl := xtbl_at 955 rfl rfl
set_option maxRecDepth 20000 in
theorem kw_956 : Cond.methodLink "ThreePoints" 269 arraycopyName ∈ xtbl := xtbl_at 956 (by decide +kernel) (by decide +kernel)
set_option maxRecDepth 20000 in
theorem kw_960 : Cond.code ⟨"ThreePoints", "vehiclesBy", "(IIII)I"⟩ prog_1_method_31_code 9 (some .int) ∈ xtbl := xtbl_at 960 rfl rfl
set_option maxRecDepth 20000 in
theorem kw_961 : Cond.methodLink "ThreePoints" 275 ⟨"ThreePoints$Sheet", "get", "(I)I"⟩ ∈ xtbl := xtbl_at 961 (by decide +kernel) (by decide +kernel)
set_option maxRecDepth 20000 in
theorem kw_965 : Cond.code ⟨"ThreePoints", "taken", "(II)I"⟩ prog_1_method_32_code 3 (some .int) ∈ xtbl := xtbl_at 965 rfl rfl
set_option maxRecDepth 20000 in
theorem kw_966 : Cond.methodLink "ThreePoints" 278 ⟨"ThreePoints", "across", "(I)I"⟩ ∈ xtbl := xtbl_at 966 (by decide +kernel) (by decide +kernel)
set_option maxRecDepth 20000 in
theorem kw_967 : Cond.methodLink "ThreePoints" 281 ⟨"ThreePoints$Vehicle", "isA", "(I)Z"⟩ ∈ xtbl := xtbl_at 967 (by decide +kernel) (by decide +kernel)
set_option maxRecDepth 20000 in
theorem kw_968 : Cond.instanceMethod ⟨"ThreePoints$Vehicle", "isA", "(I)Z"⟩ ∈ xtbl := xtbl_at 968 (by decide +kernel) (by decide +kernel)
set_option maxRecDepth 20000 in
theorem kw_969 : Cond.selects "ThreePoints$Vehicle" ⟨"ThreePoints$Vehicle", "isA", "(I)Z"⟩ ⟨"ThreePoints$Vehicle", "isA", "(I)Z"⟩ ∈ xtbl := xtbl_at 969 (by decide +kernel) (by decide +kernel)
set_option maxRecDepth 20000 in
theorem kw_970 : Cond.code ⟨"ThreePoints$Vehicle", "isA", "(I)Z"⟩ prog_9_method_4_code 4 (some .boolean) ∈ xtbl := xtbl_at 970 rfl rfl
set_option maxRecDepth 20000 in
theorem kw_971 : Cond.fieldLink "ThreePoints$Vehicle" 33 "ThreePoints$Vehicle" "ABOVE" "[I" ∈ xtbl := xtbl_at 971 (by decide +kernel) (by decide +kernel)
set_option maxRecDepth 20000 in
theorem kw_982 : Cond.code ⟨"ThreePointsModel", "text", "()I"⟩ prog_12_method_23_code 3 (some .int) ∈ xtbl := xtbl_at 982 rfl rfl
set_option maxRecDepth 20000 in
theorem kw_983 : Cond.methodLink "ThreePointsModel" 163 ⟨"ThreePointsModel", "next", "()V"⟩ ∈ xtbl := xtbl_at 983 (by decide +kernel) (by decide +kernel)
set_option maxRecDepth 20000 in
theorem kw_985 : Cond.instanceMethod ⟨"ThreePointsModel", "next", "()V"⟩ ∈ xtbl := xtbl_at 985 (by decide +kernel) (by decide +kernel)
set_option maxRecDepth 20000 in
theorem kw_986 : Cond.code ⟨"ThreePointsModel", "next", "()V"⟩ prog_12_method_14_code 3 none ∈ xtbl := xtbl_at 986 rfl rfl
set_option maxRecDepth 20000 in
theorem kw_987 : Cond.methodLink "ThreePointsModel" 97 ⟨"ThreePointsModel", "in", "(III)Z"⟩ ∈ xtbl := xtbl_at 987 (by decide +kernel) (by decide +kernel)
set_option maxRecDepth 20000 in
theorem kw_988 : Cond.static ⟨"ThreePointsModel", "in", "(III)Z"⟩ ∈ xtbl := xtbl_at 988 (by decide +kernel) (by decide +kernel)
set_option maxRecDepth 20000 in
theorem kw_989 : Cond.code ⟨"ThreePointsModel", "in", "(III)Z"⟩ prog_12_method_3_code 3 (some .boolean) ∈ xtbl := xtbl_at 989 rfl rfl
set_option maxRecDepth 20000 in
theorem kw_990 : Cond.methodLink "ThreePointsModel" 136 ⟨"ThreePointsModel", "wordFrom", "(II)I"⟩ ∈ xtbl := xtbl_at 990 (by decide +kernel) (by decide +kernel)
set_option maxRecDepth 20000 in
theorem kw_992 : Cond.instanceMethod ⟨"ThreePointsModel", "wordFrom", "(II)I"⟩ ∈ xtbl := xtbl_at 992 (by decide +kernel) (by decide +kernel)
set_option maxRecDepth 20000 in
theorem kw_993 : Cond.code ⟨"ThreePointsModel", "wordFrom", "(II)I"⟩ prog_12_method_13_code 6 (some .int) ∈ xtbl := xtbl_at 993 rfl rfl
set_option maxRecDepth 20000 in
theorem kw_994 : Cond.methodLink "ThreePointsModel" 176 ⟨"ThreePointsModel", "eRead", "()Z"⟩ ∈ xtbl := xtbl_at 994 (by decide +kernel) (by decide +kernel)
set_option maxRecDepth 20000 in
theorem kw_996 : Cond.instanceMethod ⟨"ThreePointsModel", "eRead", "()Z"⟩ ∈ xtbl := xtbl_at 996 (by decide +kernel) (by decide +kernel)
set_option maxRecDepth 20000 in
theorem kw_997 : Cond.code ⟨"ThreePointsModel", "eRead", "()Z"⟩ prog_12_method_22_code 4 (some .boolean) ∈ xtbl := xtbl_at 997 rfl rfl
set_option maxRecDepth 20000 in
theorem kw_998 : Cond.constant "ThreePointsModel" 166 (100000) ∈ xtbl := xtbl_at 998 (by decide +kernel) (by decide +kernel)
set_option maxRecDepth 20000 in
theorem kw_999 : Cond.methodLink "ThreePointsModel" 153 ⟨"ThreePointsModel", "puts", "(I)V"⟩ ∈ xtbl := xtbl_at 999 (by decide +kernel) (by decide +kernel)
set_option maxRecDepth 20000 in
theorem kw_1001 : Cond.instanceMethod ⟨"ThreePointsModel", "puts", "(I)V"⟩ ∈ xtbl := xtbl_at 1001 (by decide +kernel) (by decide +kernel)
set_option maxRecDepth 20000 in
theorem kw_1002 : Cond.code ⟨"ThreePointsModel", "puts", "(I)V"⟩ prog_12_method_16_code 2 none ∈ xtbl := xtbl_at 1002 rfl rfl
set_option maxRecDepth 20000 in
theorem kw_1003 : Cond.methodLink "ThreePointsModel" 160 ⟨"ThreePointsModel", "unwinds", "(I)V"⟩ ∈ xtbl := xtbl_at 1003 (by decide +kernel) (by decide +kernel)
set_option maxRecDepth 20000 in
theorem kw_1005 : Cond.instanceMethod ⟨"ThreePointsModel", "unwinds", "(I)V"⟩ ∈ xtbl := xtbl_at 1005 (by decide +kernel) (by decide +kernel)
set_option maxRecDepth 20000 in
theorem kw_1006 : Cond.code ⟨"ThreePointsModel", "unwinds", "(I)V"⟩ prog_12_method_17_code 3 none ∈ xtbl := xtbl_at 1006 rfl rfl
set_option maxRecDepth 20000 in
theorem kw_1007 : Cond.methodLink "ThreePointsModel" 146 ⟨"ThreePointsModel", "rank", "(I)I"⟩ ∈ xtbl := xtbl_at 1007 (by decide +kernel) (by decide +kernel)
set_option maxRecDepth 20000 in
theorem kw_1008 : Cond.static ⟨"ThreePointsModel", "rank", "(I)I"⟩ ∈ xtbl := xtbl_at 1008 (by decide +kernel) (by decide +kernel)
set_option maxRecDepth 20000 in
theorem kw_1009 : Cond.code ⟨"ThreePointsModel", "rank", "(I)I"⟩ prog_12_method_15_code 1 (some .int) ∈ xtbl := xtbl_at 1009 rfl rfl
set_option maxRecDepth 20000 in
theorem kw_1010 : Cond.methodLink "ThreePointsModel" 167 ⟨"ThreePointsModel", "opensOne", "(I)Z"⟩ ∈ xtbl := xtbl_at 1010 (by decide +kernel) (by decide +kernel)
set_option maxRecDepth 20000 in
theorem kw_1012 : Cond.instanceMethod ⟨"ThreePointsModel", "opensOne", "(I)Z"⟩ ∈ xtbl := xtbl_at 1012 (by decide +kernel) (by decide +kernel)
set_option maxRecDepth 20000 in
theorem kw_1013 : Cond.code ⟨"ThreePointsModel", "opensOne", "(I)Z"⟩ prog_12_method_19_code 2 (some .boolean) ∈ xtbl := xtbl_at 1013 rfl rfl
set_option maxRecDepth 20000 in
theorem kw_1014 : Cond.methodLink "ThreePointsModel" 157 ⟨"ThreePointsModel", "holds", "(I)V"⟩ ∈ xtbl := xtbl_at 1014 (by decide +kernel) (by decide +kernel)
set_option maxRecDepth 20000 in
theorem kw_1016 : Cond.instanceMethod ⟨"ThreePointsModel", "holds", "(I)V"⟩ ∈ xtbl := xtbl_at 1016 (by decide +kernel) (by decide +kernel)
set_option maxRecDepth 20000 in
theorem kw_1017 : Cond.code ⟨"ThreePointsModel", "holds", "(I)V"⟩ prog_12_method_18_code 2 none ∈ xtbl := xtbl_at 1017 rfl rfl
set_option maxRecDepth 20000 in
theorem kw_1018 : Cond.methodLink "ThreePointsModel" 170 ⟨"ThreePointsModel", "signOf", "()I"⟩ ∈ xtbl := xtbl_at 1018 (by decide +kernel) (by decide +kernel)
set_option maxRecDepth 20000 in
theorem kw_1020 : Cond.instanceMethod ⟨"ThreePointsModel", "signOf", "()I"⟩ ∈ xtbl := xtbl_at 1020 (by decide +kernel) (by decide +kernel)
set_option maxRecDepth 20000 in
theorem kw_1021 : Cond.code ⟨"ThreePointsModel", "signOf", "()I"⟩ prog_12_method_21_code 1 (some .int) ∈ xtbl := xtbl_at 1021 rfl rfl
set_option maxRecDepth 20000 in
theorem kw_1022 : Cond.methodLink "ThreePointsModel" 173 ⟨"ThreePointsModel", "between", "(I)Z"⟩ ∈ xtbl := xtbl_at 1022 (by decide +kernel) (by decide +kernel)
set_option maxRecDepth 20000 in
theorem kw_1024 : Cond.instanceMethod ⟨"ThreePointsModel", "between", "(I)Z"⟩ ∈ xtbl := xtbl_at 1024 (by decide +kernel) (by decide +kernel)
set_option maxRecDepth 20000 in
theorem kw_1025 : Cond.code ⟨"ThreePointsModel", "between", "(I)Z"⟩ prog_12_method_20_code 2 (some .boolean) ∈ xtbl := xtbl_at 1025 rfl rfl
set_option maxRecDepth 20000 in
theorem kw_1026 : Cond.fieldLink "ThreePointsModel" 7 "ThreePointsModel" "across" "[I" ∈ xtbl := xtbl_at 1026 (by decide +kernel) (by decide +kernel)
set_option maxRecDepth 20000 in
theorem kw_1027 : Cond.fieldLink "ThreePointsModel" 13 "ThreePointsModel" "width" "I" ∈ xtbl := xtbl_at 1027 (by decide +kernel) (by decide +kernel)
set_option maxRecDepth 20000 in
theorem kw_1028 : Cond.fieldLink "ThreePointsModel" 105 "ThreePointsModel" "opening" "I" ∈ xtbl := xtbl_at 1028 (by decide +kernel) (by decide +kernel)
set_option maxRecDepth 20000 in
theorem kw_1029 : Cond.fieldLink "ThreePointsModel" 94 "ThreePointsModel" "vehicles" "I" ∈ xtbl := xtbl_at 1029 (by decide +kernel) (by decide +kernel)
set_option maxRecDepth 20000 in
theorem kw_1030 : Cond.fieldLink "ThreePointsModel" 17 "ThreePointsModel" "kind" "[I" ∈ xtbl := xtbl_at 1030 (by decide +kernel) (by decide +kernel)
set_option maxRecDepth 20000 in
theorem kw_1031 : Cond.fieldLink "ThreePointsModel" 20 "ThreePointsModel" "moreOf" "[I" ∈ xtbl := xtbl_at 1031 (by decide +kernel) (by decide +kernel)
set_option maxRecDepth 20000 in
theorem kw_1032 : Cond.fieldLink "ThreePointsModel" 23 "ThreePointsModel" "rows" "[I" ∈ xtbl := xtbl_at 1032 (by decide +kernel) (by decide +kernel)
set_option maxRecDepth 20000 in
theorem kw_1033 : Cond.fieldLink "ThreePointsModel" 26 "ThreePointsModel" "tape" "[I" ∈ xtbl := xtbl_at 1033 (by decide +kernel) (by decide +kernel)
set_option maxRecDepth 20000 in
theorem kw_1034 : Cond.fieldLink "ThreePointsModel" 87 "ThreePointsModel" "taped" "I" ∈ xtbl := xtbl_at 1034 (by decide +kernel) (by decide +kernel)
set_option maxRecDepth 20000 in
theorem kw_1035 : Cond.fieldLink "ThreePointsModel" 29 "ThreePointsModel" "codes" "[I" ∈ xtbl := xtbl_at 1035 (by decide +kernel) (by decide +kernel)
set_option maxRecDepth 20000 in
theorem kw_1036 : Cond.fieldLink "ThreePointsModel" 32 "ThreePointsModel" "starts" "[I" ∈ xtbl := xtbl_at 1036 (by decide +kernel) (by decide +kernel)
set_option maxRecDepth 20000 in
theorem kw_1037 : Cond.fieldLink "ThreePointsModel" 108 "ThreePointsModel" "texts" "I" ∈ xtbl := xtbl_at 1037 (by decide +kernel) (by decide +kernel)
set_option maxRecDepth 20000 in
theorem kw_1038 : Cond.fieldLink "ThreePointsModel" 111 "ThreePointsModel" "rule" "I" ∈ xtbl := xtbl_at 1038 (by decide +kernel) (by decide +kernel)
set_option maxRecDepth 20000 in
theorem kw_1039 : Cond.fieldLink "ThreePointsModel" 294 "ThreePointsModel" "hasImage" "Z" ∈ xtbl := xtbl_at 1039 (by decide +kernel) (by decide +kernel)
set_option maxRecDepth 20000 in
theorem kw_1040 : Cond.fieldLink "ThreePointsModel" 35 "ThreePointsModel" "imageRows" "[I" ∈ xtbl := xtbl_at 1040 (by decide +kernel) (by decide +kernel)
set_option maxRecDepth 20000 in
theorem kw_1041 : Cond.fieldLink "ThreePointsModel" 38 "ThreePointsModel" "imageHeld" "[I" ∈ xtbl := xtbl_at 1041 (by decide +kernel) (by decide +kernel)
set_option maxRecDepth 20000 in
theorem kw_1042 : Cond.fieldLink "ThreePointsModel" 41 "ThreePointsModel" "sheetSort" "[I" ∈ xtbl := xtbl_at 1042 (by decide +kernel) (by decide +kernel)
set_option maxRecDepth 20000 in
theorem kw_1043 : Cond.fieldLink "ThreePointsModel" 44 "ThreePointsModel" "sheetSize" "[I" ∈ xtbl := xtbl_at 1043 (by decide +kernel) (by decide +kernel)
set_option maxRecDepth 20000 in
theorem kw_1044 : Cond.fieldLink "ThreePointsModel" 47 "ThreePointsModel" "cells" "[I" ∈ xtbl := xtbl_at 1044 (by decide +kernel) (by decide +kernel)
set_option maxRecDepth 20000 in
theorem kw_1046 : Cond.fieldLink "ThreePointsModel" 124 "ThreePointsModel" "at" "I" ∈ xtbl := xtbl_at 1046 (by decide +kernel) (by decide +kernel)
set_option maxRecDepth 20000 in
theorem kw_1047 : Cond.fieldLink "ThreePointsModel" 127 "ThreePointsModel" "begun" "I" ∈ xtbl := xtbl_at 1047 (by decide +kernel) (by decide +kernel)
set_option maxRecDepth 20000 in
theorem kw_1048 : Cond.fieldLink "ThreePointsModel" 130 "ThreePointsModel" "token" "I" ∈ xtbl := xtbl_at 1048 (by decide +kernel) (by decide +kernel)
set_option maxRecDepth 20000 in
theorem kw_1049 : Cond.fieldLink "ThreePointsModel" 133 "ThreePointsModel" "value" "I" ∈ xtbl := xtbl_at 1049 (by decide +kernel) (by decide +kernel)
set_option maxRecDepth 20000 in
theorem kw_1050 : Cond.fieldLink "ThreePointsModel" 53 "ThreePointsModel" "words" "[I" ∈ xtbl := xtbl_at 1050 (by decide +kernel) (by decide +kernel)
set_option maxRecDepth 20000 in
theorem kw_1051 : Cond.fieldLink "ThreePointsModel" 56 "ThreePointsModel" "held" "[I" ∈ xtbl := xtbl_at 1051 (by decide +kernel) (by decide +kernel)
set_option maxRecDepth 20000 in
theorem kw_1052 : Cond.fieldLink "ThreePointsModel" 143 "ThreePointsModel" "heldMany" "I" ∈ xtbl := xtbl_at 1052 (by decide +kernel) (by decide +kernel)
set_option maxRecDepth 20000 in
theorem kw_1053 : Cond.fieldLink "ThreePointsModel" 150 "ThreePointsModel" "opens" "I" ∈ xtbl := xtbl_at 1053 (by decide +kernel) (by decide +kernel)
set_option maxRecDepth 20000 in
theorem kw_1054 : Cond.fieldLink "ThreePointsModel" 140 "ThreePointsModel" "out" "I" ∈ xtbl := xtbl_at 1054 (by decide +kernel) (by decide +kernel)
set_option maxRecDepth 20000 in
theorem kw_1055 : Cond.fieldLink "ThreePointsModel" 59 "ThreePointsModel" "stack" "[I" ∈ xtbl := xtbl_at 1055 (by decide +kernel) (by decide +kernel)
set_option maxRecDepth 20000 in
theorem kw_1056 : Cond.fieldLink "ThreePointsModel" 62 "ThreePointsModel" "named" "[I" ∈ xtbl := xtbl_at 1056 (by decide +kernel) (by decide +kernel)
set_option maxRecDepth 20000 in
theorem kw_1057 : Cond.fieldLink "ThreePointsModel" 65 "ThreePointsModel" "fitsIn" "[Z" ∈ xtbl := xtbl_at 1057 (by decide +kernel) (by decide +kernel)
set_option maxRecDepth 20000 in
theorem kw_1058 : Cond.fieldLink "ThreePointsModel" 69 "ThreePointsModel" "wearIn" "[I" ∈ xtbl := xtbl_at 1058 (by decide +kernel) (by decide +kernel)
set_option maxRecDepth 20000 in
theorem kw_1059 : Cond.fieldLink "ThreePointsModel" 72 "ThreePointsModel" "dist" "[I" ∈ xtbl := xtbl_at 1059 (by decide +kernel) (by decide +kernel)
set_option maxRecDepth 20000 in
theorem kw_1060 : Cond.fieldLink "ThreePointsModel" 75 "ThreePointsModel" "queued" "[Z" ∈ xtbl := xtbl_at 1060 (by decide +kernel) (by decide +kernel)
set_option maxRecDepth 20000 in
theorem kw_1061 : Cond.fieldLink "ThreePointsModel" 78 "ThreePointsModel" "queue" "[I" ∈ xtbl := xtbl_at 1061 (by decide +kernel) (by decide +kernel)
set_option maxRecDepth 20000 in
theorem kw_1062 : Cond.fieldLink "ThreePointsModel" 81 "ThreePointsModel" "kept" "[I" ∈ xtbl := xtbl_at 1062 (by decide +kernel) (by decide +kernel)
set_option maxRecDepth 20000 in
theorem kw_1063 : Cond.fieldLink "ThreePointsModel" 84 "ThreePointsModel" "last" "[I" ∈ xtbl := xtbl_at 1063 (by decide +kernel) (by decide +kernel)
set_option maxRecDepth 20000 in
theorem kw_1064 : Cond.fieldLink "ThreePointsModel" 269 "ThreePointsModel" "hitsIn" "I" ∈ xtbl := xtbl_at 1064 (by decide +kernel) (by decide +kernel)
set_option maxRecDepth 20000 in
theorem kw_1147 : Cond.code ⟨"ThreePointsModel", "count", "(I)I"⟩ prog_12_method_8_code 2 (some .int) ∈ xtbl := xtbl_at 1147 rfl rfl
set_option maxRecDepth 20000 in
theorem kw_1151 : Cond.code ⟨"ThreePointsModel", "set", "(II)I"⟩ prog_12_method_10_code 5 (some .int) ∈ xtbl := xtbl_at 1151 rfl rfl
set_option maxRecDepth 20000 in
theorem kw_1152 : Cond.methodLink "ThreePointsModel" 117 ⟨"ThreePointsModel", "doAllFit", "()Z"⟩ ∈ xtbl := xtbl_at 1152 (by decide +kernel) (by decide +kernel)
set_option maxRecDepth 20000 in
theorem kw_1154 : Cond.instanceMethod ⟨"ThreePointsModel", "doAllFit", "()Z"⟩ ∈ xtbl := xtbl_at 1154 (by decide +kernel) (by decide +kernel)
set_option maxRecDepth 20000 in
theorem kw_1155 : Cond.code ⟨"ThreePointsModel", "doAllFit", "()Z"⟩ prog_12_method_9_code 3 (some .boolean) ∈ xtbl := xtbl_at 1155 rfl rfl
set_option maxRecDepth 20000 in
theorem kw_1156 : Cond.methodLink "ThreePointsModel" 101 ⟨"ThreePointsModel", "isPlace", "(I)Z"⟩ ∈ xtbl := xtbl_at 1156 (by decide +kernel) (by decide +kernel)
set_option maxRecDepth 20000 in
theorem kw_1158 : Cond.instanceMethod ⟨"ThreePointsModel", "isPlace", "(I)Z"⟩ ∈ xtbl := xtbl_at 1158 (by decide +kernel) (by decide +kernel)
set_option maxRecDepth 20000 in
theorem kw_1159 : Cond.code ⟨"ThreePointsModel", "isPlace", "(I)Z"⟩ prog_12_method_6_code 2 (some .boolean) ∈ xtbl := xtbl_at 1159 rfl rfl
set_option maxRecDepth 20000 in
theorem kw_1160 : Cond.methodLink "ThreePointsModel" 114 ⟨"ThreePointsModel", "fitsAt", "(III)Z"⟩ ∈ xtbl := xtbl_at 1160 (by decide +kernel) (by decide +kernel)
set_option maxRecDepth 20000 in
theorem kw_1162 : Cond.instanceMethod ⟨"ThreePointsModel", "fitsAt", "(III)Z"⟩ ∈ xtbl := xtbl_at 1162 (by decide +kernel) (by decide +kernel)
set_option maxRecDepth 20000 in
theorem kw_1163 : Cond.code ⟨"ThreePointsModel", "fitsAt", "(III)Z"⟩ prog_12_method_32_code 9 (some .boolean) ∈ xtbl := xtbl_at 1163 rfl rfl
set_option maxRecDepth 20000 in
theorem kw_1164 : Cond.methodLink "ThreePointsModel" 199 ⟨"ThreePointsModel", "frontOf", "(I)I"⟩ ∈ xtbl := xtbl_at 1164 (by decide +kernel) (by decide +kernel)
set_option maxRecDepth 20000 in
theorem kw_1166 : Cond.instanceMethod ⟨"ThreePointsModel", "frontOf", "(I)I"⟩ ∈ xtbl := xtbl_at 1166 (by decide +kernel) (by decide +kernel)
set_option maxRecDepth 20000 in
theorem kw_1167 : Cond.code ⟨"ThreePointsModel", "frontOf", "(I)I"⟩ prog_12_method_29_code 2 (some .int) ∈ xtbl := xtbl_at 1167 rfl rfl
set_option maxRecDepth 20000 in
theorem kw_1168 : Cond.methodLink "ThreePointsModel" 202 ⟨"ThreePointsModel", "backOf", "(I)I"⟩ ∈ xtbl := xtbl_at 1168 (by decide +kernel) (by decide +kernel)
set_option maxRecDepth 20000 in
theorem kw_1170 : Cond.instanceMethod ⟨"ThreePointsModel", "backOf", "(I)I"⟩ ∈ xtbl := xtbl_at 1170 (by decide +kernel) (by decide +kernel)
set_option maxRecDepth 20000 in
theorem kw_1171 : Cond.code ⟨"ThreePointsModel", "backOf", "(I)I"⟩ prog_12_method_30_code 2 (some .int) ∈ xtbl := xtbl_at 1171 rfl rfl
set_option maxRecDepth 20000 in
theorem kw_1172 : Cond.methodLink "ThreePointsModel" 195 ⟨"ThreePointsModel", "asksOf", "(IIIIII)I"⟩ ∈ xtbl := xtbl_at 1172 (by decide +kernel) (by decide +kernel)
set_option maxRecDepth 20000 in
theorem kw_1174 : Cond.instanceMethod ⟨"ThreePointsModel", "asksOf", "(IIIIII)I"⟩ ∈ xtbl := xtbl_at 1174 (by decide +kernel) (by decide +kernel)
set_option maxRecDepth 20000 in
theorem kw_1175 : Cond.code ⟨"ThreePointsModel", "asksOf", "(IIIIII)I"⟩ prog_12_method_27_code 7 (some .int) ∈ xtbl := xtbl_at 1175 rfl rfl
set_option maxRecDepth 20000 in
theorem kw_1176 : Cond.methodLink "ThreePointsModel" 183 ⟨"ThreePointsModel", "says", "(I)I"⟩ ∈ xtbl := xtbl_at 1176 (by decide +kernel) (by decide +kernel)
set_option maxRecDepth 20000 in
theorem kw_1178 : Cond.instanceMethod ⟨"ThreePointsModel", "says", "(I)I"⟩ ∈ xtbl := xtbl_at 1178 (by decide +kernel) (by decide +kernel)
set_option maxRecDepth 20000 in
theorem kw_1179 : Cond.code ⟨"ThreePointsModel", "says", "(I)I"⟩ prog_12_method_25_code 5 (some .int) ∈ xtbl := xtbl_at 1179 rfl rfl
set_option maxRecDepth 20000 in
theorem kw_1180 : Cond.methodLink "ThreePointsModel" 179 ⟨"ThreePointsModel", "two", "(III)I"⟩ ∈ xtbl := xtbl_at 1180 (by decide +kernel) (by decide +kernel)
set_option maxRecDepth 20000 in
theorem kw_1181 : Cond.static ⟨"ThreePointsModel", "two", "(III)I"⟩ ∈ xtbl := xtbl_at 1181 (by decide +kernel) (by decide +kernel)
set_option maxRecDepth 20000 in
theorem kw_1182 : Cond.code ⟨"ThreePointsModel", "two", "(III)I"⟩ prog_12_method_24_code 3 (some .int) ∈ xtbl := xtbl_at 1182 rfl rfl
set_option maxRecDepth 20000 in
theorem kw_1183 : Cond.methodLink "ThreePointsModel" 186 ⟨"ThreePointsModel", "within", "(III)I"⟩ ∈ xtbl := xtbl_at 1183 (by decide +kernel) (by decide +kernel)
set_option maxRecDepth 20000 in
theorem kw_1184 : Cond.static ⟨"ThreePointsModel", "within", "(III)I"⟩ ∈ xtbl := xtbl_at 1184 (by decide +kernel) (by decide +kernel)
set_option maxRecDepth 20000 in
theorem kw_1185 : Cond.code ⟨"ThreePointsModel", "within", "(III)I"⟩ prog_12_method_4_code 3 (some .int) ∈ xtbl := xtbl_at 1185 rfl rfl
set_option maxRecDepth 20000 in
theorem kw_1189 : Cond.code ⟨"ThreePointsModel", "feed", "(IIIIII)I"⟩ prog_12_method_12_code 8 (some .int) ∈ xtbl := xtbl_at 1189 rfl rfl
set_option maxRecDepth 20000 in
theorem kw_1190 : Cond.methodLink "ThreePointsModel" 121 ⟨"ThreePointsModel", "isByte", "(I)Z"⟩ ∈ xtbl := xtbl_at 1190 (by decide +kernel) (by decide +kernel)
set_option maxRecDepth 20000 in
theorem kw_1191 : Cond.static ⟨"ThreePointsModel", "isByte", "(I)Z"⟩ ∈ xtbl := xtbl_at 1191 (by decide +kernel) (by decide +kernel)
set_option maxRecDepth 20000 in
theorem kw_1192 : Cond.code ⟨"ThreePointsModel", "isByte", "(I)Z"⟩ prog_12_method_11_code 1 (some .boolean) ∈ xtbl := xtbl_at 1192 rfl rfl
set_option maxRecDepth 20000 in
theorem kw_1197 : Cond.code ⟨"ThreePointsModel", "force", "(I)I"⟩ prog_12_method_26_code 3 (some .int) ∈ xtbl := xtbl_at 1197 rfl rfl
set_option maxRecDepth 20000 in
theorem kw_1201 : Cond.code ⟨"ThreePointsModel", "asks", "(IIII)I"⟩ prog_12_method_28_code 6 (some .int) ∈ xtbl := xtbl_at 1201 rfl rfl
set_option maxRecDepth 20000 in
theorem kw_1202 : Cond.methodLink "ThreePointsModel" 189 ⟨"ThreePointsModel", "isVehicle", "(I)Z"⟩ ∈ xtbl := xtbl_at 1202 (by decide +kernel) (by decide +kernel)
set_option maxRecDepth 20000 in
theorem kw_1204 : Cond.instanceMethod ⟨"ThreePointsModel", "isVehicle", "(I)Z"⟩ ∈ xtbl := xtbl_at 1204 (by decide +kernel) (by decide +kernel)
set_option maxRecDepth 20000 in
theorem kw_1205 : Cond.code ⟨"ThreePointsModel", "isVehicle", "(I)Z"⟩ prog_12_method_5_code 2 (some .boolean) ∈ xtbl := xtbl_at 1205 rfl rfl
set_option maxRecDepth 20000 in
theorem kw_1206 : Cond.methodLink "ThreePointsModel" 192 ⟨"ThreePointsModel", "isBoth", "(I)Z"⟩ ∈ xtbl := xtbl_at 1206 (by decide +kernel) (by decide +kernel)
set_option maxRecDepth 20000 in
theorem kw_1208 : Cond.instanceMethod ⟨"ThreePointsModel", "isBoth", "(I)Z"⟩ ∈ xtbl := xtbl_at 1208 (by decide +kernel) (by decide +kernel)
set_option maxRecDepth 20000 in
theorem kw_1209 : Cond.code ⟨"ThreePointsModel", "isBoth", "(I)Z"⟩ prog_12_method_7_code 2 (some .boolean) ∈ xtbl := xtbl_at 1209 rfl rfl
set_option maxRecDepth 20000 in
theorem kw_1211 : Cond.instanceMethod ⟨"ThreePointsModel", "vehicle", "(II)I"⟩ ∈ xtbl := xtbl_at 1211 (by decide +kernel) (by decide +kernel)
set_option maxRecDepth 20000 in
theorem kw_1212 : Cond.selects "ThreePointsModel" ⟨"ThreePointsModel", "vehicle", "(II)I"⟩ ⟨"ThreePointsModel", "vehicle", "(II)I"⟩ ∈ xtbl := xtbl_at 1212 (by decide +kernel) (by decide +kernel)
set_option maxRecDepth 20000 in
theorem kw_1213 : Cond.code ⟨"ThreePointsModel", "vehicle", "(II)I"⟩ prog_12_method_33_code 4 (some .int) ∈ xtbl := xtbl_at 1213 rfl rfl
set_option maxRecDepth 20000 in
theorem kw_1217 : Cond.code ⟨"ThreePointsModel", "told", "(II)I"⟩ prog_12_method_34_code 3 (some .int) ∈ xtbl := xtbl_at 1217 rfl rfl
set_option maxRecDepth 20000 in
theorem kw_1221 : Cond.code ⟨"ThreePointsModel", "fit", "(II)I"⟩ prog_12_method_35_code 3 (some .int) ∈ xtbl := xtbl_at 1221 rfl rfl
set_option maxRecDepth 20000 in
theorem kw_1225 : Cond.code ⟨"ThreePointsModel", "drive", "(III)I"⟩ prog_12_method_40_code 4 (some .int) ∈ xtbl := xtbl_at 1225 rfl rfl
set_option maxRecDepth 20000 in
theorem kw_1226 : Cond.methodLink "ThreePointsModel" 215 ⟨"ThreePointsModel", "canGo", "(III)Z"⟩ ∈ xtbl := xtbl_at 1226 (by decide +kernel) (by decide +kernel)
set_option maxRecDepth 20000 in
theorem kw_1228 : Cond.instanceMethod ⟨"ThreePointsModel", "canGo", "(III)Z"⟩ ∈ xtbl := xtbl_at 1228 (by decide +kernel) (by decide +kernel)
set_option maxRecDepth 20000 in
theorem kw_1229 : Cond.code ⟨"ThreePointsModel", "canGo", "(III)Z"⟩ prog_12_method_38_code 5 (some .boolean) ∈ xtbl := xtbl_at 1229 rfl rfl
set_option maxRecDepth 20000 in
theorem kw_1230 : Cond.methodLink "ThreePointsModel" 208 ⟨"ThreePointsModel", "placeBy", "(III)I"⟩ ∈ xtbl := xtbl_at 1230 (by decide +kernel) (by decide +kernel)
set_option maxRecDepth 20000 in
theorem kw_1232 : Cond.instanceMethod ⟨"ThreePointsModel", "placeBy", "(III)I"⟩ ∈ xtbl := xtbl_at 1232 (by decide +kernel) (by decide +kernel)
set_option maxRecDepth 20000 in
theorem kw_1233 : Cond.code ⟨"ThreePointsModel", "placeBy", "(III)I"⟩ prog_12_method_36_code 4 (some .int) ∈ xtbl := xtbl_at 1233 rfl rfl
set_option maxRecDepth 20000 in
theorem kw_1234 : Cond.methodLink "ThreePointsModel" 211 ⟨"ThreePointsModel", "headingBy", "(IIII)I"⟩ ∈ xtbl := xtbl_at 1234 (by decide +kernel) (by decide +kernel)
set_option maxRecDepth 20000 in
theorem kw_1236 : Cond.instanceMethod ⟨"ThreePointsModel", "headingBy", "(IIII)I"⟩ ∈ xtbl := xtbl_at 1236 (by decide +kernel) (by decide +kernel)
set_option maxRecDepth 20000 in
theorem kw_1237 : Cond.code ⟨"ThreePointsModel", "headingBy", "(IIII)I"⟩ prog_12_method_37_code 5 (some .int) ∈ xtbl := xtbl_at 1237 rfl rfl
set_option maxRecDepth 20000 in
theorem kw_1238 : Cond.methodLink "ThreePointsModel" 205 ⟨"ThreePointsModel", "turnsOf", "(III)I"⟩ ∈ xtbl := xtbl_at 1238 (by decide +kernel) (by decide +kernel)
set_option maxRecDepth 20000 in
theorem kw_1240 : Cond.instanceMethod ⟨"ThreePointsModel", "turnsOf", "(III)I"⟩ ∈ xtbl := xtbl_at 1240 (by decide +kernel) (by decide +kernel)
set_option maxRecDepth 20000 in
theorem kw_1241 : Cond.code ⟨"ThreePointsModel", "turnsOf", "(III)I"⟩ prog_12_method_31_code 5 (some .int) ∈ xtbl := xtbl_at 1241 rfl rfl
set_option maxRecDepth 20000 in
theorem kw_1242 : Cond.methodLink "ThreePointsModel" 218 ⟨"ThreePointsModel", "goes", "(III)V"⟩ ∈ xtbl := xtbl_at 1242 (by decide +kernel) (by decide +kernel)
set_option maxRecDepth 20000 in
theorem kw_1244 : Cond.instanceMethod ⟨"ThreePointsModel", "goes", "(III)V"⟩ ∈ xtbl := xtbl_at 1244 (by decide +kernel) (by decide +kernel)
set_option maxRecDepth 20000 in
theorem kw_1245 : Cond.code ⟨"ThreePointsModel", "goes", "(III)V"⟩ prog_12_method_39_code 6 none ∈ xtbl := xtbl_at 1245 rfl rfl
set_option maxRecDepth 20000 in
theorem kw_1249 : Cond.code ⟨"ThreePointsModel", "begin", "(II)I"⟩ prog_12_method_41_code 5 (some .int) ∈ xtbl := xtbl_at 1249 rfl rfl
set_option maxRecDepth 20000 in
theorem kw_1253 : Cond.code ⟨"ThreePointsModel", "turned", "(II)I"⟩ prog_12_method_52_code 3 (some .int) ∈ xtbl := xtbl_at 1253 rfl rfl
set_option maxRecDepth 20000 in
theorem kw_1254 : Cond.methodLink "ThreePointsModel" 241 ⟨"ThreePointsModel", "isGoal", "(I)Z"⟩ ∈ xtbl := xtbl_at 1254 (by decide +kernel) (by decide +kernel)
set_option maxRecDepth 20000 in
theorem kw_1255 : Cond.static ⟨"ThreePointsModel", "isGoal", "(I)Z"⟩ ∈ xtbl := xtbl_at 1255 (by decide +kernel) (by decide +kernel)
set_option maxRecDepth 20000 in
theorem kw_1256 : Cond.code ⟨"ThreePointsModel", "isGoal", "(I)Z"⟩ prog_12_method_49_code 1 (some .boolean) ∈ xtbl := xtbl_at 1256 rfl rfl
set_option maxRecDepth 20000 in
theorem kw_1257 : Cond.methodLink "ThreePointsModel" 244 ⟨"ThreePointsModel", "tellsLane", "(IZ)V"⟩ ∈ xtbl := xtbl_at 1257 (by decide +kernel) (by decide +kernel)
set_option maxRecDepth 20000 in
theorem kw_1259 : Cond.instanceMethod ⟨"ThreePointsModel", "tellsLane", "(IZ)V"⟩ ∈ xtbl := xtbl_at 1259 (by decide +kernel) (by decide +kernel)
set_option maxRecDepth 20000 in
theorem kw_1260 : Cond.code ⟨"ThreePointsModel", "tellsLane", "(IZ)V"⟩ prog_12_method_42_code 5 none ∈ xtbl := xtbl_at 1260 rfl rfl
set_option maxRecDepth 20000 in
theorem kw_1261 : Cond.methodLink "ThreePointsModel" 248 ⟨"ThreePointsModel", "firstStep", "(II)I"⟩ ∈ xtbl := xtbl_at 1261 (by decide +kernel) (by decide +kernel)
set_option maxRecDepth 20000 in
theorem kw_1263 : Cond.instanceMethod ⟨"ThreePointsModel", "firstStep", "(II)I"⟩ ∈ xtbl := xtbl_at 1263 (by decide +kernel) (by decide +kernel)
set_option maxRecDepth 20000 in
theorem kw_1264 : Cond.code ⟨"ThreePointsModel", "firstStep", "(II)I"⟩ prog_12_method_50_code 9 (some .int) ∈ xtbl := xtbl_at 1264 rfl rfl
set_option maxRecDepth 20000 in
theorem kw_1265 : Cond.constant "ThreePointsModel" 222 (1000000000) ∈ xtbl := xtbl_at 1265 (by decide +kernel) (by decide +kernel)
set_option maxRecDepth 20000 in
theorem kw_1266 : Cond.methodLink "ThreePointsModel" 229 ⟨"ThreePointsModel", "stateOf", "(I)I"⟩ ∈ xtbl := xtbl_at 1266 (by decide +kernel) (by decide +kernel)
set_option maxRecDepth 20000 in
theorem kw_1268 : Cond.instanceMethod ⟨"ThreePointsModel", "stateOf", "(I)I"⟩ ∈ xtbl := xtbl_at 1268 (by decide +kernel) (by decide +kernel)
set_option maxRecDepth 20000 in
theorem kw_1269 : Cond.code ⟨"ThreePointsModel", "stateOf", "(I)I"⟩ prog_12_method_47_code 2 (some .int) ∈ xtbl := xtbl_at 1269 rfl rfl
set_option maxRecDepth 20000 in
theorem kw_1270 : Cond.methodLink "ThreePointsModel" 223 ⟨"ThreePointsModel", "stateBehind", "(IIII)I"⟩ ∈ xtbl := xtbl_at 1270 (by decide +kernel) (by decide +kernel)
set_option maxRecDepth 20000 in
theorem kw_1272 : Cond.instanceMethod ⟨"ThreePointsModel", "stateBehind", "(IIII)I"⟩ ∈ xtbl := xtbl_at 1272 (by decide +kernel) (by decide +kernel)
set_option maxRecDepth 20000 in
theorem kw_1273 : Cond.code ⟨"ThreePointsModel", "stateBehind", "(IIII)I"⟩ prog_12_method_44_code 8 (some .int) ∈ xtbl := xtbl_at 1273 rfl rfl
set_option maxRecDepth 20000 in
theorem kw_1274 : Cond.methodLink "ThreePointsModel" 232 ⟨"ThreePointsModel", "seeks", "(III)V"⟩ ∈ xtbl := xtbl_at 1274 (by decide +kernel) (by decide +kernel)
set_option maxRecDepth 20000 in
theorem kw_1276 : Cond.instanceMethod ⟨"ThreePointsModel", "seeks", "(III)V"⟩ ∈ xtbl := xtbl_at 1276 (by decide +kernel) (by decide +kernel)
set_option maxRecDepth 20000 in
theorem kw_1277 : Cond.code ⟨"ThreePointsModel", "seeks", "(III)V"⟩ prog_12_method_45_code 11 none ∈ xtbl := xtbl_at 1277 rfl rfl
set_option maxRecDepth 20000 in
theorem kw_1278 : Cond.methodLink "ThreePointsModel" 226 ⟨"ThreePointsModel", "costsStep", "(IIII)I"⟩ ∈ xtbl := xtbl_at 1278 (by decide +kernel) (by decide +kernel)
set_option maxRecDepth 20000 in
theorem kw_1280 : Cond.instanceMethod ⟨"ThreePointsModel", "costsStep", "(IIII)I"⟩ ∈ xtbl := xtbl_at 1280 (by decide +kernel) (by decide +kernel)
set_option maxRecDepth 20000 in
theorem kw_1281 : Cond.code ⟨"ThreePointsModel", "costsStep", "(IIII)I"⟩ prog_12_method_43_code 5 (some .int) ∈ xtbl := xtbl_at 1281 rfl rfl
set_option maxRecDepth 20000 in
theorem kw_1282 : Cond.methodLink "ThreePointsModel" 235 ⟨"ThreePointsModel", "otherOf", "(I)I"⟩ ∈ xtbl := xtbl_at 1282 (by decide +kernel) (by decide +kernel)
set_option maxRecDepth 20000 in
theorem kw_1284 : Cond.instanceMethod ⟨"ThreePointsModel", "otherOf", "(I)I"⟩ ∈ xtbl := xtbl_at 1284 (by decide +kernel) (by decide +kernel)
set_option maxRecDepth 20000 in
theorem kw_1285 : Cond.code ⟨"ThreePointsModel", "otherOf", "(I)I"⟩ prog_12_method_48_code 2 (some .int) ∈ xtbl := xtbl_at 1285 rfl rfl
set_option maxRecDepth 20000 in
theorem kw_1286 : Cond.methodLink "ThreePointsModel" 238 ⟨"ThreePointsModel", "leastTo", "(I)I"⟩ ∈ xtbl := xtbl_at 1286 (by decide +kernel) (by decide +kernel)
set_option maxRecDepth 20000 in
theorem kw_1288 : Cond.instanceMethod ⟨"ThreePointsModel", "leastTo", "(I)I"⟩ ∈ xtbl := xtbl_at 1288 (by decide +kernel) (by decide +kernel)
set_option maxRecDepth 20000 in
theorem kw_1289 : Cond.code ⟨"ThreePointsModel", "leastTo", "(I)I"⟩ prog_12_method_46_code 6 (some .int) ∈ xtbl := xtbl_at 1289 rfl rfl
set_option maxRecDepth 20000 in
theorem kw_1290 : Cond.methodLink "ThreePointsModel" 251 ⟨"ThreePointsModel", "orNone", "(I)I"⟩ ∈ xtbl := xtbl_at 1290 (by decide +kernel) (by decide +kernel)
set_option maxRecDepth 20000 in
theorem kw_1291 : Cond.static ⟨"ThreePointsModel", "orNone", "(I)I"⟩ ∈ xtbl := xtbl_at 1291 (by decide +kernel) (by decide +kernel)
set_option maxRecDepth 20000 in
theorem kw_1292 : Cond.code ⟨"ThreePointsModel", "orNone", "(I)I"⟩ prog_12_method_51_code 1 (some .int) ∈ xtbl := xtbl_at 1292 rfl rfl
set_option maxRecDepth 20000 in
theorem kw_1296 : Cond.code ⟨"ThreePointsModel", "where", "(II)I"⟩ prog_12_method_54_code 7 (some .int) ∈ xtbl := xtbl_at 1296 rfl rfl
set_option maxRecDepth 20000 in
theorem kw_1297 : Cond.methodLink "ThreePointsModel" 254 ⟨"ThreePointsModel", "fromBegin", "(III)I"⟩ ∈ xtbl := xtbl_at 1297 (by decide +kernel) (by decide +kernel)
set_option maxRecDepth 20000 in
theorem kw_1299 : Cond.instanceMethod ⟨"ThreePointsModel", "fromBegin", "(III)I"⟩ ∈ xtbl := xtbl_at 1299 (by decide +kernel) (by decide +kernel)
set_option maxRecDepth 20000 in
theorem kw_1300 : Cond.code ⟨"ThreePointsModel", "fromBegin", "(III)I"⟩ prog_12_method_53_code 4 (some .int) ∈ xtbl := xtbl_at 1300 rfl rfl
set_option maxRecDepth 20000 in
theorem kw_1304 : Cond.code ⟨"ThreePointsModel", "narrow", "(II)I"⟩ prog_12_method_55_code 6 (some .int) ∈ xtbl := xtbl_at 1304 rfl rfl
set_option maxRecDepth 20000 in
theorem kw_1308 : Cond.code ⟨"ThreePointsModel", "cut", "(II)I"⟩ prog_12_method_56_code 6 (some .int) ∈ xtbl := xtbl_at 1308 rfl rfl
set_option maxRecDepth 20000 in
theorem kw_1312 : Cond.code ⟨"ThreePointsModel", "headings", "(I)I"⟩ prog_12_method_57_code 4 (some .int) ∈ xtbl := xtbl_at 1312 rfl rfl
set_option maxRecDepth 20000 in
theorem kw_1316 : Cond.code ⟨"ThreePointsModel", "best", "(I)I"⟩ prog_12_method_58_code 6 (some .int) ∈ xtbl := xtbl_at 1316 rfl rfl
set_option maxRecDepth 20000 in
theorem kw_1320 : Cond.code ⟨"ThreePointsModel", "judge", "(II)I"⟩ prog_12_method_63_code 4 (some .int) ∈ xtbl := xtbl_at 1320 rfl rfl
set_option maxRecDepth 20000 in
theorem kw_1321 : Cond.methodLink "ThreePointsModel" 263 ⟨"ThreePointsModel", "sheetWrong", "(II)I"⟩ ∈ xtbl := xtbl_at 1321 (by decide +kernel) (by decide +kernel)
set_option maxRecDepth 20000 in
theorem kw_1323 : Cond.instanceMethod ⟨"ThreePointsModel", "sheetWrong", "(II)I"⟩ ∈ xtbl := xtbl_at 1323 (by decide +kernel) (by decide +kernel)
set_option maxRecDepth 20000 in
theorem kw_1324 : Cond.code ⟨"ThreePointsModel", "sheetWrong", "(II)I"⟩ prog_12_method_59_code 6 (some .int) ∈ xtbl := xtbl_at 1324 rfl rfl
set_option maxRecDepth 20000 in
theorem kw_1325 : Cond.methodLink "ThreePointsModel" 266 ⟨"ThreePointsModel", "firstWrong", "(II)I"⟩ ∈ xtbl := xtbl_at 1325 (by decide +kernel) (by decide +kernel)
set_option maxRecDepth 20000 in
theorem kw_1327 : Cond.instanceMethod ⟨"ThreePointsModel", "firstWrong", "(II)I"⟩ ∈ xtbl := xtbl_at 1327 (by decide +kernel) (by decide +kernel)
set_option maxRecDepth 20000 in
theorem kw_1328 : Cond.code ⟨"ThreePointsModel", "firstWrong", "(II)I"⟩ prog_12_method_62_code 7 (some .int) ∈ xtbl := xtbl_at 1328 rfl rfl
set_option maxRecDepth 20000 in
theorem kw_1329 : Cond.methodLink "ThreePointsModel" 257 ⟨"ThreePointsModel", "keeps", "(I)V"⟩ ∈ xtbl := xtbl_at 1329 (by decide +kernel) (by decide +kernel)
set_option maxRecDepth 20000 in
theorem kw_1331 : Cond.instanceMethod ⟨"ThreePointsModel", "keeps", "(I)V"⟩ ∈ xtbl := xtbl_at 1331 (by decide +kernel) (by decide +kernel)
set_option maxRecDepth 20000 in
theorem kw_1332 : Cond.code ⟨"ThreePointsModel", "keeps", "(I)V"⟩ prog_12_method_60_code 3 none ∈ xtbl := xtbl_at 1332 rfl rfl
set_option maxRecDepth 20000 in
theorem kw_1333 : Cond.methodLink "ThreePointsModel" 260 ⟨"ThreePointsModel", "laysBack", "(I)V"⟩ ∈ xtbl := xtbl_at 1333 (by decide +kernel) (by decide +kernel)
set_option maxRecDepth 20000 in
theorem kw_1335 : Cond.instanceMethod ⟨"ThreePointsModel", "laysBack", "(I)V"⟩ ∈ xtbl := xtbl_at 1335 (by decide +kernel) (by decide +kernel)
set_option maxRecDepth 20000 in
theorem kw_1336 : Cond.code ⟨"ThreePointsModel", "laysBack", "(I)V"⟩ prog_12_method_61_code 3 none ∈ xtbl := xtbl_at 1336 rfl rfl
set_option maxRecDepth 20000 in
theorem kw_1340 : Cond.code ⟨"ThreePointsModel", "ends", "(III)I"⟩ prog_12_method_64_code 5 (some .int) ∈ xtbl := xtbl_at 1340 rfl rfl
set_option maxRecDepth 20000 in
theorem kw_1344 : Cond.code ⟨"ThreePointsModel", "kinds", "(III)I"⟩ prog_12_method_65_code 10 (some .int) ∈ xtbl := xtbl_at 1344 rfl rfl
set_option maxRecDepth 20000 in
theorem kw_1348 : Cond.code ⟨"ThreePointsModel", "widths", "(III)I"⟩ prog_12_method_66_code 10 (some .int) ∈ xtbl := xtbl_at 1348 rfl rfl
set_option maxRecDepth 20000 in
theorem kw_1352 : Cond.code ⟨"ThreePointsModel", "laws", "(II)I"⟩ prog_12_method_67_code 7 (some .int) ∈ xtbl := xtbl_at 1352 rfl rfl
set_option maxRecDepth 20000 in
theorem kw_1356 : Cond.code ⟨"ThreePointsModel", "drawn", "(IIII)I"⟩ prog_12_method_69_code 5 (some .int) ∈ xtbl := xtbl_at 1356 rfl rfl
set_option maxRecDepth 20000 in
theorem kw_1357 : Cond.constant "ThreePointsModel" 284 (99999) ∈ xtbl := xtbl_at 1357 (by decide +kernel) (by decide +kernel)
set_option maxRecDepth 20000 in
theorem kw_1358 : Cond.methodLink "ThreePointsModel" 285 ⟨"ThreePointsModel", "driveBy", "(III)V"⟩ ∈ xtbl := xtbl_at 1358 (by decide +kernel) (by decide +kernel)
set_option maxRecDepth 20000 in
theorem kw_1360 : Cond.instanceMethod ⟨"ThreePointsModel", "driveBy", "(III)V"⟩ ∈ xtbl := xtbl_at 1360 (by decide +kernel) (by decide +kernel)
set_option maxRecDepth 20000 in
theorem kw_1361 : Cond.code ⟨"ThreePointsModel", "driveBy", "(III)V"⟩ prog_12_method_68_code 9 none ∈ xtbl := xtbl_at 1361 rfl rfl
set_option maxRecDepth 20000 in
theorem kw_1362 : Cond.constantLong "ThreePointsModel" 272 (48271) ∈ xtbl := xtbl_at 1362 (by decide +kernel) (by decide +kernel)
set_option maxRecDepth 20000 in
theorem kw_1363 : Cond.constantLong "ThreePointsModel" 274 (2147483647) ∈ xtbl := xtbl_at 1363 (by decide +kernel) (by decide +kernel)
set_option maxRecDepth 20000 in
theorem kw_1364 : Cond.constantLong "ThreePointsModel" 276 (2) ∈ xtbl := xtbl_at 1364 (by decide +kernel) (by decide +kernel)
set_option maxRecDepth 20000 in
theorem kw_1365 : Cond.constantLong "ThreePointsModel" 278 (3) ∈ xtbl := xtbl_at 1365 (by decide +kernel) (by decide +kernel)
set_option maxRecDepth 20000 in
theorem kw_1366 : Cond.constantLong "ThreePointsModel" 280 (6) ∈ xtbl := xtbl_at 1366 (by decide +kernel) (by decide +kernel)
set_option maxRecDepth 20000 in
theorem kw_1367 : Cond.constantLong "ThreePointsModel" 282 (100) ∈ xtbl := xtbl_at 1367 (by decide +kernel) (by decide +kernel)
set_option maxRecDepth 20000 in
theorem kw_1371 : Cond.code ⟨"ThreePointsModel", "odds", "(IIII)J"⟩ prog_12_method_71_code 9 (some .long) ∈ xtbl := xtbl_at 1371 rfl rfl
set_option maxRecDepth 20000 in
theorem kw_1372 : Cond.constantLong "ThreePointsModel" 288 (-4611686018427387904) ∈ xtbl := xtbl_at 1372 (by decide +kernel) (by decide +kernel)
set_option maxRecDepth 20000 in
theorem kw_1373 : Cond.methodLink "ThreePointsModel" 290 ⟨"ThreePointsModel", "lowest", "(JJI)J"⟩ ∈ xtbl := xtbl_at 1373 (by decide +kernel) (by decide +kernel)
set_option maxRecDepth 20000 in
theorem kw_1374 : Cond.static ⟨"ThreePointsModel", "lowest", "(JJI)J"⟩ ∈ xtbl := xtbl_at 1374 (by decide +kernel) (by decide +kernel)
set_option maxRecDepth 20000 in
theorem kw_1375 : Cond.code ⟨"ThreePointsModel", "lowest", "(JJI)J"⟩ prog_12_method_70_code 11 (some .long) ∈ xtbl := xtbl_at 1375 rfl rfl
set_option maxRecDepth 20000 in
theorem kw_1379 : Cond.code ⟨"ThreePointsModel", "image", "()I"⟩ prog_12_method_72_code 2 (some .int) ∈ xtbl := xtbl_at 1379 rfl rfl
set_option maxRecDepth 20000 in
theorem kw_1383 : Cond.code ⟨"ThreePointsModel", "back", "()I"⟩ prog_12_method_73_code 2 (some .int) ∈ xtbl := xtbl_at 1383 rfl rfl
set_option maxRecDepth 20000 in
theorem kw_1387 : Cond.code ⟨"ThreePointsModel", "sheet", "(III)I"⟩ prog_12_method_74_code 5 (some .int) ∈ xtbl := xtbl_at 1387 rfl rfl
set_option maxRecDepth 20000 in
theorem kw_1391 : Cond.code ⟨"ThreePointsModel", "cell", "(III)I"⟩ prog_12_method_75_code 4 (some .int) ∈ xtbl := xtbl_at 1391 rfl rfl
set_option maxRecDepth 20000 in
theorem kw_1395 : Cond.code ⟨"ThreePointsModel", "copy", "(IIIII)I"⟩ prog_12_method_76_code 10 (some .int) ∈ xtbl := xtbl_at 1395 rfl rfl
set_option maxRecDepth 20000 in
theorem kw_1399 : Cond.code ⟨"ThreePointsModel", "vehiclesBy", "(IIII)I"⟩ prog_12_method_77_code 9 (some .int) ∈ xtbl := xtbl_at 1399 rfl rfl
set_option maxRecDepth 20000 in
theorem kw_1400 : Cond.methodLink "ThreePointsModel" 298 ⟨"ThreePointsModel", "vehicle", "(II)I"⟩ ∈ xtbl := xtbl_at 1400 (by decide +kernel) (by decide +kernel)
set_option maxRecDepth 20000 in
theorem kw_1404 : Cond.code ⟨"ThreePointsModel", "taken", "(II)I"⟩ prog_12_method_79_code 3 (some .int) ∈ xtbl := xtbl_at 1404 rfl rfl
set_option maxRecDepth 20000 in
theorem kw_1405 : Cond.methodLink "ThreePointsModel" 301 ⟨"ThreePointsModel", "isUnder", "(II)Z"⟩ ∈ xtbl := xtbl_at 1405 (by decide +kernel) (by decide +kernel)
set_option maxRecDepth 20000 in
theorem kw_1406 : Cond.static ⟨"ThreePointsModel", "isUnder", "(II)Z"⟩ ∈ xtbl := xtbl_at 1406 (by decide +kernel) (by decide +kernel)
set_option maxRecDepth 20000 in
theorem kw_1407 : Cond.code ⟨"ThreePointsModel", "isUnder", "(II)Z"⟩ prog_12_method_78_code 2 (some .boolean) ∈ xtbl := xtbl_at 1407 rfl rfl
set_option maxRecDepth 20000 in
theorem kw_1408 : Cond.fieldLink "java/lang/String" 9 "java/lang/String" "value" "[B" ∈ xtbl := xtbl_at 1408 (by decide +kernel) (by decide +kernel)
set_option maxRecDepth 20000 in
theorem kw_1409 : Cond.fieldLink "java/lang/String" 15 "java/lang/String" "coder" "B" ∈ xtbl := xtbl_at 1409 (by decide +kernel) (by decide +kernel)
end
section
/-! the law of a ride, as a value -/
theorem xlaw (i : Nat) (x : Int32) : (¬ (0 < x ∧ x < 8) ∧ xld 19 i 2 x = vn) ∨ ∃ t, t < 7 ∧ x = nI (t + 1) ∧ xld 19 i 2 x = vr 11 t := by
  have e : xld 19 i 2 x = if 0 < x ∧ x < 8 then vr 11 (x.toNatClampNeg - 1) else vn := rfl
  by_cases h : 0 < x ∧ x < 8
  · refine Or.inr ?_
    obtain ⟨j, hj, rfl⟩ := nI_of (x := x) (fun q => by
      have h1 := h.1
      simp only [Int32.lt_iff_toInt_lt] at h1 q
      omega)
    have h1 := h.1
    have h2 := h.2
    rw [show (0 : Int32) = nI 0 from rfl, nI_ltI (by omega) hj] at h1
    rw [show (8 : Int32) = nI 8 from rfl, nI_ltI hj (by omega)] at h2
    refine ⟨j - 1, by omega, by rw [show j - 1 + 1 = j by omega], ?_⟩
    rw [e, if_pos h, nI_clamp hj]
  · exact Or.inl ⟨h, by rw [e, if_neg h]⟩
end
section
/-! a method: its place, its formula, the walk that proves it; printed by wip/gen/emitall.py -/
abbrev g_String_coder (E : XE) (d pc : Nat) (ls : List (Option AV)) (st : List AV) (H : HH) (Q : AV → HH → Prop) : Prop := Gp E.1 E.2.1 E.2.2.1 E.2.2.2 xTX xRF xLC d "java/lang/String" prog_15_method_152_code 1 (some .byte) pc ls st H Q
def c_String_coder (E : XE) (d : Nat) (t : Nat) (H : HH) (Q : Int32 → HH → Prop) : Prop := g_String_coder E d 0 (xent [vr 60 t]) [] H (qi Q)
theorem xm_String_coder : xM ⟨"java/lang/String", "coder", "()B"⟩ prog_15_method_152_code 1 (some .byte) 0 := ⟨kw_341, kw_75, by decide +kernel, by decide +kernel, by decide⟩
abbrev g_String_length (E : XE) (d pc : Nat) (ls : List (Option AV)) (st : List AV) (H : HH) (Q : AV → HH → Prop) : Prop := Gp E.1 E.2.1 E.2.2.1 E.2.2.2 xTX xRF xLC d "java/lang/String" prog_15_method_54_code 1 (some .int) pc ls st H Q
def c_String_length (E : XE) (d : Nat) (t : Nat) (H : HH) (Q : Int32 → HH → Prop) : Prop := g_String_length E d 0 (xent [vr 60 t]) [] H (qi Q)
theorem xm_String_length : xM ⟨"java/lang/String", "length", "()I"⟩ prog_15_method_54_code 1 (some .int) 0 := ⟨kw_337, kw_75, by decide +kernel, by decide +kernel, by decide⟩
abbrev g_String_isLatin1 (E : XE) (d pc : Nat) (ls : List (Option AV)) (st : List AV) (H : HH) (Q : AV → HH → Prop) : Prop := Gp E.1 E.2.1 E.2.2.1 E.2.2.2 xTX xRF xLC d "java/lang/String" prog_15_method_154_code 1 (some .boolean) pc ls st H Q
def c_String_isLatin1 (E : XE) (d : Nat) (t : Nat) (H : HH) (Q : Int32 → HH → Prop) : Prop := g_String_isLatin1 E d 0 (xent [vr 60 t]) [] H (qi Q)
theorem xm_String_isLatin1 : xM ⟨"java/lang/String", "isLatin1", "()Z"⟩ prog_15_method_154_code 1 (some .boolean) 0 := ⟨kw_351, kw_75, by decide +kernel, by decide +kernel, by decide⟩
abbrev g_Precond_checkIndex (E : XE) (d pc : Nat) (ls : List (Option AV)) (st : List AV) (H : HH) (Q : AV → HH → Prop) : Prop := Gp E.1 E.2.1 E.2.2.1 E.2.2.2 xTX xRF xLC d "jdk/internal/util/Preconditions" prog_20_method_11_code 3 (some .int) pc ls st H Q
def c_Precond_checkIndex (E : XE) (d : Nat) (x0 : Int32) (x1 : Int32) (H : HH) (Q : Int32 → HH → Prop) : Prop := g_Precond_checkIndex E d 0 (xent [vi x0, vi x1, vr 65 0]) [] H (qi Q)
theorem xm_Precond_checkIndex : xM ⟨"jdk/internal/util/Preconditions", "checkIndex", "(IILjava/util/function/BiFunction;)I"⟩ prog_20_method_11_code 3 (some .int) 3 := ⟨kw_362, kw_77, by decide +kernel, by decide +kernel, by decide⟩
abbrev g_String_checkIndex (E : XE) (d pc : Nat) (ls : List (Option AV)) (st : List AV) (H : HH) (Q : AV → HH → Prop) : Prop := Gp E.1 E.2.1 E.2.2.1 E.2.2.2 xTX xRF xLC d "java/lang/String" prog_15_method_155_code 2 none pc ls st H Q
def c_String_checkIndex (E : XE) (d : Nat) (x0 : Int32) (x1 : Int32) (H : HH) (Q : HH → Prop) : Prop := g_String_checkIndex E d 0 (xent [vi x0, vi x1]) [] H (qv Q)
theorem xm_String_checkIndex : xM ⟨"java/lang/String", "checkIndex", "(II)V"⟩ prog_15_method_155_code 2 none 2 := ⟨kw_357, kw_75, by decide +kernel, by decide +kernel, by decide⟩
abbrev g_Latin1_charAt (E : XE) (d pc : Nat) (ls : List (Option AV)) (st : List AV) (H : HH) (Q : AV → HH → Prop) : Prop := Gp E.1 E.2.1 E.2.2.1 E.2.2.2 xTX xRF xLC d "java/lang/StringLatin1" prog_16_method_2_code 2 (some .char) pc ls st H Q
def c_Latin1_charAt (E : XE) (d : Nat) (w : Nat) (x1 : Int32) (H : HH) (Q : Int32 → HH → Prop) : Prop := g_Latin1_charAt E d 0 (xent [vr 61 w, vi x1]) [] H (qi Q)
theorem xm_Latin1_charAt : xM ⟨"java/lang/StringLatin1", "charAt", "([BI)C"⟩ prog_16_method_2_code 2 (some .char) 2 := ⟨kw_354, kw_76, by decide +kernel, by decide +kernel, by decide⟩
abbrev g_String_charAt (E : XE) (d pc : Nat) (ls : List (Option AV)) (st : List AV) (H : HH) (Q : AV → HH → Prop) : Prop := Gp E.1 E.2.1 E.2.2.1 E.2.2.2 xTX xRF xLC d "java/lang/String" prog_15_method_56_code 2 (some .char) pc ls st H Q
def c_String_charAt (E : XE) (d : Nat) (t : Nat) (x1 : Int32) (H : HH) (Q : Int32 → HH → Prop) : Prop := g_String_charAt E d 0 (xent [vr 60 t, vi x1]) [] H (qi Q)
theorem xm_String_charAt : xM ⟨"java/lang/String", "charAt", "(I)C"⟩ prog_15_method_56_code 2 (some .char) 1 := ⟨kw_347, kw_75, by decide +kernel, by decide +kernel, by decide⟩
abbrev g_Latin1_canEncode (E : XE) (d pc : Nat) (ls : List (Option AV)) (st : List AV) (H : HH) (Q : AV → HH → Prop) : Prop := Gp E.1 E.2.1 E.2.2.1 E.2.2.2 xTX xRF xLC d "java/lang/StringLatin1" prog_16_method_4_code 1 (some .boolean) pc ls st H Q
def c_Latin1_canEncode (E : XE) (d : Nat) (x0 : Int32) (H : HH) (Q : Int32 → HH → Prop) : Prop := g_Latin1_canEncode E d 0 (xent [vi x0]) [] H (qi Q)
theorem xm_Latin1_canEncode : xM ⟨"java/lang/StringLatin1", "canEncode", "(I)Z"⟩ prog_16_method_4_code 1 (some .boolean) 1 := ⟨kw_458, kw_76, by decide +kernel, by decide +kernel, by decide⟩
abbrev g_Latin1_indexOfChar (E : XE) (d pc : Nat) (ls : List (Option AV)) (st : List AV) (H : HH) (Q : AV → HH → Prop) : Prop := Gp E.1 E.2.1 E.2.2.1 E.2.2.2 xTX xRF xLC d "java/lang/StringLatin1" prog_16_method_23_code 6 (some .int) pc ls st H Q
def c_Latin1_indexOfChar (E : XE) (d : Nat) (w : Nat) (x1 : Int32) (x2 : Int32) (x3 : Int32) (H : HH) (Q : Int32 → HH → Prop) : Prop := g_Latin1_indexOfChar E d 0 (xent [vr 61 w, vi x1, vi x2, vi x3]) [] H (qi Q)
theorem xm_Latin1_indexOfChar : xM ⟨"java/lang/StringLatin1", "indexOfChar", "([BIII)I"⟩ prog_16_method_23_code 6 (some .int) 4 := ⟨kw_467, kw_76, by decide +kernel, by decide +kernel, by decide⟩
abbrev g_Latin1_indexOf (E : XE) (d pc : Nat) (ls : List (Option AV)) (st : List AV) (H : HH) (Q : AV → HH → Prop) : Prop := Gp E.1 E.2.1 E.2.2.1 E.2.2.2 xTX xRF xLC d "java/lang/StringLatin1" prog_16_method_22_code 4 (some .int) pc ls st H Q
def c_Latin1_indexOf (E : XE) (d : Nat) (w : Nat) (x1 : Int32) (x2 : Int32) (x3 : Int32) (H : HH) (Q : Int32 → HH → Prop) : Prop := g_Latin1_indexOf E d 0 (xent [vr 61 w, vi x1, vi x2, vi x3]) [] H (qi Q)
theorem xm_Latin1_indexOf : xM ⟨"java/lang/StringLatin1", "indexOf", "([BIII)I"⟩ prog_16_method_22_code 4 (some .int) 4 := ⟨kw_455, kw_76, by decide +kernel, by decide +kernel, by decide⟩
abbrev g_String_indexOf_II (E : XE) (d pc : Nat) (ls : List (Option AV)) (st : List AV) (H : HH) (Q : AV → HH → Prop) : Prop := Gp E.1 E.2.1 E.2.2.1 E.2.2.2 xTX xRF xLC d "java/lang/String" prog_15_method_80_code 3 (some .int) pc ls st H Q
def c_String_indexOf_II (E : XE) (d : Nat) (t : Nat) (x1 : Int32) (x2 : Int32) (H : HH) (Q : Int32 → HH → Prop) : Prop := g_String_indexOf_II E d 0 (xent [vr 60 t, vi x1, vi x2]) [] H (qi Q)
theorem xm_String_indexOf_II : xM ⟨"java/lang/String", "indexOf", "(II)I"⟩ prog_15_method_80_code 3 (some .int) 2 := ⟨kw_451, kw_75, by decide +kernel, by decide +kernel, by decide⟩
abbrev g_String_indexOf_I (E : XE) (d pc : Nat) (ls : List (Option AV)) (st : List AV) (H : HH) (Q : AV → HH → Prop) : Prop := Gp E.1 E.2.1 E.2.2.1 E.2.2.2 xTX xRF xLC d "java/lang/String" prog_15_method_79_code 2 (some .int) pc ls st H Q
def c_String_indexOf_I (E : XE) (d : Nat) (t : Nat) (x1 : Int32) (H : HH) (Q : Int32 → HH → Prop) : Prop := g_String_indexOf_I E d 0 (xent [vr 60 t, vi x1]) [] H (qi Q)
theorem xm_String_indexOf_I : xM ⟨"java/lang/String", "indexOf", "(I)I"⟩ prog_15_method_79_code 2 (some .int) 1 := ⟨kw_447, kw_75, by decide +kernel, by decide +kernel, by decide⟩
def p_String_coder (E : XE) (d : Nat) (t : Nat) (H : HH) (Q : Int32 → HH → Prop) : Prop := narrow .char (.int 0) = .int 0 ∧ Q 0 H
set_option maxHeartbeats 4000000 in
theorem l_String_coder {E : XE} {d : Nat} {t : Nat} {H : HH} {Q : Int32 → HH → Prop} (h : p_String_coder E d t H Q) : c_String_coder E d t H Q := by
  show g_String_coder E d 0 (xent [vr 60 t]) [] H (qi Q)
  refine g_drop (ls2 := [some (vr 60 t)]) (And.intro rfl trivial) ?_
  refine g_gsCMP (by decide +kernel) kw_342 ?_
  refine g_if_eq (off := 10) (tgt := 13) (by decide +kernel) (by decide) (fun c => absurd c (by decide)) (fun c => ?_)
  refine g_aload_n (q := 0) (i := 0) (by decide +kernel) rfl rfl ?_
  refine g_strC (by decide +kernel) kw_1409 ?_
  refine g_goto (off := 4) (tgt := 14) (by decide +kernel) (by decide) ?_
  obtain ⟨hnr, h⟩ := h
  exact g_zret (by decide +kernel) rfl hnr ⟨_, rfl, h⟩
def p_String_length (E : XE) (d : Nat) (t : Nat) (H : HH) (Q : Int32 → HH → Prop) : Prop := c_String_coder E d t H (fun r2 H1 => Q ((nI (xTX.getD t []).length) >>> (r2 &&& 31)) H1)
set_option maxHeartbeats 4000000 in
theorem l_String_length {E : XE} {d : Nat} {t : Nat} {H : HH} {Q : Int32 → HH → Prop} (h : p_String_length E d t H Q) : c_String_length E (d + 1) t H Q := by
  show g_String_length E (d + 1) 0 (xent [vr 60 t]) [] H (qi Q)
  refine g_drop (ls2 := [some (vr 60 t)]) (And.intro rfl trivial) ?_
  refine g_aload_n (q := 0) (i := 0) (by decide +kernel) rfl rfl ?_
  refine g_strV (by decide +kernel) kw_1408 ?_
  refine g_blen (by decide +kernel) ?_
  refine g_aload_n (q := 0) (i := 0) (by decide +kernel) rfl rfl ?_
  refine g_callStr (vs := []) (st := [vi (nI (xTX.getD t []).length)]) (by decide +kernel) xm_String_coder kw_338 kw_339 kw_340 rfl rfl rfl (Nat.le_of_ble_eq_true rfl) (Nat.le_of_ble_eq_true rfl) h (fun vH1 H1 hq => ?_)
  obtain ⟨r2, rfl, h⟩ := hq
  refine g_ishr (by decide +kernel) ?_
  exact g_iret (by decide +kernel) rfl ⟨_, rfl, h⟩
def p_String_isLatin1 (E : XE) (d : Nat) (t : Nat) (H : HH) (Q : Int32 → HH → Prop) : Prop := Q 1 H
set_option maxHeartbeats 4000000 in
theorem l_String_isLatin1 {E : XE} {d : Nat} {t : Nat} {H : HH} {Q : Int32 → HH → Prop} (h : p_String_isLatin1 E d t H Q) : c_String_isLatin1 E d t H Q := by
  show g_String_isLatin1 E d 0 (xent [vr 60 t]) [] H (qi Q)
  refine g_drop (ls2 := [some (vr 60 t)]) (And.intro rfl trivial) ?_
  refine g_gsCMP (by decide +kernel) kw_342 ?_
  refine g_if_eq (off := 14) (tgt := 17) (by decide +kernel) (by decide) (fun c => absurd c (by decide)) (fun c => ?_)
  refine g_aload_n (q := 0) (i := 0) (by decide +kernel) rfl rfl ?_
  refine g_strC (by decide +kernel) kw_1409 ?_
  refine g_if_ne (off := 7) (tgt := 17) (by decide +kernel) (by decide) (fun c => absurd c (by decide)) (fun c => ?_)
  refine g_iconst (n := 1) (v := 1) (by decide +kernel) (by decide) ?_
  refine g_goto (off := 4) (tgt := 18) (by decide +kernel) (by decide) ?_
  exact g_zret (by decide +kernel) rfl rfl ⟨_, rfl, h⟩
def p_Precond_checkIndex (E : XE) (d : Nat) (x0 : Int32) (x1 : Int32) (H : HH) (Q : Int32 → HH → Prop) : Prop := (x0 < 0 → (False)) ∧ (¬ x0 < 0 → ((x0 < x1 → (Q x0 H)) ∧ (¬ x0 < x1 → (False))))
set_option maxHeartbeats 4000000 in
theorem l_Precond_checkIndex {E : XE} {d : Nat} {x0 : Int32} {x1 : Int32} {H : HH} {Q : Int32 → HH → Prop} (h : p_Precond_checkIndex E d x0 x1 H Q) : c_Precond_checkIndex E d x0 x1 H Q := by
  show g_Precond_checkIndex E d 0 (xent [vi x0, vi x1, vr 65 0]) [] H (qi Q)
  refine g_drop (ls2 := [some (vi x0), some (vi x1), some (vr 65 0)]) (And.intro rfl (And.intro rfl (And.intro rfl trivial))) ?_
  refine g_iload_n (q := 0) (i := 0) (by decide +kernel) rfl rfl ?_
  refine g_if_lt (off := 8) (tgt := 9) (by decide +kernel) (by decide) (fun c => ?_) (fun c => ?_)
  · replace h := h.1 c
    refine g_aload_n (q := 2) (i := 2) (by decide +kernel) rfl rfl ?_
    refine g_iload_n (q := 0) (i := 0) (by decide +kernel) rfl rfl ?_
    refine g_iload_n (q := 1) (i := 1) (by decide +kernel) rfl rfl ?_
    exact h.elim
  · replace h := h.2 c
    refine g_iload_n (q := 0) (i := 0) (by decide +kernel) rfl rfl ?_
    refine g_iload_n (q := 1) (i := 1) (by decide +kernel) rfl rfl ?_
    refine g_icmp_lt (off := 10) (tgt := 16) (by decide +kernel) (by decide) (fun c => ?_) (fun c => ?_)
    · replace h := h.1 c
      refine g_iload_n (q := 0) (i := 0) (by decide +kernel) rfl rfl ?_
      exact g_iret (by decide +kernel) rfl ⟨_, rfl, h⟩
    · replace h := h.2 c
      refine g_aload_n (q := 2) (i := 2) (by decide +kernel) rfl rfl ?_
      refine g_iload_n (q := 0) (i := 0) (by decide +kernel) rfl rfl ?_
      refine g_iload_n (q := 1) (i := 1) (by decide +kernel) rfl rfl ?_
      exact h.elim
def p_String_checkIndex (E : XE) (d : Nat) (x0 : Int32) (x1 : Int32) (H : HH) (Q : HH → Prop) : Prop := c_Precond_checkIndex E d x0 x1 H (fun r2 H1 => Q H1)
set_option maxHeartbeats 4000000 in
theorem l_String_checkIndex {E : XE} {d : Nat} {x0 : Int32} {x1 : Int32} {H : HH} {Q : HH → Prop} (h : p_String_checkIndex E d x0 x1 H Q) : c_String_checkIndex E (d + 1) x0 x1 H Q := by
  show g_String_checkIndex E (d + 1) 0 (xent [vi x0, vi x1]) [] H (qv Q)
  refine g_drop (ls2 := [some (vi x0), some (vi x1)]) (And.intro rfl (And.intro rfl trivial)) ?_
  refine g_iload_n (q := 0) (i := 0) (by decide +kernel) rfl rfl ?_
  refine g_iload_n (q := 1) (i := 1) (by decide +kernel) rfl rfl ?_
  refine g_gsSIO (by decide +kernel) kw_358 ?_
  refine g_callS (vs := [vi x0, vi x1, vr 65 0]) (st := []) (by decide +kernel) xm_Precond_checkIndex kw_360 kw_361 rfl rfl (Nat.le_of_ble_eq_true rfl) (Nat.le_of_ble_eq_true rfl) h (fun vH1 H1 hq => ?_)
  obtain ⟨r2, rfl, h⟩ := hq
  refine g_pop (by decide +kernel) rfl ?_
  exact g_vret (by decide +kernel) rfl h
def p_Latin1_charAt (E : XE) (d : Nat) (w : Nat) (x1 : Int32) (H : HH) (Q : Int32 → HH → Prop) : Prop := c_String_checkIndex E d x1 (nI (xTX.getD w []).length) H (fun H1 => vp_in x1 (xTX.getD w []).length ∧ (narrow .char (.int (((((xTX.getD w []).getD (x1.toNatClampNeg) 0) &&& 255).toUInt32 % 65536).toInt32)) = .int (((((xTX.getD w []).getD (x1.toNatClampNeg) 0) &&& 255).toUInt32 % 65536).toInt32) ∧ Q (((((xTX.getD w []).getD (x1.toNatClampNeg) 0) &&& 255).toUInt32 % 65536).toInt32) H1))
set_option maxHeartbeats 4000000 in
theorem l_Latin1_charAt {E : XE} {d : Nat} {w : Nat} {x1 : Int32} {H : HH} {Q : Int32 → HH → Prop} (h : p_Latin1_charAt E d w x1 H Q) : c_Latin1_charAt E (d + 1) w x1 H Q := by
  show g_Latin1_charAt E (d + 1) 0 (xent [vr 61 w, vi x1]) [] H (qi Q)
  refine g_drop (ls2 := [some (vr 61 w), some (vi x1)]) (And.intro rfl (And.intro rfl trivial)) ?_
  refine g_iload_n (q := 1) (i := 1) (by decide +kernel) rfl rfl ?_
  refine g_aload_n (q := 0) (i := 0) (by decide +kernel) rfl rfl ?_
  refine g_blen (by decide +kernel) ?_
  refine g_callS (vs := [vi x1, vi (nI (xTX.getD w []).length)]) (st := []) (by decide +kernel) xm_String_checkIndex kw_355 kw_356 rfl rfl (Nat.le_of_ble_eq_true rfl) (Nat.le_of_ble_eq_true rfl) h (fun vH1 H1 hq => ?_)
  replace h := hq
  refine g_aload_n (q := 0) (i := 0) (by decide +kernel) rfl rfl ?_
  refine g_iload_n (q := 1) (i := 1) (by decide +kernel) rfl rfl ?_
  obtain ⟨hin, h⟩ := h
  refine g_bald (by decide +kernel) hin ?_
  refine g_sipush (n := 255) (v := 255) (by decide +kernel) (by decide) ?_
  refine g_iand (by decide +kernel) ?_
  refine g_i2c (by decide +kernel) ?_
  obtain ⟨hnr, h⟩ := h
  exact g_zret (by decide +kernel) rfl hnr ⟨_, rfl, h⟩
def p_String_charAt (E : XE) (d : Nat) (t : Nat) (x1 : Int32) (H : HH) (Q : Int32 → HH → Prop) : Prop := c_String_isLatin1 E d t H (fun r2 H1 => (r2 = 0 → (False)) ∧ (¬ r2 = 0 → (c_Latin1_charAt E d t x1 H1 (fun r4 H3 => narrow .char (.int r4) = .int r4 ∧ Q r4 H3))))
set_option maxHeartbeats 4000000 in
theorem l_String_charAt {E : XE} {d : Nat} {t : Nat} {x1 : Int32} {H : HH} {Q : Int32 → HH → Prop} (h : p_String_charAt E d t x1 H Q) : c_String_charAt E (d + 1) t x1 H Q := by
  show g_String_charAt E (d + 1) 0 (xent [vr 60 t, vi x1]) [] H (qi Q)
  refine g_drop (ls2 := [some (vr 60 t), some (vi x1)]) (And.intro rfl (And.intro rfl trivial)) ?_
  refine g_aload_n (q := 0) (i := 0) (by decide +kernel) rfl rfl ?_
  refine g_callStr (vs := []) (st := []) (by decide +kernel) xm_String_isLatin1 kw_348 kw_349 kw_350 rfl rfl rfl (Nat.le_of_ble_eq_true rfl) (Nat.le_of_ble_eq_true rfl) h (fun vH1 H1 hq => ?_)
  obtain ⟨r2, rfl, h⟩ := hq
  refine g_if_eq (off := 12) (tgt := 16) (by decide +kernel) (by decide) (fun c => ?_) (fun c => ?_)
  · replace h := h.1 c
    refine g_aload_n (q := 0) (i := 0) (by decide +kernel) rfl rfl ?_
    refine g_strV (by decide +kernel) kw_1408 ?_
    refine g_iload_n (q := 1) (i := 1) (by decide +kernel) rfl rfl ?_
    exact h.elim
  · replace h := h.2 c
    refine g_aload_n (q := 0) (i := 0) (by decide +kernel) rfl rfl ?_
    refine g_strV (by decide +kernel) kw_1408 ?_
    refine g_iload_n (q := 1) (i := 1) (by decide +kernel) rfl rfl ?_
    refine g_callS (vs := [vr 61 t, vi x1]) (st := []) (by decide +kernel) xm_Latin1_charAt kw_352 kw_353 rfl rfl (Nat.le_of_ble_eq_true rfl) (Nat.le_of_ble_eq_true rfl) h (fun vH3 H3 hq => ?_)
    obtain ⟨r4, rfl, h⟩ := hq
    obtain ⟨hnr, h⟩ := h
    exact g_zret (by decide +kernel) rfl hnr ⟨_, rfl, h⟩
def p_Latin1_canEncode (E : XE) (d : Nat) (x0 : Int32) (H : HH) (Q : Int32 → HH → Prop) : Prop := ((if x0 < 0 then 0 else (if 255 < x0 then 0 else 1 : Int32) : Int32) = 0 ∨ (if x0 < 0 then 0 else (if 255 < x0 then 0 else 1 : Int32) : Int32) = 1) ∧ Q (if x0 < 0 then 0 else (if 255 < x0 then 0 else 1 : Int32) : Int32) H
set_option maxHeartbeats 4000000 in
theorem l_Latin1_canEncode {E : XE} {d : Nat} {x0 : Int32} {H : HH} {Q : Int32 → HH → Prop} (h : p_Latin1_canEncode E d x0 H Q) : c_Latin1_canEncode E d x0 H Q := by
  show g_Latin1_canEncode E d 0 (xent [vi x0]) [] H (qi Q)
  refine g_drop (ls2 := [some (vi x0)]) (And.intro rfl trivial) ?_
  refine g_iload_n (q := 0) (i := 0) (by decide +kernel) rfl rfl ?_
  suffices hj2 : g_Latin1_canEncode E d 16 [some (vi x0)] [vi (if x0 < 0 then 0 else (if 255 < x0 then 0 else 1 : Int32) : Int32)] H (qi Q) by
    refine g_if_lt (off := 14) (tgt := 15) (by decide +kernel) (by decide) (fun c => ?_) (fun c => ?_)
    · rw [if_pos c] at hj2
      refine g_iconst (n := 0) (v := 0) (by decide +kernel) (by decide) ?_
      exact hj2
    · rw [if_neg c] at hj2
      refine g_iload_n (q := 0) (i := 0) (by decide +kernel) rfl rfl ?_
      refine g_sipush (n := 255) (v := 255) (by decide +kernel) (by decide) ?_
      suffices hj1 : g_Latin1_canEncode E d 16 [some (vi x0)] [vi (if 255 < x0 then 0 else 1 : Int32)] H (qi Q) by
        refine g_icmp_gt (off := 7) (tgt := 15) (by decide +kernel) (by decide) (fun c => ?_) (fun c => ?_)
        · rw [if_pos c] at hj1
          refine g_iconst (n := 0) (v := 0) (by decide +kernel) (by decide) ?_
          exact hj1
        · rw [if_neg c] at hj1
          refine g_iconst (n := 1) (v := 1) (by decide +kernel) (by decide) ?_
          refine g_goto (off := 4) (tgt := 16) (by decide +kernel) (by decide) ?_
          exact hj1
      exact hj2
  obtain ⟨h01, h⟩ := h
  exact g_zret (by decide +kernel) rfl (nbool h01) ⟨_, rfl, h⟩
def p_Latin1_indexOfChar (E : XE) (d : Nat) (w : Nat) (x1 : Int32) (x2 : Int32) (x3 : Int32) (H : HH) (Q : Int32 → HH → Prop) : Prop := ∀ v1 : Int32, v1 = (x1.toInt8.toInt32) → (∃ (I2 : Int32 → HH → Prop) (μ2 : Int32 → HH → Nat), I2 x2 H ∧ ∀ (z3 : Int32) (H4 : HH), I2 z3 H4 → ((x3 ≤ z3 → (Q (-1) H4)) ∧ (¬ x3 ≤ z3 → (vp_in z3 (xTX.getD w []).length ∧ ((¬ ((xTX.getD w []).getD (z3.toNatClampNeg) 0) = v1 → (I2 (z3 + 1) H4 ∧ μ2 (z3 + 1) H4 < μ2 z3 H4)) ∧ (((xTX.getD w []).getD (z3.toNatClampNeg) 0) = v1 → (Q z3 H4)))))))
set_option maxHeartbeats 4000000 in
theorem l_Latin1_indexOfChar {E : XE} {d : Nat} {w : Nat} {x1 : Int32} {x2 : Int32} {x3 : Int32} {H : HH} {Q : Int32 → HH → Prop} (h : p_Latin1_indexOfChar E d w x1 x2 x3 H Q) : c_Latin1_indexOfChar E d w x1 x2 x3 H Q := by
  show g_Latin1_indexOfChar E d 0 (xent [vr 61 w, vi x1, vi x2, vi x3]) [] H (qi Q)
  refine g_drop (ls2 := [some (vr 61 w), some (vi x1), some (vi x2), some (vi x3), none, none]) (And.intro rfl (And.intro rfl (And.intro rfl (And.intro rfl trivial)))) ?_
  refine g_iload_n (q := 1) (i := 1) (by decide +kernel) rfl rfl ?_
  refine g_i2b (by decide +kernel) ?_
  refine g_topi (fun v1 ev1 => ?_)
  replace h := h v1 ev1
  refine g_istore (i := 4) (ls2 := [some (vr 61 w), some (vi x1), some (vi x2), some (vi x3), some (vi v1), none]) (by decide +kernel) (by decide) rfl rfl ?_
  refine g_iload_n (q := 2) (i := 2) (by decide +kernel) rfl rfl ?_
  refine g_istore (i := 5) (ls2 := [some (vr 61 w), some (vi x1), some (vi x2), some (vi x3), some (vi v1), some (vi x2)]) (by decide +kernel) (by decide) rfl rfl ?_
  refine g_drop (ls2 := [some (vr 61 w), none, none, some (vi x3), some (vi v1), some (vi x2)]) (And.intro rfl (And.intro rfl (And.intro rfl (And.intro rfl trivial)))) ?_
  obtain ⟨I2, μ2, h0, h⟩ := h
  refine xloop (σ := Int32) (fun s H => I2 s H) (fun s H => μ2 s H) (fun s H => g_Latin1_indexOfChar E d 7 [some (vr 61 w), none, none, some (vi x3), some (vi v1), some (vi s)] [] H (qi Q)) (fun s H4 hI ih2 => ?_) x2 H h0
  obtain ⟨z3, es⟩ : ∃ z, z = s := ⟨s, rfl⟩
  subst es
  replace h := h z3 H4 hI
  refine g_iload (i := 5) (by decide +kernel) rfl ?_
  refine g_iload_n (q := 3) (i := 3) (by decide +kernel) rfl rfl ?_
  refine g_icmp_ge (off := 21) (tgt := 31) (by decide +kernel) (by decide) (fun c => ?_) (fun c => ?_)
  · replace h := h.1 c
    refine g_iconst (n := (-1)) (v := (-1)) (by decide +kernel) (by decide) ?_
    exact g_iret (by decide +kernel) rfl ⟨_, rfl, h⟩
  · replace h := h.2 c
    refine g_aload_n (q := 0) (i := 0) (by decide +kernel) rfl rfl ?_
    refine g_iload (i := 5) (by decide +kernel) rfl ?_
    obtain ⟨hin, h⟩ := h
    refine g_bald (by decide +kernel) hin ?_
    refine g_iload (i := 4) (by decide +kernel) rfl ?_
    refine g_icmp_ne (off := 6) (tgt := 25) (by decide +kernel) (by decide) (fun c => ?_) (fun c => ?_)
    · replace h := h.1 c
      refine g_iinc (i := 5) (n := 1) (v := (z3 + 1)) (ls2 := [some (vr 61 w), none, none, some (vi x3), some (vi v1), some (vi (z3 + 1))]) (by decide +kernel) rfl rfl (by decide) rfl rfl ?_
      refine g_goto (off := (-21)) (tgt := 7) (by decide +kernel) (by decide) ?_
      obtain ⟨hI, hlt⟩ := h
      exact g_drop (ls2 := [some (vr 61 w), none, none, some (vi x3), some (vi v1), some (vi (z3 + 1))]) (And.intro rfl (And.intro rfl (And.intro rfl (And.intro rfl trivial)))) (ih2 (z3 + 1) H4 hI hlt)
    · replace h := h.2 c
      refine g_iload (i := 5) (by decide +kernel) rfl ?_
      exact g_iret (by decide +kernel) rfl ⟨_, rfl, h⟩
def p_Latin1_indexOf (E : XE) (d : Nat) (w : Nat) (x1 : Int32) (x2 : Int32) (x3 : Int32) (H : HH) (Q : Int32 → HH → Prop) : Prop := c_Latin1_canEncode E d x1 H (fun r2 H1 => (¬ r2 = 0 → (∀ v3 : Int32, v3 = (xmin x3 (nI (xTX.getD w []).length)) → (((xmax x2 0) < v3 → (c_Latin1_indexOfChar E d w x1 (xmax x2 0) v3 H1 (fun r5 H4 => Q r5 H4))) ∧ (¬ (xmax x2 0) < v3 → (Q (-1) H1))))) ∧ (r2 = 0 → (Q (-1) H1)))
set_option maxHeartbeats 4000000 in
theorem l_Latin1_indexOf {E : XE} {d : Nat} {w : Nat} {x1 : Int32} {x2 : Int32} {x3 : Int32} {H : HH} {Q : Int32 → HH → Prop} (h : p_Latin1_indexOf E d w x1 x2 x3 H Q) : c_Latin1_indexOf E (d + 1) w x1 x2 x3 H Q := by
  show g_Latin1_indexOf E (d + 1) 0 (xent [vr 61 w, vi x1, vi x2, vi x3]) [] H (qi Q)
  refine g_drop (ls2 := [some (vr 61 w), some (vi x1), some (vi x2), some (vi x3)]) (And.intro rfl (And.intro rfl (And.intro rfl (And.intro rfl trivial)))) ?_
  refine g_iload_n (q := 1) (i := 1) (by decide +kernel) rfl rfl ?_
  refine g_callS (vs := [vi x1]) (st := []) (by decide +kernel) xm_Latin1_canEncode kw_456 kw_457 rfl rfl (Nat.le_of_ble_eq_true rfl) (Nat.le_of_ble_eq_true rfl) h (fun vH1 H1 hq => ?_)
  obtain ⟨r2, rfl, h⟩ := hq
  refine g_if_ne (off := 5) (tgt := 9) (by decide +kernel) (by decide) (fun c => ?_) (fun c => ?_)
  · replace h := h.1 c
    refine g_iload_n (q := 2) (i := 2) (by decide +kernel) rfl rfl ?_
    refine g_iconst (n := 0) (v := 0) (by decide +kernel) (by decide) ?_
    refine g_mmax (by decide +kernel) kw_459 kw_460 kw_79 kw_461 (Nat.le_of_ble_eq_true rfl) ?_
    refine g_istore_n (q := 2) (i := 2) (ls2 := [some (vr 61 w), some (vi x1), some (vi (xmax x2 0)), some (vi x3)]) (by decide +kernel) rfl (by decide) rfl rfl ?_
    refine g_iload_n (q := 3) (i := 3) (by decide +kernel) rfl rfl ?_
    refine g_aload_n (q := 0) (i := 0) (by decide +kernel) rfl rfl ?_
    refine g_blen (by decide +kernel) ?_
    refine g_mmin (by decide +kernel) kw_462 kw_463 kw_79 kw_464 (Nat.le_of_ble_eq_true rfl) ?_
    refine g_topi (fun v3 ev3 => ?_)
    replace h := h v3 ev3
    refine g_istore_n (q := 3) (i := 3) (ls2 := [some (vr 61 w), some (vi x1), some (vi (xmax x2 0)), some (vi v3)]) (by decide +kernel) rfl (by decide) rfl rfl ?_
    refine g_iload_n (q := 2) (i := 2) (by decide +kernel) rfl rfl ?_
    refine g_iload_n (q := 3) (i := 3) (by decide +kernel) rfl rfl ?_
    refine g_icmp_lt (off := 5) (tgt := 29) (by decide +kernel) (by decide) (fun c => ?_) (fun c => ?_)
    · replace h := h.1 c
      refine g_aload_n (q := 0) (i := 0) (by decide +kernel) rfl rfl ?_
      refine g_iload_n (q := 1) (i := 1) (by decide +kernel) rfl rfl ?_
      refine g_iload_n (q := 2) (i := 2) (by decide +kernel) rfl rfl ?_
      refine g_iload_n (q := 3) (i := 3) (by decide +kernel) rfl rfl ?_
      refine g_callS (vs := [vr 61 w, vi x1, vi (xmax x2 0), vi v3]) (st := []) (by decide +kernel) xm_Latin1_indexOfChar kw_465 kw_466 rfl rfl (Nat.le_of_ble_eq_true rfl) (Nat.le_of_ble_eq_true rfl) h (fun vH4 H4 hq => ?_)
      obtain ⟨r5, rfl, h⟩ := hq
      exact g_iret (by decide +kernel) rfl ⟨_, rfl, h⟩
    · replace h := h.2 c
      refine g_iconst (n := (-1)) (v := (-1)) (by decide +kernel) (by decide) ?_
      exact g_iret (by decide +kernel) rfl ⟨_, rfl, h⟩
  · replace h := h.2 c
    refine g_iconst (n := (-1)) (v := (-1)) (by decide +kernel) (by decide) ?_
    exact g_iret (by decide +kernel) rfl ⟨_, rfl, h⟩
def p_String_indexOf_II (E : XE) (d : Nat) (t : Nat) (x1 : Int32) (x2 : Int32) (H : HH) (Q : Int32 → HH → Prop) : Prop := c_String_isLatin1 E d t H (fun r2 H1 => (r2 = 0 → (c_String_length E d t H1 (fun r4 H3 => False))) ∧ (¬ r2 = 0 → (c_String_length E d t H1 (fun r6 H5 => c_Latin1_indexOf E d t x1 x2 r6 H5 (fun r8 H7 => Q r8 H7)))))
set_option maxHeartbeats 4000000 in
theorem l_String_indexOf_II {E : XE} {d : Nat} {t : Nat} {x1 : Int32} {x2 : Int32} {H : HH} {Q : Int32 → HH → Prop} (h : p_String_indexOf_II E d t x1 x2 H Q) : c_String_indexOf_II E (d + 1) t x1 x2 H Q := by
  show g_String_indexOf_II E (d + 1) 0 (xent [vr 60 t, vi x1, vi x2]) [] H (qi Q)
  refine g_drop (ls2 := [some (vr 60 t), some (vi x1), some (vi x2)]) (And.intro rfl (And.intro rfl (And.intro rfl trivial))) ?_
  refine g_aload_n (q := 0) (i := 0) (by decide +kernel) rfl rfl ?_
  refine g_callStr (vs := []) (st := []) (by decide +kernel) xm_String_isLatin1 kw_348 kw_349 kw_350 rfl rfl rfl (Nat.le_of_ble_eq_true rfl) (Nat.le_of_ble_eq_true rfl) h (fun vH1 H1 hq => ?_)
  obtain ⟨r2, rfl, h⟩ := hq
  refine g_if_eq (off := 19) (tgt := 23) (by decide +kernel) (by decide) (fun c => ?_) (fun c => ?_)
  · replace h := h.1 c
    refine g_aload_n (q := 0) (i := 0) (by decide +kernel) rfl rfl ?_
    refine g_strV (by decide +kernel) kw_1408 ?_
    refine g_iload_n (q := 1) (i := 1) (by decide +kernel) rfl rfl ?_
    refine g_iload_n (q := 2) (i := 2) (by decide +kernel) rfl rfl ?_
    refine g_aload_n (q := 0) (i := 0) (by decide +kernel) rfl rfl ?_
    refine g_callStr (vs := []) (st := [vi x2, vi x1, vr 61 t]) (by decide +kernel) xm_String_length kw_452 kw_335 kw_336 rfl rfl rfl (Nat.le_of_ble_eq_true rfl) (Nat.le_of_ble_eq_true rfl) h (fun vH3 H3 hq => ?_)
    obtain ⟨r4, rfl, h⟩ := hq
    exact h.elim
  · replace h := h.2 c
    refine g_aload_n (q := 0) (i := 0) (by decide +kernel) rfl rfl ?_
    refine g_strV (by decide +kernel) kw_1408 ?_
    refine g_iload_n (q := 1) (i := 1) (by decide +kernel) rfl rfl ?_
    refine g_iload_n (q := 2) (i := 2) (by decide +kernel) rfl rfl ?_
    refine g_aload_n (q := 0) (i := 0) (by decide +kernel) rfl rfl ?_
    refine g_callStr (vs := []) (st := [vi x2, vi x1, vr 61 t]) (by decide +kernel) xm_String_length kw_452 kw_335 kw_336 rfl rfl rfl (Nat.le_of_ble_eq_true rfl) (Nat.le_of_ble_eq_true rfl) h (fun vH5 H5 hq => ?_)
    obtain ⟨r6, rfl, h⟩ := hq
    refine g_callS (vs := [vr 61 t, vi x1, vi x2, vi r6]) (st := []) (by decide +kernel) xm_Latin1_indexOf kw_453 kw_454 rfl rfl (Nat.le_of_ble_eq_true rfl) (Nat.le_of_ble_eq_true rfl) h (fun vH7 H7 hq => ?_)
    obtain ⟨r8, rfl, h⟩ := hq
    refine g_goto (off := 16) (tgt := 36) (by decide +kernel) (by decide) ?_
    exact g_iret (by decide +kernel) rfl ⟨_, rfl, h⟩
def p_String_indexOf_I (E : XE) (d : Nat) (t : Nat) (x1 : Int32) (H : HH) (Q : Int32 → HH → Prop) : Prop := c_String_indexOf_II E d t x1 0 H (fun r2 H1 => Q r2 H1)
set_option maxHeartbeats 4000000 in
theorem l_String_indexOf_I {E : XE} {d : Nat} {t : Nat} {x1 : Int32} {H : HH} {Q : Int32 → HH → Prop} (h : p_String_indexOf_I E d t x1 H Q) : c_String_indexOf_I E (d + 1) t x1 H Q := by
  show g_String_indexOf_I E (d + 1) 0 (xent [vr 60 t, vi x1]) [] H (qi Q)
  refine g_drop (ls2 := [some (vr 60 t), some (vi x1)]) (And.intro rfl (And.intro rfl trivial)) ?_
  refine g_aload_n (q := 0) (i := 0) (by decide +kernel) rfl rfl ?_
  refine g_iload_n (q := 1) (i := 1) (by decide +kernel) rfl rfl ?_
  refine g_iconst (n := 0) (v := 0) (by decide +kernel) (by decide) ?_
  refine g_callStr (vs := [vi x1, vi 0]) (st := []) (by decide +kernel) xm_String_indexOf_II kw_448 kw_449 kw_450 rfl rfl rfl (Nat.le_of_ble_eq_true rfl) (Nat.le_of_ble_eq_true rfl) h (fun vH1 H1 hq => ?_)
  obtain ⟨r2, rfl, h⟩ := hq
  exact g_iret (by decide +kernel) rfl ⟨_, rfl, h⟩
end
section
/-! a method: its place, its formula, the walk that proves it; printed by wip/gen/emitall.py -/
abbrev g_Text_clear (E : XE) (d pc : Nat) (ls : List (Option AV)) (st : List AV) (H : HH) (Q : AV → HH → Prop) : Prop := Gp E.1 E.2.1 E.2.2.1 E.2.2.2 xTX xRF xLC d "ThreePoints$Text" prog_8_method_2_code 1 none pc ls st H Q
def c_Text_clear (E : XE) (d : Nat) (t : Nat) (H : HH) (Q : HH → Prop) : Prop := g_Text_clear E d 0 (xent [vr 11 t]) [] H (qv Q)
theorem xm_Text_clear : xM ⟨"ThreePoints$Text", "clear", "()V"⟩ prog_8_method_2_code 1 none 0 := ⟨kw_507, kw_71, by decide +kernel, by decide +kernel, by decide⟩
abbrev g_Text_put (E : XE) (d pc : Nat) (ls : List (Option AV)) (st : List AV) (H : HH) (Q : AV → HH → Prop) : Prop := Gp E.1 E.2.1 E.2.2.1 E.2.2.2 xTX xRF xLC d "ThreePoints$Text" prog_8_method_4_code 2 none pc ls st H Q
def c_Text_put (E : XE) (d : Nat) (t : Nat) (x1 : Int32) (H : HH) (Q : HH → Prop) : Prop := g_Text_put E d 0 (xent [vr 11 t, vi x1]) [] H (qv Q)
theorem xm_Text_put : xM ⟨"ThreePoints$Text", "put", "(I)V"⟩ prog_8_method_4_code 2 none 1 := ⟨kw_558, kw_71, by decide +kernel, by decide +kernel, by decide⟩
abbrev g_Text_endPart (E : XE) (d pc : Nat) (ls : List (Option AV)) (st : List AV) (H : HH) (Q : AV → HH → Prop) : Prop := Gp E.1 E.2.1 E.2.2.1 E.2.2.2 xTX xRF xLC d "ThreePoints$Text" prog_8_method_5_code 2 none pc ls st H Q
def c_Text_endPart (E : XE) (d : Nat) (t : Nat) (x1 : Int32) (H : HH) (Q : HH → Prop) : Prop := g_Text_endPart E d 0 (xent [vr 11 t, vi x1]) [] H (qv Q)
theorem xm_Text_endPart : xM ⟨"ThreePoints$Text", "endPart", "(I)V"⟩ prog_8_method_5_code 2 none 1 := ⟨kw_566, kw_71, by decide +kernel, by decide +kernel, by decide⟩
abbrev g_Text_become (E : XE) (d pc : Nat) (ls : List (Option AV)) (st : List AV) (H : HH) (Q : AV → HH → Prop) : Prop := Gp E.1 E.2.1 E.2.2.1 E.2.2.2 xTX xRF xLC d "ThreePoints$Text" prog_8_method_3_code 2 none pc ls st H Q
def c_Text_become (E : XE) (d : Nat) (t : Nat) (u : Nat) (H : HH) (Q : HH → Prop) : Prop := g_Text_become E d 0 (xent [vr 11 t, vr 11 u]) [] H (qv Q)
theorem xm_Text_become : xM ⟨"ThreePoints$Text", "become", "(LThreePoints$Text;)V"⟩ prog_8_method_3_code 2 none 1 := ⟨kw_574, kw_71, by decide +kernel, by decide +kernel, by decide⟩
abbrev g_Main_isWithin (E : XE) (d pc : Nat) (ls : List (Option AV)) (st : List AV) (H : HH) (Q : AV → HH → Prop) : Prop := Gp E.1 E.2.1 E.2.2.1 E.2.2.2 xTX xRF xLC d "ThreePoints" prog_1_method_33_code 3 (some .boolean) pc ls st H Q
def c_Main_isWithin (E : XE) (d : Nat) (x0 : Int32) (x1 : Int32) (x2 : Int32) (H : HH) (Q : Int32 → HH → Prop) : Prop := g_Main_isWithin E d 0 (xent [vi x0, vi x1, vi x2]) [] H (qi Q)
theorem xm_Main_isWithin : xM ⟨"ThreePoints", "isWithin", "(III)Z"⟩ prog_1_method_33_code 3 (some .boolean) 3 := ⟨kw_621, kw_65, by decide +kernel, by decide +kernel, by decide⟩
abbrev g_Lane_become (E : XE) (d pc : Nat) (ls : List (Option AV)) (st : List AV) (H : HH) (Q : AV → HH → Prop) : Prop := Gp E.1 E.2.1 E.2.2.1 E.2.2.2 xTX xRF xLC d "ThreePoints$Lane" prog_2_method_2_code 2 none pc ls st H Q
def c_Lane_become (E : XE) (d : Nat) (t : Nat) (u : Nat) (H : HH) (Q : HH → Prop) : Prop := g_Lane_become E d 0 (xent [vr 2 t, vr 2 u]) [] H (qv Q)
theorem xm_Lane_become : xM ⟨"ThreePoints$Lane", "become", "(LThreePoints$Lane;)V"⟩ prog_2_method_2_code 2 none 1 := ⟨kw_629, kw_67, by decide +kernel, by decide +kernel, by decide⟩
abbrev g_Vehicle_become (E : XE) (d pc : Nat) (ls : List (Option AV)) (st : List AV) (H : HH) (Q : AV → HH → Prop) : Prop := Gp E.1 E.2.1 E.2.2.1 E.2.2.2 xTX xRF xLC d "ThreePoints$Vehicle" prog_9_method_2_code 2 none pc ls st H Q
def c_Vehicle_become (E : XE) (d : Nat) (t : Nat) (u : Nat) (H : HH) (Q : HH → Prop) : Prop := g_Vehicle_become E d 0 (xent [vr 3 t, vr 3 u]) [] H (qv Q)
theorem xm_Vehicle_become : xM ⟨"ThreePoints$Vehicle", "become", "(LThreePoints$Vehicle;)V"⟩ prog_9_method_2_code 2 none 1 := ⟨kw_637, kw_68, by decide +kernel, by decide +kernel, by decide⟩
abbrev g_Main_across (E : XE) (d pc : Nat) (ls : List (Option AV)) (st : List AV) (H : HH) (Q : AV → HH → Prop) : Prop := Gp E.1 E.2.1 E.2.2.1 E.2.2.2 xTX xRF xLC d "ThreePoints" prog_1_method_36_code 1 (some .int) pc ls st H Q
def c_Main_across (E : XE) (d : Nat) (x0 : Int32) (H : HH) (Q : Int32 → HH → Prop) : Prop := g_Main_across E d 0 (xent [vi x0]) [] H (qi Q)
theorem xm_Main_across : xM ⟨"ThreePoints", "across", "(I)I"⟩ prog_1_method_36_code 1 (some .int) 1 := ⟨kw_648, kw_65, by decide +kernel, by decide +kernel, by decide⟩
abbrev g_Vehicle_front (E : XE) (d pc : Nat) (ls : List (Option AV)) (st : List AV) (H : HH) (Q : AV → HH → Prop) : Prop := Gp E.1 E.2.1 E.2.2.1 E.2.2.2 xTX xRF xLC d "ThreePoints$Vehicle" prog_9_method_5_code 1 (some .int) pc ls st H Q
def c_Vehicle_front (E : XE) (d : Nat) (t : Nat) (H : HH) (Q : Int32 → HH → Prop) : Prop := g_Vehicle_front E d 0 (xent [vr 3 t]) [] H (qi Q)
theorem xm_Vehicle_front : xM ⟨"ThreePoints$Vehicle", "front", "()I"⟩ prog_9_method_5_code 1 (some .int) 0 := ⟨kw_654, kw_68, by decide +kernel, by decide +kernel, by decide⟩
abbrev g_Vehicle_behind (E : XE) (d pc : Nat) (ls : List (Option AV)) (st : List AV) (H : HH) (Q : AV → HH → Prop) : Prop := Gp E.1 E.2.1 E.2.2.1 E.2.2.2 xTX xRF xLC d "ThreePoints$Vehicle" prog_9_method_6_code 1 (some .int) pc ls st H Q
def c_Vehicle_behind (E : XE) (d : Nat) (t : Nat) (H : HH) (Q : Int32 → HH → Prop) : Prop := g_Vehicle_behind E d 0 (xent [vr 3 t]) [] H (qi Q)
theorem xm_Vehicle_behind : xM ⟨"ThreePoints$Vehicle", "behind", "()I"⟩ prog_9_method_6_code 1 (some .int) 0 := ⟨kw_658, kw_68, by decide +kernel, by decide +kernel, by decide⟩
abbrev g_Text_operand (E : XE) (d pc : Nat) (ls : List (Option AV)) (st : List AV) (H : HH) (Q : AV → HH → Prop) : Prop := Gp E.1 E.2.1 E.2.2.1 E.2.2.2 xTX xRF xLC d "ThreePoints$Text" prog_8_method_7_code 3 (some .int) pc ls st H Q
def c_Text_operand (E : XE) (d : Nat) (x0 : Int32) (H : HH) (Q : Int32 → HH → Prop) : Prop := g_Text_operand E d 0 (xent [vi x0, vr 20 0]) [] H (qi Q)
theorem xm_Text_operand : xM ⟨"ThreePoints$Text", "operand", "(I[I)I"⟩ prog_8_method_7_code 3 (some .int) 2 := ⟨kw_670, kw_71, by decide +kernel, by decide +kernel, by decide⟩
abbrev g_Text_joined (E : XE) (d pc : Nat) (ls : List (Option AV)) (st : List AV) (H : HH) (Q : AV → HH → Prop) : Prop := Gp E.1 E.2.1 E.2.2.1 E.2.2.2 xTX xRF xLC d "ThreePoints$Text" prog_8_method_8_code 3 (some .int) pc ls st H Q
def c_Text_joined (E : XE) (d : Nat) (x0 : Int32) (x1 : Int32) (x2 : Int32) (H : HH) (Q : Int32 → HH → Prop) : Prop := g_Text_joined E d 0 (xent [vi x0, vi x1, vi x2]) [] H (qi Q)
theorem xm_Text_joined : xM ⟨"ThreePoints$Text", "joined", "(III)I"⟩ prog_8_method_8_code 3 (some .int) 3 := ⟨kw_673, kw_71, by decide +kernel, by decide +kernel, by decide⟩
abbrev g_Text_says (E : XE) (d pc : Nat) (ls : List (Option AV)) (st : List AV) (H : HH) (Q : AV → HH → Prop) : Prop := Gp E.1 E.2.1 E.2.2.1 E.2.2.2 xTX xRF xLC d "ThreePoints$Text" prog_8_method_6_code 7 (some .int) pc ls st H Q
def c_Text_says (E : XE) (d : Nat) (t : Nat) (x1 : Int32) (H : HH) (Q : Int32 → HH → Prop) : Prop := g_Text_says E d 0 (xent [vr 11 t, vi x1, vr 20 0]) [] H (qi Q)
theorem xm_Text_says : xM ⟨"ThreePoints$Text", "says", "(I[I)I"⟩ prog_8_method_6_code 7 (some .int) 2 := ⟨kw_667, kw_71, by decide +kernel, by decide +kernel, by decide⟩
abbrev g_Main_isByte (E : XE) (d pc : Nat) (ls : List (Option AV)) (st : List AV) (H : HH) (Q : AV → HH → Prop) : Prop := Gp E.1 E.2.1 E.2.2.1 E.2.2.2 xTX xRF xLC d "ThreePoints" prog_1_method_34_code 1 (some .boolean) pc ls st H Q
def c_Main_isByte (E : XE) (d : Nat) (x0 : Int32) (H : HH) (Q : Int32 → HH → Prop) : Prop := g_Main_isByte E d 0 (xent [vi x0]) [] H (qi Q)
theorem xm_Main_isByte : xM ⟨"ThreePoints", "isByte", "(I)Z"⟩ prog_1_method_34_code 1 (some .boolean) 1 := ⟨kw_688, kw_65, by decide +kernel, by decide +kernel, by decide⟩
abbrev g_Main_isTwoFlags (E : XE) (d pc : Nat) (ls : List (Option AV)) (st : List AV) (H : HH) (Q : AV → HH → Prop) : Prop := Gp E.1 E.2.1 E.2.2.1 E.2.2.2 xTX xRF xLC d "ThreePoints" prog_1_method_35_code 1 (some .boolean) pc ls st H Q
def c_Main_isTwoFlags (E : XE) (d : Nat) (x0 : Int32) (H : HH) (Q : Int32 → HH → Prop) : Prop := g_Main_isTwoFlags E d 0 (xent [vi x0]) [] H (qi Q)
theorem xm_Main_isTwoFlags : xM ⟨"ThreePoints", "isTwoFlags", "(I)Z"⟩ prog_1_method_35_code 1 (some .boolean) 1 := ⟨kw_712, kw_65, by decide +kernel, by decide +kernel, by decide⟩
abbrev g_Vehicle_startAt (E : XE) (d pc : Nat) (ls : List (Option AV)) (st : List AV) (H : HH) (Q : AV → HH → Prop) : Prop := Gp E.1 E.2.1 E.2.2.1 E.2.2.2 xTX xRF xLC d "ThreePoints$Vehicle" prog_9_method_3_code 2 none pc ls st H Q
def c_Vehicle_startAt (E : XE) (d : Nat) (t : Nat) (x1 : Int32) (H : HH) (Q : HH → Prop) : Prop := g_Vehicle_startAt E d 0 (xent [vr 3 t, vi x1]) [] H (qv Q)
theorem xm_Vehicle_startAt : xM ⟨"ThreePoints$Vehicle", "startAt", "(I)V"⟩ prog_9_method_3_code 2 none 1 := ⟨kw_725, kw_68, by decide +kernel, by decide +kernel, by decide⟩
abbrev g_Vehicle_turns (E : XE) (d pc : Nat) (ls : List (Option AV)) (st : List AV) (H : HH) (Q : AV → HH → Prop) : Prop := Gp E.1 E.2.1 E.2.2.1 E.2.2.2 xTX xRF xLC d "ThreePoints$Vehicle" prog_9_method_7_code 4 (some .int) pc ls st H Q
def c_Vehicle_turns (E : XE) (d : Nat) (t : Nat) (x1 : Int32) (x2 : Int32) (H : HH) (Q : Int32 → HH → Prop) : Prop := g_Vehicle_turns E d 0 (xent [vr 3 t, vi x1, vi x2]) [] H (qi Q)
theorem xm_Vehicle_turns : xM ⟨"ThreePoints$Vehicle", "turns", "(II)I"⟩ prog_9_method_7_code 4 (some .int) 2 := ⟨kw_755, kw_68, by decide +kernel, by decide +kernel, by decide⟩
abbrev g_Vehicle_stepTo (E : XE) (d pc : Nat) (ls : List (Option AV)) (st : List AV) (H : HH) (Q : AV → HH → Prop) : Prop := Gp E.1 E.2.1 E.2.2.1 E.2.2.2 xTX xRF xLC d "ThreePoints$Vehicle" prog_9_method_8_code 5 none pc ls st H Q
def c_Vehicle_stepTo (E : XE) (d : Nat) (t : Nat) (x1 : Int32) (x2 : Int32) (x3 : Int32) (x4 : Int32) (H : HH) (Q : HH → Prop) : Prop := g_Vehicle_stepTo E d 0 (xent [vr 3 t, vi x1, vi x2, vi x3, vi x4]) [] H (qv Q)
theorem xm_Vehicle_stepTo : xM ⟨"ThreePoints$Vehicle", "stepTo", "(IIII)V"⟩ prog_9_method_8_code 5 none 4 := ⟨kw_763, kw_68, by decide +kernel, by decide +kernel, by decide⟩
abbrev g_Main_otherHeading (E : XE) (d pc : Nat) (ls : List (Option AV)) (st : List AV) (H : HH) (Q : AV → HH → Prop) : Prop := Gp E.1 E.2.1 E.2.2.1 E.2.2.2 xTX xRF xLC d "ThreePoints" prog_1_method_37_code 1 (some .int) pc ls st H Q
def c_Main_otherHeading (E : XE) (d : Nat) (x0 : Int32) (H : HH) (Q : Int32 → HH → Prop) : Prop := g_Main_otherHeading E d 0 (xent [vi x0]) [] H (qi Q)
theorem xm_Main_otherHeading : xM ⟨"ThreePoints", "otherHeading", "(I)I"⟩ prog_1_method_37_code 1 (some .int) 1 := ⟨kw_775, kw_65, by decide +kernel, by decide +kernel, by decide⟩
abbrev g_Main_isSheet (E : XE) (d pc : Nat) (ls : List (Option AV)) (st : List AV) (H : HH) (Q : AV → HH → Prop) : Prop := Gp E.1 E.2.1 E.2.2.1 E.2.2.2 xTX xRF xLC d "ThreePoints" prog_1_method_40_code 1 (some .boolean) pc ls st H Q
def c_Main_isSheet (E : XE) (d : Nat) (x0 : Int32) (H : HH) (Q : Int32 → HH → Prop) : Prop := g_Main_isSheet E d 0 (xent [vi x0]) [] H (qi Q)
theorem xm_Main_isSheet : xM ⟨"ThreePoints", "isSheet", "(I)Z"⟩ prog_1_method_40_code 1 (some .boolean) 1 := ⟨kw_852, kw_65, by decide +kernel, by decide +kernel, by decide⟩
abbrev g_Sheet_isMissing (E : XE) (d pc : Nat) (ls : List (Option AV)) (st : List AV) (H : HH) (Q : AV → HH → Prop) : Prop := Gp E.1 E.2.1 E.2.2.1 E.2.2.2 xTX xRF xLC d "ThreePoints$Sheet" prog_6_method_2_code 1 (some .boolean) pc ls st H Q
def c_Sheet_isMissing (E : XE) (d : Nat) (t : Nat) (H : HH) (Q : Int32 → HH → Prop) : Prop := g_Sheet_isMissing E d 0 (xent [vr 16 t]) [] H (qi Q)
theorem xm_Sheet_isMissing : xM ⟨"ThreePoints$Sheet", "isMissing", "()Z"⟩ prog_6_method_2_code 1 (some .boolean) 0 := ⟨kw_856, kw_74, by decide +kernel, by decide +kernel, by decide⟩
abbrev g_Sheet_tellsMoves (E : XE) (d pc : Nat) (ls : List (Option AV)) (st : List AV) (H : HH) (Q : AV → HH → Prop) : Prop := Gp E.1 E.2.1 E.2.2.1 E.2.2.2 xTX xRF xLC d "ThreePoints$Sheet" prog_6_method_8_code 2 (some .boolean) pc ls st H Q
def c_Sheet_tellsMoves (E : XE) (d : Nat) (t : Nat) (H : HH) (Q : Int32 → HH → Prop) : Prop := g_Sheet_tellsMoves E d 0 (xent [vr 16 t]) [] H (qi Q)
theorem xm_Sheet_tellsMoves : xM ⟨"ThreePoints$Sheet", "tellsMoves", "()Z"⟩ prog_6_method_8_code 2 (some .boolean) 0 := ⟨kw_860, kw_74, by decide +kernel, by decide +kernel, by decide⟩
abbrev g_Sheet_has (E : XE) (d pc : Nat) (ls : List (Option AV)) (st : List AV) (H : HH) (Q : AV → HH → Prop) : Prop := Gp E.1 E.2.1 E.2.2.1 E.2.2.2 xTX xRF xLC d "ThreePoints$Sheet" prog_6_method_4_code 2 (some .boolean) pc ls st H Q
def c_Sheet_has (E : XE) (d : Nat) (t : Nat) (x1 : Int32) (H : HH) (Q : Int32 → HH → Prop) : Prop := g_Sheet_has E d 0 (xent [vr 16 t, vi x1]) [] H (qi Q)
theorem xm_Sheet_has : xM ⟨"ThreePoints$Sheet", "has", "(I)Z"⟩ prog_6_method_4_code 2 (some .boolean) 1 := ⟨kw_873, kw_74, by decide +kernel, by decide +kernel, by decide⟩
abbrev g_Sheet_get (E : XE) (d pc : Nat) (ls : List (Option AV)) (st : List AV) (H : HH) (Q : AV → HH → Prop) : Prop := Gp E.1 E.2.1 E.2.2.1 E.2.2.2 xTX xRF xLC d "ThreePoints$Sheet" prog_6_method_6_code 2 (some .int) pc ls st H Q
def c_Sheet_get (E : XE) (d : Nat) (t : Nat) (x1 : Int32) (H : HH) (Q : Int32 → HH → Prop) : Prop := g_Sheet_get E d 0 (xent [vr 16 t, vi x1]) [] H (qi Q)
theorem xm_Sheet_get : xM ⟨"ThreePoints$Sheet", "get", "(I)I"⟩ prog_6_method_6_code 2 (some .int) 1 := ⟨kw_869, kw_74, by decide +kernel, by decide +kernel, by decide⟩
abbrev g_Main_commonDivisor (E : XE) (d pc : Nat) (ls : List (Option AV)) (st : List AV) (H : HH) (Q : AV → HH → Prop) : Prop := Gp E.1 E.2.1 E.2.2.1 E.2.2.2 xTX xRF xLC d "ThreePoints" prog_1_method_38_code 3 (some .int) pc ls st H Q
def c_Main_commonDivisor (E : XE) (d : Nat) (x0 : Int32) (x1 : Int32) (H : HH) (Q : Int32 → HH → Prop) : Prop := g_Main_commonDivisor E d 0 (xent [vi x0, vi x1]) [] H (qi Q)
theorem xm_Main_commonDivisor : xM ⟨"ThreePoints", "commonDivisor", "(II)I"⟩ prog_1_method_38_code 3 (some .int) 2 := ⟨kw_913, kw_65, by decide +kernel, by decide +kernel, by decide⟩
abbrev g_Yard_become (E : XE) (d pc : Nat) (ls : List (Option AV)) (st : List AV) (H : HH) (Q : AV → HH → Prop) : Prop := Gp E.1 E.2.1 E.2.2.1 E.2.2.2 xTX xRF xLC d "ThreePoints$Yard" prog_10_method_2_code 3 none pc ls st H Q
def c_Yard_become (E : XE) (d : Nat) (t : Nat) (u : Nat) (H : HH) (Q : HH → Prop) : Prop := g_Yard_become E d 0 (xent [vr 1 t, vr 1 u]) [] H (qv Q)
theorem xm_Yard_become : xM ⟨"ThreePoints$Yard", "become", "(LThreePoints$Yard;)V"⟩ prog_10_method_2_code 3 none 1 := ⟨kw_921, kw_66, by decide +kernel, by decide +kernel, by decide⟩
abbrev g_Sheet_renew (E : XE) (d pc : Nat) (ls : List (Option AV)) (st : List AV) (H : HH) (Q : AV → HH → Prop) : Prop := Gp E.1 E.2.1 E.2.2.1 E.2.2.2 xTX xRF xLC d "ThreePoints$Sheet" prog_6_method_3_code 3 none pc ls st H Q
def c_Sheet_renew (E : XE) (d : Nat) (t : Nat) (x1 : Int32) (x2 : Int32) (H : HH) (Q : HH → Prop) : Prop := g_Sheet_renew E d 0 (xent [vr 16 t, vi x1, vi x2]) [] H (qv Q)
theorem xm_Sheet_renew : xM ⟨"ThreePoints$Sheet", "renew", "(II)V"⟩ prog_6_method_3_code 3 none 2 := ⟨kw_935, kw_74, by decide +kernel, by decide +kernel, by decide⟩
abbrev g_Sheet_put (E : XE) (d pc : Nat) (ls : List (Option AV)) (st : List AV) (H : HH) (Q : AV → HH → Prop) : Prop := Gp E.1 E.2.1 E.2.2.1 E.2.2.2 xTX xRF xLC d "ThreePoints$Sheet" prog_6_method_7_code 3 none pc ls st H Q
def c_Sheet_put (E : XE) (d : Nat) (t : Nat) (x1 : Int32) (x2 : Int32) (H : HH) (Q : HH → Prop) : Prop := g_Sheet_put E d 0 (xent [vr 16 t, vi x1, vi x2]) [] H (qv Q)
theorem xm_Sheet_put : xM ⟨"ThreePoints$Sheet", "put", "(II)V"⟩ prog_6_method_7_code 3 none 2 := ⟨kw_947, kw_74, by decide +kernel, by decide +kernel, by decide⟩
abbrev g_Sheet_hasRow (E : XE) (d pc : Nat) (ls : List (Option AV)) (st : List AV) (H : HH) (Q : AV → HH → Prop) : Prop := Gp E.1 E.2.1 E.2.2.1 E.2.2.2 xTX xRF xLC d "ThreePoints$Sheet" prog_6_method_5_code 3 (some .boolean) pc ls st H Q
def c_Sheet_hasRow (E : XE) (d : Nat) (t : Nat) (x1 : Int32) (x2 : Int32) (H : HH) (Q : Int32 → HH → Prop) : Prop := g_Sheet_hasRow E d 0 (xent [vr 16 t, vi x1, vi x2]) [] H (qi Q)
theorem xm_Sheet_hasRow : xM ⟨"ThreePoints$Sheet", "hasRow", "(II)Z"⟩ prog_6_method_5_code 3 (some .boolean) 2 := ⟨kw_955, kw_74, by decide +kernel, by decide +kernel, by decide⟩
abbrev g_Vehicle_isA (E : XE) (d pc : Nat) (ls : List (Option AV)) (st : List AV) (H : HH) (Q : AV → HH → Prop) : Prop := Gp E.1 E.2.1 E.2.2.1 E.2.2.2 xTX xRF xLC d "ThreePoints$Vehicle" prog_9_method_4_code 4 (some .boolean) pc ls st H Q
def c_Vehicle_isA (E : XE) (d : Nat) (t : Nat) (x1 : Int32) (H : HH) (Q : Int32 → HH → Prop) : Prop := g_Vehicle_isA E d 0 (xent [vr 3 t, vi x1]) [] H (qi Q)
theorem xm_Vehicle_isA : xM ⟨"ThreePoints$Vehicle", "isA", "(I)Z"⟩ prog_9_method_4_code 4 (some .boolean) 1 := ⟨kw_970, kw_68, by decide +kernel, by decide +kernel, by decide⟩
def p_Text_clear (E : XE) (d : Nat) (t : Nat) (H : HH) (Q : HH → Prop) : Prop := ∀ H1 : HH, H1 = (hu H 11 t 1 0) → (c_fill E d 13 3 t 0 H1 (fun H2 => Q H2))
set_option maxHeartbeats 4000000 in
theorem l_Text_clear {E : XE} {d : Nat} {t : Nat} {H : HH} {Q : HH → Prop} (h : p_Text_clear E d t H Q) : c_Text_clear E (d + 1) t H Q := by
  show g_Text_clear E (d + 1) 0 (xent [vr 11 t]) [] H (qv Q)
  refine g_drop (ls2 := [some (vr 11 t)]) (And.intro rfl trivial) ?_
  refine g_aload_n (q := 0) (i := 0) (by decide +kernel) rfl rfl ?_
  refine g_iconst (n := 0) (v := 0) (by decide +kernel) (by decide) ?_
  refine g_put (C := "ThreePoints$Text") (T := xT_Text) (N := 4) (ci := 6) (k := 1) xy_Text (by decide +kernel) (by decide) rfl rfl xi_Text xy_Text_ok xn_Text (by decide) kw_215 rfl (by decide +kernel) (fun _ => rfl) ?_
  refine g_aload_n (q := 0) (i := 0) (by decide +kernel) rfl rfl ?_
  refine g_get (C := "ThreePoints$Text") (T := xT_Text) (N := 4) (ci := 6) (k := 2) (v := vr 13 t) (by decide +kernel) (by decide) rfl rfl xi_Text (by decide) kw_216 rfl ?_
  refine g_iconst (n := 0) (v := 0) (by decide +kernel) (by decide) ?_
  refine g_heap (fun H1 eH1 => ?_)
  replace h := h H1 eH1
  refine g_callS (vs := [vr 13 t, vi 0]) (st := []) (by decide +kernel) xm_fill kw_508 kw_509 rfl rfl (Nat.le_of_ble_eq_true rfl) (Nat.le_of_ble_eq_true rfl) h (fun vH2 H2 hq => ?_)
  replace h := hq
  exact g_vret (by decide +kernel) rfl h
def p_Text_put (E : XE) (d : Nat) (t : Nat) (x1 : Int32) (H : HH) (Q : HH → Prop) : Prop := ((H 11 t 1) < 160 → (vp_in (H 11 t 1) 160 ∧ (∀ H1 : HH, H1 = (hu H 12 t ((H 11 t 1).toNatClampNeg) x1) → (∀ H2 : HH, H2 = (hu H1 11 t 1 ((H1 11 t 1) + 1)) → (Q H2))))) ∧ (¬ (H 11 t 1) < 160 → (Q H))
set_option maxHeartbeats 4000000 in
theorem l_Text_put {E : XE} {d : Nat} {t : Nat} {x1 : Int32} {H : HH} {Q : HH → Prop} (h : p_Text_put E d t x1 H Q) : c_Text_put E d t x1 H Q := by
  show g_Text_put E d 0 (xent [vr 11 t, vi x1]) [] H (qv Q)
  refine g_drop (ls2 := [some (vr 11 t), some (vi x1)]) (And.intro rfl (And.intro rfl trivial)) ?_
  refine g_aload_n (q := 0) (i := 0) (by decide +kernel) rfl rfl ?_
  refine g_get (C := "ThreePoints$Text") (T := xT_Text) (N := 4) (ci := 6) (k := 1) (v := vi (H 11 t 1)) (by decide +kernel) (by decide) rfl rfl xi_Text (by decide) kw_215 rfl ?_
  refine g_aload_n (q := 0) (i := 0) (by decide +kernel) rfl rfl ?_
  refine g_get (C := "ThreePoints$Text") (T := xT_Text) (N := 4) (ci := 6) (k := 0) (v := vr 12 t) (by decide +kernel) (by decide) rfl rfl xi_Text (by decide) kw_214 rfl ?_
  refine g_alen (v := 160) (by decide +kernel) (by decide) rfl (by decide) ?_
  refine g_icmp_lt (off := 4) (tgt := 13) (by decide +kernel) (by decide) (fun c => ?_) (fun c => ?_)
  · replace h := h.1 c
    refine g_aload_n (q := 0) (i := 0) (by decide +kernel) rfl rfl ?_
    refine g_get (C := "ThreePoints$Text") (T := xT_Text) (N := 4) (ci := 6) (k := 0) (v := vr 12 t) (by decide +kernel) (by decide) rfl rfl xi_Text (by decide) kw_214 rfl ?_
    refine g_aload_n (q := 0) (i := 0) (by decide +kernel) rfl rfl ?_
    refine g_get (C := "ThreePoints$Text") (T := xT_Text) (N := 4) (ci := 6) (k := 1) (v := vi (H 11 t 1)) (by decide +kernel) (by decide) rfl rfl xi_Text (by decide) kw_215 rfl ?_
    refine g_iload_n (q := 1) (i := 1) (by decide +kernel) rfl rfl ?_
    obtain ⟨hin, h⟩ := h
    refine g_iast (by decide +kernel) (by decide) rfl hin ?_
    refine g_aload_n (q := 0) (i := 0) (by decide +kernel) rfl rfl ?_
    refine g_dup (by decide +kernel) rfl ?_
    refine g_heap (fun H1 eH1 => ?_)
    replace h := h H1 eH1
    refine g_get (C := "ThreePoints$Text") (T := xT_Text) (N := 4) (ci := 6) (k := 1) (v := vi (H1 11 t 1)) (by decide +kernel) (by decide) rfl rfl xi_Text (by decide) kw_215 rfl ?_
    refine g_iconst (n := 1) (v := 1) (by decide +kernel) (by decide) ?_
    refine g_iadd (by decide +kernel) ?_
    refine g_put (C := "ThreePoints$Text") (T := xT_Text) (N := 4) (ci := 6) (k := 1) xy_Text (by decide +kernel) (by decide) rfl rfl xi_Text xy_Text_ok xn_Text (by decide) kw_215 rfl (by decide +kernel) (fun _ => rfl) ?_
    refine g_heap (fun H2 eH2 => ?_)
    replace h := h H2 eH2
    exact g_vret (by decide +kernel) rfl h
  · replace h := h.2 c
    exact g_vret (by decide +kernel) rfl h
def p_Text_endPart (E : XE) (d : Nat) (t : Nat) (x1 : Int32) (H : HH) (Q : HH → Prop) : Prop := (x1 < 0 → (Q H)) ∧ (¬ x1 < 0 → ((3 ≤ x1 → (Q H)) ∧ (¬ 3 ≤ x1 → (vp_in x1 3 ∧ (∀ H1 : HH, H1 = (hu H 13 t (x1.toNatClampNeg) (H 11 t 1)) → (Q H1))))))
set_option maxHeartbeats 4000000 in
theorem l_Text_endPart {E : XE} {d : Nat} {t : Nat} {x1 : Int32} {H : HH} {Q : HH → Prop} (h : p_Text_endPart E d t x1 H Q) : c_Text_endPart E d t x1 H Q := by
  show g_Text_endPart E d 0 (xent [vr 11 t, vi x1]) [] H (qv Q)
  refine g_drop (ls2 := [some (vr 11 t), some (vi x1)]) (And.intro rfl (And.intro rfl trivial)) ?_
  refine g_iload_n (q := 1) (i := 1) (by decide +kernel) rfl rfl ?_
  refine g_if_lt (off := 18) (tgt := 19) (by decide +kernel) (by decide) (fun c => ?_) (fun c => ?_)
  · replace h := h.1 c
    exact g_vret (by decide +kernel) rfl h
  · replace h := h.2 c
    refine g_iload_n (q := 1) (i := 1) (by decide +kernel) rfl rfl ?_
    refine g_iconst (n := 3) (v := 3) (by decide +kernel) (by decide) ?_
    refine g_icmp_ge (off := 13) (tgt := 19) (by decide +kernel) (by decide) (fun c => ?_) (fun c => ?_)
    · replace h := h.1 c
      exact g_vret (by decide +kernel) rfl h
    · replace h := h.2 c
      refine g_aload_n (q := 0) (i := 0) (by decide +kernel) rfl rfl ?_
      refine g_get (C := "ThreePoints$Text") (T := xT_Text) (N := 4) (ci := 6) (k := 2) (v := vr 13 t) (by decide +kernel) (by decide) rfl rfl xi_Text (by decide) kw_216 rfl ?_
      refine g_iload_n (q := 1) (i := 1) (by decide +kernel) rfl rfl ?_
      refine g_aload_n (q := 0) (i := 0) (by decide +kernel) rfl rfl ?_
      refine g_get (C := "ThreePoints$Text") (T := xT_Text) (N := 4) (ci := 6) (k := 1) (v := vi (H 11 t 1)) (by decide +kernel) (by decide) rfl rfl xi_Text (by decide) kw_215 rfl ?_
      obtain ⟨hin, h⟩ := h
      refine g_iast (by decide +kernel) (by decide) rfl hin ?_
      refine g_heap (fun H1 eH1 => ?_)
      replace h := h H1 eH1
      exact g_vret (by decide +kernel) rfl h
def p_Text_become (E : XE) (d : Nat) (t : Nat) (u : Nat) (H : HH) (Q : HH → Prop) : Prop := ∀ H1 : HH, H1 = (hu H 11 t 1 (H 11 u 1)) → (∀ H2 : HH, H2 = (hrow H1 12 t (va_cpy (H1 12 u) (H1 12 t) 0 0 160)) → (∀ H3 : HH, H3 = (hrow H2 13 t (va_cpy (H2 13 u) (H2 13 t) 0 0 3)) → (Q H3)))
set_option maxHeartbeats 4000000 in
theorem l_Text_become {E : XE} {d : Nat} {t : Nat} {u : Nat} {H : HH} {Q : HH → Prop} (h : p_Text_become E d t u H Q) : c_Text_become E (d + 1) t u H Q := by
  show g_Text_become E (d + 1) 0 (xent [vr 11 t, vr 11 u]) [] H (qv Q)
  refine g_drop (ls2 := [some (vr 11 t), some (vr 11 u)]) (And.intro rfl (And.intro rfl trivial)) ?_
  refine g_aload_n (q := 0) (i := 0) (by decide +kernel) rfl rfl ?_
  refine g_aload_n (q := 1) (i := 1) (by decide +kernel) rfl rfl ?_
  refine g_get (C := "ThreePoints$Text") (T := xT_Text) (N := 4) (ci := 6) (k := 1) (v := vi (H 11 u 1)) (by decide +kernel) (by decide) rfl rfl xi_Text (by decide) kw_215 rfl ?_
  refine g_put (C := "ThreePoints$Text") (T := xT_Text) (N := 4) (ci := 6) (k := 1) xy_Text (by decide +kernel) (by decide) rfl rfl xi_Text xy_Text_ok xn_Text (by decide) kw_215 rfl (by decide +kernel) (fun _ => rfl) ?_
  refine g_aload_n (q := 1) (i := 1) (by decide +kernel) rfl rfl ?_
  refine g_get (C := "ThreePoints$Text") (T := xT_Text) (N := 4) (ci := 6) (k := 0) (v := vr 12 u) (by decide +kernel) (by decide) rfl rfl xi_Text (by decide) kw_214 rfl ?_
  refine g_iconst (n := 0) (v := 0) (by decide +kernel) (by decide) ?_
  refine g_aload_n (q := 0) (i := 0) (by decide +kernel) rfl rfl ?_
  refine g_get (C := "ThreePoints$Text") (T := xT_Text) (N := 4) (ci := 6) (k := 0) (v := vr 12 t) (by decide +kernel) (by decide) rfl rfl xi_Text (by decide) kw_214 rfl ?_
  refine g_iconst (n := 0) (v := 0) (by decide +kernel) (by decide) ?_
  refine g_sipush (n := 160) (v := 160) (by decide +kernel) (by decide) ?_
  refine g_heap (fun H1 eH1 => ?_)
  replace h := h H1 eH1
  refine g_copy (by decide +kernel) kw_575 kw_577 kw_576 kw_82 (Nat.le_of_ble_eq_true rfl) (by decide) (by decide) rfl rfl (by decide) (by decide) (by decide) (by decide) (by decide) ?_
  refine g_heapE (H1 := (hrow H1 12 t (va_cpy (H1 12 u) (H1 12 t) 0 0 160))) rfl ?_
  refine g_aload_n (q := 1) (i := 1) (by decide +kernel) rfl rfl ?_
  refine g_get (C := "ThreePoints$Text") (T := xT_Text) (N := 4) (ci := 6) (k := 2) (v := vr 13 u) (by decide +kernel) (by decide) rfl rfl xi_Text (by decide) kw_216 rfl ?_
  refine g_iconst (n := 0) (v := 0) (by decide +kernel) (by decide) ?_
  refine g_aload_n (q := 0) (i := 0) (by decide +kernel) rfl rfl ?_
  refine g_get (C := "ThreePoints$Text") (T := xT_Text) (N := 4) (ci := 6) (k := 2) (v := vr 13 t) (by decide +kernel) (by decide) rfl rfl xi_Text (by decide) kw_216 rfl ?_
  refine g_iconst (n := 0) (v := 0) (by decide +kernel) (by decide) ?_
  refine g_iconst (n := 3) (v := 3) (by decide +kernel) (by decide) ?_
  refine g_heap (fun H2 eH2 => ?_)
  replace h := h H2 eH2
  refine g_copy (by decide +kernel) kw_575 kw_577 kw_576 kw_82 (Nat.le_of_ble_eq_true rfl) (by decide) (by decide) rfl rfl (by decide) (by decide) (by decide) (by decide) (by decide) ?_
  refine g_heapE (H1 := (hrow H2 13 t (va_cpy (H2 13 u) (H2 13 t) 0 0 3))) rfl ?_
  refine g_heap (fun H3 eH3 => ?_)
  replace h := h H3 eH3
  exact g_vret (by decide +kernel) rfl h
def p_Main_isWithin (E : XE) (d : Nat) (x0 : Int32) (x1 : Int32) (x2 : Int32) (H : HH) (Q : Int32 → HH → Prop) : Prop := ((if x0 < x1 then 0 else (if x2 < x0 then 0 else 1 : Int32) : Int32) = 0 ∨ (if x0 < x1 then 0 else (if x2 < x0 then 0 else 1 : Int32) : Int32) = 1) ∧ Q (if x0 < x1 then 0 else (if x2 < x0 then 0 else 1 : Int32) : Int32) H
set_option maxHeartbeats 4000000 in
theorem l_Main_isWithin {E : XE} {d : Nat} {x0 : Int32} {x1 : Int32} {x2 : Int32} {H : HH} {Q : Int32 → HH → Prop} (h : p_Main_isWithin E d x0 x1 x2 H Q) : c_Main_isWithin E d x0 x1 x2 H Q := by
  show g_Main_isWithin E d 0 (xent [vi x0, vi x1, vi x2]) [] H (qi Q)
  refine g_drop (ls2 := [some (vi x0), some (vi x1), some (vi x2)]) (And.intro rfl (And.intro rfl (And.intro rfl trivial))) ?_
  refine g_iload_n (q := 0) (i := 0) (by decide +kernel) rfl rfl ?_
  refine g_iload_n (q := 1) (i := 1) (by decide +kernel) rfl rfl ?_
  suffices hj2 : g_Main_isWithin E d 15 [some (vi x0), some (vi x1), some (vi x2)] [vi (if x0 < x1 then 0 else (if x2 < x0 then 0 else 1 : Int32) : Int32)] H (qi Q) by
    refine g_icmp_lt (off := 12) (tgt := 14) (by decide +kernel) (by decide) (fun c => ?_) (fun c => ?_)
    · rw [if_pos c] at hj2
      refine g_iconst (n := 0) (v := 0) (by decide +kernel) (by decide) ?_
      exact hj2
    · rw [if_neg c] at hj2
      refine g_iload_n (q := 0) (i := 0) (by decide +kernel) rfl rfl ?_
      refine g_iload_n (q := 2) (i := 2) (by decide +kernel) rfl rfl ?_
      suffices hj1 : g_Main_isWithin E d 15 [some (vi x0), some (vi x1), some (vi x2)] [vi (if x2 < x0 then 0 else 1 : Int32)] H (qi Q) by
        refine g_icmp_gt (off := 7) (tgt := 14) (by decide +kernel) (by decide) (fun c => ?_) (fun c => ?_)
        · rw [if_pos c] at hj1
          refine g_iconst (n := 0) (v := 0) (by decide +kernel) (by decide) ?_
          exact hj1
        · rw [if_neg c] at hj1
          refine g_iconst (n := 1) (v := 1) (by decide +kernel) (by decide) ?_
          refine g_goto (off := 4) (tgt := 15) (by decide +kernel) (by decide) ?_
          exact hj1
      exact hj2
  obtain ⟨h01, h⟩ := h
  exact g_zret (by decide +kernel) rfl (nbool h01) ⟨_, rfl, h⟩
def p_Lane_become (E : XE) (d : Nat) (t : Nat) (u : Nat) (H : HH) (Q : HH → Prop) : Prop := ∀ H1 : HH, H1 = (hu H 2 t 0 (H 2 u 0)) → (∀ H2 : HH, H2 = (hu H1 2 t 1 (H1 2 u 1)) → (∀ H3 : HH, H3 = (hu H2 2 t 2 (H2 2 u 2)) → (Q H3)))
set_option maxHeartbeats 4000000 in
theorem l_Lane_become {E : XE} {d : Nat} {t : Nat} {u : Nat} {H : HH} {Q : HH → Prop} (h : p_Lane_become E d t u H Q) : c_Lane_become E d t u H Q := by
  show g_Lane_become E d 0 (xent [vr 2 t, vr 2 u]) [] H (qv Q)
  refine g_drop (ls2 := [some (vr 2 t), some (vr 2 u)]) (And.intro rfl (And.intro rfl trivial)) ?_
  refine g_aload_n (q := 0) (i := 0) (by decide +kernel) rfl rfl ?_
  refine g_aload_n (q := 1) (i := 1) (by decide +kernel) rfl rfl ?_
  refine g_get (C := "ThreePoints$Lane") (T := xT_Lane) (N := 3) (ci := 2) (k := 0) (v := vi (H 2 u 0)) (by decide +kernel) (by decide) rfl rfl xi_Lane (by decide) kw_104 rfl ?_
  refine g_put (C := "ThreePoints$Lane") (T := xT_Lane) (N := 3) (ci := 2) (k := 0) xy_Lane (by decide +kernel) (by decide) rfl rfl xi_Lane xy_Lane_ok xn_Lane (by decide) kw_104 rfl (by decide +kernel) (fun _ => rfl) ?_
  refine g_aload_n (q := 0) (i := 0) (by decide +kernel) rfl rfl ?_
  refine g_aload_n (q := 1) (i := 1) (by decide +kernel) rfl rfl ?_
  refine g_heap (fun H1 eH1 => ?_)
  replace h := h H1 eH1
  refine g_get (C := "ThreePoints$Lane") (T := xT_Lane) (N := 3) (ci := 2) (k := 1) (v := vi (H1 2 u 1)) (by decide +kernel) (by decide) rfl rfl xi_Lane (by decide) kw_108 rfl ?_
  refine g_put (C := "ThreePoints$Lane") (T := xT_Lane) (N := 3) (ci := 2) (k := 1) xy_Lane (by decide +kernel) (by decide) rfl rfl xi_Lane xy_Lane_ok xn_Lane (by decide) kw_108 rfl (by decide +kernel) (fun _ => rfl) ?_
  refine g_aload_n (q := 0) (i := 0) (by decide +kernel) rfl rfl ?_
  refine g_aload_n (q := 1) (i := 1) (by decide +kernel) rfl rfl ?_
  refine g_heap (fun H2 eH2 => ?_)
  replace h := h H2 eH2
  refine g_get (C := "ThreePoints$Lane") (T := xT_Lane) (N := 3) (ci := 2) (k := 2) (v := vi (H2 2 u 2)) (by decide +kernel) (by decide) rfl rfl xi_Lane (by decide) kw_111 rfl ?_
  refine g_put (C := "ThreePoints$Lane") (T := xT_Lane) (N := 3) (ci := 2) (k := 2) xy_Lane (by decide +kernel) (by decide) rfl rfl xi_Lane xy_Lane_ok xn_Lane (by decide) kw_111 rfl (by decide +kernel) (fun _ => rfl) ?_
  refine g_heap (fun H3 eH3 => ?_)
  replace h := h H3 eH3
  exact g_vret (by decide +kernel) rfl h
def p_Vehicle_become (E : XE) (d : Nat) (t : Nat) (u : Nat) (H : HH) (Q : HH → Prop) : Prop := ∀ H1 : HH, H1 = (hu H 3 t 0 (H 3 u 0)) → (∀ H2 : HH, H2 = (hu H1 3 t 1 (H1 3 u 1)) → (∀ H3 : HH, H3 = (hu H2 3 t 2 (H2 3 u 2)) → (∀ H4 : HH, H4 = (hu H3 3 t 3 (H3 3 u 3)) → (∀ H5 : HH, H5 = (hu H4 3 t 4 (H4 3 u 4)) → (∀ H6 : HH, H6 = (hu H5 3 t 5 (H5 3 u 5)) → (∀ H7 : HH, H7 = (hu H6 3 t 6 (H6 3 u 6)) → (Q H7)))))))
set_option maxHeartbeats 4000000 in
theorem l_Vehicle_become {E : XE} {d : Nat} {t : Nat} {u : Nat} {H : HH} {Q : HH → Prop} (h : p_Vehicle_become E d t u H Q) : c_Vehicle_become E d t u H Q := by
  show g_Vehicle_become E d 0 (xent [vr 3 t, vr 3 u]) [] H (qv Q)
  refine g_drop (ls2 := [some (vr 3 t), some (vr 3 u)]) (And.intro rfl (And.intro rfl trivial)) ?_
  refine g_aload_n (q := 0) (i := 0) (by decide +kernel) rfl rfl ?_
  refine g_aload_n (q := 1) (i := 1) (by decide +kernel) rfl rfl ?_
  refine g_get (C := "ThreePoints$Vehicle") (T := xT_Vehicle) (N := 7) (ci := 3) (k := 0) (v := vi (H 3 u 0)) (by decide +kernel) (by decide) rfl rfl xi_Vehicle (by decide) kw_127 rfl ?_
  refine g_put (C := "ThreePoints$Vehicle") (T := xT_Vehicle) (N := 7) (ci := 3) (k := 0) xy_Vehicle (by decide +kernel) (by decide) rfl rfl xi_Vehicle xy_Vehicle_ok xn_Vehicle (by decide) kw_127 rfl (by decide +kernel) (fun _ => rfl) ?_
  refine g_aload_n (q := 0) (i := 0) (by decide +kernel) rfl rfl ?_
  refine g_aload_n (q := 1) (i := 1) (by decide +kernel) rfl rfl ?_
  refine g_heap (fun H1 eH1 => ?_)
  replace h := h H1 eH1
  refine g_get (C := "ThreePoints$Vehicle") (T := xT_Vehicle) (N := 7) (ci := 3) (k := 1) (v := vi (H1 3 u 1)) (by decide +kernel) (by decide) rfl rfl xi_Vehicle (by decide) kw_129 rfl ?_
  refine g_put (C := "ThreePoints$Vehicle") (T := xT_Vehicle) (N := 7) (ci := 3) (k := 1) xy_Vehicle (by decide +kernel) (by decide) rfl rfl xi_Vehicle xy_Vehicle_ok xn_Vehicle (by decide) kw_129 rfl (by decide +kernel) (fun _ => rfl) ?_
  refine g_aload_n (q := 0) (i := 0) (by decide +kernel) rfl rfl ?_
  refine g_aload_n (q := 1) (i := 1) (by decide +kernel) rfl rfl ?_
  refine g_heap (fun H2 eH2 => ?_)
  replace h := h H2 eH2
  refine g_get (C := "ThreePoints$Vehicle") (T := xT_Vehicle) (N := 7) (ci := 3) (k := 2) (v := vi (H2 3 u 2)) (by decide +kernel) (by decide) rfl rfl xi_Vehicle (by decide) kw_132 rfl ?_
  refine g_put (C := "ThreePoints$Vehicle") (T := xT_Vehicle) (N := 7) (ci := 3) (k := 2) xy_Vehicle (by decide +kernel) (by decide) rfl rfl xi_Vehicle xy_Vehicle_ok xn_Vehicle (by decide) kw_132 rfl (by decide +kernel) (fun _ => rfl) ?_
  refine g_aload_n (q := 0) (i := 0) (by decide +kernel) rfl rfl ?_
  refine g_aload_n (q := 1) (i := 1) (by decide +kernel) rfl rfl ?_
  refine g_heap (fun H3 eH3 => ?_)
  replace h := h H3 eH3
  refine g_get (C := "ThreePoints$Vehicle") (T := xT_Vehicle) (N := 7) (ci := 3) (k := 3) (v := vi (H3 3 u 3)) (by decide +kernel) (by decide) rfl rfl xi_Vehicle (by decide) kw_136 rfl ?_
  refine g_put (C := "ThreePoints$Vehicle") (T := xT_Vehicle) (N := 7) (ci := 3) (k := 3) xy_Vehicle (by decide +kernel) (by decide) rfl rfl xi_Vehicle xy_Vehicle_ok xn_Vehicle (by decide) kw_136 rfl (by decide +kernel) (fun _ => rfl) ?_
  refine g_aload_n (q := 0) (i := 0) (by decide +kernel) rfl rfl ?_
  refine g_aload_n (q := 1) (i := 1) (by decide +kernel) rfl rfl ?_
  refine g_heap (fun H4 eH4 => ?_)
  replace h := h H4 eH4
  refine g_get (C := "ThreePoints$Vehicle") (T := xT_Vehicle) (N := 7) (ci := 3) (k := 4) (v := vi (H4 3 u 4)) (by decide +kernel) (by decide) rfl rfl xi_Vehicle (by decide) kw_140 rfl ?_
  refine g_put (C := "ThreePoints$Vehicle") (T := xT_Vehicle) (N := 7) (ci := 3) (k := 4) xy_Vehicle (by decide +kernel) (by decide) rfl rfl xi_Vehicle xy_Vehicle_ok xn_Vehicle (by decide) kw_140 rfl (by decide +kernel) (fun _ => rfl) ?_
  refine g_aload_n (q := 0) (i := 0) (by decide +kernel) rfl rfl ?_
  refine g_aload_n (q := 1) (i := 1) (by decide +kernel) rfl rfl ?_
  refine g_heap (fun H5 eH5 => ?_)
  replace h := h H5 eH5
  refine g_get (C := "ThreePoints$Vehicle") (T := xT_Vehicle) (N := 7) (ci := 3) (k := 5) (v := vi (H5 3 u 5)) (by decide +kernel) (by decide) rfl rfl xi_Vehicle (by decide) kw_142 rfl ?_
  refine g_put (C := "ThreePoints$Vehicle") (T := xT_Vehicle) (N := 7) (ci := 3) (k := 5) xy_Vehicle (by decide +kernel) (by decide) rfl rfl xi_Vehicle xy_Vehicle_ok xn_Vehicle (by decide) kw_142 rfl (by decide +kernel) (fun _ => rfl) ?_
  refine g_aload_n (q := 0) (i := 0) (by decide +kernel) rfl rfl ?_
  refine g_aload_n (q := 1) (i := 1) (by decide +kernel) rfl rfl ?_
  refine g_heap (fun H6 eH6 => ?_)
  replace h := h H6 eH6
  refine g_get (C := "ThreePoints$Vehicle") (T := xT_Vehicle) (N := 7) (ci := 3) (k := 6) (v := vi (H6 3 u 6)) (by decide +kernel) (by decide) rfl rfl xi_Vehicle (by decide) kw_144 rfl ?_
  refine g_put (C := "ThreePoints$Vehicle") (T := xT_Vehicle) (N := 7) (ci := 3) (k := 6) xy_Vehicle (by decide +kernel) (by decide) rfl rfl xi_Vehicle xy_Vehicle_ok xn_Vehicle (by decide) kw_144 rfl (by decide +kernel) (fun _ => rfl) ?_
  refine g_heap (fun H7 eH7 => ?_)
  replace h := h H7 eH7
  exact g_vret (by decide +kernel) rfl h
def p_Main_across (E : XE) (d : Nat) (x0 : Int32) (H : HH) (Q : Int32 → HH → Prop) : Prop := vp_in (x0 &&& 15) 16 ∧ (Q (xACR.getD ((x0 &&& 15).toNatClampNeg) 0) H)
set_option maxHeartbeats 4000000 in
theorem l_Main_across {E : XE} {d : Nat} {x0 : Int32} {H : HH} {Q : Int32 → HH → Prop} (h : p_Main_across E d x0 H Q) : c_Main_across E d x0 H Q := by
  show g_Main_across E d 0 (xent [vi x0]) [] H (qi Q)
  refine g_drop (ls2 := [some (vi x0)]) (And.intro rfl trivial) ?_
  refine g_gsACR (by decide +kernel) kw_649 ?_
  refine g_iload_n (q := 0) (i := 0) (by decide +kernel) rfl rfl ?_
  refine g_bipush (n := 15) (v := 15) (by decide +kernel) (by decide) ?_
  refine g_iand (by decide +kernel) ?_
  obtain ⟨hin, h⟩ := h
  refine g_ialdACR (by decide +kernel) hin ?_
  exact g_iret (by decide +kernel) rfl ⟨_, rfl, h⟩
def p_Vehicle_front (E : XE) (d : Nat) (t : Nat) (H : HH) (Q : Int32 → HH → Prop) : Prop := ((H 3 t 0) = 1 → (Q (5 + (H 3 t 1)) H)) ∧ ((H 3 t 0) = 3 → (Q (5 + (H 3 t 1)) H)) ∧ ((H 3 t 0) = 4 → (Q 3 H)) ∧ (¬ (H 3 t 0) = 1 → ¬ (H 3 t 0) = 3 → ¬ (H 3 t 0) = 4 → (Q 5 H))
set_option maxHeartbeats 4000000 in
theorem l_Vehicle_front {E : XE} {d : Nat} {t : Nat} {H : HH} {Q : Int32 → HH → Prop} (h : p_Vehicle_front E d t H Q) : c_Vehicle_front E d t H Q := by
  show g_Vehicle_front E d 0 (xent [vr 3 t]) [] H (qi Q)
  refine g_drop (ls2 := [some (vr 3 t)]) (And.intro rfl trivial) ?_
  refine g_aload_n (q := 0) (i := 0) (by decide +kernel) rfl rfl ?_
  refine g_get (C := "ThreePoints$Vehicle") (T := xT_Vehicle) (N := 7) (ci := 3) (k := 0) (v := vi (H 3 t 0)) (by decide +kernel) (by decide) rfl rfl xi_Vehicle (by decide) kw_127 rfl ?_
  obtain ⟨hk, h⟩ := h
  by_cases e1 : (H 3 t 0) = 1
  · replace h := hk e1
    refine g_tableIn (dflt := 41) (lo := 1) (hi := 4) (offs := #[32, 41, 32, 39]) (len := 32) (tgt := 36) (by decide +kernel) (by rw [e1]; decide) (by rw [e1]; decide) (by rw [e1]; rfl) (by decide) ?_
    refine g_iconst (n := 5) (v := 5) (by decide +kernel) (by decide) ?_
    refine g_aload_n (q := 0) (i := 0) (by decide +kernel) rfl rfl ?_
    refine g_get (C := "ThreePoints$Vehicle") (T := xT_Vehicle) (N := 7) (ci := 3) (k := 1) (v := vi (H 3 t 1)) (by decide +kernel) (by decide) rfl rfl xi_Vehicle (by decide) kw_129 rfl ?_
    refine g_iadd (by decide +kernel) ?_
    exact g_iret (by decide +kernel) rfl ⟨_, rfl, h⟩
  clear hk
  obtain ⟨hk, h⟩ := h
  by_cases e3 : (H 3 t 0) = 3
  · replace h := hk e3
    refine g_tableIn (dflt := 41) (lo := 1) (hi := 4) (offs := #[32, 41, 32, 39]) (len := 32) (tgt := 36) (by decide +kernel) (by rw [e3]; decide) (by rw [e3]; decide) (by rw [e3]; rfl) (by decide) ?_
    refine g_iconst (n := 5) (v := 5) (by decide +kernel) (by decide) ?_
    refine g_aload_n (q := 0) (i := 0) (by decide +kernel) rfl rfl ?_
    refine g_get (C := "ThreePoints$Vehicle") (T := xT_Vehicle) (N := 7) (ci := 3) (k := 1) (v := vi (H 3 t 1)) (by decide +kernel) (by decide) rfl rfl xi_Vehicle (by decide) kw_129 rfl ?_
    refine g_iadd (by decide +kernel) ?_
    exact g_iret (by decide +kernel) rfl ⟨_, rfl, h⟩
  clear hk
  obtain ⟨hk, h⟩ := h
  by_cases e4 : (H 3 t 0) = 4
  · replace h := hk e4
    refine g_tableIn (dflt := 41) (lo := 1) (hi := 4) (offs := #[32, 41, 32, 39]) (len := 32) (tgt := 43) (by decide +kernel) (by rw [e4]; decide) (by rw [e4]; decide) (by rw [e4]; rfl) (by decide) ?_
    refine g_iconst (n := 3) (v := 3) (by decide +kernel) (by decide) ?_
    exact g_iret (by decide +kernel) rfl ⟨_, rfl, h⟩
  clear hk
  replace h := h e1 e3 e4
  by_cases e2 : (H 3 t 0) = 2
  · refine g_tableIn (dflt := 41) (lo := 1) (hi := 4) (offs := #[32, 41, 32, 39]) (len := 32) (tgt := 45) (by decide +kernel) (by rw [e2]; decide) (by rw [e2]; decide) (by rw [e2]; rfl) (by decide) ?_
    refine g_iconst (n := 5) (v := 5) (by decide +kernel) (by decide) ?_
    exact g_iret (by decide +kernel) rfl ⟨_, rfl, h⟩
  refine g_tableOut (dflt := 41) (lo := 1) (hi := 4) (offs := #[32, 41, 32, 39]) (len := 32) (tgt := 45) (by decide +kernel) (by have q1 := xsw (m := 1) (by decide) e1; have q2 := xsw (m := 2) (by decide) e2; have q3 := xsw (m := 3) (by decide) e3; have q4 := xsw (m := 4) (by decide) e4; omega) (by decide) ?_
  refine g_iconst (n := 5) (v := 5) (by decide +kernel) (by decide) ?_
  exact g_iret (by decide +kernel) rfl ⟨_, rfl, h⟩
def p_Vehicle_behind (E : XE) (d : Nat) (t : Nat) (H : HH) (Q : Int32 → HH → Prop) : Prop := ((H 3 t 0) = 2 → (Q 2 H)) ∧ ((H 3 t 0) = 3 → (Q (4 + (H 3 t 1)) H)) ∧ ((H 3 t 0) = 4 → (Q 2 H)) ∧ (¬ (H 3 t 0) = 2 → ¬ (H 3 t 0) = 3 → ¬ (H 3 t 0) = 4 → (Q 4 H))
set_option maxHeartbeats 4000000 in
theorem l_Vehicle_behind {E : XE} {d : Nat} {t : Nat} {H : HH} {Q : Int32 → HH → Prop} (h : p_Vehicle_behind E d t H Q) : c_Vehicle_behind E d t H Q := by
  show g_Vehicle_behind E d 0 (xent [vr 3 t]) [] H (qi Q)
  refine g_drop (ls2 := [some (vr 3 t)]) (And.intro rfl trivial) ?_
  refine g_aload_n (q := 0) (i := 0) (by decide +kernel) rfl rfl ?_
  refine g_get (C := "ThreePoints$Vehicle") (T := xT_Vehicle) (N := 7) (ci := 3) (k := 0) (v := vi (H 3 t 0)) (by decide +kernel) (by decide) rfl rfl xi_Vehicle (by decide) kw_127 rfl ?_
  obtain ⟨hk, h⟩ := h
  by_cases e2 : (H 3 t 0) = 2
  · replace h := hk e2
    refine g_tableIn (dflt := 37) (lo := 2) (hi := 4) (offs := #[28, 30, 28]) (len := 28) (tgt := 32) (by decide +kernel) (by rw [e2]; decide) (by rw [e2]; decide) (by rw [e2]; rfl) (by decide) ?_
    refine g_iconst (n := 2) (v := 2) (by decide +kernel) (by decide) ?_
    exact g_iret (by decide +kernel) rfl ⟨_, rfl, h⟩
  clear hk
  obtain ⟨hk, h⟩ := h
  by_cases e3 : (H 3 t 0) = 3
  · replace h := hk e3
    refine g_tableIn (dflt := 37) (lo := 2) (hi := 4) (offs := #[28, 30, 28]) (len := 28) (tgt := 34) (by decide +kernel) (by rw [e3]; decide) (by rw [e3]; decide) (by rw [e3]; rfl) (by decide) ?_
    refine g_iconst (n := 4) (v := 4) (by decide +kernel) (by decide) ?_
    refine g_aload_n (q := 0) (i := 0) (by decide +kernel) rfl rfl ?_
    refine g_get (C := "ThreePoints$Vehicle") (T := xT_Vehicle) (N := 7) (ci := 3) (k := 1) (v := vi (H 3 t 1)) (by decide +kernel) (by decide) rfl rfl xi_Vehicle (by decide) kw_129 rfl ?_
    refine g_iadd (by decide +kernel) ?_
    exact g_iret (by decide +kernel) rfl ⟨_, rfl, h⟩
  clear hk
  obtain ⟨hk, h⟩ := h
  by_cases e4 : (H 3 t 0) = 4
  · replace h := hk e4
    refine g_tableIn (dflt := 37) (lo := 2) (hi := 4) (offs := #[28, 30, 28]) (len := 28) (tgt := 32) (by decide +kernel) (by rw [e4]; decide) (by rw [e4]; decide) (by rw [e4]; rfl) (by decide) ?_
    refine g_iconst (n := 2) (v := 2) (by decide +kernel) (by decide) ?_
    exact g_iret (by decide +kernel) rfl ⟨_, rfl, h⟩
  clear hk
  replace h := h e2 e3 e4
  refine g_tableOut (dflt := 37) (lo := 2) (hi := 4) (offs := #[28, 30, 28]) (len := 28) (tgt := 41) (by decide +kernel) (by have q2 := xsw (m := 2) (by decide) e2; have q3 := xsw (m := 3) (by decide) e3; have q4 := xsw (m := 4) (by decide) e4; omega) (by decide) ?_
  refine g_iconst (n := 4) (v := 4) (by decide +kernel) (by decide) ?_
  exact g_iret (by decide +kernel) rfl ⟨_, rfl, h⟩
def p_Text_operand (E : XE) (d : Nat) (x0 : Int32) (H : HH) (Q : Int32 → HH → Prop) : Prop := (10000 ≤ x0 → ((6 ≤ (x0 - 10000) → (Q 0 H)) ∧ (¬ 6 ≤ (x0 - 10000) → (vp_in (x0 - 10000) 6 ∧ (Q (H 20 0 ((x0 - 10000).toNatClampNeg)) H))))) ∧ (¬ 10000 ≤ x0 → (Q x0 H))
set_option maxHeartbeats 4000000 in
theorem l_Text_operand {E : XE} {d : Nat} {x0 : Int32} {H : HH} {Q : Int32 → HH → Prop} (h : p_Text_operand E d x0 H Q) : c_Text_operand E d x0 H Q := by
  show g_Text_operand E d 0 (xent [vi x0, vr 20 0]) [] H (qi Q)
  refine g_drop (ls2 := [some (vi x0), some (vr 20 0), none]) (And.intro rfl (And.intro rfl trivial)) ?_
  refine g_iload_n (q := 0) (i := 0) (by decide +kernel) rfl rfl ?_
  refine g_sipush (n := 10000) (v := 10000) (by decide +kernel) (by decide) ?_
  refine g_icmp_ge (off := 5) (tgt := 9) (by decide +kernel) (by decide) (fun c => ?_) (fun c => ?_)
  · replace h := h.1 c
    refine g_iload_n (q := 0) (i := 0) (by decide +kernel) rfl rfl ?_
    refine g_sipush (n := 10000) (v := 10000) (by decide +kernel) (by decide) ?_
    refine g_isub (by decide +kernel) ?_
    refine g_istore_n (q := 2) (i := 2) (ls2 := [some (vi x0), some (vr 20 0), some (vi (x0 - 10000))]) (by decide +kernel) rfl (by decide) rfl rfl ?_
    refine g_iload_n (q := 2) (i := 2) (by decide +kernel) rfl rfl ?_
    refine g_aload_n (q := 1) (i := 1) (by decide +kernel) rfl rfl ?_
    refine g_alen (v := 6) (by decide +kernel) (by decide) rfl (by decide) ?_
    refine g_icmp_ge (off := 9) (tgt := 27) (by decide +kernel) (by decide) (fun c => ?_) (fun c => ?_)
    · replace h := h.1 c
      refine g_iconst (n := 0) (v := 0) (by decide +kernel) (by decide) ?_
      exact g_iret (by decide +kernel) rfl ⟨_, rfl, h⟩
    · replace h := h.2 c
      refine g_aload_n (q := 1) (i := 1) (by decide +kernel) rfl rfl ?_
      refine g_iload_n (q := 2) (i := 2) (by decide +kernel) rfl rfl ?_
      obtain ⟨hin, h⟩ := h
      refine g_iald (by decide +kernel) (by decide) rfl hin ?_
      refine g_goto (off := 4) (tgt := 28) (by decide +kernel) (by decide) ?_
      exact g_iret (by decide +kernel) rfl ⟨_, rfl, h⟩
  · replace h := h.2 c
    refine g_iload_n (q := 0) (i := 0) (by decide +kernel) rfl rfl ?_
    exact g_iret (by decide +kernel) rfl ⟨_, rfl, h⟩
def p_Text_joined (E : XE) (d : Nat) (x0 : Int32) (x1 : Int32) (x2 : Int32) (H : HH) (Q : Int32 → HH → Prop) : Prop := (x0 = 20000 → (Q (if x1 = 0 then (if x2 = 0 then 0 else 1 : Int32) else 1 : Int32) H)) ∧ (x0 = 20001 → (Q (if x1 = 0 then 0 else (if x2 = 0 then 0 else 1 : Int32) : Int32) H)) ∧ (x0 = 20003 → (Q (if x2 ≤ x1 then 0 else 1 : Int32) H)) ∧ (x0 = 20004 → (Q (if x1 = x2 then 1 else 0 : Int32) H)) ∧ (x0 = 20005 → (Q (x1 + x2) H)) ∧ (x0 = 20006 → (Q (x1 - x2) H)) ∧ (¬ x0 = 20000 → ¬ x0 = 20001 → ¬ x0 = 20003 → ¬ x0 = 20004 → ¬ x0 = 20005 → ¬ x0 = 20006 → (Q (x1 * x2) H))
set_option maxHeartbeats 4000000 in
theorem l_Text_joined {E : XE} {d : Nat} {x0 : Int32} {x1 : Int32} {x2 : Int32} {H : HH} {Q : Int32 → HH → Prop} (h : p_Text_joined E d x0 x1 x2 H Q) : c_Text_joined E d x0 x1 x2 H Q := by
  show g_Text_joined E d 0 (xent [vi x0, vi x1, vi x2]) [] H (qi Q)
  refine g_drop (ls2 := [some (vi x0), some (vi x1), some (vi x2)]) (And.intro rfl (And.intro rfl (And.intro rfl trivial))) ?_
  refine g_iload_n (q := 0) (i := 0) (by decide +kernel) rfl rfl ?_
  obtain ⟨hk, h⟩ := h
  by_cases e20000 : x0 = 20000
  · replace h := hk e20000
    refine g_tableIn (dflt := 101) (lo := 20000) (hi := 20006) (offs := #[43, 57, 101, 71, 82, 93, 97]) (len := 43) (tgt := 44) (by decide +kernel) (by rw [e20000]; decide) (by rw [e20000]; decide) (by rw [e20000]; rfl) (by decide) ?_
    refine g_iload_n (q := 1) (i := 1) (by decide +kernel) rfl rfl ?_
    suffices hj2 : g_Text_joined E d 57 [some (vi x0), some (vi x1), some (vi x2)] [vi (if x1 = 0 then (if x2 = 0 then 0 else 1 : Int32) else 1 : Int32)] H (qi Q) by
      refine g_if_ne (off := 7) (tgt := 52) (by decide +kernel) (by decide) (fun c => ?_) (fun c => ?_)
      · rw [if_neg c] at hj2
        refine g_iconst (n := 1) (v := 1) (by decide +kernel) (by decide) ?_
        refine g_goto (off := 4) (tgt := 57) (by decide +kernel) (by decide) ?_
        exact hj2
      · rw [if_pos c] at hj2
        refine g_iload_n (q := 2) (i := 2) (by decide +kernel) rfl rfl ?_
        suffices hj1 : g_Text_joined E d 57 [some (vi x0), some (vi x1), some (vi x2)] [vi (if x2 = 0 then 0 else 1 : Int32)] H (qi Q) by
          refine g_if_eq (off := 7) (tgt := 56) (by decide +kernel) (by decide) (fun c => ?_) (fun c => ?_)
          · rw [if_pos c] at hj1
            refine g_iconst (n := 0) (v := 0) (by decide +kernel) (by decide) ?_
            exact hj1
          · rw [if_neg c] at hj1
            refine g_iconst (n := 1) (v := 1) (by decide +kernel) (by decide) ?_
            refine g_goto (off := 4) (tgt := 57) (by decide +kernel) (by decide) ?_
            exact hj1
        exact hj2
    exact g_iret (by decide +kernel) rfl ⟨_, rfl, h⟩
  clear hk
  obtain ⟨hk, h⟩ := h
  by_cases e20001 : x0 = 20001
  · replace h := hk e20001
    refine g_tableIn (dflt := 101) (lo := 20000) (hi := 20006) (offs := #[43, 57, 101, 71, 82, 93, 97]) (len := 43) (tgt := 58) (by decide +kernel) (by rw [e20001]; decide) (by rw [e20001]; decide) (by rw [e20001]; rfl) (by decide) ?_
    refine g_iload_n (q := 1) (i := 1) (by decide +kernel) rfl rfl ?_
    suffices hj4 : g_Text_joined E d 71 [some (vi x0), some (vi x1), some (vi x2)] [vi (if x1 = 0 then 0 else (if x2 = 0 then 0 else 1 : Int32) : Int32)] H (qi Q) by
      refine g_if_eq (off := 11) (tgt := 70) (by decide +kernel) (by decide) (fun c => ?_) (fun c => ?_)
      · rw [if_pos c] at hj4
        refine g_iconst (n := 0) (v := 0) (by decide +kernel) (by decide) ?_
        exact hj4
      · rw [if_neg c] at hj4
        refine g_iload_n (q := 2) (i := 2) (by decide +kernel) rfl rfl ?_
        suffices hj3 : g_Text_joined E d 71 [some (vi x0), some (vi x1), some (vi x2)] [vi (if x2 = 0 then 0 else 1 : Int32)] H (qi Q) by
          refine g_if_eq (off := 7) (tgt := 70) (by decide +kernel) (by decide) (fun c => ?_) (fun c => ?_)
          · rw [if_pos c] at hj3
            refine g_iconst (n := 0) (v := 0) (by decide +kernel) (by decide) ?_
            exact hj3
          · rw [if_neg c] at hj3
            refine g_iconst (n := 1) (v := 1) (by decide +kernel) (by decide) ?_
            refine g_goto (off := 4) (tgt := 71) (by decide +kernel) (by decide) ?_
            exact hj3
        exact hj4
    exact g_iret (by decide +kernel) rfl ⟨_, rfl, h⟩
  clear hk
  obtain ⟨hk, h⟩ := h
  by_cases e20003 : x0 = 20003
  · replace h := hk e20003
    refine g_tableIn (dflt := 101) (lo := 20000) (hi := 20006) (offs := #[43, 57, 101, 71, 82, 93, 97]) (len := 43) (tgt := 72) (by decide +kernel) (by rw [e20003]; decide) (by rw [e20003]; decide) (by rw [e20003]; rfl) (by decide) ?_
    refine g_iload_n (q := 1) (i := 1) (by decide +kernel) rfl rfl ?_
    refine g_iload_n (q := 2) (i := 2) (by decide +kernel) rfl rfl ?_
    suffices hj5 : g_Text_joined E d 82 [some (vi x0), some (vi x1), some (vi x2)] [vi (if x2 ≤ x1 then 0 else 1 : Int32)] H (qi Q) by
      refine g_icmp_ge (off := 7) (tgt := 81) (by decide +kernel) (by decide) (fun c => ?_) (fun c => ?_)
      · rw [if_pos c] at hj5
        refine g_iconst (n := 0) (v := 0) (by decide +kernel) (by decide) ?_
        exact hj5
      · rw [if_neg c] at hj5
        refine g_iconst (n := 1) (v := 1) (by decide +kernel) (by decide) ?_
        refine g_goto (off := 4) (tgt := 82) (by decide +kernel) (by decide) ?_
        exact hj5
    exact g_iret (by decide +kernel) rfl ⟨_, rfl, h⟩
  clear hk
  obtain ⟨hk, h⟩ := h
  by_cases e20004 : x0 = 20004
  · replace h := hk e20004
    refine g_tableIn (dflt := 101) (lo := 20000) (hi := 20006) (offs := #[43, 57, 101, 71, 82, 93, 97]) (len := 43) (tgt := 83) (by decide +kernel) (by rw [e20004]; decide) (by rw [e20004]; decide) (by rw [e20004]; rfl) (by decide) ?_
    refine g_iload_n (q := 1) (i := 1) (by decide +kernel) rfl rfl ?_
    refine g_iload_n (q := 2) (i := 2) (by decide +kernel) rfl rfl ?_
    suffices hj6 : g_Text_joined E d 93 [some (vi x0), some (vi x1), some (vi x2)] [vi (if x1 = x2 then 1 else 0 : Int32)] H (qi Q) by
      refine g_icmp_ne (off := 7) (tgt := 92) (by decide +kernel) (by decide) (fun c => ?_) (fun c => ?_)
      · rw [if_neg c] at hj6
        refine g_iconst (n := 0) (v := 0) (by decide +kernel) (by decide) ?_
        exact hj6
      · rw [if_pos c] at hj6
        refine g_iconst (n := 1) (v := 1) (by decide +kernel) (by decide) ?_
        refine g_goto (off := 4) (tgt := 93) (by decide +kernel) (by decide) ?_
        exact hj6
    exact g_iret (by decide +kernel) rfl ⟨_, rfl, h⟩
  clear hk
  obtain ⟨hk, h⟩ := h
  by_cases e20005 : x0 = 20005
  · replace h := hk e20005
    refine g_tableIn (dflt := 101) (lo := 20000) (hi := 20006) (offs := #[43, 57, 101, 71, 82, 93, 97]) (len := 43) (tgt := 94) (by decide +kernel) (by rw [e20005]; decide) (by rw [e20005]; decide) (by rw [e20005]; rfl) (by decide) ?_
    refine g_iload_n (q := 1) (i := 1) (by decide +kernel) rfl rfl ?_
    refine g_iload_n (q := 2) (i := 2) (by decide +kernel) rfl rfl ?_
    refine g_iadd (by decide +kernel) ?_
    exact g_iret (by decide +kernel) rfl ⟨_, rfl, h⟩
  clear hk
  obtain ⟨hk, h⟩ := h
  by_cases e20006 : x0 = 20006
  · replace h := hk e20006
    refine g_tableIn (dflt := 101) (lo := 20000) (hi := 20006) (offs := #[43, 57, 101, 71, 82, 93, 97]) (len := 43) (tgt := 98) (by decide +kernel) (by rw [e20006]; decide) (by rw [e20006]; decide) (by rw [e20006]; rfl) (by decide) ?_
    refine g_iload_n (q := 1) (i := 1) (by decide +kernel) rfl rfl ?_
    refine g_iload_n (q := 2) (i := 2) (by decide +kernel) rfl rfl ?_
    refine g_isub (by decide +kernel) ?_
    exact g_iret (by decide +kernel) rfl ⟨_, rfl, h⟩
  clear hk
  replace h := h e20000 e20001 e20003 e20004 e20005 e20006
  by_cases e20002 : x0 = 20002
  · refine g_tableIn (dflt := 101) (lo := 20000) (hi := 20006) (offs := #[43, 57, 101, 71, 82, 93, 97]) (len := 43) (tgt := 102) (by decide +kernel) (by rw [e20002]; decide) (by rw [e20002]; decide) (by rw [e20002]; rfl) (by decide) ?_
    refine g_iload_n (q := 1) (i := 1) (by decide +kernel) rfl rfl ?_
    refine g_iload_n (q := 2) (i := 2) (by decide +kernel) rfl rfl ?_
    refine g_imul (by decide +kernel) ?_
    exact g_iret (by decide +kernel) rfl ⟨_, rfl, h⟩
  refine g_tableOut (dflt := 101) (lo := 20000) (hi := 20006) (offs := #[43, 57, 101, 71, 82, 93, 97]) (len := 43) (tgt := 102) (by decide +kernel) (by have q20000 := xsw (m := 20000) (by decide) e20000; have q20001 := xsw (m := 20001) (by decide) e20001; have q20002 := xsw (m := 20002) (by decide) e20002; have q20003 := xsw (m := 20003) (by decide) e20003; have q20004 := xsw (m := 20004) (by decide) e20004; have q20005 := xsw (m := 20005) (by decide) e20005; have q20006 := xsw (m := 20006) (by decide) e20006; omega) (by decide) ?_
  refine g_iload_n (q := 1) (i := 1) (by decide +kernel) rfl rfl ?_
  refine g_iload_n (q := 2) (i := 2) (by decide +kernel) rfl rfl ?_
  refine g_imul (by decide +kernel) ?_
  exact g_iret (by decide +kernel) rfl ⟨_, rfl, h⟩
def p_Text_says (E : XE) (d : Nat) (t : Nat) (x1 : Int32) (H : HH) (Q : Int32 → HH → Prop) : Prop := (x1 < 0 → (Q 0 H)) ∧ (¬ x1 < 0 → ((x1 < 3 → ((¬ x1 = 0 → (vp_in (x1 - 1) 3 ∧ (∀ v1 : Int32, v1 = (H 13 t ((x1 - 1).toNatClampNeg)) → (∃ (I2 : Int32 → Int32 → HH → Prop) (μ2 : Int32 → Int32 → HH → Nat), I2 0 v1 H ∧ ∀ (z3 : Int32) (z4 : Int32) (H5 : HH), I2 z3 z4 H5 → (vp_in x1 3 ∧ (((H5 13 t (x1.toNatClampNeg)) ≤ z4 → ((1 ≤ z3 → (vp_in (z3 - 1) 160 ∧ (vp_in x1 3 ∧ (Q (xmax 0 (xmin (H5 14 t ((z3 - 1).toNatClampNeg)) (xBND.getD (x1.toNatClampNeg) 0))) H5)))) ∧ (¬ 1 ≤ z3 → (Q 0 H5)))) ∧ (¬ (H5 13 t (x1.toNatClampNeg)) ≤ z4 → ((160 ≤ z4 → ((1 ≤ z3 → (vp_in (z3 - 1) 160 ∧ (vp_in x1 3 ∧ (Q (xmax 0 (xmin (H5 14 t ((z3 - 1).toNatClampNeg)) (xBND.getD (x1.toNatClampNeg) 0))) H5)))) ∧ (¬ 1 ≤ z3 → (Q 0 H5)))) ∧ (¬ 160 ≤ z4 → (vp_in z4 160 ∧ (∀ v6 : Int32, v6 = (H5 12 t (z4.toNatClampNeg)) → ((20000 ≤ v6 → ((v6 = 20002 → ((1 ≤ z3 → (vp_in (z3 - 1) 160 ∧ (∀ v7 : Int32, v7 = (H5 14 t ((z3 - 1).toNatClampNeg)) → (vp_in (z3 - 1) 160 ∧ (∀ H10 : HH, H10 = (hu H5 14 t ((z3 - 1).toNatClampNeg) (if v6 = 20002 then (if v7 = 0 then 1 else 0 : Int32) else (-v7) : Int32)) → (I2 z3 (z4 + 1) H10 ∧ μ2 z3 (z4 + 1) H10 < μ2 z3 z4 H5)))))) ∧ (¬ 1 ≤ z3 → (Q 0 H5)))) ∧ (¬ v6 = 20002 → ((¬ v6 = 20008 → ((2 ≤ z3 → (vp_in (z3 - 2) 160 ∧ (vp_in (z3 - 1) 160 ∧ (c_Text_joined E d v6 (H5 14 t ((z3 - 2).toNatClampNeg)) (H5 14 t ((z3 - 1).toNatClampNeg)) H5 (fun r12 H11 => vp_in (z3 - 2) 160 ∧ (∀ H13 : HH, H13 = (hu H11 14 t ((z3 - 2).toNatClampNeg) r12) → (I2 (z3 + (-1)) (z4 + 1) H13 ∧ μ2 (z3 + (-1)) (z4 + 1) H13 < μ2 z3 z4 H5))))))) ∧ (¬ 2 ≤ z3 → (Q 0 H5)))) ∧ (v6 = 20008 → ((1 ≤ z3 → (vp_in (z3 - 1) 160 ∧ (∀ v14 : Int32, v14 = (H5 14 t ((z3 - 1).toNatClampNeg)) → (vp_in (z3 - 1) 160 ∧ (∀ H17 : HH, H17 = (hu H5 14 t ((z3 - 1).toNatClampNeg) (if v6 = 20002 then (if v14 = 0 then 1 else 0 : Int32) else (-v14) : Int32)) → (I2 z3 (z4 + 1) H17 ∧ μ2 z3 (z4 + 1) H17 < μ2 z3 z4 H5)))))) ∧ (¬ 1 ≤ z3 → (Q 0 H5)))))))) ∧ (¬ 20000 ≤ v6 → ((z3 < 160 → (c_Text_operand E d v6 H5 (fun r19 H18 => vp_in z3 160 ∧ (∀ H20 : HH, H20 = (hu H18 14 t (z3.toNatClampNeg) r19) → (I2 (z3 + 1) (z4 + 1) H20 ∧ μ2 (z3 + 1) (z4 + 1) H20 < μ2 z3 z4 H5))))) ∧ (¬ z3 < 160 → (Q 0 H5)))))))))))))))) ∧ (x1 = 0 → (∃ (I21 : Int32 → Int32 → HH → Prop) (μ21 : Int32 → Int32 → HH → Nat), I21 0 0 H ∧ ∀ (z22 : Int32) (z23 : Int32) (H24 : HH), I21 z22 z23 H24 → (vp_in x1 3 ∧ (((H24 13 t (x1.toNatClampNeg)) ≤ z23 → ((1 ≤ z22 → (vp_in (z22 - 1) 160 ∧ (vp_in x1 3 ∧ (Q (xmax 0 (xmin (H24 14 t ((z22 - 1).toNatClampNeg)) (xBND.getD (x1.toNatClampNeg) 0))) H24)))) ∧ (¬ 1 ≤ z22 → (Q 0 H24)))) ∧ (¬ (H24 13 t (x1.toNatClampNeg)) ≤ z23 → ((160 ≤ z23 → ((1 ≤ z22 → (vp_in (z22 - 1) 160 ∧ (vp_in x1 3 ∧ (Q (xmax 0 (xmin (H24 14 t ((z22 - 1).toNatClampNeg)) (xBND.getD (x1.toNatClampNeg) 0))) H24)))) ∧ (¬ 1 ≤ z22 → (Q 0 H24)))) ∧ (¬ 160 ≤ z23 → (vp_in z23 160 ∧ (∀ v25 : Int32, v25 = (H24 12 t (z23.toNatClampNeg)) → ((20000 ≤ v25 → ((v25 = 20002 → ((1 ≤ z22 → (vp_in (z22 - 1) 160 ∧ (∀ v26 : Int32, v26 = (H24 14 t ((z22 - 1).toNatClampNeg)) → (vp_in (z22 - 1) 160 ∧ (∀ H29 : HH, H29 = (hu H24 14 t ((z22 - 1).toNatClampNeg) (if v25 = 20002 then (if v26 = 0 then 1 else 0 : Int32) else (-v26) : Int32)) → (I21 z22 (z23 + 1) H29 ∧ μ21 z22 (z23 + 1) H29 < μ21 z22 z23 H24)))))) ∧ (¬ 1 ≤ z22 → (Q 0 H24)))) ∧ (¬ v25 = 20002 → ((¬ v25 = 20008 → ((2 ≤ z22 → (vp_in (z22 - 2) 160 ∧ (vp_in (z22 - 1) 160 ∧ (c_Text_joined E d v25 (H24 14 t ((z22 - 2).toNatClampNeg)) (H24 14 t ((z22 - 1).toNatClampNeg)) H24 (fun r31 H30 => vp_in (z22 - 2) 160 ∧ (∀ H32 : HH, H32 = (hu H30 14 t ((z22 - 2).toNatClampNeg) r31) → (I21 (z22 + (-1)) (z23 + 1) H32 ∧ μ21 (z22 + (-1)) (z23 + 1) H32 < μ21 z22 z23 H24))))))) ∧ (¬ 2 ≤ z22 → (Q 0 H24)))) ∧ (v25 = 20008 → ((1 ≤ z22 → (vp_in (z22 - 1) 160 ∧ (∀ v33 : Int32, v33 = (H24 14 t ((z22 - 1).toNatClampNeg)) → (vp_in (z22 - 1) 160 ∧ (∀ H36 : HH, H36 = (hu H24 14 t ((z22 - 1).toNatClampNeg) (if v25 = 20002 then (if v33 = 0 then 1 else 0 : Int32) else (-v33) : Int32)) → (I21 z22 (z23 + 1) H36 ∧ μ21 z22 (z23 + 1) H36 < μ21 z22 z23 H24)))))) ∧ (¬ 1 ≤ z22 → (Q 0 H24)))))))) ∧ (¬ 20000 ≤ v25 → ((z22 < 160 → (c_Text_operand E d v25 H24 (fun r38 H37 => vp_in z22 160 ∧ (∀ H39 : HH, H39 = (hu H37 14 t (z22.toNatClampNeg) r38) → (I21 (z22 + 1) (z23 + 1) H39 ∧ μ21 (z22 + 1) (z23 + 1) H39 < μ21 z22 z23 H24))))) ∧ (¬ z22 < 160 → (Q 0 H24)))))))))))))))) ∧ (¬ x1 < 3 → (Q 0 H))))
set_option maxHeartbeats 4000000 in
theorem l_Text_says {E : XE} {d : Nat} {t : Nat} {x1 : Int32} {H : HH} {Q : Int32 → HH → Prop} (h : p_Text_says E d t x1 H Q) : c_Text_says E (d + 1) t x1 H Q := by
  show g_Text_says E (d + 1) 0 (xent [vr 11 t, vi x1, vr 20 0]) [] H (qi Q)
  refine g_drop (ls2 := [some (vr 11 t), some (vi x1), some (vr 20 0), none, none, none, none]) (And.intro rfl (And.intro rfl (And.intro rfl trivial))) ?_
  refine g_iload_n (q := 1) (i := 1) (by decide +kernel) rfl rfl ?_
  refine g_if_lt (off := 8) (tgt := 9) (by decide +kernel) (by decide) (fun c => ?_) (fun c => ?_)
  · replace h := h.1 c
    refine g_iconst (n := 0) (v := 0) (by decide +kernel) (by decide) ?_
    exact g_iret (by decide +kernel) rfl ⟨_, rfl, h⟩
  · replace h := h.2 c
    refine g_iload_n (q := 1) (i := 1) (by decide +kernel) rfl rfl ?_
    refine g_iconst (n := 3) (v := 3) (by decide +kernel) (by decide) ?_
    refine g_icmp_lt (off := 5) (tgt := 11) (by decide +kernel) (by decide) (fun c => ?_) (fun c => ?_)
    · replace h := h.1 c
      refine g_iconst (n := 0) (v := 0) (by decide +kernel) (by decide) ?_
      refine g_istore_n (q := 3) (i := 3) (ls2 := [some (vr 11 t), some (vi x1), some (vr 20 0), some (vi 0), none, none, none]) (by decide +kernel) rfl (by decide) rfl rfl ?_
      refine g_iload_n (q := 1) (i := 1) (by decide +kernel) rfl rfl ?_
      refine g_if_ne (off := 7) (tgt := 21) (by decide +kernel) (by decide) (fun c => ?_) (fun c => ?_)
      · replace h := h.1 c
        refine g_aload_n (q := 0) (i := 0) (by decide +kernel) rfl rfl ?_
        refine g_get (C := "ThreePoints$Text") (T := xT_Text) (N := 4) (ci := 6) (k := 2) (v := vr 13 t) (by decide +kernel) (by decide) rfl rfl xi_Text (by decide) kw_216 rfl ?_
        refine g_iload_n (q := 1) (i := 1) (by decide +kernel) rfl rfl ?_
        refine g_iconst (n := 1) (v := 1) (by decide +kernel) (by decide) ?_
        refine g_isub (by decide +kernel) ?_
        obtain ⟨hin, h⟩ := h
        refine g_iald (by decide +kernel) (by decide) rfl hin ?_
        refine g_topi (fun v1 ev1 => ?_)
        replace h := h v1 ev1
        refine g_istore (i := 4) (ls2 := [some (vr 11 t), some (vi x1), some (vr 20 0), some (vi 0), some (vi v1), none, none]) (by decide +kernel) (by decide) rfl rfl ?_
        refine g_drop (ls2 := [some (vr 11 t), some (vi x1), some (vr 20 0), some (vi 0), some (vi v1), none, none]) (And.intro rfl (And.intro rfl (And.intro rfl (And.intro rfl (And.intro rfl trivial))))) ?_
        obtain ⟨I2, μ2, h0, h⟩ := h
        refine xloop (σ := Int32 × Int32) (fun s H => I2 s.1 s.2 H) (fun s H => μ2 s.1 s.2 H) (fun s H => g_Text_says E (d + 1) 31 [some (vr 11 t), some (vi x1), some (vr 20 0), some (vi s.1), some (vi s.2), none, none] [] H (qi Q)) (fun s H5 hI ih2 => ?_) (0, v1) H h0
        obtain ⟨z3, z4⟩ := s
        replace h := h z3 z4 H5 hI
        refine g_iload (i := 4) (by decide +kernel) rfl ?_
        refine g_aload_n (q := 0) (i := 0) (by decide +kernel) rfl rfl ?_
        refine g_get (C := "ThreePoints$Text") (T := xT_Text) (N := 4) (ci := 6) (k := 2) (v := vr 13 t) (by decide +kernel) (by decide) rfl rfl xi_Text (by decide) kw_216 rfl ?_
        refine g_iload_n (q := 1) (i := 1) (by decide +kernel) rfl rfl ?_
        obtain ⟨hin, h⟩ := h
        refine g_iald (by decide +kernel) (by decide) rfl hin ?_
        refine g_icmp_ge (off := 172) (tgt := 211) (by decide +kernel) (by decide) (fun c => ?_) (fun c => ?_)
        · replace h := h.1 c
          refine g_iload_n (q := 3) (i := 3) (by decide +kernel) rfl rfl ?_
          refine g_iconst (n := 1) (v := 1) (by decide +kernel) (by decide) ?_
          refine g_icmp_ge (off := 7) (tgt := 220) (by decide +kernel) (by decide) (fun c => ?_) (fun c => ?_)
          · replace h := h.1 c
            refine g_iconst (n := 0) (v := 0) (by decide +kernel) (by decide) ?_
            refine g_aload_n (q := 0) (i := 0) (by decide +kernel) rfl rfl ?_
            refine g_get (C := "ThreePoints$Text") (T := xT_Text) (N := 4) (ci := 6) (k := 3) (v := vr 14 t) (by decide +kernel) (by decide) rfl rfl xi_Text (by decide) kw_217 rfl ?_
            refine g_iload_n (q := 3) (i := 3) (by decide +kernel) rfl rfl ?_
            refine g_iconst (n := 1) (v := 1) (by decide +kernel) (by decide) ?_
            refine g_isub (by decide +kernel) ?_
            obtain ⟨hin, h⟩ := h
            refine g_iald (by decide +kernel) (by decide) rfl hin ?_
            refine g_gsBND (by decide +kernel) kw_674 ?_
            refine g_iload_n (q := 1) (i := 1) (by decide +kernel) rfl rfl ?_
            obtain ⟨hin, h⟩ := h
            refine g_ialdBND (by decide +kernel) hin ?_
            refine g_mmin (by decide +kernel) kw_676 kw_463 kw_79 kw_464 (Nat.le_of_ble_eq_true rfl) ?_
            refine g_mmax (by decide +kernel) kw_677 kw_460 kw_79 kw_461 (Nat.le_of_ble_eq_true rfl) ?_
            exact g_iret (by decide +kernel) rfl ⟨_, rfl, h⟩
          · replace h := h.2 c
            refine g_iconst (n := 0) (v := 0) (by decide +kernel) (by decide) ?_
            refine g_goto (off := 23) (tgt := 240) (by decide +kernel) (by decide) ?_
            exact g_iret (by decide +kernel) rfl ⟨_, rfl, h⟩
        · replace h := h.2 c
          refine g_iload (i := 4) (by decide +kernel) rfl ?_
          refine g_aload_n (q := 0) (i := 0) (by decide +kernel) rfl rfl ?_
          refine g_get (C := "ThreePoints$Text") (T := xT_Text) (N := 4) (ci := 6) (k := 0) (v := vr 12 t) (by decide +kernel) (by decide) rfl rfl xi_Text (by decide) kw_214 rfl ?_
          refine g_alen (v := 160) (by decide +kernel) (by decide) rfl (by decide) ?_
          refine g_icmp_ge (off := 162) (tgt := 211) (by decide +kernel) (by decide) (fun c => ?_) (fun c => ?_)
          · replace h := h.1 c
            refine g_iload_n (q := 3) (i := 3) (by decide +kernel) rfl rfl ?_
            refine g_iconst (n := 1) (v := 1) (by decide +kernel) (by decide) ?_
            refine g_icmp_ge (off := 7) (tgt := 220) (by decide +kernel) (by decide) (fun c => ?_) (fun c => ?_)
            · replace h := h.1 c
              refine g_iconst (n := 0) (v := 0) (by decide +kernel) (by decide) ?_
              refine g_aload_n (q := 0) (i := 0) (by decide +kernel) rfl rfl ?_
              refine g_get (C := "ThreePoints$Text") (T := xT_Text) (N := 4) (ci := 6) (k := 3) (v := vr 14 t) (by decide +kernel) (by decide) rfl rfl xi_Text (by decide) kw_217 rfl ?_
              refine g_iload_n (q := 3) (i := 3) (by decide +kernel) rfl rfl ?_
              refine g_iconst (n := 1) (v := 1) (by decide +kernel) (by decide) ?_
              refine g_isub (by decide +kernel) ?_
              obtain ⟨hin, h⟩ := h
              refine g_iald (by decide +kernel) (by decide) rfl hin ?_
              refine g_gsBND (by decide +kernel) kw_674 ?_
              refine g_iload_n (q := 1) (i := 1) (by decide +kernel) rfl rfl ?_
              obtain ⟨hin, h⟩ := h
              refine g_ialdBND (by decide +kernel) hin ?_
              refine g_mmin (by decide +kernel) kw_676 kw_463 kw_79 kw_464 (Nat.le_of_ble_eq_true rfl) ?_
              refine g_mmax (by decide +kernel) kw_677 kw_460 kw_79 kw_461 (Nat.le_of_ble_eq_true rfl) ?_
              exact g_iret (by decide +kernel) rfl ⟨_, rfl, h⟩
            · replace h := h.2 c
              refine g_iconst (n := 0) (v := 0) (by decide +kernel) (by decide) ?_
              refine g_goto (off := 23) (tgt := 240) (by decide +kernel) (by decide) ?_
              exact g_iret (by decide +kernel) rfl ⟨_, rfl, h⟩
          · replace h := h.2 c
            refine g_aload_n (q := 0) (i := 0) (by decide +kernel) rfl rfl ?_
            refine g_get (C := "ThreePoints$Text") (T := xT_Text) (N := 4) (ci := 6) (k := 0) (v := vr 12 t) (by decide +kernel) (by decide) rfl rfl xi_Text (by decide) kw_214 rfl ?_
            refine g_iload (i := 4) (by decide +kernel) rfl ?_
            obtain ⟨hin, h⟩ := h
            refine g_iald (by decide +kernel) (by decide) rfl hin ?_
            refine g_topi (fun v6 ev6 => ?_)
            replace h := h v6 ev6
            refine g_istore (i := 5) (ls2 := [some (vr 11 t), some (vi x1), some (vr 20 0), some (vi z3), some (vi z4), some (vi v6), none]) (by decide +kernel) (by decide) rfl rfl ?_
            refine g_iload (i := 5) (by decide +kernel) rfl ?_
            refine g_sipush (n := 20000) (v := 20000) (by decide +kernel) (by decide) ?_
            refine g_icmp_ge (off := 32) (tgt := 98) (by decide +kernel) (by decide) (fun c => ?_) (fun c => ?_)
            · replace h := h.1 c
              refine g_iload (i := 5) (by decide +kernel) rfl ?_
              refine g_sipush (n := 20002) (v := 20002) (by decide +kernel) (by decide) ?_
              refine g_icmp_eq (off := 11) (tgt := 114) (by decide +kernel) (by decide) (fun c => ?_) (fun c => ?_)
              · replace h := h.1 c
                refine g_iload_n (q := 3) (i := 3) (by decide +kernel) rfl rfl ?_
                refine g_iconst (n := 1) (v := 1) (by decide +kernel) (by decide) ?_
                refine g_icmp_ge (off := 5) (tgt := 121) (by decide +kernel) (by decide) (fun c => ?_) (fun c => ?_)
                · replace h := h.1 c
                  refine g_aload_n (q := 0) (i := 0) (by decide +kernel) rfl rfl ?_
                  refine g_get (C := "ThreePoints$Text") (T := xT_Text) (N := 4) (ci := 6) (k := 3) (v := vr 14 t) (by decide +kernel) (by decide) rfl rfl xi_Text (by decide) kw_217 rfl ?_
                  refine g_iload_n (q := 3) (i := 3) (by decide +kernel) rfl rfl ?_
                  refine g_iconst (n := 1) (v := 1) (by decide +kernel) (by decide) ?_
                  refine g_isub (by decide +kernel) ?_
                  obtain ⟨hin, h⟩ := h
                  refine g_iald (by decide +kernel) (by decide) rfl hin ?_
                  refine g_topi (fun v7 ev7 => ?_)
                  replace h := h v7 ev7
                  refine g_istore (i := 6) (ls2 := [some (vr 11 t), some (vi x1), some (vr 20 0), some (vi z3), some (vi z4), some (vi v6), some (vi v7)]) (by decide +kernel) (by decide) rfl rfl ?_
                  refine g_aload_n (q := 0) (i := 0) (by decide +kernel) rfl rfl ?_
                  refine g_get (C := "ThreePoints$Text") (T := xT_Text) (N := 4) (ci := 6) (k := 3) (v := vr 14 t) (by decide +kernel) (by decide) rfl rfl xi_Text (by decide) kw_217 rfl ?_
                  refine g_iload_n (q := 3) (i := 3) (by decide +kernel) rfl rfl ?_
                  refine g_iconst (n := 1) (v := 1) (by decide +kernel) (by decide) ?_
                  refine g_isub (by decide +kernel) ?_
                  refine g_iload (i := 5) (by decide +kernel) rfl ?_
                  refine g_sipush (n := 20002) (v := 20002) (by decide +kernel) (by decide) ?_
                  suffices hj9 : g_Text_says E (d + 1) 162 [some (vr 11 t), some (vi x1), some (vr 20 0), some (vi z3), some (vi z4), some (vi v6), some (vi v7)] [vi (if v6 = 20002 then (if v7 = 0 then 1 else 0 : Int32) else (-v7) : Int32), vi (z3 - 1), vr 14 t] H5 (qi Q) by
                    refine g_icmp_ne (off := 16) (tgt := 159) (by decide +kernel) (by decide) (fun c => ?_) (fun c => ?_)
                    · rw [if_neg c] at hj9
                      refine g_iload (i := 6) (by decide +kernel) rfl ?_
                      refine g_ineg (by decide +kernel) ?_
                      exact hj9
                    · rw [if_pos c] at hj9
                      refine g_iload (i := 6) (by decide +kernel) rfl ?_
                      suffices hj8 : g_Text_says E (d + 1) 162 [some (vr 11 t), some (vi x1), some (vr 20 0), some (vi z3), some (vi z4), some (vi v6), some (vi v7)] [vi (if v7 = 0 then 1 else 0 : Int32), vi (z3 - 1), vr 14 t] H5 (qi Q) by
                        refine g_if_ne (off := 7) (tgt := 155) (by decide +kernel) (by decide) (fun c => ?_) (fun c => ?_)
                        · rw [if_neg c] at hj8
                          refine g_iconst (n := 0) (v := 0) (by decide +kernel) (by decide) ?_
                          refine g_goto (off := 6) (tgt := 162) (by decide +kernel) (by decide) ?_
                          exact hj8
                        · rw [if_pos c] at hj8
                          refine g_iconst (n := 1) (v := 1) (by decide +kernel) (by decide) ?_
                          refine g_goto (off := 10) (tgt := 162) (by decide +kernel) (by decide) ?_
                          exact hj8
                      exact hj9
                  obtain ⟨hin, h⟩ := h
                  refine g_iast (by decide +kernel) (by decide) rfl hin ?_
                  refine g_goto (off := 42) (tgt := 205) (by decide +kernel) (by decide) ?_
                  refine g_iinc (i := 4) (n := 1) (v := (z4 + 1)) (ls2 := [some (vr 11 t), some (vi x1), some (vr 20 0), some (vi z3), some (vi (z4 + 1)), some (vi v6), some (vi v7)]) (by decide +kernel) rfl rfl (by decide) rfl rfl ?_
                  refine g_goto (off := (-177)) (tgt := 31) (by decide +kernel) (by decide) ?_
                  refine g_heap (fun H10 eH10 => ?_)
                  replace h := h H10 eH10
                  obtain ⟨hI, hlt⟩ := h
                  exact g_drop (ls2 := [some (vr 11 t), some (vi x1), some (vr 20 0), some (vi z3), some (vi (z4 + 1)), none, none]) (And.intro rfl (And.intro rfl (And.intro rfl (And.intro rfl (And.intro rfl trivial))))) (ih2 (z3, (z4 + 1)) H10 hI hlt)
                · replace h := h.2 c
                  refine g_iconst (n := 0) (v := 0) (by decide +kernel) (by decide) ?_
                  exact g_iret (by decide +kernel) rfl ⟨_, rfl, h⟩
              · replace h := h.2 c
                refine g_iload (i := 5) (by decide +kernel) rfl ?_
                refine g_sipush (n := 20008) (v := 20008) (by decide +kernel) (by decide) ?_
                refine g_icmp_ne (off := 55) (tgt := 166) (by decide +kernel) (by decide) (fun c => ?_) (fun c => ?_)
                · replace h := h.1 c
                  refine g_iload_n (q := 3) (i := 3) (by decide +kernel) rfl rfl ?_
                  refine g_iconst (n := 2) (v := 2) (by decide +kernel) (by decide) ?_
                  refine g_icmp_ge (off := 5) (tgt := 173) (by decide +kernel) (by decide) (fun c => ?_) (fun c => ?_)
                  · replace h := h.1 c
                    refine g_aload_n (q := 0) (i := 0) (by decide +kernel) rfl rfl ?_
                    refine g_get (C := "ThreePoints$Text") (T := xT_Text) (N := 4) (ci := 6) (k := 3) (v := vr 14 t) (by decide +kernel) (by decide) rfl rfl xi_Text (by decide) kw_217 rfl ?_
                    refine g_iload_n (q := 3) (i := 3) (by decide +kernel) rfl rfl ?_
                    refine g_iconst (n := 2) (v := 2) (by decide +kernel) (by decide) ?_
                    refine g_isub (by decide +kernel) ?_
                    refine g_iload (i := 5) (by decide +kernel) rfl ?_
                    refine g_aload_n (q := 0) (i := 0) (by decide +kernel) rfl rfl ?_
                    refine g_get (C := "ThreePoints$Text") (T := xT_Text) (N := 4) (ci := 6) (k := 3) (v := vr 14 t) (by decide +kernel) (by decide) rfl rfl xi_Text (by decide) kw_217 rfl ?_
                    refine g_iload_n (q := 3) (i := 3) (by decide +kernel) rfl rfl ?_
                    refine g_iconst (n := 2) (v := 2) (by decide +kernel) (by decide) ?_
                    refine g_isub (by decide +kernel) ?_
                    obtain ⟨hin, h⟩ := h
                    refine g_iald (by decide +kernel) (by decide) rfl hin ?_
                    refine g_aload_n (q := 0) (i := 0) (by decide +kernel) rfl rfl ?_
                    refine g_get (C := "ThreePoints$Text") (T := xT_Text) (N := 4) (ci := 6) (k := 3) (v := vr 14 t) (by decide +kernel) (by decide) rfl rfl xi_Text (by decide) kw_217 rfl ?_
                    refine g_iload_n (q := 3) (i := 3) (by decide +kernel) rfl rfl ?_
                    refine g_iconst (n := 1) (v := 1) (by decide +kernel) (by decide) ?_
                    refine g_isub (by decide +kernel) ?_
                    obtain ⟨hin, h⟩ := h
                    refine g_iald (by decide +kernel) (by decide) rfl hin ?_
                    refine g_callS (vs := [vi v6, vi (H5 14 t ((z3 - 2).toNatClampNeg)), vi (H5 14 t ((z3 - 1).toNatClampNeg))]) (st := [vi (z3 - 2), vr 14 t]) (by decide +kernel) xm_Text_joined kw_671 kw_672 rfl rfl (Nat.le_of_ble_eq_true rfl) (Nat.le_of_ble_eq_true rfl) h (fun vH11 H11 hq => ?_)
                    obtain ⟨r12, rfl, h⟩ := hq
                    obtain ⟨hin, h⟩ := h
                    refine g_iast (by decide +kernel) (by decide) rfl hin ?_
                    refine g_iinc (i := 3) (n := (-1)) (v := (z3 + (-1))) (ls2 := [some (vr 11 t), some (vi x1), some (vr 20 0), some (vi (z3 + (-1))), some (vi z4), some (vi v6), none]) (by decide +kernel) rfl rfl (by decide) rfl rfl ?_
                    refine g_iinc (i := 4) (n := 1) (v := (z4 + 1)) (ls2 := [some (vr 11 t), some (vi x1), some (vr 20 0), some (vi (z3 + (-1))), some (vi (z4 + 1)), some (vi v6), none]) (by decide +kernel) rfl rfl (by decide) rfl rfl ?_
                    refine g_goto (off := (-177)) (tgt := 31) (by decide +kernel) (by decide) ?_
                    refine g_heap (fun H13 eH13 => ?_)
                    replace h := h H13 eH13
                    obtain ⟨hI, hlt⟩ := h
                    exact g_drop (ls2 := [some (vr 11 t), some (vi x1), some (vr 20 0), some (vi (z3 + (-1))), some (vi (z4 + 1)), none, none]) (And.intro rfl (And.intro rfl (And.intro rfl (And.intro rfl (And.intro rfl trivial))))) (ih2 ((z3 + (-1)), (z4 + 1)) H13 hI hlt)
                  · replace h := h.2 c
                    refine g_iconst (n := 0) (v := 0) (by decide +kernel) (by decide) ?_
                    exact g_iret (by decide +kernel) rfl ⟨_, rfl, h⟩
                · replace h := h.2 c
                  refine g_iload_n (q := 3) (i := 3) (by decide +kernel) rfl rfl ?_
                  refine g_iconst (n := 1) (v := 1) (by decide +kernel) (by decide) ?_
                  refine g_icmp_ge (off := 5) (tgt := 121) (by decide +kernel) (by decide) (fun c => ?_) (fun c => ?_)
                  · replace h := h.1 c
                    refine g_aload_n (q := 0) (i := 0) (by decide +kernel) rfl rfl ?_
                    refine g_get (C := "ThreePoints$Text") (T := xT_Text) (N := 4) (ci := 6) (k := 3) (v := vr 14 t) (by decide +kernel) (by decide) rfl rfl xi_Text (by decide) kw_217 rfl ?_
                    refine g_iload_n (q := 3) (i := 3) (by decide +kernel) rfl rfl ?_
                    refine g_iconst (n := 1) (v := 1) (by decide +kernel) (by decide) ?_
                    refine g_isub (by decide +kernel) ?_
                    obtain ⟨hin, h⟩ := h
                    refine g_iald (by decide +kernel) (by decide) rfl hin ?_
                    refine g_topi (fun v14 ev14 => ?_)
                    replace h := h v14 ev14
                    refine g_istore (i := 6) (ls2 := [some (vr 11 t), some (vi x1), some (vr 20 0), some (vi z3), some (vi z4), some (vi v6), some (vi v14)]) (by decide +kernel) (by decide) rfl rfl ?_
                    refine g_aload_n (q := 0) (i := 0) (by decide +kernel) rfl rfl ?_
                    refine g_get (C := "ThreePoints$Text") (T := xT_Text) (N := 4) (ci := 6) (k := 3) (v := vr 14 t) (by decide +kernel) (by decide) rfl rfl xi_Text (by decide) kw_217 rfl ?_
                    refine g_iload_n (q := 3) (i := 3) (by decide +kernel) rfl rfl ?_
                    refine g_iconst (n := 1) (v := 1) (by decide +kernel) (by decide) ?_
                    refine g_isub (by decide +kernel) ?_
                    refine g_iload (i := 5) (by decide +kernel) rfl ?_
                    refine g_sipush (n := 20002) (v := 20002) (by decide +kernel) (by decide) ?_
                    suffices hj16 : g_Text_says E (d + 1) 162 [some (vr 11 t), some (vi x1), some (vr 20 0), some (vi z3), some (vi z4), some (vi v6), some (vi v14)] [vi (if v6 = 20002 then (if v14 = 0 then 1 else 0 : Int32) else (-v14) : Int32), vi (z3 - 1), vr 14 t] H5 (qi Q) by
                      refine g_icmp_ne (off := 16) (tgt := 159) (by decide +kernel) (by decide) (fun c => ?_) (fun c => ?_)
                      · rw [if_neg c] at hj16
                        refine g_iload (i := 6) (by decide +kernel) rfl ?_
                        refine g_ineg (by decide +kernel) ?_
                        exact hj16
                      · rw [if_pos c] at hj16
                        refine g_iload (i := 6) (by decide +kernel) rfl ?_
                        suffices hj15 : g_Text_says E (d + 1) 162 [some (vr 11 t), some (vi x1), some (vr 20 0), some (vi z3), some (vi z4), some (vi v6), some (vi v14)] [vi (if v14 = 0 then 1 else 0 : Int32), vi (z3 - 1), vr 14 t] H5 (qi Q) by
                          refine g_if_ne (off := 7) (tgt := 155) (by decide +kernel) (by decide) (fun c => ?_) (fun c => ?_)
                          · rw [if_neg c] at hj15
                            refine g_iconst (n := 0) (v := 0) (by decide +kernel) (by decide) ?_
                            refine g_goto (off := 6) (tgt := 162) (by decide +kernel) (by decide) ?_
                            exact hj15
                          · rw [if_pos c] at hj15
                            refine g_iconst (n := 1) (v := 1) (by decide +kernel) (by decide) ?_
                            refine g_goto (off := 10) (tgt := 162) (by decide +kernel) (by decide) ?_
                            exact hj15
                        exact hj16
                    obtain ⟨hin, h⟩ := h
                    refine g_iast (by decide +kernel) (by decide) rfl hin ?_
                    refine g_goto (off := 42) (tgt := 205) (by decide +kernel) (by decide) ?_
                    refine g_iinc (i := 4) (n := 1) (v := (z4 + 1)) (ls2 := [some (vr 11 t), some (vi x1), some (vr 20 0), some (vi z3), some (vi (z4 + 1)), some (vi v6), some (vi v14)]) (by decide +kernel) rfl rfl (by decide) rfl rfl ?_
                    refine g_goto (off := (-177)) (tgt := 31) (by decide +kernel) (by decide) ?_
                    refine g_heap (fun H17 eH17 => ?_)
                    replace h := h H17 eH17
                    obtain ⟨hI, hlt⟩ := h
                    exact g_drop (ls2 := [some (vr 11 t), some (vi x1), some (vr 20 0), some (vi z3), some (vi (z4 + 1)), none, none]) (And.intro rfl (And.intro rfl (And.intro rfl (And.intro rfl (And.intro rfl trivial))))) (ih2 (z3, (z4 + 1)) H17 hI hlt)
                  · replace h := h.2 c
                    refine g_iconst (n := 0) (v := 0) (by decide +kernel) (by decide) ?_
                    exact g_iret (by decide +kernel) rfl ⟨_, rfl, h⟩
            · replace h := h.2 c
              refine g_iload_n (q := 3) (i := 3) (by decide +kernel) rfl rfl ?_
              refine g_aload_n (q := 0) (i := 0) (by decide +kernel) rfl rfl ?_
              refine g_get (C := "ThreePoints$Text") (T := xT_Text) (N := 4) (ci := 6) (k := 3) (v := vr 14 t) (by decide +kernel) (by decide) rfl rfl xi_Text (by decide) kw_217 rfl ?_
              refine g_alen (v := 160) (by decide +kernel) (by decide) rfl (by decide) ?_
              refine g_icmp_lt (off := 5) (tgt := 80) (by decide +kernel) (by decide) (fun c => ?_) (fun c => ?_)
              · replace h := h.1 c
                refine g_aload_n (q := 0) (i := 0) (by decide +kernel) rfl rfl ?_
                refine g_get (C := "ThreePoints$Text") (T := xT_Text) (N := 4) (ci := 6) (k := 3) (v := vr 14 t) (by decide +kernel) (by decide) rfl rfl xi_Text (by decide) kw_217 rfl ?_
                refine g_iload_n (q := 3) (i := 3) (by decide +kernel) rfl rfl ?_
                refine g_iload (i := 5) (by decide +kernel) rfl ?_
                refine g_aload_n (q := 2) (i := 2) (by decide +kernel) rfl rfl ?_
                refine g_callS (vs := [vi v6, vr 20 0]) (st := [vi z3, vr 14 t]) (by decide +kernel) xm_Text_operand kw_668 kw_669 rfl rfl (Nat.le_of_ble_eq_true rfl) (Nat.le_of_ble_eq_true rfl) h (fun vH18 H18 hq => ?_)
                obtain ⟨r19, rfl, h⟩ := hq
                obtain ⟨hin, h⟩ := h
                refine g_iast (by decide +kernel) (by decide) rfl hin ?_
                refine g_iinc (i := 3) (n := 1) (v := (z3 + 1)) (ls2 := [some (vr 11 t), some (vi x1), some (vr 20 0), some (vi (z3 + 1)), some (vi z4), some (vi v6), none]) (by decide +kernel) rfl rfl (by decide) rfl rfl ?_
                refine g_goto (off := 110) (tgt := 205) (by decide +kernel) (by decide) ?_
                refine g_iinc (i := 4) (n := 1) (v := (z4 + 1)) (ls2 := [some (vr 11 t), some (vi x1), some (vr 20 0), some (vi (z3 + 1)), some (vi (z4 + 1)), some (vi v6), none]) (by decide +kernel) rfl rfl (by decide) rfl rfl ?_
                refine g_goto (off := (-177)) (tgt := 31) (by decide +kernel) (by decide) ?_
                refine g_heap (fun H20 eH20 => ?_)
                replace h := h H20 eH20
                obtain ⟨hI, hlt⟩ := h
                exact g_drop (ls2 := [some (vr 11 t), some (vi x1), some (vr 20 0), some (vi (z3 + 1)), some (vi (z4 + 1)), none, none]) (And.intro rfl (And.intro rfl (And.intro rfl (And.intro rfl (And.intro rfl trivial))))) (ih2 ((z3 + 1), (z4 + 1)) H20 hI hlt)
              · replace h := h.2 c
                refine g_iconst (n := 0) (v := 0) (by decide +kernel) (by decide) ?_
                exact g_iret (by decide +kernel) rfl ⟨_, rfl, h⟩
      · replace h := h.2 c
        refine g_iconst (n := 0) (v := 0) (by decide +kernel) (by decide) ?_
        refine g_goto (off := 11) (tgt := 29) (by decide +kernel) (by decide) ?_
        refine g_istore (i := 4) (ls2 := [some (vr 11 t), some (vi x1), some (vr 20 0), some (vi 0), some (vi 0), none, none]) (by decide +kernel) (by decide) rfl rfl ?_
        refine g_drop (ls2 := [some (vr 11 t), some (vi x1), some (vr 20 0), some (vi 0), some (vi 0), none, none]) (And.intro rfl (And.intro rfl (And.intro rfl (And.intro rfl (And.intro rfl trivial))))) ?_
        obtain ⟨I21, μ21, h0, h⟩ := h
        refine xloop (σ := Int32 × Int32) (fun s H => I21 s.1 s.2 H) (fun s H => μ21 s.1 s.2 H) (fun s H => g_Text_says E (d + 1) 31 [some (vr 11 t), some (vi x1), some (vr 20 0), some (vi s.1), some (vi s.2), none, none] [] H (qi Q)) (fun s H24 hI ih21 => ?_) (0, 0) H h0
        obtain ⟨z22, z23⟩ := s
        replace h := h z22 z23 H24 hI
        refine g_iload (i := 4) (by decide +kernel) rfl ?_
        refine g_aload_n (q := 0) (i := 0) (by decide +kernel) rfl rfl ?_
        refine g_get (C := "ThreePoints$Text") (T := xT_Text) (N := 4) (ci := 6) (k := 2) (v := vr 13 t) (by decide +kernel) (by decide) rfl rfl xi_Text (by decide) kw_216 rfl ?_
        refine g_iload_n (q := 1) (i := 1) (by decide +kernel) rfl rfl ?_
        obtain ⟨hin, h⟩ := h
        refine g_iald (by decide +kernel) (by decide) rfl hin ?_
        refine g_icmp_ge (off := 172) (tgt := 211) (by decide +kernel) (by decide) (fun c => ?_) (fun c => ?_)
        · replace h := h.1 c
          refine g_iload_n (q := 3) (i := 3) (by decide +kernel) rfl rfl ?_
          refine g_iconst (n := 1) (v := 1) (by decide +kernel) (by decide) ?_
          refine g_icmp_ge (off := 7) (tgt := 220) (by decide +kernel) (by decide) (fun c => ?_) (fun c => ?_)
          · replace h := h.1 c
            refine g_iconst (n := 0) (v := 0) (by decide +kernel) (by decide) ?_
            refine g_aload_n (q := 0) (i := 0) (by decide +kernel) rfl rfl ?_
            refine g_get (C := "ThreePoints$Text") (T := xT_Text) (N := 4) (ci := 6) (k := 3) (v := vr 14 t) (by decide +kernel) (by decide) rfl rfl xi_Text (by decide) kw_217 rfl ?_
            refine g_iload_n (q := 3) (i := 3) (by decide +kernel) rfl rfl ?_
            refine g_iconst (n := 1) (v := 1) (by decide +kernel) (by decide) ?_
            refine g_isub (by decide +kernel) ?_
            obtain ⟨hin, h⟩ := h
            refine g_iald (by decide +kernel) (by decide) rfl hin ?_
            refine g_gsBND (by decide +kernel) kw_674 ?_
            refine g_iload_n (q := 1) (i := 1) (by decide +kernel) rfl rfl ?_
            obtain ⟨hin, h⟩ := h
            refine g_ialdBND (by decide +kernel) hin ?_
            refine g_mmin (by decide +kernel) kw_676 kw_463 kw_79 kw_464 (Nat.le_of_ble_eq_true rfl) ?_
            refine g_mmax (by decide +kernel) kw_677 kw_460 kw_79 kw_461 (Nat.le_of_ble_eq_true rfl) ?_
            exact g_iret (by decide +kernel) rfl ⟨_, rfl, h⟩
          · replace h := h.2 c
            refine g_iconst (n := 0) (v := 0) (by decide +kernel) (by decide) ?_
            refine g_goto (off := 23) (tgt := 240) (by decide +kernel) (by decide) ?_
            exact g_iret (by decide +kernel) rfl ⟨_, rfl, h⟩
        · replace h := h.2 c
          refine g_iload (i := 4) (by decide +kernel) rfl ?_
          refine g_aload_n (q := 0) (i := 0) (by decide +kernel) rfl rfl ?_
          refine g_get (C := "ThreePoints$Text") (T := xT_Text) (N := 4) (ci := 6) (k := 0) (v := vr 12 t) (by decide +kernel) (by decide) rfl rfl xi_Text (by decide) kw_214 rfl ?_
          refine g_alen (v := 160) (by decide +kernel) (by decide) rfl (by decide) ?_
          refine g_icmp_ge (off := 162) (tgt := 211) (by decide +kernel) (by decide) (fun c => ?_) (fun c => ?_)
          · replace h := h.1 c
            refine g_iload_n (q := 3) (i := 3) (by decide +kernel) rfl rfl ?_
            refine g_iconst (n := 1) (v := 1) (by decide +kernel) (by decide) ?_
            refine g_icmp_ge (off := 7) (tgt := 220) (by decide +kernel) (by decide) (fun c => ?_) (fun c => ?_)
            · replace h := h.1 c
              refine g_iconst (n := 0) (v := 0) (by decide +kernel) (by decide) ?_
              refine g_aload_n (q := 0) (i := 0) (by decide +kernel) rfl rfl ?_
              refine g_get (C := "ThreePoints$Text") (T := xT_Text) (N := 4) (ci := 6) (k := 3) (v := vr 14 t) (by decide +kernel) (by decide) rfl rfl xi_Text (by decide) kw_217 rfl ?_
              refine g_iload_n (q := 3) (i := 3) (by decide +kernel) rfl rfl ?_
              refine g_iconst (n := 1) (v := 1) (by decide +kernel) (by decide) ?_
              refine g_isub (by decide +kernel) ?_
              obtain ⟨hin, h⟩ := h
              refine g_iald (by decide +kernel) (by decide) rfl hin ?_
              refine g_gsBND (by decide +kernel) kw_674 ?_
              refine g_iload_n (q := 1) (i := 1) (by decide +kernel) rfl rfl ?_
              obtain ⟨hin, h⟩ := h
              refine g_ialdBND (by decide +kernel) hin ?_
              refine g_mmin (by decide +kernel) kw_676 kw_463 kw_79 kw_464 (Nat.le_of_ble_eq_true rfl) ?_
              refine g_mmax (by decide +kernel) kw_677 kw_460 kw_79 kw_461 (Nat.le_of_ble_eq_true rfl) ?_
              exact g_iret (by decide +kernel) rfl ⟨_, rfl, h⟩
            · replace h := h.2 c
              refine g_iconst (n := 0) (v := 0) (by decide +kernel) (by decide) ?_
              refine g_goto (off := 23) (tgt := 240) (by decide +kernel) (by decide) ?_
              exact g_iret (by decide +kernel) rfl ⟨_, rfl, h⟩
          · replace h := h.2 c
            refine g_aload_n (q := 0) (i := 0) (by decide +kernel) rfl rfl ?_
            refine g_get (C := "ThreePoints$Text") (T := xT_Text) (N := 4) (ci := 6) (k := 0) (v := vr 12 t) (by decide +kernel) (by decide) rfl rfl xi_Text (by decide) kw_214 rfl ?_
            refine g_iload (i := 4) (by decide +kernel) rfl ?_
            obtain ⟨hin, h⟩ := h
            refine g_iald (by decide +kernel) (by decide) rfl hin ?_
            refine g_topi (fun v25 ev25 => ?_)
            replace h := h v25 ev25
            refine g_istore (i := 5) (ls2 := [some (vr 11 t), some (vi x1), some (vr 20 0), some (vi z22), some (vi z23), some (vi v25), none]) (by decide +kernel) (by decide) rfl rfl ?_
            refine g_iload (i := 5) (by decide +kernel) rfl ?_
            refine g_sipush (n := 20000) (v := 20000) (by decide +kernel) (by decide) ?_
            refine g_icmp_ge (off := 32) (tgt := 98) (by decide +kernel) (by decide) (fun c => ?_) (fun c => ?_)
            · replace h := h.1 c
              refine g_iload (i := 5) (by decide +kernel) rfl ?_
              refine g_sipush (n := 20002) (v := 20002) (by decide +kernel) (by decide) ?_
              refine g_icmp_eq (off := 11) (tgt := 114) (by decide +kernel) (by decide) (fun c => ?_) (fun c => ?_)
              · replace h := h.1 c
                refine g_iload_n (q := 3) (i := 3) (by decide +kernel) rfl rfl ?_
                refine g_iconst (n := 1) (v := 1) (by decide +kernel) (by decide) ?_
                refine g_icmp_ge (off := 5) (tgt := 121) (by decide +kernel) (by decide) (fun c => ?_) (fun c => ?_)
                · replace h := h.1 c
                  refine g_aload_n (q := 0) (i := 0) (by decide +kernel) rfl rfl ?_
                  refine g_get (C := "ThreePoints$Text") (T := xT_Text) (N := 4) (ci := 6) (k := 3) (v := vr 14 t) (by decide +kernel) (by decide) rfl rfl xi_Text (by decide) kw_217 rfl ?_
                  refine g_iload_n (q := 3) (i := 3) (by decide +kernel) rfl rfl ?_
                  refine g_iconst (n := 1) (v := 1) (by decide +kernel) (by decide) ?_
                  refine g_isub (by decide +kernel) ?_
                  obtain ⟨hin, h⟩ := h
                  refine g_iald (by decide +kernel) (by decide) rfl hin ?_
                  refine g_topi (fun v26 ev26 => ?_)
                  replace h := h v26 ev26
                  refine g_istore (i := 6) (ls2 := [some (vr 11 t), some (vi x1), some (vr 20 0), some (vi z22), some (vi z23), some (vi v25), some (vi v26)]) (by decide +kernel) (by decide) rfl rfl ?_
                  refine g_aload_n (q := 0) (i := 0) (by decide +kernel) rfl rfl ?_
                  refine g_get (C := "ThreePoints$Text") (T := xT_Text) (N := 4) (ci := 6) (k := 3) (v := vr 14 t) (by decide +kernel) (by decide) rfl rfl xi_Text (by decide) kw_217 rfl ?_
                  refine g_iload_n (q := 3) (i := 3) (by decide +kernel) rfl rfl ?_
                  refine g_iconst (n := 1) (v := 1) (by decide +kernel) (by decide) ?_
                  refine g_isub (by decide +kernel) ?_
                  refine g_iload (i := 5) (by decide +kernel) rfl ?_
                  refine g_sipush (n := 20002) (v := 20002) (by decide +kernel) (by decide) ?_
                  suffices hj28 : g_Text_says E (d + 1) 162 [some (vr 11 t), some (vi x1), some (vr 20 0), some (vi z22), some (vi z23), some (vi v25), some (vi v26)] [vi (if v25 = 20002 then (if v26 = 0 then 1 else 0 : Int32) else (-v26) : Int32), vi (z22 - 1), vr 14 t] H24 (qi Q) by
                    refine g_icmp_ne (off := 16) (tgt := 159) (by decide +kernel) (by decide) (fun c => ?_) (fun c => ?_)
                    · rw [if_neg c] at hj28
                      refine g_iload (i := 6) (by decide +kernel) rfl ?_
                      refine g_ineg (by decide +kernel) ?_
                      exact hj28
                    · rw [if_pos c] at hj28
                      refine g_iload (i := 6) (by decide +kernel) rfl ?_
                      suffices hj27 : g_Text_says E (d + 1) 162 [some (vr 11 t), some (vi x1), some (vr 20 0), some (vi z22), some (vi z23), some (vi v25), some (vi v26)] [vi (if v26 = 0 then 1 else 0 : Int32), vi (z22 - 1), vr 14 t] H24 (qi Q) by
                        refine g_if_ne (off := 7) (tgt := 155) (by decide +kernel) (by decide) (fun c => ?_) (fun c => ?_)
                        · rw [if_neg c] at hj27
                          refine g_iconst (n := 0) (v := 0) (by decide +kernel) (by decide) ?_
                          refine g_goto (off := 6) (tgt := 162) (by decide +kernel) (by decide) ?_
                          exact hj27
                        · rw [if_pos c] at hj27
                          refine g_iconst (n := 1) (v := 1) (by decide +kernel) (by decide) ?_
                          refine g_goto (off := 10) (tgt := 162) (by decide +kernel) (by decide) ?_
                          exact hj27
                      exact hj28
                  obtain ⟨hin, h⟩ := h
                  refine g_iast (by decide +kernel) (by decide) rfl hin ?_
                  refine g_goto (off := 42) (tgt := 205) (by decide +kernel) (by decide) ?_
                  refine g_iinc (i := 4) (n := 1) (v := (z23 + 1)) (ls2 := [some (vr 11 t), some (vi x1), some (vr 20 0), some (vi z22), some (vi (z23 + 1)), some (vi v25), some (vi v26)]) (by decide +kernel) rfl rfl (by decide) rfl rfl ?_
                  refine g_goto (off := (-177)) (tgt := 31) (by decide +kernel) (by decide) ?_
                  refine g_heap (fun H29 eH29 => ?_)
                  replace h := h H29 eH29
                  obtain ⟨hI, hlt⟩ := h
                  exact g_drop (ls2 := [some (vr 11 t), some (vi x1), some (vr 20 0), some (vi z22), some (vi (z23 + 1)), none, none]) (And.intro rfl (And.intro rfl (And.intro rfl (And.intro rfl (And.intro rfl trivial))))) (ih21 (z22, (z23 + 1)) H29 hI hlt)
                · replace h := h.2 c
                  refine g_iconst (n := 0) (v := 0) (by decide +kernel) (by decide) ?_
                  exact g_iret (by decide +kernel) rfl ⟨_, rfl, h⟩
              · replace h := h.2 c
                refine g_iload (i := 5) (by decide +kernel) rfl ?_
                refine g_sipush (n := 20008) (v := 20008) (by decide +kernel) (by decide) ?_
                refine g_icmp_ne (off := 55) (tgt := 166) (by decide +kernel) (by decide) (fun c => ?_) (fun c => ?_)
                · replace h := h.1 c
                  refine g_iload_n (q := 3) (i := 3) (by decide +kernel) rfl rfl ?_
                  refine g_iconst (n := 2) (v := 2) (by decide +kernel) (by decide) ?_
                  refine g_icmp_ge (off := 5) (tgt := 173) (by decide +kernel) (by decide) (fun c => ?_) (fun c => ?_)
                  · replace h := h.1 c
                    refine g_aload_n (q := 0) (i := 0) (by decide +kernel) rfl rfl ?_
                    refine g_get (C := "ThreePoints$Text") (T := xT_Text) (N := 4) (ci := 6) (k := 3) (v := vr 14 t) (by decide +kernel) (by decide) rfl rfl xi_Text (by decide) kw_217 rfl ?_
                    refine g_iload_n (q := 3) (i := 3) (by decide +kernel) rfl rfl ?_
                    refine g_iconst (n := 2) (v := 2) (by decide +kernel) (by decide) ?_
                    refine g_isub (by decide +kernel) ?_
                    refine g_iload (i := 5) (by decide +kernel) rfl ?_
                    refine g_aload_n (q := 0) (i := 0) (by decide +kernel) rfl rfl ?_
                    refine g_get (C := "ThreePoints$Text") (T := xT_Text) (N := 4) (ci := 6) (k := 3) (v := vr 14 t) (by decide +kernel) (by decide) rfl rfl xi_Text (by decide) kw_217 rfl ?_
                    refine g_iload_n (q := 3) (i := 3) (by decide +kernel) rfl rfl ?_
                    refine g_iconst (n := 2) (v := 2) (by decide +kernel) (by decide) ?_
                    refine g_isub (by decide +kernel) ?_
                    obtain ⟨hin, h⟩ := h
                    refine g_iald (by decide +kernel) (by decide) rfl hin ?_
                    refine g_aload_n (q := 0) (i := 0) (by decide +kernel) rfl rfl ?_
                    refine g_get (C := "ThreePoints$Text") (T := xT_Text) (N := 4) (ci := 6) (k := 3) (v := vr 14 t) (by decide +kernel) (by decide) rfl rfl xi_Text (by decide) kw_217 rfl ?_
                    refine g_iload_n (q := 3) (i := 3) (by decide +kernel) rfl rfl ?_
                    refine g_iconst (n := 1) (v := 1) (by decide +kernel) (by decide) ?_
                    refine g_isub (by decide +kernel) ?_
                    obtain ⟨hin, h⟩ := h
                    refine g_iald (by decide +kernel) (by decide) rfl hin ?_
                    refine g_callS (vs := [vi v25, vi (H24 14 t ((z22 - 2).toNatClampNeg)), vi (H24 14 t ((z22 - 1).toNatClampNeg))]) (st := [vi (z22 - 2), vr 14 t]) (by decide +kernel) xm_Text_joined kw_671 kw_672 rfl rfl (Nat.le_of_ble_eq_true rfl) (Nat.le_of_ble_eq_true rfl) h (fun vH30 H30 hq => ?_)
                    obtain ⟨r31, rfl, h⟩ := hq
                    obtain ⟨hin, h⟩ := h
                    refine g_iast (by decide +kernel) (by decide) rfl hin ?_
                    refine g_iinc (i := 3) (n := (-1)) (v := (z22 + (-1))) (ls2 := [some (vr 11 t), some (vi x1), some (vr 20 0), some (vi (z22 + (-1))), some (vi z23), some (vi v25), none]) (by decide +kernel) rfl rfl (by decide) rfl rfl ?_
                    refine g_iinc (i := 4) (n := 1) (v := (z23 + 1)) (ls2 := [some (vr 11 t), some (vi x1), some (vr 20 0), some (vi (z22 + (-1))), some (vi (z23 + 1)), some (vi v25), none]) (by decide +kernel) rfl rfl (by decide) rfl rfl ?_
                    refine g_goto (off := (-177)) (tgt := 31) (by decide +kernel) (by decide) ?_
                    refine g_heap (fun H32 eH32 => ?_)
                    replace h := h H32 eH32
                    obtain ⟨hI, hlt⟩ := h
                    exact g_drop (ls2 := [some (vr 11 t), some (vi x1), some (vr 20 0), some (vi (z22 + (-1))), some (vi (z23 + 1)), none, none]) (And.intro rfl (And.intro rfl (And.intro rfl (And.intro rfl (And.intro rfl trivial))))) (ih21 ((z22 + (-1)), (z23 + 1)) H32 hI hlt)
                  · replace h := h.2 c
                    refine g_iconst (n := 0) (v := 0) (by decide +kernel) (by decide) ?_
                    exact g_iret (by decide +kernel) rfl ⟨_, rfl, h⟩
                · replace h := h.2 c
                  refine g_iload_n (q := 3) (i := 3) (by decide +kernel) rfl rfl ?_
                  refine g_iconst (n := 1) (v := 1) (by decide +kernel) (by decide) ?_
                  refine g_icmp_ge (off := 5) (tgt := 121) (by decide +kernel) (by decide) (fun c => ?_) (fun c => ?_)
                  · replace h := h.1 c
                    refine g_aload_n (q := 0) (i := 0) (by decide +kernel) rfl rfl ?_
                    refine g_get (C := "ThreePoints$Text") (T := xT_Text) (N := 4) (ci := 6) (k := 3) (v := vr 14 t) (by decide +kernel) (by decide) rfl rfl xi_Text (by decide) kw_217 rfl ?_
                    refine g_iload_n (q := 3) (i := 3) (by decide +kernel) rfl rfl ?_
                    refine g_iconst (n := 1) (v := 1) (by decide +kernel) (by decide) ?_
                    refine g_isub (by decide +kernel) ?_
                    obtain ⟨hin, h⟩ := h
                    refine g_iald (by decide +kernel) (by decide) rfl hin ?_
                    refine g_topi (fun v33 ev33 => ?_)
                    replace h := h v33 ev33
                    refine g_istore (i := 6) (ls2 := [some (vr 11 t), some (vi x1), some (vr 20 0), some (vi z22), some (vi z23), some (vi v25), some (vi v33)]) (by decide +kernel) (by decide) rfl rfl ?_
                    refine g_aload_n (q := 0) (i := 0) (by decide +kernel) rfl rfl ?_
                    refine g_get (C := "ThreePoints$Text") (T := xT_Text) (N := 4) (ci := 6) (k := 3) (v := vr 14 t) (by decide +kernel) (by decide) rfl rfl xi_Text (by decide) kw_217 rfl ?_
                    refine g_iload_n (q := 3) (i := 3) (by decide +kernel) rfl rfl ?_
                    refine g_iconst (n := 1) (v := 1) (by decide +kernel) (by decide) ?_
                    refine g_isub (by decide +kernel) ?_
                    refine g_iload (i := 5) (by decide +kernel) rfl ?_
                    refine g_sipush (n := 20002) (v := 20002) (by decide +kernel) (by decide) ?_
                    suffices hj35 : g_Text_says E (d + 1) 162 [some (vr 11 t), some (vi x1), some (vr 20 0), some (vi z22), some (vi z23), some (vi v25), some (vi v33)] [vi (if v25 = 20002 then (if v33 = 0 then 1 else 0 : Int32) else (-v33) : Int32), vi (z22 - 1), vr 14 t] H24 (qi Q) by
                      refine g_icmp_ne (off := 16) (tgt := 159) (by decide +kernel) (by decide) (fun c => ?_) (fun c => ?_)
                      · rw [if_neg c] at hj35
                        refine g_iload (i := 6) (by decide +kernel) rfl ?_
                        refine g_ineg (by decide +kernel) ?_
                        exact hj35
                      · rw [if_pos c] at hj35
                        refine g_iload (i := 6) (by decide +kernel) rfl ?_
                        suffices hj34 : g_Text_says E (d + 1) 162 [some (vr 11 t), some (vi x1), some (vr 20 0), some (vi z22), some (vi z23), some (vi v25), some (vi v33)] [vi (if v33 = 0 then 1 else 0 : Int32), vi (z22 - 1), vr 14 t] H24 (qi Q) by
                          refine g_if_ne (off := 7) (tgt := 155) (by decide +kernel) (by decide) (fun c => ?_) (fun c => ?_)
                          · rw [if_neg c] at hj34
                            refine g_iconst (n := 0) (v := 0) (by decide +kernel) (by decide) ?_
                            refine g_goto (off := 6) (tgt := 162) (by decide +kernel) (by decide) ?_
                            exact hj34
                          · rw [if_pos c] at hj34
                            refine g_iconst (n := 1) (v := 1) (by decide +kernel) (by decide) ?_
                            refine g_goto (off := 10) (tgt := 162) (by decide +kernel) (by decide) ?_
                            exact hj34
                        exact hj35
                    obtain ⟨hin, h⟩ := h
                    refine g_iast (by decide +kernel) (by decide) rfl hin ?_
                    refine g_goto (off := 42) (tgt := 205) (by decide +kernel) (by decide) ?_
                    refine g_iinc (i := 4) (n := 1) (v := (z23 + 1)) (ls2 := [some (vr 11 t), some (vi x1), some (vr 20 0), some (vi z22), some (vi (z23 + 1)), some (vi v25), some (vi v33)]) (by decide +kernel) rfl rfl (by decide) rfl rfl ?_
                    refine g_goto (off := (-177)) (tgt := 31) (by decide +kernel) (by decide) ?_
                    refine g_heap (fun H36 eH36 => ?_)
                    replace h := h H36 eH36
                    obtain ⟨hI, hlt⟩ := h
                    exact g_drop (ls2 := [some (vr 11 t), some (vi x1), some (vr 20 0), some (vi z22), some (vi (z23 + 1)), none, none]) (And.intro rfl (And.intro rfl (And.intro rfl (And.intro rfl (And.intro rfl trivial))))) (ih21 (z22, (z23 + 1)) H36 hI hlt)
                  · replace h := h.2 c
                    refine g_iconst (n := 0) (v := 0) (by decide +kernel) (by decide) ?_
                    exact g_iret (by decide +kernel) rfl ⟨_, rfl, h⟩
            · replace h := h.2 c
              refine g_iload_n (q := 3) (i := 3) (by decide +kernel) rfl rfl ?_
              refine g_aload_n (q := 0) (i := 0) (by decide +kernel) rfl rfl ?_
              refine g_get (C := "ThreePoints$Text") (T := xT_Text) (N := 4) (ci := 6) (k := 3) (v := vr 14 t) (by decide +kernel) (by decide) rfl rfl xi_Text (by decide) kw_217 rfl ?_
              refine g_alen (v := 160) (by decide +kernel) (by decide) rfl (by decide) ?_
              refine g_icmp_lt (off := 5) (tgt := 80) (by decide +kernel) (by decide) (fun c => ?_) (fun c => ?_)
              · replace h := h.1 c
                refine g_aload_n (q := 0) (i := 0) (by decide +kernel) rfl rfl ?_
                refine g_get (C := "ThreePoints$Text") (T := xT_Text) (N := 4) (ci := 6) (k := 3) (v := vr 14 t) (by decide +kernel) (by decide) rfl rfl xi_Text (by decide) kw_217 rfl ?_
                refine g_iload_n (q := 3) (i := 3) (by decide +kernel) rfl rfl ?_
                refine g_iload (i := 5) (by decide +kernel) rfl ?_
                refine g_aload_n (q := 2) (i := 2) (by decide +kernel) rfl rfl ?_
                refine g_callS (vs := [vi v25, vr 20 0]) (st := [vi z22, vr 14 t]) (by decide +kernel) xm_Text_operand kw_668 kw_669 rfl rfl (Nat.le_of_ble_eq_true rfl) (Nat.le_of_ble_eq_true rfl) h (fun vH37 H37 hq => ?_)
                obtain ⟨r38, rfl, h⟩ := hq
                obtain ⟨hin, h⟩ := h
                refine g_iast (by decide +kernel) (by decide) rfl hin ?_
                refine g_iinc (i := 3) (n := 1) (v := (z22 + 1)) (ls2 := [some (vr 11 t), some (vi x1), some (vr 20 0), some (vi (z22 + 1)), some (vi z23), some (vi v25), none]) (by decide +kernel) rfl rfl (by decide) rfl rfl ?_
                refine g_goto (off := 110) (tgt := 205) (by decide +kernel) (by decide) ?_
                refine g_iinc (i := 4) (n := 1) (v := (z23 + 1)) (ls2 := [some (vr 11 t), some (vi x1), some (vr 20 0), some (vi (z22 + 1)), some (vi (z23 + 1)), some (vi v25), none]) (by decide +kernel) rfl rfl (by decide) rfl rfl ?_
                refine g_goto (off := (-177)) (tgt := 31) (by decide +kernel) (by decide) ?_
                refine g_heap (fun H39 eH39 => ?_)
                replace h := h H39 eH39
                obtain ⟨hI, hlt⟩ := h
                exact g_drop (ls2 := [some (vr 11 t), some (vi x1), some (vr 20 0), some (vi (z22 + 1)), some (vi (z23 + 1)), none, none]) (And.intro rfl (And.intro rfl (And.intro rfl (And.intro rfl (And.intro rfl trivial))))) (ih21 ((z22 + 1), (z23 + 1)) H39 hI hlt)
              · replace h := h.2 c
                refine g_iconst (n := 0) (v := 0) (by decide +kernel) (by decide) ?_
                exact g_iret (by decide +kernel) rfl ⟨_, rfl, h⟩
    · replace h := h.2 c
      refine g_iconst (n := 0) (v := 0) (by decide +kernel) (by decide) ?_
      exact g_iret (by decide +kernel) rfl ⟨_, rfl, h⟩
def p_Main_isByte (E : XE) (d : Nat) (x0 : Int32) (H : HH) (Q : Int32 → HH → Prop) : Prop := c_Main_isWithin E d x0 0 255 H (fun r2 H1 => (r2 = 0 ∨ r2 = 1) ∧ Q r2 H1)
set_option maxHeartbeats 4000000 in
theorem l_Main_isByte {E : XE} {d : Nat} {x0 : Int32} {H : HH} {Q : Int32 → HH → Prop} (h : p_Main_isByte E d x0 H Q) : c_Main_isByte E (d + 1) x0 H Q := by
  show g_Main_isByte E (d + 1) 0 (xent [vi x0]) [] H (qi Q)
  refine g_drop (ls2 := [some (vi x0)]) (And.intro rfl trivial) ?_
  refine g_iload_n (q := 0) (i := 0) (by decide +kernel) rfl rfl ?_
  refine g_iconst (n := 0) (v := 0) (by decide +kernel) (by decide) ?_
  refine g_sipush (n := 255) (v := 255) (by decide +kernel) (by decide) ?_
  refine g_callS (vs := [vi x0, vi 0, vi 255]) (st := []) (by decide +kernel) xm_Main_isWithin kw_619 kw_620 rfl rfl (Nat.le_of_ble_eq_true rfl) (Nat.le_of_ble_eq_true rfl) h (fun vH1 H1 hq => ?_)
  obtain ⟨r2, rfl, h⟩ := hq
  obtain ⟨h01, h⟩ := h
  exact g_zret (by decide +kernel) rfl (nbool h01) ⟨_, rfl, h⟩
def p_Main_isTwoFlags (E : XE) (d : Nat) (x0 : Int32) (H : HH) (Q : Int32 → HH → Prop) : Prop := ((if x0 = 0 then 1 else (if x0 = 1 then 1 else (if x0 = 10 then 1 else (if x0 = 11 then 1 else 0 : Int32) : Int32) : Int32) : Int32) = 0 ∨ (if x0 = 0 then 1 else (if x0 = 1 then 1 else (if x0 = 10 then 1 else (if x0 = 11 then 1 else 0 : Int32) : Int32) : Int32) : Int32) = 1) ∧ Q (if x0 = 0 then 1 else (if x0 = 1 then 1 else (if x0 = 10 then 1 else (if x0 = 11 then 1 else 0 : Int32) : Int32) : Int32) : Int32) H
set_option maxHeartbeats 4000000 in
theorem l_Main_isTwoFlags {E : XE} {d : Nat} {x0 : Int32} {H : HH} {Q : Int32 → HH → Prop} (h : p_Main_isTwoFlags E d x0 H Q) : c_Main_isTwoFlags E d x0 H Q := by
  show g_Main_isTwoFlags E d 0 (xent [vi x0]) [] H (qi Q)
  refine g_drop (ls2 := [some (vi x0)]) (And.intro rfl trivial) ?_
  refine g_iload_n (q := 0) (i := 0) (by decide +kernel) rfl rfl ?_
  suffices hj4 : g_Main_isTwoFlags E d 26 [some (vi x0)] [vi (if x0 = 0 then 1 else (if x0 = 1 then 1 else (if x0 = 10 then 1 else (if x0 = 11 then 1 else 0 : Int32) : Int32) : Int32) : Int32)] H (qi Q) by
    refine g_if_eq (off := 20) (tgt := 21) (by decide +kernel) (by decide) (fun c => ?_) (fun c => ?_)
    · rw [if_pos c] at hj4
      refine g_iconst (n := 1) (v := 1) (by decide +kernel) (by decide) ?_
      refine g_goto (off := 4) (tgt := 26) (by decide +kernel) (by decide) ?_
      exact hj4
    · rw [if_neg c] at hj4
      refine g_iload_n (q := 0) (i := 0) (by decide +kernel) rfl rfl ?_
      refine g_iconst (n := 1) (v := 1) (by decide +kernel) (by decide) ?_
      suffices hj3 : g_Main_isTwoFlags E d 26 [some (vi x0)] [vi (if x0 = 1 then 1 else (if x0 = 10 then 1 else (if x0 = 11 then 1 else 0 : Int32) : Int32) : Int32)] H (qi Q) by
        refine g_icmp_eq (off := 15) (tgt := 21) (by decide +kernel) (by decide) (fun c => ?_) (fun c => ?_)
        · rw [if_pos c] at hj3
          refine g_iconst (n := 1) (v := 1) (by decide +kernel) (by decide) ?_
          refine g_goto (off := 4) (tgt := 26) (by decide +kernel) (by decide) ?_
          exact hj3
        · rw [if_neg c] at hj3
          refine g_iload_n (q := 0) (i := 0) (by decide +kernel) rfl rfl ?_
          refine g_bipush (n := 10) (v := 10) (by decide +kernel) (by decide) ?_
          suffices hj2 : g_Main_isTwoFlags E d 26 [some (vi x0)] [vi (if x0 = 10 then 1 else (if x0 = 11 then 1 else 0 : Int32) : Int32)] H (qi Q) by
            refine g_icmp_eq (off := 9) (tgt := 21) (by decide +kernel) (by decide) (fun c => ?_) (fun c => ?_)
            · rw [if_pos c] at hj2
              refine g_iconst (n := 1) (v := 1) (by decide +kernel) (by decide) ?_
              refine g_goto (off := 4) (tgt := 26) (by decide +kernel) (by decide) ?_
              exact hj2
            · rw [if_neg c] at hj2
              refine g_iload_n (q := 0) (i := 0) (by decide +kernel) rfl rfl ?_
              refine g_bipush (n := 11) (v := 11) (by decide +kernel) (by decide) ?_
              suffices hj1 : g_Main_isTwoFlags E d 26 [some (vi x0)] [vi (if x0 = 11 then 1 else 0 : Int32)] H (qi Q) by
                refine g_icmp_ne (off := 7) (tgt := 25) (by decide +kernel) (by decide) (fun c => ?_) (fun c => ?_)
                · rw [if_neg c] at hj1
                  refine g_iconst (n := 0) (v := 0) (by decide +kernel) (by decide) ?_
                  exact hj1
                · rw [if_pos c] at hj1
                  refine g_iconst (n := 1) (v := 1) (by decide +kernel) (by decide) ?_
                  refine g_goto (off := 4) (tgt := 26) (by decide +kernel) (by decide) ?_
                  exact hj1
              exact hj2
          exact hj3
      exact hj4
  obtain ⟨h01, h⟩ := h
  exact g_zret (by decide +kernel) rfl (nbool h01) ⟨_, rfl, h⟩
def p_Vehicle_startAt (E : XE) (d : Nat) (t : Nat) (x1 : Int32) (H : HH) (Q : HH → Prop) : Prop := ∀ H1 : HH, H1 = (hu (hu (hu (hu (hu H 3 t 2 x1) 3 t 3 0) 3 t 4 0) 3 t 5 0) 3 t 6 (-1)) → (Q H1)
set_option maxHeartbeats 4000000 in
theorem l_Vehicle_startAt {E : XE} {d : Nat} {t : Nat} {x1 : Int32} {H : HH} {Q : HH → Prop} (h : p_Vehicle_startAt E d t x1 H Q) : c_Vehicle_startAt E d t x1 H Q := by
  show g_Vehicle_startAt E d 0 (xent [vr 3 t, vi x1]) [] H (qv Q)
  refine g_drop (ls2 := [some (vr 3 t), some (vi x1)]) (And.intro rfl (And.intro rfl trivial)) ?_
  refine g_aload_n (q := 0) (i := 0) (by decide +kernel) rfl rfl ?_
  refine g_iload_n (q := 1) (i := 1) (by decide +kernel) rfl rfl ?_
  refine g_put (C := "ThreePoints$Vehicle") (T := xT_Vehicle) (N := 7) (ci := 3) (k := 2) xy_Vehicle (by decide +kernel) (by decide) rfl rfl xi_Vehicle xy_Vehicle_ok xn_Vehicle (by decide) kw_132 rfl (by decide +kernel) (fun _ => rfl) ?_
  refine g_aload_n (q := 0) (i := 0) (by decide +kernel) rfl rfl ?_
  refine g_iconst (n := 0) (v := 0) (by decide +kernel) (by decide) ?_
  refine g_put (C := "ThreePoints$Vehicle") (T := xT_Vehicle) (N := 7) (ci := 3) (k := 3) xy_Vehicle (by decide +kernel) (by decide) rfl rfl xi_Vehicle xy_Vehicle_ok xn_Vehicle (by decide) kw_136 rfl (by decide +kernel) (fun _ => rfl) ?_
  refine g_aload_n (q := 0) (i := 0) (by decide +kernel) rfl rfl ?_
  refine g_iconst (n := 0) (v := 0) (by decide +kernel) (by decide) ?_
  refine g_put (C := "ThreePoints$Vehicle") (T := xT_Vehicle) (N := 7) (ci := 3) (k := 4) xy_Vehicle (by decide +kernel) (by decide) rfl rfl xi_Vehicle xy_Vehicle_ok xn_Vehicle (by decide) kw_140 rfl (by decide +kernel) (fun _ => rfl) ?_
  refine g_aload_n (q := 0) (i := 0) (by decide +kernel) rfl rfl ?_
  refine g_iconst (n := 0) (v := 0) (by decide +kernel) (by decide) ?_
  refine g_put (C := "ThreePoints$Vehicle") (T := xT_Vehicle) (N := 7) (ci := 3) (k := 5) xy_Vehicle (by decide +kernel) (by decide) rfl rfl xi_Vehicle xy_Vehicle_ok xn_Vehicle (by decide) kw_142 rfl (by decide +kernel) (fun _ => rfl) ?_
  refine g_aload_n (q := 0) (i := 0) (by decide +kernel) rfl rfl ?_
  refine g_iconst (n := (-1)) (v := (-1)) (by decide +kernel) (by decide) ?_
  refine g_put (C := "ThreePoints$Vehicle") (T := xT_Vehicle) (N := 7) (ci := 3) (k := 6) xy_Vehicle (by decide +kernel) (by decide) rfl rfl xi_Vehicle xy_Vehicle_ok xn_Vehicle (by decide) kw_144 rfl (by decide +kernel) (fun _ => rfl) ?_
  refine g_heap (fun H1 eH1 => ?_)
  replace h := h H1 eH1
  exact g_vret (by decide +kernel) rfl h
def p_Vehicle_turns (E : XE) (d : Nat) (t : Nat) (x1 : Int32) (x2 : Int32) (H : HH) (Q : Int32 → HH → Prop) : Prop := ∀ v2 : Int32, v2 = (if x1 = 0 then x2 else (-x2) : Int32) → (((H 3 t 0) = 3 → ((¬ x1 = 0 → (Q (if (H 3 t 1) ≤ 4 then (-v2) else 0 : Int32) H)) ∧ (x1 = 0 → (Q v2 H)))) ∧ ((H 3 t 0) = 4 → (Q (2 * v2) H)) ∧ ((H 3 t 0) = 5 → (Q (if (if x2 ≤ 0 then 0 else 1 : Int32) = (if (xrem (H 3 t 1) 2) = 0 then 1 else 0 : Int32) then v2 else 0 : Int32) H)) ∧ (¬ (H 3 t 0) = 3 → ¬ (H 3 t 0) = 4 → ¬ (H 3 t 0) = 5 → (Q v2 H)))
set_option maxHeartbeats 4000000 in
theorem l_Vehicle_turns {E : XE} {d : Nat} {t : Nat} {x1 : Int32} {x2 : Int32} {H : HH} {Q : Int32 → HH → Prop} (h : p_Vehicle_turns E d t x1 x2 H Q) : c_Vehicle_turns E d t x1 x2 H Q := by
  show g_Vehicle_turns E d 0 (xent [vr 3 t, vi x1, vi x2]) [] H (qi Q)
  refine g_drop (ls2 := [some (vr 3 t), some (vi x1), some (vi x2), none]) (And.intro rfl (And.intro rfl (And.intro rfl trivial))) ?_
  refine g_iload_n (q := 1) (i := 1) (by decide +kernel) rfl rfl ?_
  suffices hj1 : g_Vehicle_turns E d 10 [some (vr 3 t), some (vi x1), some (vi x2), none] [vi (if x1 = 0 then x2 else (-x2) : Int32)] H (qi Q) by
    refine g_if_ne (off := 7) (tgt := 8) (by decide +kernel) (by decide) (fun c => ?_) (fun c => ?_)
    · rw [if_neg c] at hj1
      refine g_iload_n (q := 2) (i := 2) (by decide +kernel) rfl rfl ?_
      refine g_ineg (by decide +kernel) ?_
      exact hj1
    · rw [if_pos c] at hj1
      refine g_iload_n (q := 2) (i := 2) (by decide +kernel) rfl rfl ?_
      refine g_goto (off := 5) (tgt := 10) (by decide +kernel) (by decide) ?_
      exact hj1
  refine g_topi (fun v2 ev2 => ?_)
  replace h := h v2 ev2
  refine g_istore_n (q := 3) (i := 3) (ls2 := [some (vr 3 t), some (vi x1), some (vi x2), some (vi v2)]) (by decide +kernel) rfl (by decide) rfl rfl ?_
  refine g_aload_n (q := 0) (i := 0) (by decide +kernel) rfl rfl ?_
  refine g_get (C := "ThreePoints$Vehicle") (T := xT_Vehicle) (N := 7) (ci := 3) (k := 0) (v := vi (H 3 t 0)) (by decide +kernel) (by decide) rfl rfl xi_Vehicle (by decide) kw_127 rfl ?_
  obtain ⟨hk, h⟩ := h
  by_cases e3 : (H 3 t 0) = 3
  · replace h := hk e3
    refine g_tableIn (dflt := 82) (lo := 3) (hi := 5) (offs := #[25, 46, 50]) (len := 25) (tgt := 40) (by decide +kernel) (by rw [e3]; decide) (by rw [e3]; decide) (by rw [e3]; rfl) (by decide) ?_
    refine g_iload_n (q := 1) (i := 1) (by decide +kernel) rfl rfl ?_
    refine g_if_ne (off := 5) (tgt := 46) (by decide +kernel) (by decide) (fun c => ?_) (fun c => ?_)
    · replace h := h.1 c
      refine g_aload_n (q := 0) (i := 0) (by decide +kernel) rfl rfl ?_
      refine g_get (C := "ThreePoints$Vehicle") (T := xT_Vehicle) (N := 7) (ci := 3) (k := 1) (v := vi (H 3 t 1)) (by decide +kernel) (by decide) rfl rfl xi_Vehicle (by decide) kw_129 rfl ?_
      refine g_iconst (n := 4) (v := 4) (by decide +kernel) (by decide) ?_
      suffices hj3 : g_Vehicle_turns E d 60 [some (vr 3 t), some (vi x1), some (vi x2), some (vi v2)] [vi (if (H 3 t 1) ≤ 4 then (-v2) else 0 : Int32)] H (qi Q) by
        refine g_icmp_le (off := 7) (tgt := 58) (by decide +kernel) (by decide) (fun c => ?_) (fun c => ?_)
        · rw [if_pos c] at hj3
          refine g_iload_n (q := 3) (i := 3) (by decide +kernel) rfl rfl ?_
          refine g_ineg (by decide +kernel) ?_
          exact hj3
        · rw [if_neg c] at hj3
          refine g_iconst (n := 0) (v := 0) (by decide +kernel) (by decide) ?_
          refine g_goto (off := 5) (tgt := 60) (by decide +kernel) (by decide) ?_
          exact hj3
      exact g_iret (by decide +kernel) rfl ⟨_, rfl, h⟩
    · replace h := h.2 c
      refine g_iload_n (q := 3) (i := 3) (by decide +kernel) rfl rfl ?_
      exact g_iret (by decide +kernel) rfl ⟨_, rfl, h⟩
  clear hk
  obtain ⟨hk, h⟩ := h
  by_cases e4 : (H 3 t 0) = 4
  · replace h := hk e4
    refine g_tableIn (dflt := 82) (lo := 3) (hi := 5) (offs := #[25, 46, 50]) (len := 25) (tgt := 61) (by decide +kernel) (by rw [e4]; decide) (by rw [e4]; decide) (by rw [e4]; rfl) (by decide) ?_
    refine g_iconst (n := 2) (v := 2) (by decide +kernel) (by decide) ?_
    refine g_iload_n (q := 3) (i := 3) (by decide +kernel) rfl rfl ?_
    refine g_imul (by decide +kernel) ?_
    exact g_iret (by decide +kernel) rfl ⟨_, rfl, h⟩
  clear hk
  obtain ⟨hk, h⟩ := h
  by_cases e5 : (H 3 t 0) = 5
  · replace h := hk e5
    refine g_tableIn (dflt := 82) (lo := 3) (hi := 5) (offs := #[25, 46, 50]) (len := 25) (tgt := 65) (by decide +kernel) (by rw [e5]; decide) (by rw [e5]; decide) (by rw [e5]; rfl) (by decide) ?_
    refine g_iload_n (q := 2) (i := 2) (by decide +kernel) rfl rfl ?_
    suffices hj4 : g_Vehicle_turns E d 74 [some (vr 3 t), some (vi x1), some (vi x2), some (vi v2)] [vi (if x2 ≤ 0 then 0 else 1 : Int32)] H (qi Q) by
      refine g_if_le (off := 7) (tgt := 73) (by decide +kernel) (by decide) (fun c => ?_) (fun c => ?_)
      · rw [if_pos c] at hj4
        refine g_iconst (n := 0) (v := 0) (by decide +kernel) (by decide) ?_
        exact hj4
      · rw [if_neg c] at hj4
        refine g_iconst (n := 1) (v := 1) (by decide +kernel) (by decide) ?_
        refine g_goto (off := 4) (tgt := 74) (by decide +kernel) (by decide) ?_
        exact hj4
    refine g_aload_n (q := 0) (i := 0) (by decide +kernel) rfl rfl ?_
    refine g_get (C := "ThreePoints$Vehicle") (T := xT_Vehicle) (N := 7) (ci := 3) (k := 1) (v := vi (H 3 t 1)) (by decide +kernel) (by decide) rfl rfl xi_Vehicle (by decide) kw_129 rfl ?_
    refine g_iconst (n := 2) (v := 2) (by decide +kernel) (by decide) ?_
    refine g_irem (by decide +kernel) (by decide) ?_
    suffices hj5 : g_Vehicle_turns E d 88 [some (vr 3 t), some (vi x1), some (vi x2), some (vi v2)] [vi (if (xrem (H 3 t 1) 2) = 0 then 1 else 0 : Int32), vi (if x2 ≤ 0 then 0 else 1 : Int32)] H (qi Q) by
      refine g_if_ne (off := 7) (tgt := 87) (by decide +kernel) (by decide) (fun c => ?_) (fun c => ?_)
      · rw [if_neg c] at hj5
        refine g_iconst (n := 0) (v := 0) (by decide +kernel) (by decide) ?_
        exact hj5
      · rw [if_pos c] at hj5
        refine g_iconst (n := 1) (v := 1) (by decide +kernel) (by decide) ?_
        refine g_goto (off := 4) (tgt := 88) (by decide +kernel) (by decide) ?_
        exact hj5
    suffices hj6 : g_Vehicle_turns E d 96 [some (vr 3 t), some (vi x1), some (vi x2), some (vi v2)] [vi (if (if x2 ≤ 0 then 0 else 1 : Int32) = (if (xrem (H 3 t 1) 2) = 0 then 1 else 0 : Int32) then v2 else 0 : Int32)] H (qi Q) by
      refine g_icmp_ne (off := 7) (tgt := 95) (by decide +kernel) (by decide) (fun c => ?_) (fun c => ?_)
      · rw [if_neg c] at hj6
        refine g_iconst (n := 0) (v := 0) (by decide +kernel) (by decide) ?_
        exact hj6
      · rw [if_pos c] at hj6
        refine g_iload_n (q := 3) (i := 3) (by decide +kernel) rfl rfl ?_
        refine g_goto (off := 4) (tgt := 96) (by decide +kernel) (by decide) ?_
        exact hj6
    exact g_iret (by decide +kernel) rfl ⟨_, rfl, h⟩
  clear hk
  replace h := h e3 e4 e5
  refine g_tableOut (dflt := 82) (lo := 3) (hi := 5) (offs := #[25, 46, 50]) (len := 25) (tgt := 97) (by decide +kernel) (by have q3 := xsw (m := 3) (by decide) e3; have q4 := xsw (m := 4) (by decide) e4; have q5 := xsw (m := 5) (by decide) e5; omega) (by decide) ?_
  refine g_iload_n (q := 3) (i := 3) (by decide +kernel) rfl rfl ?_
  exact g_iret (by decide +kernel) rfl ⟨_, rfl, h⟩
def p_Vehicle_stepTo (E : XE) (d : Nat) (t : Nat) (x1 : Int32) (x2 : Int32) (x3 : Int32) (x4 : Int32) (H : HH) (Q : HH → Prop) : Prop := ∀ H1 : HH, H1 = (hu (hu H 3 t 2 x1) 3 t 3 x2) → (∀ H2 : HH, H2 = (hu H1 3 t 5 (xmin ((H1 3 t 5) + x4) 9999)) → ((x3 = (H2 3 t 6) → (∀ H3 : HH, H3 = (hu H2 3 t 6 x3) → (Q H3))) ∧ (¬ x3 = (H2 3 t 6) → (∀ H4 : HH, H4 = (hu (hu H2 3 t 4 (xmin ((H2 3 t 4) + 1) 9999)) 3 t 6 x3) → (Q H4)))))
set_option maxHeartbeats 4000000 in
theorem l_Vehicle_stepTo {E : XE} {d : Nat} {t : Nat} {x1 : Int32} {x2 : Int32} {x3 : Int32} {x4 : Int32} {H : HH} {Q : HH → Prop} (h : p_Vehicle_stepTo E d t x1 x2 x3 x4 H Q) : c_Vehicle_stepTo E (d + 1) t x1 x2 x3 x4 H Q := by
  show g_Vehicle_stepTo E (d + 1) 0 (xent [vr 3 t, vi x1, vi x2, vi x3, vi x4]) [] H (qv Q)
  refine g_drop (ls2 := [some (vr 3 t), some (vi x1), some (vi x2), some (vi x3), some (vi x4)]) (And.intro rfl (And.intro rfl (And.intro rfl (And.intro rfl (And.intro rfl trivial))))) ?_
  refine g_aload_n (q := 0) (i := 0) (by decide +kernel) rfl rfl ?_
  refine g_iload_n (q := 1) (i := 1) (by decide +kernel) rfl rfl ?_
  refine g_put (C := "ThreePoints$Vehicle") (T := xT_Vehicle) (N := 7) (ci := 3) (k := 2) xy_Vehicle (by decide +kernel) (by decide) rfl rfl xi_Vehicle xy_Vehicle_ok xn_Vehicle (by decide) kw_132 rfl (by decide +kernel) (fun _ => rfl) ?_
  refine g_aload_n (q := 0) (i := 0) (by decide +kernel) rfl rfl ?_
  refine g_iload_n (q := 2) (i := 2) (by decide +kernel) rfl rfl ?_
  refine g_put (C := "ThreePoints$Vehicle") (T := xT_Vehicle) (N := 7) (ci := 3) (k := 3) xy_Vehicle (by decide +kernel) (by decide) rfl rfl xi_Vehicle xy_Vehicle_ok xn_Vehicle (by decide) kw_136 rfl (by decide +kernel) (fun _ => rfl) ?_
  refine g_aload_n (q := 0) (i := 0) (by decide +kernel) rfl rfl ?_
  refine g_aload_n (q := 0) (i := 0) (by decide +kernel) rfl rfl ?_
  refine g_heap (fun H1 eH1 => ?_)
  replace h := h H1 eH1
  refine g_get (C := "ThreePoints$Vehicle") (T := xT_Vehicle) (N := 7) (ci := 3) (k := 5) (v := vi (H1 3 t 5)) (by decide +kernel) (by decide) rfl rfl xi_Vehicle (by decide) kw_142 rfl ?_
  refine g_iload (i := 4) (by decide +kernel) rfl ?_
  refine g_iadd (by decide +kernel) ?_
  refine g_sipush (n := 9999) (v := 9999) (by decide +kernel) (by decide) ?_
  refine g_mmin (by decide +kernel) kw_764 kw_463 kw_79 kw_464 (Nat.le_of_ble_eq_true rfl) ?_
  refine g_put (C := "ThreePoints$Vehicle") (T := xT_Vehicle) (N := 7) (ci := 3) (k := 5) xy_Vehicle (by decide +kernel) (by decide) rfl rfl xi_Vehicle xy_Vehicle_ok xn_Vehicle (by decide) kw_142 rfl (by decide +kernel) (fun _ => rfl) ?_
  refine g_iload_n (q := 3) (i := 3) (by decide +kernel) rfl rfl ?_
  refine g_aload_n (q := 0) (i := 0) (by decide +kernel) rfl rfl ?_
  refine g_heap (fun H2 eH2 => ?_)
  replace h := h H2 eH2
  refine g_get (C := "ThreePoints$Vehicle") (T := xT_Vehicle) (N := 7) (ci := 3) (k := 6) (v := vi (H2 3 t 6)) (by decide +kernel) (by decide) rfl rfl xi_Vehicle (by decide) kw_144 rfl ?_
  refine g_icmp_eq (off := 19) (tgt := 51) (by decide +kernel) (by decide) (fun c => ?_) (fun c => ?_)
  · replace h := h.1 c
    refine g_aload_n (q := 0) (i := 0) (by decide +kernel) rfl rfl ?_
    refine g_iload_n (q := 3) (i := 3) (by decide +kernel) rfl rfl ?_
    refine g_put (C := "ThreePoints$Vehicle") (T := xT_Vehicle) (N := 7) (ci := 3) (k := 6) xy_Vehicle (by decide +kernel) (by decide) rfl rfl xi_Vehicle xy_Vehicle_ok xn_Vehicle (by decide) kw_144 rfl (by decide +kernel) (fun _ => rfl) ?_
    refine g_heap (fun H3 eH3 => ?_)
    replace h := h H3 eH3
    exact g_vret (by decide +kernel) rfl h
  · replace h := h.2 c
    refine g_aload_n (q := 0) (i := 0) (by decide +kernel) rfl rfl ?_
    refine g_aload_n (q := 0) (i := 0) (by decide +kernel) rfl rfl ?_
    refine g_get (C := "ThreePoints$Vehicle") (T := xT_Vehicle) (N := 7) (ci := 3) (k := 4) (v := vi (H2 3 t 4)) (by decide +kernel) (by decide) rfl rfl xi_Vehicle (by decide) kw_140 rfl ?_
    refine g_iconst (n := 1) (v := 1) (by decide +kernel) (by decide) ?_
    refine g_iadd (by decide +kernel) ?_
    refine g_sipush (n := 9999) (v := 9999) (by decide +kernel) (by decide) ?_
    refine g_mmin (by decide +kernel) kw_764 kw_463 kw_79 kw_464 (Nat.le_of_ble_eq_true rfl) ?_
    refine g_put (C := "ThreePoints$Vehicle") (T := xT_Vehicle) (N := 7) (ci := 3) (k := 4) xy_Vehicle (by decide +kernel) (by decide) rfl rfl xi_Vehicle xy_Vehicle_ok xn_Vehicle (by decide) kw_140 rfl (by decide +kernel) (fun _ => rfl) ?_
    refine g_aload_n (q := 0) (i := 0) (by decide +kernel) rfl rfl ?_
    refine g_iload_n (q := 3) (i := 3) (by decide +kernel) rfl rfl ?_
    refine g_put (C := "ThreePoints$Vehicle") (T := xT_Vehicle) (N := 7) (ci := 3) (k := 6) xy_Vehicle (by decide +kernel) (by decide) rfl rfl xi_Vehicle xy_Vehicle_ok xn_Vehicle (by decide) kw_144 rfl (by decide +kernel) (fun _ => rfl) ?_
    refine g_heap (fun H4 eH4 => ?_)
    replace h := h H4 eH4
    exact g_vret (by decide +kernel) rfl h
def p_Main_otherHeading (E : XE) (d : Nat) (x0 : Int32) (H : HH) (Q : Int32 → HH → Prop) : Prop := Q ((x0 + 8) &&& 15) H
set_option maxHeartbeats 4000000 in
theorem l_Main_otherHeading {E : XE} {d : Nat} {x0 : Int32} {H : HH} {Q : Int32 → HH → Prop} (h : p_Main_otherHeading E d x0 H Q) : c_Main_otherHeading E d x0 H Q := by
  show g_Main_otherHeading E d 0 (xent [vi x0]) [] H (qi Q)
  refine g_drop (ls2 := [some (vi x0)]) (And.intro rfl trivial) ?_
  refine g_iload_n (q := 0) (i := 0) (by decide +kernel) rfl rfl ?_
  refine g_bipush (n := 8) (v := 8) (by decide +kernel) (by decide) ?_
  refine g_iadd (by decide +kernel) ?_
  refine g_bipush (n := 15) (v := 15) (by decide +kernel) (by decide) ?_
  refine g_iand (by decide +kernel) ?_
  exact g_iret (by decide +kernel) rfl ⟨_, rfl, h⟩
def p_Main_isSheet (E : XE) (d : Nat) (x0 : Int32) (H : HH) (Q : Int32 → HH → Prop) : Prop := ((if x0 < 0 then 0 else (if 4 ≤ x0 then 0 else 1 : Int32) : Int32) = 0 ∨ (if x0 < 0 then 0 else (if 4 ≤ x0 then 0 else 1 : Int32) : Int32) = 1) ∧ Q (if x0 < 0 then 0 else (if 4 ≤ x0 then 0 else 1 : Int32) : Int32) H
set_option maxHeartbeats 4000000 in
theorem l_Main_isSheet {E : XE} {d : Nat} {x0 : Int32} {H : HH} {Q : Int32 → HH → Prop} (h : p_Main_isSheet E d x0 H Q) : c_Main_isSheet E d x0 H Q := by
  show g_Main_isSheet E d 0 (xent [vi x0]) [] H (qi Q)
  refine g_drop (ls2 := [some (vi x0)]) (And.intro rfl trivial) ?_
  refine g_iload_n (q := 0) (i := 0) (by decide +kernel) rfl rfl ?_
  suffices hj2 : g_Main_isSheet E d 14 [some (vi x0)] [vi (if x0 < 0 then 0 else (if 4 ≤ x0 then 0 else 1 : Int32) : Int32)] H (qi Q) by
    refine g_if_lt (off := 12) (tgt := 13) (by decide +kernel) (by decide) (fun c => ?_) (fun c => ?_)
    · rw [if_pos c] at hj2
      refine g_iconst (n := 0) (v := 0) (by decide +kernel) (by decide) ?_
      exact hj2
    · rw [if_neg c] at hj2
      refine g_iload_n (q := 0) (i := 0) (by decide +kernel) rfl rfl ?_
      refine g_iconst (n := 4) (v := 4) (by decide +kernel) (by decide) ?_
      suffices hj1 : g_Main_isSheet E d 14 [some (vi x0)] [vi (if 4 ≤ x0 then 0 else 1 : Int32)] H (qi Q) by
        refine g_icmp_ge (off := 7) (tgt := 13) (by decide +kernel) (by decide) (fun c => ?_) (fun c => ?_)
        · rw [if_pos c] at hj1
          refine g_iconst (n := 0) (v := 0) (by decide +kernel) (by decide) ?_
          exact hj1
        · rw [if_neg c] at hj1
          refine g_iconst (n := 1) (v := 1) (by decide +kernel) (by decide) ?_
          refine g_goto (off := 4) (tgt := 14) (by decide +kernel) (by decide) ?_
          exact hj1
      exact hj2
  obtain ⟨h01, h⟩ := h
  exact g_zret (by decide +kernel) rfl (nbool h01) ⟨_, rfl, h⟩
def p_Sheet_isMissing (E : XE) (d : Nat) (t : Nat) (H : HH) (Q : Int32 → HH → Prop) : Prop := ((if (H 16 t 1) = (-1) then 1 else 0 : Int32) = 0 ∨ (if (H 16 t 1) = (-1) then 1 else 0 : Int32) = 1) ∧ Q (if (H 16 t 1) = (-1) then 1 else 0 : Int32) H
set_option maxHeartbeats 4000000 in
theorem l_Sheet_isMissing {E : XE} {d : Nat} {t : Nat} {H : HH} {Q : Int32 → HH → Prop} (h : p_Sheet_isMissing E d t H Q) : c_Sheet_isMissing E d t H Q := by
  show g_Sheet_isMissing E d 0 (xent [vr 16 t]) [] H (qi Q)
  refine g_drop (ls2 := [some (vr 16 t)]) (And.intro rfl trivial) ?_
  refine g_aload_n (q := 0) (i := 0) (by decide +kernel) rfl rfl ?_
  refine g_get (C := "ThreePoints$Sheet") (T := xT_Sheet) (N := 3) (ci := 7) (k := 1) (v := vi (H 16 t 1)) (by decide +kernel) (by decide) rfl rfl xi_Sheet (by decide) kw_318 rfl ?_
  refine g_iconst (n := (-1)) (v := (-1)) (by decide +kernel) (by decide) ?_
  suffices hj1 : g_Sheet_isMissing E d 13 [some (vr 16 t)] [vi (if (H 16 t 1) = (-1) then 1 else 0 : Int32)] H (qi Q) by
    refine g_icmp_ne (off := 7) (tgt := 12) (by decide +kernel) (by decide) (fun c => ?_) (fun c => ?_)
    · rw [if_neg c] at hj1
      refine g_iconst (n := 0) (v := 0) (by decide +kernel) (by decide) ?_
      exact hj1
    · rw [if_pos c] at hj1
      refine g_iconst (n := 1) (v := 1) (by decide +kernel) (by decide) ?_
      refine g_goto (off := 4) (tgt := 13) (by decide +kernel) (by decide) ?_
      exact hj1
  obtain ⟨h01, h⟩ := h
  exact g_zret (by decide +kernel) rfl (nbool h01) ⟨_, rfl, h⟩
def p_Sheet_tellsMoves (E : XE) (d : Nat) (t : Nat) (H : HH) (Q : Int32 → HH → Prop) : Prop := ((xrem (H 16 t 2) 3) = 0 → (∃ (I1 : Int32 → HH → Prop) (μ1 : Int32 → HH → Nat), I1 0 H ∧ ∀ (z2 : Int32) (H3 : HH), I1 z2 H3 → (((H3 16 t 2) ≤ (z2 + 2) → (Q 1 H3)) ∧ (¬ (H3 16 t 2) ≤ (z2 + 2) → (vp_in z2 40 ∧ (c_Main_isWithin E d (H3 17 t (z2.toNatClampNeg)) 0 1 H3 (fun r5 H4 => (¬ r5 = 0 → (vp_in (z2 + 1) 40 ∧ (c_Main_isWithin E d (H4 17 t ((z2 + 1).toNatClampNeg)) (-1) 1 H4 (fun r7 H6 => (r7 = 0 → (Q 0 H6)) ∧ (¬ r7 = 0 → (vp_in (z2 + 2) 40 ∧ (c_Main_isWithin E d (H6 17 t ((z2 + 2).toNatClampNeg)) 1 30 H6 (fun r9 H8 => (¬ r9 = 0 → (I1 (z2 + 3) H8 ∧ μ1 (z2 + 3) H8 < μ1 z2 H3)) ∧ (r9 = 0 → (Q 0 H8)))))))))) ∧ (r5 = 0 → (Q 0 H4))))))))) ∧ (¬ (xrem (H 16 t 2) 3) = 0 → (Q 0 H))
set_option maxHeartbeats 4000000 in
theorem l_Sheet_tellsMoves {E : XE} {d : Nat} {t : Nat} {H : HH} {Q : Int32 → HH → Prop} (h : p_Sheet_tellsMoves E d t H Q) : c_Sheet_tellsMoves E (d + 1) t H Q := by
  show g_Sheet_tellsMoves E (d + 1) 0 (xent [vr 16 t]) [] H (qi Q)
  refine g_drop (ls2 := [some (vr 16 t), none]) (And.intro rfl trivial) ?_
  refine g_aload_n (q := 0) (i := 0) (by decide +kernel) rfl rfl ?_
  refine g_get (C := "ThreePoints$Sheet") (T := xT_Sheet) (N := 3) (ci := 7) (k := 2) (v := vi (H 16 t 2)) (by decide +kernel) (by decide) rfl rfl xi_Sheet (by decide) kw_320 rfl ?_
  refine g_iconst (n := 3) (v := 3) (by decide +kernel) (by decide) ?_
  refine g_irem (by decide +kernel) (by decide) ?_
  refine g_if_eq (off := 5) (tgt := 11) (by decide +kernel) (by decide) (fun c => ?_) (fun c => ?_)
  · replace h := h.1 c
    refine g_iconst (n := 0) (v := 0) (by decide +kernel) (by decide) ?_
    refine g_istore_n (q := 1) (i := 1) (ls2 := [some (vr 16 t), some (vi 0)]) (by decide +kernel) rfl (by decide) rfl rfl ?_
    refine g_drop (ls2 := [some (vr 16 t), some (vi 0)]) (And.intro rfl (And.intro rfl trivial)) ?_
    obtain ⟨I1, μ1, h0, h⟩ := h
    refine xloop (σ := Int32) (fun s H => I1 s H) (fun s H => μ1 s H) (fun s H => g_Sheet_tellsMoves E (d + 1) 13 [some (vr 16 t), some (vi s)] [] H (qi Q)) (fun s H3 hI ih1 => ?_) 0 H h0
    obtain ⟨z2, es⟩ : ∃ z, z = s := ⟨s, rfl⟩
    subst es
    replace h := h z2 H3 hI
    refine g_iload_n (q := 1) (i := 1) (by decide +kernel) rfl rfl ?_
    refine g_iconst (n := 2) (v := 2) (by decide +kernel) (by decide) ?_
    refine g_iadd (by decide +kernel) ?_
    refine g_aload_n (q := 0) (i := 0) (by decide +kernel) rfl rfl ?_
    refine g_get (C := "ThreePoints$Sheet") (T := xT_Sheet) (N := 3) (ci := 7) (k := 2) (v := vi (H3 16 t 2)) (by decide +kernel) (by decide) rfl rfl xi_Sheet (by decide) kw_320 rfl ?_
    refine g_icmp_ge (off := 60) (tgt := 80) (by decide +kernel) (by decide) (fun c => ?_) (fun c => ?_)
    · replace h := h.1 c
      refine g_iconst (n := 1) (v := 1) (by decide +kernel) (by decide) ?_
      exact g_zret (by decide +kernel) rfl rfl ⟨_, rfl, h⟩
    · replace h := h.2 c
      refine g_aload_n (q := 0) (i := 0) (by decide +kernel) rfl rfl ?_
      refine g_get (C := "ThreePoints$Sheet") (T := xT_Sheet) (N := 3) (ci := 7) (k := 0) (v := vr 17 t) (by decide +kernel) (by decide) rfl rfl xi_Sheet (by decide) kw_316 rfl ?_
      refine g_iload_n (q := 1) (i := 1) (by decide +kernel) rfl rfl ?_
      obtain ⟨hin, h⟩ := h
      refine g_iald (by decide +kernel) (by decide) rfl hin ?_
      refine g_iconst (n := 0) (v := 0) (by decide +kernel) (by decide) ?_
      refine g_iconst (n := 1) (v := 1) (by decide +kernel) (by decide) ?_
      refine g_callSN (index := 41) (host := "ThreePoints") (vs := [vi (H3 17 t (z2.toNatClampNeg)), vi 0, vi 1]) (st := []) (by decide +kernel) xm_Main_isWithin (by decide +kernel) kw_620 rfl rfl (Nat.le_of_ble_eq_true rfl) (Nat.le_of_ble_eq_true rfl) h (fun vH4 H4 hq => ?_)
      obtain ⟨r5, rfl, h⟩ := hq
      refine g_if_ne (off := 5) (tgt := 39) (by decide +kernel) (by decide) (fun c => ?_) (fun c => ?_)
      · replace h := h.1 c
        refine g_aload_n (q := 0) (i := 0) (by decide +kernel) rfl rfl ?_
        refine g_get (C := "ThreePoints$Sheet") (T := xT_Sheet) (N := 3) (ci := 7) (k := 0) (v := vr 17 t) (by decide +kernel) (by decide) rfl rfl xi_Sheet (by decide) kw_316 rfl ?_
        refine g_iload_n (q := 1) (i := 1) (by decide +kernel) rfl rfl ?_
        refine g_iconst (n := 1) (v := 1) (by decide +kernel) (by decide) ?_
        refine g_iadd (by decide +kernel) ?_
        obtain ⟨hin, h⟩ := h
        refine g_iald (by decide +kernel) (by decide) rfl hin ?_
        refine g_iconst (n := (-1)) (v := (-1)) (by decide +kernel) (by decide) ?_
        refine g_iconst (n := 1) (v := 1) (by decide +kernel) (by decide) ?_
        refine g_callSN (index := 41) (host := "ThreePoints") (vs := [vi (H4 17 t ((z2 + 1).toNatClampNeg)), vi (-1), vi 1]) (st := []) (by decide +kernel) xm_Main_isWithin (by decide +kernel) kw_620 rfl rfl (Nat.le_of_ble_eq_true rfl) (Nat.le_of_ble_eq_true rfl) h (fun vH6 H6 hq => ?_)
        obtain ⟨r7, rfl, h⟩ := hq
        refine g_if_eq (off := 20) (tgt := 72) (by decide +kernel) (by decide) (fun c => ?_) (fun c => ?_)
        · replace h := h.1 c
          refine g_iconst (n := 0) (v := 0) (by decide +kernel) (by decide) ?_
          exact g_zret (by decide +kernel) rfl rfl ⟨_, rfl, h⟩
        · replace h := h.2 c
          refine g_aload_n (q := 0) (i := 0) (by decide +kernel) rfl rfl ?_
          refine g_get (C := "ThreePoints$Sheet") (T := xT_Sheet) (N := 3) (ci := 7) (k := 0) (v := vr 17 t) (by decide +kernel) (by decide) rfl rfl xi_Sheet (by decide) kw_316 rfl ?_
          refine g_iload_n (q := 1) (i := 1) (by decide +kernel) rfl rfl ?_
          refine g_iconst (n := 2) (v := 2) (by decide +kernel) (by decide) ?_
          refine g_iadd (by decide +kernel) ?_
          obtain ⟨hin, h⟩ := h
          refine g_iald (by decide +kernel) (by decide) rfl hin ?_
          refine g_iconst (n := 1) (v := 1) (by decide +kernel) (by decide) ?_
          refine g_bipush (n := 30) (v := 30) (by decide +kernel) (by decide) ?_
          refine g_callSN (index := 41) (host := "ThreePoints") (vs := [vi (H6 17 t ((z2 + 2).toNatClampNeg)), vi 1, vi 30]) (st := []) (by decide +kernel) xm_Main_isWithin (by decide +kernel) kw_620 rfl rfl (Nat.le_of_ble_eq_true rfl) (Nat.le_of_ble_eq_true rfl) h (fun vH8 H8 hq => ?_)
          obtain ⟨r9, rfl, h⟩ := hq
          refine g_if_ne (off := 5) (tgt := 74) (by decide +kernel) (by decide) (fun c => ?_) (fun c => ?_)
          · replace h := h.1 c
            refine g_iinc (i := 1) (n := 3) (v := (z2 + 3)) (ls2 := [some (vr 16 t), some (vi (z2 + 3))]) (by decide +kernel) rfl rfl (by decide) rfl rfl ?_
            refine g_goto (off := (-64)) (tgt := 13) (by decide +kernel) (by decide) ?_
            obtain ⟨hI, hlt⟩ := h
            exact g_drop (ls2 := [some (vr 16 t), some (vi (z2 + 3))]) (And.intro rfl (And.intro rfl trivial)) (ih1 (z2 + 3) H8 hI hlt)
          · replace h := h.2 c
            refine g_iconst (n := 0) (v := 0) (by decide +kernel) (by decide) ?_
            exact g_zret (by decide +kernel) rfl rfl ⟨_, rfl, h⟩
      · replace h := h.2 c
        refine g_iconst (n := 0) (v := 0) (by decide +kernel) (by decide) ?_
        exact g_zret (by decide +kernel) rfl rfl ⟨_, rfl, h⟩
  · replace h := h.2 c
    refine g_iconst (n := 0) (v := 0) (by decide +kernel) (by decide) ?_
    exact g_zret (by decide +kernel) rfl rfl ⟨_, rfl, h⟩
def p_Sheet_has (E : XE) (d : Nat) (t : Nat) (x1 : Int32) (H : HH) (Q : Int32 → HH → Prop) : Prop := ((if x1 < 0 then 0 else (if (H 16 t 2) ≤ x1 then 0 else 1 : Int32) : Int32) = 0 ∨ (if x1 < 0 then 0 else (if (H 16 t 2) ≤ x1 then 0 else 1 : Int32) : Int32) = 1) ∧ Q (if x1 < 0 then 0 else (if (H 16 t 2) ≤ x1 then 0 else 1 : Int32) : Int32) H
set_option maxHeartbeats 4000000 in
theorem l_Sheet_has {E : XE} {d : Nat} {t : Nat} {x1 : Int32} {H : HH} {Q : Int32 → HH → Prop} (h : p_Sheet_has E d t x1 H Q) : c_Sheet_has E d t x1 H Q := by
  show g_Sheet_has E d 0 (xent [vr 16 t, vi x1]) [] H (qi Q)
  refine g_drop (ls2 := [some (vr 16 t), some (vi x1)]) (And.intro rfl (And.intro rfl trivial)) ?_
  refine g_iload_n (q := 1) (i := 1) (by decide +kernel) rfl rfl ?_
  suffices hj2 : g_Sheet_has E d 17 [some (vr 16 t), some (vi x1)] [vi (if x1 < 0 then 0 else (if (H 16 t 2) ≤ x1 then 0 else 1 : Int32) : Int32)] H (qi Q) by
    refine g_if_lt (off := 15) (tgt := 16) (by decide +kernel) (by decide) (fun c => ?_) (fun c => ?_)
    · rw [if_pos c] at hj2
      refine g_iconst (n := 0) (v := 0) (by decide +kernel) (by decide) ?_
      exact hj2
    · rw [if_neg c] at hj2
      refine g_iload_n (q := 1) (i := 1) (by decide +kernel) rfl rfl ?_
      refine g_aload_n (q := 0) (i := 0) (by decide +kernel) rfl rfl ?_
      refine g_get (C := "ThreePoints$Sheet") (T := xT_Sheet) (N := 3) (ci := 7) (k := 2) (v := vi (H 16 t 2)) (by decide +kernel) (by decide) rfl rfl xi_Sheet (by decide) kw_320 rfl ?_
      suffices hj1 : g_Sheet_has E d 17 [some (vr 16 t), some (vi x1)] [vi (if (H 16 t 2) ≤ x1 then 0 else 1 : Int32)] H (qi Q) by
        refine g_icmp_ge (off := 7) (tgt := 16) (by decide +kernel) (by decide) (fun c => ?_) (fun c => ?_)
        · rw [if_pos c] at hj1
          refine g_iconst (n := 0) (v := 0) (by decide +kernel) (by decide) ?_
          exact hj1
        · rw [if_neg c] at hj1
          refine g_iconst (n := 1) (v := 1) (by decide +kernel) (by decide) ?_
          refine g_goto (off := 4) (tgt := 17) (by decide +kernel) (by decide) ?_
          exact hj1
      exact hj2
  obtain ⟨h01, h⟩ := h
  exact g_zret (by decide +kernel) rfl (nbool h01) ⟨_, rfl, h⟩
def p_Sheet_get (E : XE) (d : Nat) (t : Nat) (x1 : Int32) (H : HH) (Q : Int32 → HH → Prop) : Prop := c_Sheet_has E d t x1 H (fun r2 H1 => (r2 = 0 → (Q 0 H1)) ∧ (¬ r2 = 0 → (vp_in x1 40 ∧ (Q (H1 17 t (x1.toNatClampNeg)) H1))))
set_option maxHeartbeats 4000000 in
theorem l_Sheet_get {E : XE} {d : Nat} {t : Nat} {x1 : Int32} {H : HH} {Q : Int32 → HH → Prop} (h : p_Sheet_get E d t x1 H Q) : c_Sheet_get E (d + 1) t x1 H Q := by
  show g_Sheet_get E (d + 1) 0 (xent [vr 16 t, vi x1]) [] H (qi Q)
  refine g_drop (ls2 := [some (vr 16 t), some (vi x1)]) (And.intro rfl (And.intro rfl trivial)) ?_
  refine g_aload_n (q := 0) (i := 0) (by decide +kernel) rfl rfl ?_
  refine g_iload_n (q := 1) (i := 1) (by decide +kernel) rfl rfl ?_
  refine g_callV (kd := 16) (ix := t) (ci := 7) (N := 3) (T := xT_Sheet) (vs := [vi x1]) (st := []) (by decide +kernel) xm_Sheet_has kw_870 kw_871 kw_872 (by decide) rfl rfl rfl rfl (Nat.le_of_ble_eq_true rfl) (Nat.le_of_ble_eq_true rfl) h (fun vH1 H1 hq => ?_)
  obtain ⟨r2, rfl, h⟩ := hq
  refine g_if_eq (off := 12) (tgt := 17) (by decide +kernel) (by decide) (fun c => ?_) (fun c => ?_)
  · replace h := h.1 c
    refine g_iconst (n := 0) (v := 0) (by decide +kernel) (by decide) ?_
    exact g_iret (by decide +kernel) rfl ⟨_, rfl, h⟩
  · replace h := h.2 c
    refine g_aload_n (q := 0) (i := 0) (by decide +kernel) rfl rfl ?_
    refine g_get (C := "ThreePoints$Sheet") (T := xT_Sheet) (N := 3) (ci := 7) (k := 0) (v := vr 17 t) (by decide +kernel) (by decide) rfl rfl xi_Sheet (by decide) kw_316 rfl ?_
    refine g_iload_n (q := 1) (i := 1) (by decide +kernel) rfl rfl ?_
    obtain ⟨hin, h⟩ := h
    refine g_iald (by decide +kernel) (by decide) rfl hin ?_
    refine g_goto (off := 4) (tgt := 18) (by decide +kernel) (by decide) ?_
    exact g_iret (by decide +kernel) rfl ⟨_, rfl, h⟩
def p_Main_commonDivisor (E : XE) (d : Nat) (x0 : Int32) (x1 : Int32) (H : HH) (Q : Int32 → HH → Prop) : Prop := ∃ (I1 : Int32 → HH → Prop) (μ1 : Int32 → HH → Nat), I1 x1 H ∧ ∀ (z2 : Int32) (H3 : HH), I1 z2 H3 → ((z2 ≤ 1 → (Q 1 H3)) ∧ (¬ z2 ≤ 1 → (¬ z2 = 0 ∧ ((¬ (xrem x0 z2) = 0 → (I1 (z2 + (-1)) H3 ∧ μ1 (z2 + (-1)) H3 < μ1 z2 H3)) ∧ ((xrem x0 z2) = 0 → (¬ z2 = 0 ∧ ((¬ (xrem x1 z2) = 0 → (I1 (z2 + (-1)) H3 ∧ μ1 (z2 + (-1)) H3 < μ1 z2 H3)) ∧ ((xrem x1 z2) = 0 → (Q z2 H3)))))))))
set_option maxHeartbeats 4000000 in
theorem l_Main_commonDivisor {E : XE} {d : Nat} {x0 : Int32} {x1 : Int32} {H : HH} {Q : Int32 → HH → Prop} (h : p_Main_commonDivisor E d x0 x1 H Q) : c_Main_commonDivisor E d x0 x1 H Q := by
  show g_Main_commonDivisor E d 0 (xent [vi x0, vi x1]) [] H (qi Q)
  refine g_drop (ls2 := [some (vi x0), some (vi x1), none]) (And.intro rfl (And.intro rfl trivial)) ?_
  refine g_iload_n (q := 1) (i := 1) (by decide +kernel) rfl rfl ?_
  refine g_istore_n (q := 2) (i := 2) (ls2 := [some (vi x0), some (vi x1), some (vi x1)]) (by decide +kernel) rfl (by decide) rfl rfl ?_
  refine g_drop (ls2 := [some (vi x0), some (vi x1), some (vi x1)]) (And.intro rfl (And.intro rfl (And.intro rfl trivial))) ?_
  obtain ⟨I1, μ1, h0, h⟩ := h
  refine xloop (σ := Int32) (fun s H => I1 s H) (fun s H => μ1 s H) (fun s H => g_Main_commonDivisor E d 2 [some (vi x0), some (vi x1), some (vi s)] [] H (qi Q)) (fun s H3 hI ih1 => ?_) x1 H h0
  obtain ⟨z2, es⟩ : ∃ z, z = s := ⟨s, rfl⟩
  subst es
  replace h := h z2 H3 hI
  refine g_iload_n (q := 2) (i := 2) (by decide +kernel) rfl rfl ?_
  refine g_iconst (n := 1) (v := 1) (by decide +kernel) (by decide) ?_
  refine g_icmp_le (off := 23) (tgt := 27) (by decide +kernel) (by decide) (fun c => ?_) (fun c => ?_)
  · replace h := h.1 c
    refine g_iconst (n := 1) (v := 1) (by decide +kernel) (by decide) ?_
    exact g_iret (by decide +kernel) rfl ⟨_, rfl, h⟩
  · replace h := h.2 c
    refine g_iload_n (q := 0) (i := 0) (by decide +kernel) rfl rfl ?_
    refine g_iload_n (q := 2) (i := 2) (by decide +kernel) rfl rfl ?_
    obtain ⟨hnz, h⟩ := h
    refine g_irem (by decide +kernel) hnz ?_
    refine g_if_ne (off := 11) (tgt := 21) (by decide +kernel) (by decide) (fun c => ?_) (fun c => ?_)
    · replace h := h.1 c
      refine g_iinc (i := 2) (n := (-1)) (v := (z2 + (-1))) (ls2 := [some (vi x0), some (vi x1), some (vi (z2 + (-1)))]) (by decide +kernel) rfl rfl (by decide) rfl rfl ?_
      refine g_goto (off := (-22)) (tgt := 2) (by decide +kernel) (by decide) ?_
      obtain ⟨hI, hlt⟩ := h
      exact g_drop (ls2 := [some (vi x0), some (vi x1), some (vi (z2 + (-1)))]) (And.intro rfl (And.intro rfl (And.intro rfl trivial))) (ih1 (z2 + (-1)) H3 hI hlt)
    · replace h := h.2 c
      refine g_iload_n (q := 1) (i := 1) (by decide +kernel) rfl rfl ?_
      refine g_iload_n (q := 2) (i := 2) (by decide +kernel) rfl rfl ?_
      obtain ⟨hnz, h⟩ := h
      refine g_irem (by decide +kernel) hnz ?_
      refine g_if_ne (off := 5) (tgt := 21) (by decide +kernel) (by decide) (fun c => ?_) (fun c => ?_)
      · replace h := h.1 c
        refine g_iinc (i := 2) (n := (-1)) (v := (z2 + (-1))) (ls2 := [some (vi x0), some (vi x1), some (vi (z2 + (-1)))]) (by decide +kernel) rfl rfl (by decide) rfl rfl ?_
        refine g_goto (off := (-22)) (tgt := 2) (by decide +kernel) (by decide) ?_
        obtain ⟨hI, hlt⟩ := h
        exact g_drop (ls2 := [some (vi x0), some (vi x1), some (vi (z2 + (-1)))]) (And.intro rfl (And.intro rfl (And.intro rfl trivial))) (ih1 (z2 + (-1)) H3 hI hlt)
      · replace h := h.2 c
        refine g_iload_n (q := 2) (i := 2) (by decide +kernel) rfl rfl ?_
        exact g_iret (by decide +kernel) rfl ⟨_, rfl, h⟩
def p_Yard_become (E : XE) (d : Nat) (t : Nat) (u : Nat) (H : HH) (Q : HH → Prop) : Prop := c_Lane_become E d t u H (fun H1 => c_Vehicle_become E d (4 * t + 0) (4 * u + 0) H1 (fun H2 => c_Vehicle_become E d (4 * t + 1) (4 * u + 1) H2 (fun H3 => c_Vehicle_become E d (4 * t + 2) (4 * u + 2) H3 (fun H4 => c_Vehicle_become E d (4 * t + 3) (4 * u + 3) H4 (fun H5 => ∀ H6 : HH, H6 = (hu H5 1 t 2 (H5 1 u 2)) → (Q H6))))))
set_option maxHeartbeats 4000000 in
theorem l_Yard_become {E : XE} {d : Nat} {t : Nat} {u : Nat} {H : HH} {Q : HH → Prop} (h : p_Yard_become E d t u H Q) : c_Yard_become E (d + 1) t u H Q := by
  show g_Yard_become E (d + 1) 0 (xent [vr 1 t, vr 1 u]) [] H (qv Q)
  refine g_drop (ls2 := [some (vr 1 t), some (vr 1 u), none]) (And.intro rfl (And.intro rfl trivial)) ?_
  refine g_aload_n (q := 0) (i := 0) (by decide +kernel) rfl rfl ?_
  refine g_get (C := "ThreePoints$Yard") (T := xT_Yard) (N := 3) (ci := 1) (k := 0) (v := vr 2 t) (by decide +kernel) (by decide) rfl rfl xi_Yard (by decide) kw_162 rfl ?_
  refine g_aload_n (q := 1) (i := 1) (by decide +kernel) rfl rfl ?_
  refine g_get (C := "ThreePoints$Yard") (T := xT_Yard) (N := 3) (ci := 1) (k := 0) (v := vr 2 u) (by decide +kernel) (by decide) rfl rfl xi_Yard (by decide) kw_162 rfl ?_
  refine g_callV (kd := 2) (ix := t) (ci := 2) (N := 3) (T := xT_Lane) (vs := [vr 2 u]) (st := []) (by decide +kernel) xm_Lane_become kw_922 kw_627 kw_628 (by decide) rfl rfl rfl rfl (Nat.le_of_ble_eq_true rfl) (Nat.le_of_ble_eq_true rfl) h (fun vH1 H1 hq => ?_)
  replace h := hq
  refine g_iconst (n := 0) (v := 0) (by decide +kernel) (by decide) ?_
  refine g_istore_n (q := 2) (i := 2) (ls2 := [some (vr 1 t), some (vr 1 u), some (vi 0)]) (by decide +kernel) rfl (by decide) rfl rfl ?_
  refine g_iload_n (q := 2) (i := 2) (by decide +kernel) rfl rfl ?_
  refine g_iconst (n := 4) (v := 4) (by decide +kernel) (by decide) ?_
  refine g_icmp_ge (off := 24) (tgt := 39) (by decide +kernel) (by decide) (fun c => absurd c (by decide)) (fun c => ?_)
  refine g_aload_n (q := 0) (i := 0) (by decide +kernel) rfl rfl ?_
  refine g_get (C := "ThreePoints$Yard") (T := xT_Yard) (N := 3) (ci := 1) (k := 1) (v := vr 4 t) (by decide +kernel) (by decide) rfl rfl xi_Yard (by decide) kw_164 rfl ?_
  refine g_iload_n (q := 2) (i := 2) (by decide +kernel) rfl rfl ?_
  refine g_aald (v := vr 3 (4 * t + 0)) (by decide +kernel) (by decide) rfl (by decide) (vp_lit (by decide)) rfl ?_
  refine g_aload_n (q := 1) (i := 1) (by decide +kernel) rfl rfl ?_
  refine g_get (C := "ThreePoints$Yard") (T := xT_Yard) (N := 3) (ci := 1) (k := 1) (v := vr 4 u) (by decide +kernel) (by decide) rfl rfl xi_Yard (by decide) kw_164 rfl ?_
  refine g_iload_n (q := 2) (i := 2) (by decide +kernel) rfl rfl ?_
  refine g_aald (v := vr 3 (4 * u + 0)) (by decide +kernel) (by decide) rfl (by decide) (vp_lit (by decide)) rfl ?_
  refine g_callV (kd := 3) (ix := (4 * t + 0)) (ci := 3) (N := 7) (T := xT_Vehicle) (vs := [vr 3 (4 * u + 0)]) (st := []) (by decide +kernel) xm_Vehicle_become kw_923 kw_635 kw_636 (by decide) rfl rfl rfl rfl (Nat.le_of_ble_eq_true rfl) (Nat.le_of_ble_eq_true rfl) h (fun vH2 H2 hq => ?_)
  replace h := hq
  refine g_iinc (i := 2) (n := 1) (v := 1) (ls2 := [some (vr 1 t), some (vr 1 u), some (vi 1)]) (by decide +kernel) rfl (by decide) (by decide) rfl rfl ?_
  refine g_goto (off := (-23)) (tgt := 13) (by decide +kernel) (by decide) ?_
  refine g_iload_n (q := 2) (i := 2) (by decide +kernel) rfl rfl ?_
  refine g_iconst (n := 4) (v := 4) (by decide +kernel) (by decide) ?_
  refine g_icmp_ge (off := 24) (tgt := 39) (by decide +kernel) (by decide) (fun c => absurd c (by decide)) (fun c => ?_)
  refine g_aload_n (q := 0) (i := 0) (by decide +kernel) rfl rfl ?_
  refine g_get (C := "ThreePoints$Yard") (T := xT_Yard) (N := 3) (ci := 1) (k := 1) (v := vr 4 t) (by decide +kernel) (by decide) rfl rfl xi_Yard (by decide) kw_164 rfl ?_
  refine g_iload_n (q := 2) (i := 2) (by decide +kernel) rfl rfl ?_
  refine g_aald (v := vr 3 (4 * t + 1)) (by decide +kernel) (by decide) rfl (by decide) (vp_lit (by decide)) rfl ?_
  refine g_aload_n (q := 1) (i := 1) (by decide +kernel) rfl rfl ?_
  refine g_get (C := "ThreePoints$Yard") (T := xT_Yard) (N := 3) (ci := 1) (k := 1) (v := vr 4 u) (by decide +kernel) (by decide) rfl rfl xi_Yard (by decide) kw_164 rfl ?_
  refine g_iload_n (q := 2) (i := 2) (by decide +kernel) rfl rfl ?_
  refine g_aald (v := vr 3 (4 * u + 1)) (by decide +kernel) (by decide) rfl (by decide) (vp_lit (by decide)) rfl ?_
  refine g_callV (kd := 3) (ix := (4 * t + 1)) (ci := 3) (N := 7) (T := xT_Vehicle) (vs := [vr 3 (4 * u + 1)]) (st := []) (by decide +kernel) xm_Vehicle_become kw_923 kw_635 kw_636 (by decide) rfl rfl rfl rfl (Nat.le_of_ble_eq_true rfl) (Nat.le_of_ble_eq_true rfl) h (fun vH3 H3 hq => ?_)
  replace h := hq
  refine g_iinc (i := 2) (n := 1) (v := 2) (ls2 := [some (vr 1 t), some (vr 1 u), some (vi 2)]) (by decide +kernel) rfl (by decide) (by decide) rfl rfl ?_
  refine g_goto (off := (-23)) (tgt := 13) (by decide +kernel) (by decide) ?_
  refine g_iload_n (q := 2) (i := 2) (by decide +kernel) rfl rfl ?_
  refine g_iconst (n := 4) (v := 4) (by decide +kernel) (by decide) ?_
  refine g_icmp_ge (off := 24) (tgt := 39) (by decide +kernel) (by decide) (fun c => absurd c (by decide)) (fun c => ?_)
  refine g_aload_n (q := 0) (i := 0) (by decide +kernel) rfl rfl ?_
  refine g_get (C := "ThreePoints$Yard") (T := xT_Yard) (N := 3) (ci := 1) (k := 1) (v := vr 4 t) (by decide +kernel) (by decide) rfl rfl xi_Yard (by decide) kw_164 rfl ?_
  refine g_iload_n (q := 2) (i := 2) (by decide +kernel) rfl rfl ?_
  refine g_aald (v := vr 3 (4 * t + 2)) (by decide +kernel) (by decide) rfl (by decide) (vp_lit (by decide)) rfl ?_
  refine g_aload_n (q := 1) (i := 1) (by decide +kernel) rfl rfl ?_
  refine g_get (C := "ThreePoints$Yard") (T := xT_Yard) (N := 3) (ci := 1) (k := 1) (v := vr 4 u) (by decide +kernel) (by decide) rfl rfl xi_Yard (by decide) kw_164 rfl ?_
  refine g_iload_n (q := 2) (i := 2) (by decide +kernel) rfl rfl ?_
  refine g_aald (v := vr 3 (4 * u + 2)) (by decide +kernel) (by decide) rfl (by decide) (vp_lit (by decide)) rfl ?_
  refine g_callV (kd := 3) (ix := (4 * t + 2)) (ci := 3) (N := 7) (T := xT_Vehicle) (vs := [vr 3 (4 * u + 2)]) (st := []) (by decide +kernel) xm_Vehicle_become kw_923 kw_635 kw_636 (by decide) rfl rfl rfl rfl (Nat.le_of_ble_eq_true rfl) (Nat.le_of_ble_eq_true rfl) h (fun vH4 H4 hq => ?_)
  replace h := hq
  refine g_iinc (i := 2) (n := 1) (v := 3) (ls2 := [some (vr 1 t), some (vr 1 u), some (vi 3)]) (by decide +kernel) rfl (by decide) (by decide) rfl rfl ?_
  refine g_goto (off := (-23)) (tgt := 13) (by decide +kernel) (by decide) ?_
  refine g_iload_n (q := 2) (i := 2) (by decide +kernel) rfl rfl ?_
  refine g_iconst (n := 4) (v := 4) (by decide +kernel) (by decide) ?_
  refine g_icmp_ge (off := 24) (tgt := 39) (by decide +kernel) (by decide) (fun c => absurd c (by decide)) (fun c => ?_)
  refine g_aload_n (q := 0) (i := 0) (by decide +kernel) rfl rfl ?_
  refine g_get (C := "ThreePoints$Yard") (T := xT_Yard) (N := 3) (ci := 1) (k := 1) (v := vr 4 t) (by decide +kernel) (by decide) rfl rfl xi_Yard (by decide) kw_164 rfl ?_
  refine g_iload_n (q := 2) (i := 2) (by decide +kernel) rfl rfl ?_
  refine g_aald (v := vr 3 (4 * t + 3)) (by decide +kernel) (by decide) rfl (by decide) (vp_lit (by decide)) rfl ?_
  refine g_aload_n (q := 1) (i := 1) (by decide +kernel) rfl rfl ?_
  refine g_get (C := "ThreePoints$Yard") (T := xT_Yard) (N := 3) (ci := 1) (k := 1) (v := vr 4 u) (by decide +kernel) (by decide) rfl rfl xi_Yard (by decide) kw_164 rfl ?_
  refine g_iload_n (q := 2) (i := 2) (by decide +kernel) rfl rfl ?_
  refine g_aald (v := vr 3 (4 * u + 3)) (by decide +kernel) (by decide) rfl (by decide) (vp_lit (by decide)) rfl ?_
  refine g_callV (kd := 3) (ix := (4 * t + 3)) (ci := 3) (N := 7) (T := xT_Vehicle) (vs := [vr 3 (4 * u + 3)]) (st := []) (by decide +kernel) xm_Vehicle_become kw_923 kw_635 kw_636 (by decide) rfl rfl rfl rfl (Nat.le_of_ble_eq_true rfl) (Nat.le_of_ble_eq_true rfl) h (fun vH5 H5 hq => ?_)
  replace h := hq
  refine g_iinc (i := 2) (n := 1) (v := 4) (ls2 := [some (vr 1 t), some (vr 1 u), some (vi 4)]) (by decide +kernel) rfl (by decide) (by decide) rfl rfl ?_
  refine g_goto (off := (-23)) (tgt := 13) (by decide +kernel) (by decide) ?_
  refine g_iload_n (q := 2) (i := 2) (by decide +kernel) rfl rfl ?_
  refine g_iconst (n := 4) (v := 4) (by decide +kernel) (by decide) ?_
  refine g_icmp_ge (off := 24) (tgt := 39) (by decide +kernel) (by decide) (fun c => ?_) (fun c => absurd c (by decide))
  refine g_aload_n (q := 0) (i := 0) (by decide +kernel) rfl rfl ?_
  refine g_aload_n (q := 1) (i := 1) (by decide +kernel) rfl rfl ?_
  refine g_get (C := "ThreePoints$Yard") (T := xT_Yard) (N := 3) (ci := 1) (k := 2) (v := vi (H5 1 u 2)) (by decide +kernel) (by decide) rfl rfl xi_Yard (by decide) kw_166 rfl ?_
  refine g_put (C := "ThreePoints$Yard") (T := xT_Yard) (N := 3) (ci := 1) (k := 2) xy_Yard (by decide +kernel) (by decide) rfl rfl xi_Yard xy_Yard_ok xn_Yard (by decide) kw_166 rfl (by decide +kernel) (fun _ => rfl) ?_
  refine g_heap (fun H6 eH6 => ?_)
  replace h := h H6 eH6
  exact g_vret (by decide +kernel) rfl h
def p_Sheet_renew (E : XE) (d : Nat) (t : Nat) (x1 : Int32) (x2 : Int32) (H : HH) (Q : HH → Prop) : Prop := ∀ H1 : HH, H1 = (hu H 16 t 1 x1) → ((¬ x1 = (-1) → (∀ H2 : HH, H2 = (hu H1 16 t 2 (xmax 0 (xmin x2 40))) → (c_fill E d 17 40 t 0 H2 (fun H3 => Q H3)))) ∧ (x1 = (-1) → (∀ H4 : HH, H4 = (hu H1 16 t 2 0) → (c_fill E d 17 40 t 0 H4 (fun H5 => Q H5)))))
set_option maxHeartbeats 4000000 in
theorem l_Sheet_renew {E : XE} {d : Nat} {t : Nat} {x1 : Int32} {x2 : Int32} {H : HH} {Q : HH → Prop} (h : p_Sheet_renew E d t x1 x2 H Q) : c_Sheet_renew E (d + 1) t x1 x2 H Q := by
  show g_Sheet_renew E (d + 1) 0 (xent [vr 16 t, vi x1, vi x2]) [] H (qv Q)
  refine g_drop (ls2 := [some (vr 16 t), some (vi x1), some (vi x2)]) (And.intro rfl (And.intro rfl (And.intro rfl trivial))) ?_
  refine g_aload_n (q := 0) (i := 0) (by decide +kernel) rfl rfl ?_
  refine g_iload_n (q := 1) (i := 1) (by decide +kernel) rfl rfl ?_
  refine g_put (C := "ThreePoints$Sheet") (T := xT_Sheet) (N := 3) (ci := 7) (k := 1) xy_Sheet (by decide +kernel) (by decide) rfl rfl xi_Sheet xy_Sheet_ok xn_Sheet (by decide) kw_318 rfl (by decide +kernel) (fun _ => rfl) ?_
  refine g_aload_n (q := 0) (i := 0) (by decide +kernel) rfl rfl ?_
  refine g_iload_n (q := 1) (i := 1) (by decide +kernel) rfl rfl ?_
  refine g_iconst (n := (-1)) (v := (-1)) (by decide +kernel) (by decide) ?_
  refine g_heap (fun H1 eH1 => ?_)
  replace h := h H1 eH1
  refine g_icmp_ne (off := 7) (tgt := 15) (by decide +kernel) (by decide) (fun c => ?_) (fun c => ?_)
  · replace h := h.1 c
    refine g_iconst (n := 0) (v := 0) (by decide +kernel) (by decide) ?_
    refine g_iload_n (q := 2) (i := 2) (by decide +kernel) rfl rfl ?_
    refine g_bipush (n := 40) (v := 40) (by decide +kernel) (by decide) ?_
    refine g_mmin (by decide +kernel) kw_936 kw_463 kw_79 kw_464 (Nat.le_of_ble_eq_true rfl) ?_
    refine g_mmax (by decide +kernel) kw_937 kw_460 kw_79 kw_461 (Nat.le_of_ble_eq_true rfl) ?_
    refine g_put (C := "ThreePoints$Sheet") (T := xT_Sheet) (N := 3) (ci := 7) (k := 2) xy_Sheet (by decide +kernel) (by decide) rfl rfl xi_Sheet xy_Sheet_ok xn_Sheet (by decide) kw_320 rfl (by decide +kernel) (fun _ => rfl) ?_
    refine g_aload_n (q := 0) (i := 0) (by decide +kernel) rfl rfl ?_
    refine g_get (C := "ThreePoints$Sheet") (T := xT_Sheet) (N := 3) (ci := 7) (k := 0) (v := vr 17 t) (by decide +kernel) (by decide) rfl rfl xi_Sheet (by decide) kw_316 rfl ?_
    refine g_iconst (n := 0) (v := 0) (by decide +kernel) (by decide) ?_
    refine g_heap (fun H2 eH2 => ?_)
    replace h := h H2 eH2
    refine g_callS (vs := [vr 17 t, vi 0]) (st := []) (by decide +kernel) xm_fill kw_938 kw_509 rfl rfl (Nat.le_of_ble_eq_true rfl) (Nat.le_of_ble_eq_true rfl) h (fun vH3 H3 hq => ?_)
    replace h := hq
    exact g_vret (by decide +kernel) rfl h
  · replace h := h.2 c
    refine g_iconst (n := 0) (v := 0) (by decide +kernel) (by decide) ?_
    refine g_goto (off := 13) (tgt := 25) (by decide +kernel) (by decide) ?_
    refine g_put (C := "ThreePoints$Sheet") (T := xT_Sheet) (N := 3) (ci := 7) (k := 2) xy_Sheet (by decide +kernel) (by decide) rfl rfl xi_Sheet xy_Sheet_ok xn_Sheet (by decide) kw_320 rfl (by decide +kernel) (fun _ => rfl) ?_
    refine g_aload_n (q := 0) (i := 0) (by decide +kernel) rfl rfl ?_
    refine g_get (C := "ThreePoints$Sheet") (T := xT_Sheet) (N := 3) (ci := 7) (k := 0) (v := vr 17 t) (by decide +kernel) (by decide) rfl rfl xi_Sheet (by decide) kw_316 rfl ?_
    refine g_iconst (n := 0) (v := 0) (by decide +kernel) (by decide) ?_
    refine g_heap (fun H4 eH4 => ?_)
    replace h := h H4 eH4
    refine g_callS (vs := [vr 17 t, vi 0]) (st := []) (by decide +kernel) xm_fill kw_938 kw_509 rfl rfl (Nat.le_of_ble_eq_true rfl) (Nat.le_of_ble_eq_true rfl) h (fun vH5 H5 hq => ?_)
    replace h := hq
    exact g_vret (by decide +kernel) rfl h
def p_Sheet_put (E : XE) (d : Nat) (t : Nat) (x1 : Int32) (x2 : Int32) (H : HH) (Q : HH → Prop) : Prop := c_Sheet_has E d t x1 H (fun r2 H1 => (¬ r2 = 0 → ((¬ (H1 16 t 1) = 0 → ((¬ (H1 16 t 1) = 1 → (vp_in x1 40 ∧ (∀ H3 : HH, H3 = (hu H1 17 t (x1.toNatClampNeg) x2) → (Q H3)))) ∧ ((H1 16 t 1) = 1 → (vp_in x1 40 ∧ (∀ H4 : HH, H4 = (hu H1 17 t (x1.toNatClampNeg) (x2.toInt16.toInt32)) → (Q H4)))))) ∧ ((H1 16 t 1) = 0 → (vp_in x1 40 ∧ (∀ H5 : HH, H5 = (hu H1 17 t (x1.toNatClampNeg) (x2.toInt8.toInt32)) → (Q H5)))))) ∧ (r2 = 0 → (Q H1)))
set_option maxHeartbeats 4000000 in
theorem l_Sheet_put {E : XE} {d : Nat} {t : Nat} {x1 : Int32} {x2 : Int32} {H : HH} {Q : HH → Prop} (h : p_Sheet_put E d t x1 x2 H Q) : c_Sheet_put E (d + 1) t x1 x2 H Q := by
  show g_Sheet_put E (d + 1) 0 (xent [vr 16 t, vi x1, vi x2]) [] H (qv Q)
  refine g_drop (ls2 := [some (vr 16 t), some (vi x1), some (vi x2)]) (And.intro rfl (And.intro rfl (And.intro rfl trivial))) ?_
  refine g_aload_n (q := 0) (i := 0) (by decide +kernel) rfl rfl ?_
  refine g_iload_n (q := 1) (i := 1) (by decide +kernel) rfl rfl ?_
  refine g_callV (kd := 16) (ix := t) (ci := 7) (N := 3) (T := xT_Sheet) (vs := [vi x1]) (st := []) (by decide +kernel) xm_Sheet_has kw_870 kw_871 kw_872 (by decide) rfl rfl rfl rfl (Nat.le_of_ble_eq_true rfl) (Nat.le_of_ble_eq_true rfl) h (fun vH1 H1 hq => ?_)
  obtain ⟨r2, rfl, h⟩ := hq
  refine g_if_ne (off := 4) (tgt := 9) (by decide +kernel) (by decide) (fun c => ?_) (fun c => ?_)
  · replace h := h.1 c
    refine g_aload_n (q := 0) (i := 0) (by decide +kernel) rfl rfl ?_
    refine g_get (C := "ThreePoints$Sheet") (T := xT_Sheet) (N := 3) (ci := 7) (k := 1) (v := vi (H1 16 t 1)) (by decide +kernel) (by decide) rfl rfl xi_Sheet (by decide) kw_318 rfl ?_
    refine g_if_ne (off := 14) (tgt := 27) (by decide +kernel) (by decide) (fun c => ?_) (fun c => ?_)
    · replace h := h.1 c
      refine g_aload_n (q := 0) (i := 0) (by decide +kernel) rfl rfl ?_
      refine g_get (C := "ThreePoints$Sheet") (T := xT_Sheet) (N := 3) (ci := 7) (k := 1) (v := vi (H1 16 t 1)) (by decide +kernel) (by decide) rfl rfl xi_Sheet (by decide) kw_318 rfl ?_
      refine g_iconst (n := 1) (v := 1) (by decide +kernel) (by decide) ?_
      refine g_icmp_ne (off := 14) (tgt := 46) (by decide +kernel) (by decide) (fun c => ?_) (fun c => ?_)
      · replace h := h.1 c
        refine g_aload_n (q := 0) (i := 0) (by decide +kernel) rfl rfl ?_
        refine g_get (C := "ThreePoints$Sheet") (T := xT_Sheet) (N := 3) (ci := 7) (k := 0) (v := vr 17 t) (by decide +kernel) (by decide) rfl rfl xi_Sheet (by decide) kw_316 rfl ?_
        refine g_iload_n (q := 1) (i := 1) (by decide +kernel) rfl rfl ?_
        refine g_iload_n (q := 2) (i := 2) (by decide +kernel) rfl rfl ?_
        obtain ⟨hin, h⟩ := h
        refine g_iast (by decide +kernel) (by decide) rfl hin ?_
        refine g_heap (fun H3 eH3 => ?_)
        replace h := h H3 eH3
        exact g_vret (by decide +kernel) rfl h
      · replace h := h.2 c
        refine g_aload_n (q := 0) (i := 0) (by decide +kernel) rfl rfl ?_
        refine g_get (C := "ThreePoints$Sheet") (T := xT_Sheet) (N := 3) (ci := 7) (k := 0) (v := vr 17 t) (by decide +kernel) (by decide) rfl rfl xi_Sheet (by decide) kw_316 rfl ?_
        refine g_iload_n (q := 1) (i := 1) (by decide +kernel) rfl rfl ?_
        refine g_iload_n (q := 2) (i := 2) (by decide +kernel) rfl rfl ?_
        refine g_i2s (by decide +kernel) ?_
        obtain ⟨hin, h⟩ := h
        refine g_iast (by decide +kernel) (by decide) rfl hin ?_
        refine g_goto (off := 10) (tgt := 53) (by decide +kernel) (by decide) ?_
        refine g_heap (fun H4 eH4 => ?_)
        replace h := h H4 eH4
        exact g_vret (by decide +kernel) rfl h
    · replace h := h.2 c
      refine g_aload_n (q := 0) (i := 0) (by decide +kernel) rfl rfl ?_
      refine g_get (C := "ThreePoints$Sheet") (T := xT_Sheet) (N := 3) (ci := 7) (k := 0) (v := vr 17 t) (by decide +kernel) (by decide) rfl rfl xi_Sheet (by decide) kw_316 rfl ?_
      refine g_iload_n (q := 1) (i := 1) (by decide +kernel) rfl rfl ?_
      refine g_iload_n (q := 2) (i := 2) (by decide +kernel) rfl rfl ?_
      refine g_i2b (by decide +kernel) ?_
      obtain ⟨hin, h⟩ := h
      refine g_iast (by decide +kernel) (by decide) rfl hin ?_
      refine g_goto (off := 29) (tgt := 53) (by decide +kernel) (by decide) ?_
      refine g_heap (fun H5 eH5 => ?_)
      replace h := h H5 eH5
      exact g_vret (by decide +kernel) rfl h
  · replace h := h.2 c
    exact g_vret (by decide +kernel) rfl h
def p_Sheet_hasRow (E : XE) (d : Nat) (t : Nat) (x1 : Int32) (x2 : Int32) (H : HH) (Q : Int32 → HH → Prop) : Prop := ((if x1 < 0 then 0 else (if x2 < 0 then 0 else (if ((H 16 t 2) - x2) < x1 then 0 else 1 : Int32) : Int32) : Int32) = 0 ∨ (if x1 < 0 then 0 else (if x2 < 0 then 0 else (if ((H 16 t 2) - x2) < x1 then 0 else 1 : Int32) : Int32) : Int32) = 1) ∧ Q (if x1 < 0 then 0 else (if x2 < 0 then 0 else (if ((H 16 t 2) - x2) < x1 then 0 else 1 : Int32) : Int32) : Int32) H
set_option maxHeartbeats 4000000 in
theorem l_Sheet_hasRow {E : XE} {d : Nat} {t : Nat} {x1 : Int32} {x2 : Int32} {H : HH} {Q : Int32 → HH → Prop} (h : p_Sheet_hasRow E d t x1 x2 H Q) : c_Sheet_hasRow E d t x1 x2 H Q := by
  show g_Sheet_hasRow E d 0 (xent [vr 16 t, vi x1, vi x2]) [] H (qi Q)
  refine g_drop (ls2 := [some (vr 16 t), some (vi x1), some (vi x2)]) (And.intro rfl (And.intro rfl (And.intro rfl trivial))) ?_
  refine g_iload_n (q := 1) (i := 1) (by decide +kernel) rfl rfl ?_
  suffices hj3 : g_Sheet_hasRow E d 23 [some (vr 16 t), some (vi x1), some (vi x2)] [vi (if x1 < 0 then 0 else (if x2 < 0 then 0 else (if ((H 16 t 2) - x2) < x1 then 0 else 1 : Int32) : Int32) : Int32)] H (qi Q) by
    refine g_if_lt (off := 21) (tgt := 22) (by decide +kernel) (by decide) (fun c => ?_) (fun c => ?_)
    · rw [if_pos c] at hj3
      refine g_iconst (n := 0) (v := 0) (by decide +kernel) (by decide) ?_
      exact hj3
    · rw [if_neg c] at hj3
      refine g_iload_n (q := 2) (i := 2) (by decide +kernel) rfl rfl ?_
      suffices hj2 : g_Sheet_hasRow E d 23 [some (vr 16 t), some (vi x1), some (vi x2)] [vi (if x2 < 0 then 0 else (if ((H 16 t 2) - x2) < x1 then 0 else 1 : Int32) : Int32)] H (qi Q) by
        refine g_if_lt (off := 17) (tgt := 22) (by decide +kernel) (by decide) (fun c => ?_) (fun c => ?_)
        · rw [if_pos c] at hj2
          refine g_iconst (n := 0) (v := 0) (by decide +kernel) (by decide) ?_
          exact hj2
        · rw [if_neg c] at hj2
          refine g_iload_n (q := 1) (i := 1) (by decide +kernel) rfl rfl ?_
          refine g_aload_n (q := 0) (i := 0) (by decide +kernel) rfl rfl ?_
          refine g_get (C := "ThreePoints$Sheet") (T := xT_Sheet) (N := 3) (ci := 7) (k := 2) (v := vi (H 16 t 2)) (by decide +kernel) (by decide) rfl rfl xi_Sheet (by decide) kw_320 rfl ?_
          refine g_iload_n (q := 2) (i := 2) (by decide +kernel) rfl rfl ?_
          refine g_isub (by decide +kernel) ?_
          suffices hj1 : g_Sheet_hasRow E d 23 [some (vr 16 t), some (vi x1), some (vi x2)] [vi (if ((H 16 t 2) - x2) < x1 then 0 else 1 : Int32)] H (qi Q) by
            refine g_icmp_gt (off := 7) (tgt := 22) (by decide +kernel) (by decide) (fun c => ?_) (fun c => ?_)
            · rw [if_pos c] at hj1
              refine g_iconst (n := 0) (v := 0) (by decide +kernel) (by decide) ?_
              exact hj1
            · rw [if_neg c] at hj1
              refine g_iconst (n := 1) (v := 1) (by decide +kernel) (by decide) ?_
              refine g_goto (off := 4) (tgt := 23) (by decide +kernel) (by decide) ?_
              exact hj1
          exact hj2
      exact hj3
  obtain ⟨h01, h⟩ := h
  exact g_zret (by decide +kernel) rfl (nbool h01) ⟨_, rfl, h⟩
def p_Vehicle_isA (E : XE) (d : Nat) (t : Nat) (x1 : Int32) (H : HH) (Q : Int32 → HH → Prop) : Prop := ∃ (I1 : Int32 → Int32 → HH → Prop) (μ1 : Int32 → Int32 → HH → Nat), I1 (H 3 t 0) 6 H ∧ ∀ (z2 : Int32) (z3 : Int32) (H4 : HH), I1 z2 z3 H4 → ((z3 ≤ 0 → (Q 0 H4)) ∧ (¬ z3 ≤ 0 → ((z2 < 0 → (Q 0 H4)) ∧ (¬ z2 < 0 → ((6 ≤ z2 → (Q 0 H4)) ∧ (¬ 6 ≤ z2 → ((¬ z2 = x1 → (vp_in z2 6 ∧ (∀ v5 : Int32, v5 = (xABV.getD (z2.toNatClampNeg) 0) → (I1 v5 (z3 + (-1)) H4 ∧ μ1 v5 (z3 + (-1)) H4 < μ1 z2 z3 H4)))) ∧ (z2 = x1 → (Q 1 H4)))))))))
set_option maxHeartbeats 4000000 in
theorem l_Vehicle_isA {E : XE} {d : Nat} {t : Nat} {x1 : Int32} {H : HH} {Q : Int32 → HH → Prop} (h : p_Vehicle_isA E d t x1 H Q) : c_Vehicle_isA E d t x1 H Q := by
  show g_Vehicle_isA E d 0 (xent [vr 3 t, vi x1]) [] H (qi Q)
  refine g_drop (ls2 := [some (vr 3 t), some (vi x1), none, none]) (And.intro rfl (And.intro rfl trivial)) ?_
  refine g_aload_n (q := 0) (i := 0) (by decide +kernel) rfl rfl ?_
  refine g_get (C := "ThreePoints$Vehicle") (T := xT_Vehicle) (N := 7) (ci := 3) (k := 0) (v := vi (H 3 t 0)) (by decide +kernel) (by decide) rfl rfl xi_Vehicle (by decide) kw_127 rfl ?_
  refine g_istore_n (q := 2) (i := 2) (ls2 := [some (vr 3 t), some (vi x1), some (vi (H 3 t 0)), none]) (by decide +kernel) rfl (by decide) rfl rfl ?_
  refine g_bipush (n := 6) (v := 6) (by decide +kernel) (by decide) ?_
  refine g_istore_n (q := 3) (i := 3) (ls2 := [some (vr 3 t), some (vi x1), some (vi (H 3 t 0)), some (vi 6)]) (by decide +kernel) rfl (by decide) rfl rfl ?_
  refine g_drop (ls2 := [none, some (vi x1), some (vi (H 3 t 0)), some (vi 6)]) (And.intro rfl (And.intro rfl (And.intro rfl trivial))) ?_
  obtain ⟨I1, μ1, h0, h⟩ := h
  refine xloop (σ := Int32 × Int32) (fun s H => I1 s.1 s.2 H) (fun s H => μ1 s.1 s.2 H) (fun s H => g_Vehicle_isA E d 8 [none, some (vi x1), some (vi s.1), some (vi s.2)] [] H (qi Q)) (fun s H4 hI ih1 => ?_) ((H 3 t 0), 6) H h0
  obtain ⟨z2, z3⟩ := s
  replace h := h z2 z3 H4 hI
  refine g_iload_n (q := 3) (i := 3) (by decide +kernel) rfl rfl ?_
  refine g_if_le (off := 32) (tgt := 41) (by decide +kernel) (by decide) (fun c => ?_) (fun c => ?_)
  · replace h := h.1 c
    refine g_iconst (n := 0) (v := 0) (by decide +kernel) (by decide) ?_
    exact g_zret (by decide +kernel) rfl rfl ⟨_, rfl, h⟩
  · replace h := h.2 c
    refine g_iload_n (q := 2) (i := 2) (by decide +kernel) rfl rfl ?_
    refine g_if_lt (off := 28) (tgt := 41) (by decide +kernel) (by decide) (fun c => ?_) (fun c => ?_)
    · replace h := h.1 c
      refine g_iconst (n := 0) (v := 0) (by decide +kernel) (by decide) ?_
      exact g_zret (by decide +kernel) rfl rfl ⟨_, rfl, h⟩
    · replace h := h.2 c
      refine g_iload_n (q := 2) (i := 2) (by decide +kernel) rfl rfl ?_
      refine g_bipush (n := 6) (v := 6) (by decide +kernel) (by decide) ?_
      refine g_icmp_ge (off := 22) (tgt := 41) (by decide +kernel) (by decide) (fun c => ?_) (fun c => ?_)
      · replace h := h.1 c
        refine g_iconst (n := 0) (v := 0) (by decide +kernel) (by decide) ?_
        exact g_zret (by decide +kernel) rfl rfl ⟨_, rfl, h⟩
      · replace h := h.2 c
        refine g_iload_n (q := 2) (i := 2) (by decide +kernel) rfl rfl ?_
        refine g_iload_n (q := 1) (i := 1) (by decide +kernel) rfl rfl ?_
        refine g_icmp_ne (off := 5) (tgt := 29) (by decide +kernel) (by decide) (fun c => ?_) (fun c => ?_)
        · replace h := h.1 c
          refine g_gsABV (by decide +kernel) kw_971 ?_
          refine g_iload_n (q := 2) (i := 2) (by decide +kernel) rfl rfl ?_
          obtain ⟨hin, h⟩ := h
          refine g_ialdABV (by decide +kernel) hin ?_
          refine g_topi (fun v5 ev5 => ?_)
          replace h := h v5 ev5
          refine g_istore_n (q := 2) (i := 2) (ls2 := [none, some (vi x1), some (vi v5), some (vi z3)]) (by decide +kernel) rfl (by decide) rfl rfl ?_
          refine g_iinc (i := 3) (n := (-1)) (v := (z3 + (-1))) (ls2 := [none, some (vi x1), some (vi v5), some (vi (z3 + (-1)))]) (by decide +kernel) rfl rfl (by decide) rfl rfl ?_
          refine g_goto (off := (-30)) (tgt := 8) (by decide +kernel) (by decide) ?_
          obtain ⟨hI, hlt⟩ := h
          exact g_drop (ls2 := [none, some (vi x1), some (vi v5), some (vi (z3 + (-1)))]) (And.intro rfl (And.intro rfl (And.intro rfl trivial))) (ih1 (v5, (z3 + (-1))) H4 hI hlt)
        · replace h := h.2 c
          refine g_iconst (n := 1) (v := 1) (by decide +kernel) (by decide) ?_
          exact g_zret (by decide +kernel) rfl rfl ⟨_, rfl, h⟩
end
section
/-! a method: its place, its formula, the walk that proves it; printed by wip/gen/emitall.py -/
abbrev g_Tape_add (E : XE) (d pc : Nat) (ls : List (Option AV)) (st : List AV) (H : HH) (Q : AV → HH → Prop) : Prop := Gp E.1 E.2.1 E.2.2.1 E.2.2.2 xTX xRF xLC d "ThreePoints$Tape" prog_7_method_3_code 2 none pc ls st H Q
def c_Tape_add (E : XE) (d : Nat) (x1 : Int32) (H : HH) (Q : HH → Prop) : Prop := g_Tape_add E d 0 (xent [vr 6 0, vi x1]) [] H (qv Q)
theorem xm_Tape_add : xM ⟨"ThreePoints$Tape", "add", "(I)V"⟩ prog_7_method_3_code 2 none 1 := ⟨kw_385, kw_70, by decide +kernel, by decide +kernel, by decide⟩
abbrev g_Tape_write (E : XE) (d pc : Nat) (ls : List (Option AV)) (st : List AV) (H : HH) (Q : AV → HH → Prop) : Prop := Gp E.1 E.2.1 E.2.2.1 E.2.2.2 xTX xRF xLC d "ThreePoints$Tape" prog_7_method_4_code 3 none pc ls st H Q
def c_Tape_write (E : XE) (d : Nat) (w : Nat) (H : HH) (Q : HH → Prop) : Prop := g_Tape_write E d 0 (xent [vr 6 0, vr 60 w]) [] H (qv Q)
theorem xm_Tape_write : xM ⟨"ThreePoints$Tape", "write", "(Ljava/lang/String;)V"⟩ prog_7_method_4_code 3 none 1 := ⟨kw_333, kw_70, by decide +kernel, by decide +kernel, by decide⟩
abbrev g_Tape_byteAt (E : XE) (d pc : Nat) (ls : List (Option AV)) (st : List AV) (H : HH) (Q : AV → HH → Prop) : Prop := Gp E.1 E.2.1 E.2.2.1 E.2.2.2 xTX xRF xLC d "ThreePoints$Tape" prog_7_method_9_code 2 (some .int) pc ls st H Q
def c_Tape_byteAt (E : XE) (d : Nat) (x1 : Int32) (H : HH) (Q : Int32 → HH → Prop) : Prop := g_Tape_byteAt E d 0 (xent [vr 6 0, vi x1]) [] H (qi Q)
theorem xm_Tape_byteAt : xM ⟨"ThreePoints$Tape", "byteAt", "(I)I"⟩ prog_7_method_9_code 2 (some .int) 1 := ⟨kw_401, kw_70, by decide +kernel, by decide +kernel, by decide⟩
abbrev g_Tape_isLetter (E : XE) (d pc : Nat) (ls : List (Option AV)) (st : List AV) (H : HH) (Q : AV → HH → Prop) : Prop := Gp E.1 E.2.1 E.2.2.1 E.2.2.2 xTX xRF xLC d "ThreePoints$Tape" prog_7_method_11_code 1 (some .boolean) pc ls st H Q
def c_Tape_isLetter (E : XE) (d : Nat) (x0 : Int32) (H : HH) (Q : Int32 → HH → Prop) : Prop := g_Tape_isLetter E d 0 (xent [vi x0]) [] H (qi Q)
theorem xm_Tape_isLetter : xM ⟨"ThreePoints$Tape", "isLetter", "(I)Z"⟩ prog_7_method_11_code 1 (some .boolean) 1 := ⟨kw_404, kw_70, by decide +kernel, by decide +kernel, by decide⟩
abbrev g_Tape_isDigit (E : XE) (d pc : Nat) (ls : List (Option AV)) (st : List AV) (H : HH) (Q : AV → HH → Prop) : Prop := Gp E.1 E.2.1 E.2.2.1 E.2.2.2 xTX xRF xLC d "ThreePoints$Tape" prog_7_method_12_code 1 (some .boolean) pc ls st H Q
def c_Tape_isDigit (E : XE) (d : Nat) (x0 : Int32) (H : HH) (Q : Int32 → HH → Prop) : Prop := g_Tape_isDigit E d 0 (xent [vi x0]) [] H (qi Q)
theorem xm_Tape_isDigit : xM ⟨"ThreePoints$Tape", "isDigit", "(I)Z"⟩ prog_7_method_12_code 1 (some .boolean) 1 := ⟨kw_407, kw_70, by decide +kernel, by decide +kernel, by decide⟩
abbrev g_Tape_endOfToken (E : XE) (d pc : Nat) (ls : List (Option AV)) (st : List AV) (H : HH) (Q : AV → HH → Prop) : Prop := Gp E.1 E.2.1 E.2.2.1 E.2.2.2 xTX xRF xLC d "ThreePoints$Tape" prog_7_method_13_code 3 (some .int) pc ls st H Q
def c_Tape_endOfToken (E : XE) (d : Nat) (x1 : Int32) (H : HH) (Q : Int32 → HH → Prop) : Prop := g_Tape_endOfToken E d 0 (xent [vr 6 0, vi x1]) [] H (qi Q)
theorem xm_Tape_endOfToken : xM ⟨"ThreePoints$Tape", "endOfToken", "(I)I"⟩ prog_7_method_13_code 3 (some .int) 1 := ⟨kw_397, kw_70, by decide +kernel, by decide +kernel, by decide⟩
abbrev g_Tape_isBlank (E : XE) (d pc : Nat) (ls : List (Option AV)) (st : List AV) (H : HH) (Q : AV → HH → Prop) : Prop := Gp E.1 E.2.1 E.2.2.1 E.2.2.2 xTX xRF xLC d "ThreePoints$Tape" prog_7_method_10_code 1 (some .boolean) pc ls st H Q
def c_Tape_isBlank (E : XE) (d : Nat) (x0 : Int32) (H : HH) (Q : Int32 → HH → Prop) : Prop := g_Tape_isBlank E d 0 (xent [vi x0]) [] H (qi Q)
theorem xm_Tape_isBlank : xM ⟨"ThreePoints$Tape", "isBlank", "(I)Z"⟩ prog_7_method_10_code 1 (some .boolean) 1 := ⟨kw_410, kw_70, by decide +kernel, by decide +kernel, by decide⟩
abbrev g_Tape_numberAt (E : XE) (d pc : Nat) (ls : List (Option AV)) (st : List AV) (H : HH) (Q : AV → HH → Prop) : Prop := Gp E.1 E.2.1 E.2.2.1 E.2.2.2 xTX xRF xLC d "ThreePoints$Tape" prog_7_method_15_code 5 (some .int) pc ls st H Q
def c_Tape_numberAt (E : XE) (d : Nat) (x1 : Int32) (x2 : Int32) (H : HH) (Q : Int32 → HH → Prop) : Prop := g_Tape_numberAt E d 0 (xent [vr 6 0, vi x1, vi x2]) [] H (qi Q)
theorem xm_Tape_numberAt : xM ⟨"ThreePoints$Tape", "numberAt", "(II)I"⟩ prog_7_method_15_code 5 (some .int) 2 := ⟨kw_414, kw_70, by decide +kernel, by decide +kernel, by decide⟩
abbrev g_Tape_spells (E : XE) (d pc : Nat) (ls : List (Option AV)) (st : List AV) (H : HH) (Q : AV → HH → Prop) : Prop := Gp E.1 E.2.1 E.2.2.1 E.2.2.2 xTX xRF xLC d "ThreePoints$Tape" prog_7_method_18_code 5 (some .boolean) pc ls st H Q
def c_Tape_spells (E : XE) (d : Nat) (x1 : Int32) (x2 : Int32) (w : Nat) (H : HH) (Q : Int32 → HH → Prop) : Prop := g_Tape_spells E d 0 (xent [vr 6 0, vi x1, vi x2, vr 60 w]) [] H (qi Q)
theorem xm_Tape_spells : xM ⟨"ThreePoints$Tape", "spells", "(IILjava/lang/String;)Z"⟩ prog_7_method_18_code 5 (some .boolean) 3 := ⟨kw_423, kw_70, by decide +kernel, by decide +kernel, by decide⟩
abbrev g_Tape_nameAt (E : XE) (d pc : Nat) (ls : List (Option AV)) (st : List AV) (H : HH) (Q : AV → HH → Prop) : Prop := Gp E.1 E.2.1 E.2.2.1 E.2.2.2 xTX xRF xLC d "ThreePoints$Tape" prog_7_method_17_code 3 (some .int) pc ls st H Q
def c_Tape_nameAt (E : XE) (d : Nat) (x1 : Int32) (x2 : Int32) (H : HH) (Q : Int32 → HH → Prop) : Prop := g_Tape_nameAt E d 0 (xent [vr 6 0, vi x1, vi x2]) [] H (qi Q)
theorem xm_Tape_nameAt : xM ⟨"ThreePoints$Tape", "nameAt", "(II)I"⟩ prog_7_method_17_code 3 (some .int) 2 := ⟨kw_418, kw_70, by decide +kernel, by decide +kernel, by decide⟩
abbrev g_Tape_wordKindAt (E : XE) (d pc : Nat) (ls : List (Option AV)) (st : List AV) (H : HH) (Q : AV → HH → Prop) : Prop := Gp E.1 E.2.1 E.2.2.1 E.2.2.2 xTX xRF xLC d "ThreePoints$Tape" prog_7_method_16_code 3 (some .int) pc ls st H Q
def c_Tape_wordKindAt (E : XE) (d : Nat) (x1 : Int32) (x2 : Int32) (H : HH) (Q : Int32 → HH → Prop) : Prop := g_Tape_wordKindAt E d 0 (xent [vr 6 0, vi x1, vi x2]) [] H (qi Q)
theorem xm_Tape_wordKindAt : xM ⟨"ThreePoints$Tape", "wordKindAt", "(II)I"⟩ prog_7_method_16_code 3 (some .int) 2 := ⟨kw_436, kw_70, by decide +kernel, by decide +kernel, by decide⟩
abbrev g_Tape_kindAt (E : XE) (d pc : Nat) (ls : List (Option AV)) (st : List AV) (H : HH) (Q : AV → HH → Prop) : Prop := Gp E.1 E.2.1 E.2.2.1 E.2.2.2 xTX xRF xLC d "ThreePoints$Tape" prog_7_method_14_code 4 (some .int) pc ls st H Q
def c_Tape_kindAt (E : XE) (d : Nat) (x1 : Int32) (x2 : Int32) (H : HH) (Q : Int32 → HH → Prop) : Prop := g_Tape_kindAt E d 0 (xent [vr 6 0, vi x1, vi x2]) [] H (qi Q)
theorem xm_Tape_kindAt : xM ⟨"ThreePoints$Tape", "kindAt", "(II)I"⟩ prog_7_method_14_code 4 (some .int) 2 := ⟨kw_432, kw_70, by decide +kernel, by decide +kernel, by decide⟩
abbrev g_Tape_split (E : XE) (d pc : Nat) (ls : List (Option AV)) (st : List AV) (H : HH) (Q : AV → HH → Prop) : Prop := Gp E.1 E.2.1 E.2.2.1 E.2.2.2 xTX xRF xLC d "ThreePoints$Tape" prog_7_method_8_code 3 none pc ls st H Q
def c_Tape_split (E : XE) (d : Nat)  (H : HH) (Q : HH → Prop) : Prop := g_Tape_split E d 0 (xent [vr 6 0]) [] H (qv Q)
theorem xm_Tape_split : xM ⟨"ThreePoints$Tape", "split", "()V"⟩ prog_7_method_8_code 3 none 0 := ⟨kw_393, kw_70, by decide +kernel, by decide +kernel, by decide⟩
abbrev g_Tape_kindOf (E : XE) (d pc : Nat) (ls : List (Option AV)) (st : List AV) (H : HH) (Q : AV → HH → Prop) : Prop := Gp E.1 E.2.1 E.2.2.1 E.2.2.2 xTX xRF xLC d "ThreePoints$Tape" prog_7_method_5_code 2 (some .int) pc ls st H Q
def c_Tape_kindOf (E : XE) (d : Nat) (x1 : Int32) (H : HH) (Q : Int32 → HH → Prop) : Prop := g_Tape_kindOf E d 0 (xent [vr 6 0, vi x1]) [] H (qi Q)
theorem xm_Tape_kindOf : xM ⟨"ThreePoints$Tape", "kindOf", "(I)I"⟩ prog_7_method_5_code 2 (some .int) 1 := ⟨kw_518, kw_70, by decide +kernel, by decide +kernel, by decide⟩
abbrev g_Reader_goTo (E : XE) (d pc : Nat) (ls : List (Option AV)) (st : List AV) (H : HH) (Q : AV → HH → Prop) : Prop := Gp E.1 E.2.1 E.2.2.1 E.2.2.2 xTX xRF xLC d "ThreePoints$Reader" prog_3_method_3_code 2 none pc ls st H Q
def c_Reader_goTo (E : XE) (d : Nat) (x1 : Int32) (H : HH) (Q : HH → Prop) : Prop := g_Reader_goTo E d 0 (xent [vr 5 0, vi x1]) [] H (qv Q)
theorem xm_Reader_goTo : xM ⟨"ThreePoints$Reader", "goTo", "(I)V"⟩ prog_3_method_3_code 2 none 1 := ⟨kw_514, kw_69, by decide +kernel, by decide +kernel, by decide⟩
abbrev g_Tape_valueOf (E : XE) (d pc : Nat) (ls : List (Option AV)) (st : List AV) (H : HH) (Q : AV → HH → Prop) : Prop := Gp E.1 E.2.1 E.2.2.1 E.2.2.2 xTX xRF xLC d "ThreePoints$Tape" prog_7_method_6_code 2 (some .int) pc ls st H Q
def c_Tape_valueOf (E : XE) (d : Nat) (x1 : Int32) (H : HH) (Q : Int32 → HH → Prop) : Prop := g_Tape_valueOf E d 0 (xent [vr 6 0, vi x1]) [] H (qi Q)
theorem xm_Tape_valueOf : xM ⟨"ThreePoints$Tape", "valueOf", "(I)I"⟩ prog_7_method_6_code 2 (some .int) 1 := ⟨kw_554, kw_70, by decide +kernel, by decide +kernel, by decide⟩
abbrev g_Reader_mayOpen (E : XE) (d pc : Nat) (ls : List (Option AV)) (st : List AV) (H : HH) (Q : AV → HH → Prop) : Prop := Gp E.1 E.2.1 E.2.2.1 E.2.2.2 xTX xRF xLC d "ThreePoints$Reader" prog_3_method_12_code 1 (some .boolean) pc ls st H Q
def c_Reader_mayOpen (E : XE) (d : Nat)  (H : HH) (Q : Int32 → HH → Prop) : Prop := g_Reader_mayOpen E d 0 (xent [vr 5 0]) [] H (qi Q)
theorem xm_Reader_mayOpen : xM ⟨"ThreePoints$Reader", "mayOpen", "()Z"⟩ prog_3_method_12_code 1 (some .boolean) 0 := ⟨kw_562, kw_69, by decide +kernel, by decide +kernel, by decide⟩
abbrev g_Reader_readOne (E : XE) (d pc : Nat) (ls : List (Option AV)) (st : List AV) (H : HH) (Q : AV → HH → Prop) : Prop := Gp E.1 E.2.1 E.2.2.1 E.2.2.2 xTX xRF xLC d "ThreePoints$Reader" prog_3_method_11_code 1 (some .boolean) pc ls st H Q
def c_Reader_readOne (E : XE) (d : Nat)  (H : HH) (Q : Int32 → HH → Prop) : Prop := g_Reader_readOne E d 0 (xent [vr 5 0]) [] H (qi Q)
theorem xm_Reader_readOne : xM ⟨"ThreePoints$Reader", "readOne", "()Z"⟩ prog_3_method_11_code 1 (some .boolean) 0 := ⟨kw_550, kw_69, by decide +kernel, by decide +kernel, by decide⟩
abbrev g_Reader_readTerm (E : XE) (d pc : Nat) (ls : List (Option AV)) (st : List AV) (H : HH) (Q : AV → HH → Prop) : Prop := Gp E.1 E.2.1 E.2.2.1 E.2.2.2 xTX xRF xLC d "ThreePoints$Reader" prog_3_method_10_code 2 (some .boolean) pc ls st H Q
def c_Reader_readTerm (E : XE) (d : Nat)  (H : HH) (Q : Int32 → HH → Prop) : Prop := g_Reader_readTerm E d 0 (xent [vr 5 0]) [] H (qi Q)
theorem xm_Reader_readTerm : xM ⟨"ThreePoints$Reader", "readTerm", "()Z"⟩ prog_3_method_10_code 2 (some .boolean) 0 := ⟨kw_546, kw_69, by decide +kernel, by decide +kernel, by decide⟩
abbrev g_Reader_readSum (E : XE) (d pc : Nat) (ls : List (Option AV)) (st : List AV) (H : HH) (Q : AV → HH → Prop) : Prop := Gp E.1 E.2.1 E.2.2.1 E.2.2.2 xTX xRF xLC d "ThreePoints$Reader" prog_3_method_9_code 3 (some .boolean) pc ls st H Q
def c_Reader_readSum (E : XE) (d : Nat)  (H : HH) (Q : Int32 → HH → Prop) : Prop := g_Reader_readSum E d 0 (xent [vr 5 0]) [] H (qi Q)
theorem xm_Reader_readSum : xM ⟨"ThreePoints$Reader", "readSum", "()Z"⟩ prog_3_method_9_code 3 (some .boolean) 0 := ⟨kw_542, kw_69, by decide +kernel, by decide +kernel, by decide⟩
abbrev g_Reader_readComparison (E : XE) (d pc : Nat) (ls : List (Option AV)) (st : List AV) (H : HH) (Q : AV → HH → Prop) : Prop := Gp E.1 E.2.1 E.2.2.1 E.2.2.2 xTX xRF xLC d "ThreePoints$Reader" prog_3_method_8_code 2 (some .boolean) pc ls st H Q
def c_Reader_readComparison (E : XE) (d : Nat)  (H : HH) (Q : Int32 → HH → Prop) : Prop := g_Reader_readComparison E d 0 (xent [vr 5 0]) [] H (qi Q)
theorem xm_Reader_readComparison : xM ⟨"ThreePoints$Reader", "readComparison", "()Z"⟩ prog_3_method_8_code 2 (some .boolean) 0 := ⟨kw_538, kw_69, by decide +kernel, by decide +kernel, by decide⟩
abbrev g_Reader_readNot (E : XE) (d pc : Nat) (ls : List (Option AV)) (st : List AV) (H : HH) (Q : AV → HH → Prop) : Prop := Gp E.1 E.2.1 E.2.2.1 E.2.2.2 xTX xRF xLC d "ThreePoints$Reader" prog_3_method_7_code 1 (some .boolean) pc ls st H Q
def c_Reader_readNot (E : XE) (d : Nat)  (H : HH) (Q : Int32 → HH → Prop) : Prop := g_Reader_readNot E d 0 (xent [vr 5 0]) [] H (qi Q)
theorem xm_Reader_readNot : xM ⟨"ThreePoints$Reader", "readNot", "()Z"⟩ prog_3_method_7_code 1 (some .boolean) 0 := ⟨kw_534, kw_69, by decide +kernel, by decide +kernel, by decide⟩
abbrev g_Reader_readAnd (E : XE) (d pc : Nat) (ls : List (Option AV)) (st : List AV) (H : HH) (Q : AV → HH → Prop) : Prop := Gp E.1 E.2.1 E.2.2.1 E.2.2.2 xTX xRF xLC d "ThreePoints$Reader" prog_3_method_6_code 2 (some .boolean) pc ls st H Q
def c_Reader_readAnd (E : XE) (d : Nat)  (H : HH) (Q : Int32 → HH → Prop) : Prop := g_Reader_readAnd E d 0 (xent [vr 5 0]) [] H (qi Q)
theorem xm_Reader_readAnd : xM ⟨"ThreePoints$Reader", "readAnd", "()Z"⟩ prog_3_method_6_code 2 (some .boolean) 0 := ⟨kw_530, kw_69, by decide +kernel, by decide +kernel, by decide⟩
abbrev g_Reader_readOr (E : XE) (d pc : Nat) (ls : List (Option AV)) (st : List AV) (H : HH) (Q : AV → HH → Prop) : Prop := Gp E.1 E.2.1 E.2.2.1 E.2.2.2 xTX xRF xLC d "ThreePoints$Reader" prog_3_method_5_code 2 (some .boolean) pc ls st H Q
def c_Reader_readOr (E : XE) (d : Nat)  (H : HH) (Q : Int32 → HH → Prop) : Prop := g_Reader_readOr E d 0 (xent [vr 5 0]) [] H (qi Q)
theorem xm_Reader_readOr : xM ⟨"ThreePoints$Reader", "readOr", "()Z"⟩ prog_3_method_5_code 2 (some .boolean) 0 := ⟨kw_526, kw_69, by decide +kernel, by decide +kernel, by decide⟩
abbrev g_Reader_readPart (E : XE) (d pc : Nat) (ls : List (Option AV)) (st : List AV) (H : HH) (Q : AV → HH → Prop) : Prop := Gp E.1 E.2.1 E.2.2.1 E.2.2.2 xTX xRF xLC d "ThreePoints$Reader" prog_3_method_4_code 3 (some .boolean) pc ls st H Q
def c_Reader_readPart (E : XE) (d : Nat) (x1 : Int32) (x2 : Int32) (H : HH) (Q : Int32 → HH → Prop) : Prop := g_Reader_readPart E d 0 (xent [vr 5 0, vi x1, vi x2]) [] H (qi Q)
theorem xm_Reader_readPart : xM ⟨"ThreePoints$Reader", "readPart", "(II)Z"⟩ prog_3_method_4_code 3 (some .boolean) 2 := ⟨kw_522, kw_69, by decide +kernel, by decide +kernel, by decide⟩
abbrev g_Tape_startOf (E : XE) (d pc : Nat) (ls : List (Option AV)) (st : List AV) (H : HH) (Q : AV → HH → Prop) : Prop := Gp E.1 E.2.1 E.2.2.1 E.2.2.2 xTX xRF xLC d "ThreePoints$Tape" prog_7_method_7_code 2 (some .int) pc ls st H Q
def c_Tape_startOf (E : XE) (d : Nat) (x1 : Int32) (H : HH) (Q : Int32 → HH → Prop) : Prop := g_Tape_startOf E d 0 (xent [vr 6 0, vi x1]) [] H (qi Q)
theorem xm_Tape_startOf : xM ⟨"ThreePoints$Tape", "startOf", "(I)I"⟩ prog_7_method_7_code 2 (some .int) 1 := ⟨kw_570, kw_70, by decide +kernel, by decide +kernel, by decide⟩
abbrev g_Reader_faultOfTape (E : XE) (d pc : Nat) (ls : List (Option AV)) (st : List AV) (H : HH) (Q : AV → HH → Prop) : Prop := Gp E.1 E.2.1 E.2.2.1 E.2.2.2 xTX xRF xLC d "ThreePoints$Reader" prog_3_method_2_code 2 (some .int) pc ls st H Q
def c_Reader_faultOfTape (E : XE) (d : Nat)  (H : HH) (Q : Int32 → HH → Prop) : Prop := g_Reader_faultOfTape E d 0 (xent [vr 5 0]) [] H (qi Q)
theorem xm_Reader_faultOfTape : xM ⟨"ThreePoints$Reader", "faultOfTape", "()I"⟩ prog_3_method_2_code 2 (some .int) 0 := ⟨kw_389, kw_69, by decide +kernel, by decide +kernel, by decide⟩
abbrev g_Tape_clear (E : XE) (d pc : Nat) (ls : List (Option AV)) (st : List AV) (H : HH) (Q : AV → HH → Prop) : Prop := Gp E.1 E.2.1 E.2.2.1 E.2.2.2 xTX xRF xLC d "ThreePoints$Tape" prog_7_method_2_code 1 none pc ls st H Q
def c_Tape_clear (E : XE) (d : Nat)  (H : HH) (Q : HH → Prop) : Prop := g_Tape_clear E d 0 (xent [vr 6 0]) [] H (qv Q)
theorem xm_Tape_clear : xM ⟨"ThreePoints$Tape", "clear", "()V"⟩ prog_7_method_2_code 1 none 0 := ⟨kw_581, kw_70, by decide +kernel, by decide +kernel, by decide⟩
def p_Tape_add (E : XE) (d : Nat) (x1 : Int32) (H : HH) (Q : HH → Prop) : Prop := ((H 6 0 1) < 160 → (vp_in (H 6 0 1) 160 ∧ (∀ H1 : HH, H1 = (hu H 7 0 ((H 6 0 1).toNatClampNeg) x1) → (∀ H2 : HH, H2 = (hu H1 6 0 1 ((H1 6 0 1) + 1)) → (Q H2))))) ∧ (¬ (H 6 0 1) < 160 → (Q H))
set_option maxHeartbeats 4000000 in
theorem l_Tape_add {E : XE} {d : Nat} {x1 : Int32} {H : HH} {Q : HH → Prop} (h : p_Tape_add E d x1 H Q) : c_Tape_add E d x1 H Q := by
  show g_Tape_add E d 0 (xent [vr 6 0, vi x1]) [] H (qv Q)
  refine g_drop (ls2 := [some (vr 6 0), some (vi x1)]) (And.intro rfl (And.intro rfl trivial)) ?_
  refine g_aload_n (q := 0) (i := 0) (by decide +kernel) rfl rfl ?_
  refine g_get (C := "ThreePoints$Tape") (T := xT_Tape) (N := 6) (ci := 5) (k := 1) (v := vi (H 6 0 1)) (by decide +kernel) (by decide) rfl rfl xi_Tape (by decide) kw_188 rfl ?_
  refine g_sipush (n := 160) (v := 160) (by decide +kernel) (by decide) ?_
  refine g_icmp_lt (off := 4) (tgt := 11) (by decide +kernel) (by decide) (fun c => ?_) (fun c => ?_)
  · replace h := h.1 c
    refine g_aload_n (q := 0) (i := 0) (by decide +kernel) rfl rfl ?_
    refine g_get (C := "ThreePoints$Tape") (T := xT_Tape) (N := 6) (ci := 5) (k := 0) (v := vr 7 0) (by decide +kernel) (by decide) rfl rfl xi_Tape (by decide) kw_187 rfl ?_
    refine g_aload_n (q := 0) (i := 0) (by decide +kernel) rfl rfl ?_
    refine g_get (C := "ThreePoints$Tape") (T := xT_Tape) (N := 6) (ci := 5) (k := 1) (v := vi (H 6 0 1)) (by decide +kernel) (by decide) rfl rfl xi_Tape (by decide) kw_188 rfl ?_
    refine g_iload_n (q := 1) (i := 1) (by decide +kernel) rfl rfl ?_
    obtain ⟨hin, h⟩ := h
    refine g_iast (by decide +kernel) (by decide) rfl hin ?_
    refine g_aload_n (q := 0) (i := 0) (by decide +kernel) rfl rfl ?_
    refine g_dup (by decide +kernel) rfl ?_
    refine g_heap (fun H1 eH1 => ?_)
    replace h := h H1 eH1
    refine g_get (C := "ThreePoints$Tape") (T := xT_Tape) (N := 6) (ci := 5) (k := 1) (v := vi (H1 6 0 1)) (by decide +kernel) (by decide) rfl rfl xi_Tape (by decide) kw_188 rfl ?_
    refine g_iconst (n := 1) (v := 1) (by decide +kernel) (by decide) ?_
    refine g_iadd (by decide +kernel) ?_
    refine g_put (C := "ThreePoints$Tape") (T := xT_Tape) (N := 6) (ci := 5) (k := 1) xy_Tape (by decide +kernel) (by decide) rfl rfl xi_Tape xy_Tape_ok xn_Tape (by decide) kw_188 rfl (by decide +kernel) (fun _ => rfl) ?_
    refine g_heap (fun H2 eH2 => ?_)
    replace h := h H2 eH2
    exact g_vret (by decide +kernel) rfl h
  · replace h := h.2 c
    exact g_vret (by decide +kernel) rfl h
def p_Tape_write (E : XE) (d : Nat) (w : Nat) (H : HH) (Q : HH → Prop) : Prop := ∃ (I1 : Int32 → HH → Prop) (μ1 : Int32 → HH → Nat), I1 0 H ∧ ∀ (z2 : Int32) (H3 : HH), I1 z2 H3 → (c_String_length E d w H3 (fun r5 H4 => (r5 ≤ z2 → (Q H4)) ∧ (¬ r5 ≤ z2 → (c_String_charAt E d w z2 H4 (fun r7 H6 => c_Tape_add E d r7 H6 (fun H8 => I1 (z2 + 1) H8 ∧ μ1 (z2 + 1) H8 < μ1 z2 H3))))))
set_option maxHeartbeats 4000000 in
theorem l_Tape_write {E : XE} {d : Nat} {w : Nat} {H : HH} {Q : HH → Prop} (h : p_Tape_write E d w H Q) : c_Tape_write E (d + 1) w H Q := by
  show g_Tape_write E (d + 1) 0 (xent [vr 6 0, vr 60 w]) [] H (qv Q)
  refine g_drop (ls2 := [some (vr 6 0), some (vr 60 w), none]) (And.intro rfl (And.intro rfl trivial)) ?_
  refine g_iconst (n := 0) (v := 0) (by decide +kernel) (by decide) ?_
  refine g_istore_n (q := 2) (i := 2) (ls2 := [some (vr 6 0), some (vr 60 w), some (vi 0)]) (by decide +kernel) rfl (by decide) rfl rfl ?_
  refine g_drop (ls2 := [some (vr 6 0), some (vr 60 w), some (vi 0)]) (And.intro rfl (And.intro rfl (And.intro rfl trivial))) ?_
  obtain ⟨I1, μ1, h0, h⟩ := h
  refine xloop (σ := Int32) (fun s H => I1 s H) (fun s H => μ1 s H) (fun s H => g_Tape_write E (d + 1) 2 [some (vr 6 0), some (vr 60 w), some (vi s)] [] H (qv Q)) (fun s H3 hI ih1 => ?_) 0 H h0
  obtain ⟨z2, es⟩ : ∃ z, z = s := ⟨s, rfl⟩
  subst es
  replace h := h z2 H3 hI
  refine g_iload_n (q := 2) (i := 2) (by decide +kernel) rfl rfl ?_
  refine g_aload_n (q := 1) (i := 1) (by decide +kernel) rfl rfl ?_
  refine g_callStr (vs := []) (st := [vi z2]) (by decide +kernel) xm_String_length kw_334 kw_335 kw_336 rfl rfl rfl (Nat.le_of_ble_eq_true rfl) (Nat.le_of_ble_eq_true rfl) h (fun vH4 H4 hq => ?_)
  obtain ⟨r5, rfl, h⟩ := hq
  refine g_icmp_ge (off := 18) (tgt := 25) (by decide +kernel) (by decide) (fun c => ?_) (fun c => ?_)
  · replace h := h.1 c
    exact g_vret (by decide +kernel) rfl h
  · replace h := h.2 c
    refine g_aload_n (q := 0) (i := 0) (by decide +kernel) rfl rfl ?_
    refine g_aload_n (q := 1) (i := 1) (by decide +kernel) rfl rfl ?_
    refine g_iload_n (q := 2) (i := 2) (by decide +kernel) rfl rfl ?_
    refine g_callStr (vs := [vi z2]) (st := [vr 6 0]) (by decide +kernel) xm_String_charAt kw_344 kw_345 kw_346 rfl rfl rfl (Nat.le_of_ble_eq_true rfl) (Nat.le_of_ble_eq_true rfl) h (fun vH6 H6 hq => ?_)
    obtain ⟨r7, rfl, h⟩ := hq
    refine g_callV (kd := 6) (ix := 0) (ci := 5) (N := 6) (T := xT_Tape) (vs := [vi r7]) (st := []) (by decide +kernel) xm_Tape_add kw_382 kw_383 kw_384 (by decide) rfl rfl rfl rfl (Nat.le_of_ble_eq_true rfl) (Nat.le_of_ble_eq_true rfl) h (fun vH8 H8 hq => ?_)
    replace h := hq
    refine g_iinc (i := 2) (n := 1) (v := (z2 + 1)) (ls2 := [some (vr 6 0), some (vr 60 w), some (vi (z2 + 1))]) (by decide +kernel) rfl rfl (by decide) rfl rfl ?_
    refine g_goto (off := (-20)) (tgt := 2) (by decide +kernel) (by decide) ?_
    obtain ⟨hI, hlt⟩ := h
    exact g_drop (ls2 := [some (vr 6 0), some (vr 60 w), some (vi (z2 + 1))]) (And.intro rfl (And.intro rfl (And.intro rfl trivial))) (ih1 (z2 + 1) H8 hI hlt)
def p_Tape_byteAt (E : XE) (d : Nat) (x1 : Int32) (H : HH) (Q : Int32 → HH → Prop) : Prop := (x1 < 0 → (Q 0 H)) ∧ (¬ x1 < 0 → (((H 6 0 1) ≤ x1 → (Q 0 H)) ∧ (¬ (H 6 0 1) ≤ x1 → ((160 ≤ x1 → (Q 0 H)) ∧ (¬ 160 ≤ x1 → (vp_in x1 160 ∧ (Q (H 7 0 (x1.toNatClampNeg)) H)))))))
set_option maxHeartbeats 4000000 in
theorem l_Tape_byteAt {E : XE} {d : Nat} {x1 : Int32} {H : HH} {Q : Int32 → HH → Prop} (h : p_Tape_byteAt E d x1 H Q) : c_Tape_byteAt E d x1 H Q := by
  show g_Tape_byteAt E d 0 (xent [vr 6 0, vi x1]) [] H (qi Q)
  refine g_drop (ls2 := [some (vr 6 0), some (vi x1)]) (And.intro rfl (And.intro rfl trivial)) ?_
  refine g_iload_n (q := 1) (i := 1) (by decide +kernel) rfl rfl ?_
  refine g_if_lt (off := 27) (tgt := 28) (by decide +kernel) (by decide) (fun c => ?_) (fun c => ?_)
  · replace h := h.1 c
    refine g_iconst (n := 0) (v := 0) (by decide +kernel) (by decide) ?_
    exact g_iret (by decide +kernel) rfl ⟨_, rfl, h⟩
  · replace h := h.2 c
    refine g_iload_n (q := 1) (i := 1) (by decide +kernel) rfl rfl ?_
    refine g_aload_n (q := 0) (i := 0) (by decide +kernel) rfl rfl ?_
    refine g_get (C := "ThreePoints$Tape") (T := xT_Tape) (N := 6) (ci := 5) (k := 1) (v := vi (H 6 0 1)) (by decide +kernel) (by decide) rfl rfl xi_Tape (by decide) kw_188 rfl ?_
    refine g_icmp_ge (off := 19) (tgt := 28) (by decide +kernel) (by decide) (fun c => ?_) (fun c => ?_)
    · replace h := h.1 c
      refine g_iconst (n := 0) (v := 0) (by decide +kernel) (by decide) ?_
      exact g_iret (by decide +kernel) rfl ⟨_, rfl, h⟩
    · replace h := h.2 c
      refine g_iload_n (q := 1) (i := 1) (by decide +kernel) rfl rfl ?_
      refine g_sipush (n := 160) (v := 160) (by decide +kernel) (by decide) ?_
      refine g_icmp_ge (off := 12) (tgt := 28) (by decide +kernel) (by decide) (fun c => ?_) (fun c => ?_)
      · replace h := h.1 c
        refine g_iconst (n := 0) (v := 0) (by decide +kernel) (by decide) ?_
        exact g_iret (by decide +kernel) rfl ⟨_, rfl, h⟩
      · replace h := h.2 c
        refine g_aload_n (q := 0) (i := 0) (by decide +kernel) rfl rfl ?_
        refine g_get (C := "ThreePoints$Tape") (T := xT_Tape) (N := 6) (ci := 5) (k := 0) (v := vr 7 0) (by decide +kernel) (by decide) rfl rfl xi_Tape (by decide) kw_187 rfl ?_
        refine g_iload_n (q := 1) (i := 1) (by decide +kernel) rfl rfl ?_
        obtain ⟨hin, h⟩ := h
        refine g_iald (by decide +kernel) (by decide) rfl hin ?_
        refine g_goto (off := 4) (tgt := 29) (by decide +kernel) (by decide) ?_
        exact g_iret (by decide +kernel) rfl ⟨_, rfl, h⟩
def p_Tape_isLetter (E : XE) (d : Nat) (x0 : Int32) (H : HH) (Q : Int32 → HH → Prop) : Prop := ((if x0 < 97 then 0 else (if 122 < x0 then 0 else 1 : Int32) : Int32) = 0 ∨ (if x0 < 97 then 0 else (if 122 < x0 then 0 else 1 : Int32) : Int32) = 1) ∧ Q (if x0 < 97 then 0 else (if 122 < x0 then 0 else 1 : Int32) : Int32) H
set_option maxHeartbeats 4000000 in
theorem l_Tape_isLetter {E : XE} {d : Nat} {x0 : Int32} {H : HH} {Q : Int32 → HH → Prop} (h : p_Tape_isLetter E d x0 H Q) : c_Tape_isLetter E d x0 H Q := by
  show g_Tape_isLetter E d 0 (xent [vi x0]) [] H (qi Q)
  refine g_drop (ls2 := [some (vi x0)]) (And.intro rfl trivial) ?_
  refine g_iload_n (q := 0) (i := 0) (by decide +kernel) rfl rfl ?_
  refine g_bipush (n := 97) (v := 97) (by decide +kernel) (by decide) ?_
  suffices hj2 : g_Tape_isLetter E d 17 [some (vi x0)] [vi (if x0 < 97 then 0 else (if 122 < x0 then 0 else 1 : Int32) : Int32)] H (qi Q) by
    refine g_icmp_lt (off := 13) (tgt := 16) (by decide +kernel) (by decide) (fun c => ?_) (fun c => ?_)
    · rw [if_pos c] at hj2
      refine g_iconst (n := 0) (v := 0) (by decide +kernel) (by decide) ?_
      exact hj2
    · rw [if_neg c] at hj2
      refine g_iload_n (q := 0) (i := 0) (by decide +kernel) rfl rfl ?_
      refine g_bipush (n := 122) (v := 122) (by decide +kernel) (by decide) ?_
      suffices hj1 : g_Tape_isLetter E d 17 [some (vi x0)] [vi (if 122 < x0 then 0 else 1 : Int32)] H (qi Q) by
        refine g_icmp_gt (off := 7) (tgt := 16) (by decide +kernel) (by decide) (fun c => ?_) (fun c => ?_)
        · rw [if_pos c] at hj1
          refine g_iconst (n := 0) (v := 0) (by decide +kernel) (by decide) ?_
          exact hj1
        · rw [if_neg c] at hj1
          refine g_iconst (n := 1) (v := 1) (by decide +kernel) (by decide) ?_
          refine g_goto (off := 4) (tgt := 17) (by decide +kernel) (by decide) ?_
          exact hj1
      exact hj2
  obtain ⟨h01, h⟩ := h
  exact g_zret (by decide +kernel) rfl (nbool h01) ⟨_, rfl, h⟩
def p_Tape_isDigit (E : XE) (d : Nat) (x0 : Int32) (H : HH) (Q : Int32 → HH → Prop) : Prop := ((if x0 < 48 then 0 else (if 57 < x0 then 0 else 1 : Int32) : Int32) = 0 ∨ (if x0 < 48 then 0 else (if 57 < x0 then 0 else 1 : Int32) : Int32) = 1) ∧ Q (if x0 < 48 then 0 else (if 57 < x0 then 0 else 1 : Int32) : Int32) H
set_option maxHeartbeats 4000000 in
theorem l_Tape_isDigit {E : XE} {d : Nat} {x0 : Int32} {H : HH} {Q : Int32 → HH → Prop} (h : p_Tape_isDigit E d x0 H Q) : c_Tape_isDigit E d x0 H Q := by
  show g_Tape_isDigit E d 0 (xent [vi x0]) [] H (qi Q)
  refine g_drop (ls2 := [some (vi x0)]) (And.intro rfl trivial) ?_
  refine g_iload_n (q := 0) (i := 0) (by decide +kernel) rfl rfl ?_
  refine g_bipush (n := 48) (v := 48) (by decide +kernel) (by decide) ?_
  suffices hj2 : g_Tape_isDigit E d 17 [some (vi x0)] [vi (if x0 < 48 then 0 else (if 57 < x0 then 0 else 1 : Int32) : Int32)] H (qi Q) by
    refine g_icmp_lt (off := 13) (tgt := 16) (by decide +kernel) (by decide) (fun c => ?_) (fun c => ?_)
    · rw [if_pos c] at hj2
      refine g_iconst (n := 0) (v := 0) (by decide +kernel) (by decide) ?_
      exact hj2
    · rw [if_neg c] at hj2
      refine g_iload_n (q := 0) (i := 0) (by decide +kernel) rfl rfl ?_
      refine g_bipush (n := 57) (v := 57) (by decide +kernel) (by decide) ?_
      suffices hj1 : g_Tape_isDigit E d 17 [some (vi x0)] [vi (if 57 < x0 then 0 else 1 : Int32)] H (qi Q) by
        refine g_icmp_gt (off := 7) (tgt := 16) (by decide +kernel) (by decide) (fun c => ?_) (fun c => ?_)
        · rw [if_pos c] at hj1
          refine g_iconst (n := 0) (v := 0) (by decide +kernel) (by decide) ?_
          exact hj1
        · rw [if_neg c] at hj1
          refine g_iconst (n := 1) (v := 1) (by decide +kernel) (by decide) ?_
          refine g_goto (off := 4) (tgt := 17) (by decide +kernel) (by decide) ?_
          exact hj1
      exact hj2
  obtain ⟨h01, h⟩ := h
  exact g_zret (by decide +kernel) rfl (nbool h01) ⟨_, rfl, h⟩
def p_Tape_endOfToken (E : XE) (d : Nat) (x1 : Int32) (H : HH) (Q : Int32 → HH → Prop) : Prop := c_Tape_byteAt E d x1 H (fun r2 H1 => c_Tape_isLetter E d r2 H1 (fun r4 H3 => (r4 = 0 → (c_Tape_byteAt E d x1 H3 (fun r6 H5 => c_Tape_isDigit E d r6 H5 (fun r8 H7 => (r8 = 0 → (Q (x1 + 1) H7)) ∧ (¬ r8 = 0 → (∃ (I9 : Int32 → HH → Prop) (μ9 : Int32 → HH → Nat), I9 (x1 + 1) H7 ∧ ∀ (z10 : Int32) (H11 : HH), I9 z10 H11 → (((H11 6 0 1) ≤ z10 → (Q z10 H11)) ∧ (¬ (H11 6 0 1) ≤ z10 → (c_Tape_byteAt E d z10 H11 (fun r13 H12 => c_Tape_isDigit E d r13 H12 (fun r15 H14 => (r15 = 0 → (Q z10 H14)) ∧ (¬ r15 = 0 → (I9 (z10 + 1) H14 ∧ μ9 (z10 + 1) H14 < μ9 z10 H11))))))))))))) ∧ (¬ r4 = 0 → (∃ (I16 : Int32 → HH → Prop) (μ16 : Int32 → HH → Nat), I16 (x1 + 1) H3 ∧ ∀ (z17 : Int32) (H18 : HH), I16 z17 H18 → (((H18 6 0 1) ≤ z17 → (Q z17 H18)) ∧ (¬ (H18 6 0 1) ≤ z17 → (c_Tape_byteAt E d z17 H18 (fun r20 H19 => c_Tape_isLetter E d r20 H19 (fun r22 H21 => (r22 = 0 → (Q z17 H21)) ∧ (¬ r22 = 0 → (I16 (z17 + 1) H21 ∧ μ16 (z17 + 1) H21 < μ16 z17 H18)))))))))))
set_option maxHeartbeats 4000000 in
theorem l_Tape_endOfToken {E : XE} {d : Nat} {x1 : Int32} {H : HH} {Q : Int32 → HH → Prop} (h : p_Tape_endOfToken E d x1 H Q) : c_Tape_endOfToken E (d + 1) x1 H Q := by
  show g_Tape_endOfToken E (d + 1) 0 (xent [vr 6 0, vi x1]) [] H (qi Q)
  refine g_drop (ls2 := [some (vr 6 0), some (vi x1), none]) (And.intro rfl (And.intro rfl trivial)) ?_
  refine g_iload_n (q := 1) (i := 1) (by decide +kernel) rfl rfl ?_
  refine g_iconst (n := 1) (v := 1) (by decide +kernel) (by decide) ?_
  refine g_iadd (by decide +kernel) ?_
  refine g_istore_n (q := 2) (i := 2) (ls2 := [some (vr 6 0), some (vi x1), some (vi (x1 + 1))]) (by decide +kernel) rfl (by decide) rfl rfl ?_
  refine g_aload_n (q := 0) (i := 0) (by decide +kernel) rfl rfl ?_
  refine g_iload_n (q := 1) (i := 1) (by decide +kernel) rfl rfl ?_
  refine g_callV (kd := 6) (ix := 0) (ci := 5) (N := 6) (T := xT_Tape) (vs := [vi x1]) (st := []) (by decide +kernel) xm_Tape_byteAt kw_398 kw_400 kw_1 (by decide) rfl rfl rfl rfl (Nat.le_of_ble_eq_true rfl) (Nat.le_of_ble_eq_true rfl) h (fun vH1 H1 hq => ?_)
  obtain ⟨r2, rfl, h⟩ := hq
  refine g_callS (vs := [vi r2]) (st := []) (by decide +kernel) xm_Tape_isLetter kw_402 kw_403 rfl rfl (Nat.le_of_ble_eq_true rfl) (Nat.le_of_ble_eq_true rfl) h (fun vH3 H3 hq => ?_)
  obtain ⟨r4, rfl, h⟩ := hq
  refine g_if_eq (off := 28) (tgt := 40) (by decide +kernel) (by decide) (fun c => ?_) (fun c => ?_)
  · replace h := h.1 c
    refine g_aload_n (q := 0) (i := 0) (by decide +kernel) rfl rfl ?_
    refine g_iload_n (q := 1) (i := 1) (by decide +kernel) rfl rfl ?_
    refine g_callV (kd := 6) (ix := 0) (ci := 5) (N := 6) (T := xT_Tape) (vs := [vi x1]) (st := []) (by decide +kernel) xm_Tape_byteAt kw_398 kw_400 kw_1 (by decide) rfl rfl rfl rfl (Nat.le_of_ble_eq_true rfl) (Nat.le_of_ble_eq_true rfl) h (fun vH5 H5 hq => ?_)
    obtain ⟨r6, rfl, h⟩ := hq
    refine g_callS (vs := [vi r6]) (st := []) (by decide +kernel) xm_Tape_isDigit kw_405 kw_406 rfl rfl (Nat.le_of_ble_eq_true rfl) (Nat.le_of_ble_eq_true rfl) h (fun vH7 H7 hq => ?_)
    obtain ⟨r8, rfl, h⟩ := hq
    refine g_if_eq (off := 28) (tgt := 76) (by decide +kernel) (by decide) (fun c => ?_) (fun c => ?_)
    · replace h := h.1 c
      refine g_iload_n (q := 2) (i := 2) (by decide +kernel) rfl rfl ?_
      exact g_iret (by decide +kernel) rfl ⟨_, rfl, h⟩
    · replace h := h.2 c
      refine g_drop (ls2 := [some (vr 6 0), none, some (vi (x1 + 1))]) (And.intro rfl (And.intro rfl trivial)) ?_
      obtain ⟨I9, μ9, h0, h⟩ := h
      refine xloop (σ := Int32) (fun s H => I9 s H) (fun s H => μ9 s H) (fun s H => g_Tape_endOfToken E (d + 1) 51 [some (vr 6 0), none, some (vi s)] [] H (qi Q)) (fun s H11 hI ih9 => ?_) (x1 + 1) H7 h0
      obtain ⟨z10, es⟩ : ∃ z, z = s := ⟨s, rfl⟩
      subst es
      replace h := h z10 H11 hI
      refine g_iload_n (q := 2) (i := 2) (by decide +kernel) rfl rfl ?_
      refine g_aload_n (q := 0) (i := 0) (by decide +kernel) rfl rfl ?_
      refine g_get (C := "ThreePoints$Tape") (T := xT_Tape) (N := 6) (ci := 5) (k := 1) (v := vi (H11 6 0 1)) (by decide +kernel) (by decide) rfl rfl xi_Tape (by decide) kw_188 rfl ?_
      refine g_icmp_ge (off := 20) (tgt := 76) (by decide +kernel) (by decide) (fun c => ?_) (fun c => ?_)
      · replace h := h.1 c
        refine g_iload_n (q := 2) (i := 2) (by decide +kernel) rfl rfl ?_
        exact g_iret (by decide +kernel) rfl ⟨_, rfl, h⟩
      · replace h := h.2 c
        refine g_aload_n (q := 0) (i := 0) (by decide +kernel) rfl rfl ?_
        refine g_iload_n (q := 2) (i := 2) (by decide +kernel) rfl rfl ?_
        refine g_callV (kd := 6) (ix := 0) (ci := 5) (N := 6) (T := xT_Tape) (vs := [vi z10]) (st := []) (by decide +kernel) xm_Tape_byteAt kw_398 kw_400 kw_1 (by decide) rfl rfl rfl rfl (Nat.le_of_ble_eq_true rfl) (Nat.le_of_ble_eq_true rfl) h (fun vH12 H12 hq => ?_)
        obtain ⟨r13, rfl, h⟩ := hq
        refine g_callS (vs := [vi r13]) (st := []) (by decide +kernel) xm_Tape_isDigit kw_405 kw_406 rfl rfl (Nat.le_of_ble_eq_true rfl) (Nat.le_of_ble_eq_true rfl) h (fun vH14 H14 hq => ?_)
        obtain ⟨r15, rfl, h⟩ := hq
        refine g_if_eq (off := 9) (tgt := 76) (by decide +kernel) (by decide) (fun c => ?_) (fun c => ?_)
        · replace h := h.1 c
          refine g_iload_n (q := 2) (i := 2) (by decide +kernel) rfl rfl ?_
          exact g_iret (by decide +kernel) rfl ⟨_, rfl, h⟩
        · replace h := h.2 c
          refine g_iinc (i := 2) (n := 1) (v := (z10 + 1)) (ls2 := [some (vr 6 0), none, some (vi (z10 + 1))]) (by decide +kernel) rfl rfl (by decide) rfl rfl ?_
          refine g_goto (off := (-22)) (tgt := 51) (by decide +kernel) (by decide) ?_
          obtain ⟨hI, hlt⟩ := h
          exact g_drop (ls2 := [some (vr 6 0), none, some (vi (z10 + 1))]) (And.intro rfl (And.intro rfl trivial)) (ih9 (z10 + 1) H14 hI hlt)
  · replace h := h.2 c
    refine g_drop (ls2 := [some (vr 6 0), none, some (vi (x1 + 1))]) (And.intro rfl (And.intro rfl trivial)) ?_
    obtain ⟨I16, μ16, h0, h⟩ := h
    refine xloop (σ := Int32) (fun s H => I16 s H) (fun s H => μ16 s H) (fun s H => g_Tape_endOfToken E (d + 1) 15 [some (vr 6 0), none, some (vi s)] [] H (qi Q)) (fun s H18 hI ih16 => ?_) (x1 + 1) H3 h0
    obtain ⟨z17, es⟩ : ∃ z, z = s := ⟨s, rfl⟩
    subst es
    replace h := h z17 H18 hI
    refine g_iload_n (q := 2) (i := 2) (by decide +kernel) rfl rfl ?_
    refine g_aload_n (q := 0) (i := 0) (by decide +kernel) rfl rfl ?_
    refine g_get (C := "ThreePoints$Tape") (T := xT_Tape) (N := 6) (ci := 5) (k := 1) (v := vi (H18 6 0 1)) (by decide +kernel) (by decide) rfl rfl xi_Tape (by decide) kw_188 rfl ?_
    refine g_icmp_ge (off := 56) (tgt := 76) (by decide +kernel) (by decide) (fun c => ?_) (fun c => ?_)
    · replace h := h.1 c
      refine g_iload_n (q := 2) (i := 2) (by decide +kernel) rfl rfl ?_
      exact g_iret (by decide +kernel) rfl ⟨_, rfl, h⟩
    · replace h := h.2 c
      refine g_aload_n (q := 0) (i := 0) (by decide +kernel) rfl rfl ?_
      refine g_iload_n (q := 2) (i := 2) (by decide +kernel) rfl rfl ?_
      refine g_callV (kd := 6) (ix := 0) (ci := 5) (N := 6) (T := xT_Tape) (vs := [vi z17]) (st := []) (by decide +kernel) xm_Tape_byteAt kw_398 kw_400 kw_1 (by decide) rfl rfl rfl rfl (Nat.le_of_ble_eq_true rfl) (Nat.le_of_ble_eq_true rfl) h (fun vH19 H19 hq => ?_)
      obtain ⟨r20, rfl, h⟩ := hq
      refine g_callS (vs := [vi r20]) (st := []) (by decide +kernel) xm_Tape_isLetter kw_402 kw_403 rfl rfl (Nat.le_of_ble_eq_true rfl) (Nat.le_of_ble_eq_true rfl) h (fun vH21 H21 hq => ?_)
      obtain ⟨r22, rfl, h⟩ := hq
      refine g_if_eq (off := 45) (tgt := 76) (by decide +kernel) (by decide) (fun c => ?_) (fun c => ?_)
      · replace h := h.1 c
        refine g_iload_n (q := 2) (i := 2) (by decide +kernel) rfl rfl ?_
        exact g_iret (by decide +kernel) rfl ⟨_, rfl, h⟩
      · replace h := h.2 c
        refine g_iinc (i := 2) (n := 1) (v := (z17 + 1)) (ls2 := [some (vr 6 0), none, some (vi (z17 + 1))]) (by decide +kernel) rfl rfl (by decide) rfl rfl ?_
        refine g_goto (off := (-22)) (tgt := 15) (by decide +kernel) (by decide) ?_
        obtain ⟨hI, hlt⟩ := h
        exact g_drop (ls2 := [some (vr 6 0), none, some (vi (z17 + 1))]) (And.intro rfl (And.intro rfl trivial)) (ih16 (z17 + 1) H21 hI hlt)
def p_Tape_isBlank (E : XE) (d : Nat) (x0 : Int32) (H : HH) (Q : Int32 → HH → Prop) : Prop := ((if x0 = 32 then 1 else (if x0 = 10 then 1 else 0 : Int32) : Int32) = 0 ∨ (if x0 = 32 then 1 else (if x0 = 10 then 1 else 0 : Int32) : Int32) = 1) ∧ Q (if x0 = 32 then 1 else (if x0 = 10 then 1 else 0 : Int32) : Int32) H
set_option maxHeartbeats 4000000 in
theorem l_Tape_isBlank {E : XE} {d : Nat} {x0 : Int32} {H : HH} {Q : Int32 → HH → Prop} (h : p_Tape_isBlank E d x0 H Q) : c_Tape_isBlank E d x0 H Q := by
  show g_Tape_isBlank E d 0 (xent [vi x0]) [] H (qi Q)
  refine g_drop (ls2 := [some (vi x0)]) (And.intro rfl trivial) ?_
  refine g_iload_n (q := 0) (i := 0) (by decide +kernel) rfl rfl ?_
  refine g_bipush (n := 32) (v := 32) (by decide +kernel) (by decide) ?_
  suffices hj2 : g_Tape_isBlank E d 17 [some (vi x0)] [vi (if x0 = 32 then 1 else (if x0 = 10 then 1 else 0 : Int32) : Int32)] H (qi Q) by
    refine g_icmp_eq (off := 9) (tgt := 12) (by decide +kernel) (by decide) (fun c => ?_) (fun c => ?_)
    · rw [if_pos c] at hj2
      refine g_iconst (n := 1) (v := 1) (by decide +kernel) (by decide) ?_
      refine g_goto (off := 4) (tgt := 17) (by decide +kernel) (by decide) ?_
      exact hj2
    · rw [if_neg c] at hj2
      refine g_iload_n (q := 0) (i := 0) (by decide +kernel) rfl rfl ?_
      refine g_bipush (n := 10) (v := 10) (by decide +kernel) (by decide) ?_
      suffices hj1 : g_Tape_isBlank E d 17 [some (vi x0)] [vi (if x0 = 10 then 1 else 0 : Int32)] H (qi Q) by
        refine g_icmp_ne (off := 7) (tgt := 16) (by decide +kernel) (by decide) (fun c => ?_) (fun c => ?_)
        · rw [if_neg c] at hj1
          refine g_iconst (n := 0) (v := 0) (by decide +kernel) (by decide) ?_
          exact hj1
        · rw [if_pos c] at hj1
          refine g_iconst (n := 1) (v := 1) (by decide +kernel) (by decide) ?_
          refine g_goto (off := 4) (tgt := 17) (by decide +kernel) (by decide) ?_
          exact hj1
      exact hj2
  obtain ⟨h01, h⟩ := h
  exact g_zret (by decide +kernel) rfl (nbool h01) ⟨_, rfl, h⟩
def p_Tape_numberAt (E : XE) (d : Nat) (x1 : Int32) (x2 : Int32) (H : HH) (Q : Int32 → HH → Prop) : Prop := ∃ (I1 : Int32 → Int32 → HH → Prop) (μ1 : Int32 → Int32 → HH → Nat), I1 0 x1 H ∧ ∀ (z2 : Int32) (z3 : Int32) (H4 : HH), I1 z2 z3 H4 → ((x2 ≤ z3 → (Q z2 H4)) ∧ (¬ x2 ≤ z3 → (c_Tape_byteAt E d z3 H4 (fun r6 H5 => ∀ v7 : Int32, v7 = (((z2 * 10) + r6) - 48) → (I1 v7 (z3 + 1) H5 ∧ μ1 v7 (z3 + 1) H5 < μ1 z2 z3 H4)))))
set_option maxHeartbeats 4000000 in
theorem l_Tape_numberAt {E : XE} {d : Nat} {x1 : Int32} {x2 : Int32} {H : HH} {Q : Int32 → HH → Prop} (h : p_Tape_numberAt E d x1 x2 H Q) : c_Tape_numberAt E (d + 1) x1 x2 H Q := by
  show g_Tape_numberAt E (d + 1) 0 (xent [vr 6 0, vi x1, vi x2]) [] H (qi Q)
  refine g_drop (ls2 := [some (vr 6 0), some (vi x1), some (vi x2), none, none]) (And.intro rfl (And.intro rfl (And.intro rfl trivial))) ?_
  refine g_iconst (n := 0) (v := 0) (by decide +kernel) (by decide) ?_
  refine g_istore_n (q := 3) (i := 3) (ls2 := [some (vr 6 0), some (vi x1), some (vi x2), some (vi 0), none]) (by decide +kernel) rfl (by decide) rfl rfl ?_
  refine g_iload_n (q := 1) (i := 1) (by decide +kernel) rfl rfl ?_
  refine g_istore (i := 4) (ls2 := [some (vr 6 0), some (vi x1), some (vi x2), some (vi 0), some (vi x1)]) (by decide +kernel) (by decide) rfl rfl ?_
  refine g_drop (ls2 := [some (vr 6 0), none, some (vi x2), some (vi 0), some (vi x1)]) (And.intro rfl (And.intro rfl (And.intro rfl (And.intro rfl trivial)))) ?_
  obtain ⟨I1, μ1, h0, h⟩ := h
  refine xloop (σ := Int32 × Int32) (fun s H => I1 s.1 s.2 H) (fun s H => μ1 s.1 s.2 H) (fun s H => g_Tape_numberAt E (d + 1) 5 [some (vr 6 0), none, some (vi x2), some (vi s.1), some (vi s.2)] [] H (qi Q)) (fun s H4 hI ih1 => ?_) (0, x1) H h0
  obtain ⟨z2, z3⟩ := s
  replace h := h z2 z3 H4 hI
  refine g_iload (i := 4) (by decide +kernel) rfl ?_
  refine g_iload_n (q := 2) (i := 2) (by decide +kernel) rfl rfl ?_
  refine g_icmp_ge (off := 24) (tgt := 32) (by decide +kernel) (by decide) (fun c => ?_) (fun c => ?_)
  · replace h := h.1 c
    refine g_iload_n (q := 3) (i := 3) (by decide +kernel) rfl rfl ?_
    exact g_iret (by decide +kernel) rfl ⟨_, rfl, h⟩
  · replace h := h.2 c
    refine g_iload_n (q := 3) (i := 3) (by decide +kernel) rfl rfl ?_
    refine g_bipush (n := 10) (v := 10) (by decide +kernel) (by decide) ?_
    refine g_imul (by decide +kernel) ?_
    refine g_aload_n (q := 0) (i := 0) (by decide +kernel) rfl rfl ?_
    refine g_iload (i := 4) (by decide +kernel) rfl ?_
    refine g_callV (kd := 6) (ix := 0) (ci := 5) (N := 6) (T := xT_Tape) (vs := [vi z3]) (st := [vi (z2 * 10)]) (by decide +kernel) xm_Tape_byteAt kw_398 kw_400 kw_1 (by decide) rfl rfl rfl rfl (Nat.le_of_ble_eq_true rfl) (Nat.le_of_ble_eq_true rfl) h (fun vH5 H5 hq => ?_)
    obtain ⟨r6, rfl, h⟩ := hq
    refine g_iadd (by decide +kernel) ?_
    refine g_bipush (n := 48) (v := 48) (by decide +kernel) (by decide) ?_
    refine g_isub (by decide +kernel) ?_
    refine g_topi (fun v7 ev7 => ?_)
    replace h := h v7 ev7
    refine g_istore_n (q := 3) (i := 3) (ls2 := [some (vr 6 0), none, some (vi x2), some (vi v7), some (vi z3)]) (by decide +kernel) rfl (by decide) rfl rfl ?_
    refine g_iinc (i := 4) (n := 1) (v := (z3 + 1)) (ls2 := [some (vr 6 0), none, some (vi x2), some (vi v7), some (vi (z3 + 1))]) (by decide +kernel) rfl rfl (by decide) rfl rfl ?_
    refine g_goto (off := (-24)) (tgt := 5) (by decide +kernel) (by decide) ?_
    obtain ⟨hI, hlt⟩ := h
    exact g_drop (ls2 := [some (vr 6 0), none, some (vi x2), some (vi v7), some (vi (z3 + 1))]) (And.intro rfl (And.intro rfl (And.intro rfl (And.intro rfl trivial)))) (ih1 (v7, (z3 + 1)) H5 hI hlt)
def p_Tape_spells (E : XE) (d : Nat) (x1 : Int32) (x2 : Int32) (w : Nat) (H : HH) (Q : Int32 → HH → Prop) : Prop := c_String_length E d w H (fun r2 H1 => ((x2 - x1) = r2 → (∃ (I3 : Int32 → HH → Prop) (μ3 : Int32 → HH → Nat), I3 0 H1 ∧ ∀ (z4 : Int32) (H5 : HH), I3 z4 H5 → (c_String_length E d w H5 (fun r7 H6 => (r7 ≤ z4 → (Q 1 H6)) ∧ (¬ r7 ≤ z4 → (c_Tape_byteAt E d (x1 + z4) H6 (fun r9 H8 => c_String_charAt E d w z4 H8 (fun r11 H10 => (r9 = r11 → (I3 (z4 + 1) H10 ∧ μ3 (z4 + 1) H10 < μ3 z4 H5)) ∧ (¬ r9 = r11 → (Q 0 H10)))))))))) ∧ (¬ (x2 - x1) = r2 → (Q 0 H1)))
set_option maxHeartbeats 4000000 in
theorem l_Tape_spells {E : XE} {d : Nat} {x1 : Int32} {x2 : Int32} {w : Nat} {H : HH} {Q : Int32 → HH → Prop} (h : p_Tape_spells E d x1 x2 w H Q) : c_Tape_spells E (d + 1) x1 x2 w H Q := by
  show g_Tape_spells E (d + 1) 0 (xent [vr 6 0, vi x1, vi x2, vr 60 w]) [] H (qi Q)
  refine g_drop (ls2 := [some (vr 6 0), some (vi x1), some (vi x2), some (vr 60 w), none]) (And.intro rfl (And.intro rfl (And.intro rfl (And.intro rfl trivial)))) ?_
  refine g_iload_n (q := 2) (i := 2) (by decide +kernel) rfl rfl ?_
  refine g_iload_n (q := 1) (i := 1) (by decide +kernel) rfl rfl ?_
  refine g_isub (by decide +kernel) ?_
  refine g_aload_n (q := 3) (i := 3) (by decide +kernel) rfl rfl ?_
  refine g_callStr (vs := []) (st := [vi (x2 - x1)]) (by decide +kernel) xm_String_length kw_334 kw_335 kw_336 rfl rfl rfl (Nat.le_of_ble_eq_true rfl) (Nat.le_of_ble_eq_true rfl) h (fun vH1 H1 hq => ?_)
  obtain ⟨r2, rfl, h⟩ := hq
  refine g_icmp_eq (off := 5) (tgt := 12) (by decide +kernel) (by decide) (fun c => ?_) (fun c => ?_)
  · replace h := h.1 c
    refine g_iconst (n := 0) (v := 0) (by decide +kernel) (by decide) ?_
    refine g_istore (i := 4) (ls2 := [some (vr 6 0), some (vi x1), some (vi x2), some (vr 60 w), some (vi 0)]) (by decide +kernel) (by decide) rfl rfl ?_
    refine g_drop (ls2 := [some (vr 6 0), some (vi x1), none, some (vr 60 w), some (vi 0)]) (And.intro rfl (And.intro rfl (And.intro rfl (And.intro rfl trivial)))) ?_
    obtain ⟨I3, μ3, h0, h⟩ := h
    refine xloop (σ := Int32) (fun s H => I3 s H) (fun s H => μ3 s H) (fun s H => g_Tape_spells E (d + 1) 15 [some (vr 6 0), some (vi x1), none, some (vr 60 w), some (vi s)] [] H (qi Q)) (fun s H5 hI ih3 => ?_) 0 H1 h0
    obtain ⟨z4, es⟩ : ∃ z, z = s := ⟨s, rfl⟩
    subst es
    replace h := h z4 H5 hI
    refine g_iload (i := 4) (by decide +kernel) rfl ?_
    refine g_aload_n (q := 3) (i := 3) (by decide +kernel) rfl rfl ?_
    refine g_callStr (vs := []) (st := [vi z4]) (by decide +kernel) xm_String_length kw_334 kw_335 kw_336 rfl rfl rfl (Nat.le_of_ble_eq_true rfl) (Nat.le_of_ble_eq_true rfl) h (fun vH6 H6 hq => ?_)
    obtain ⟨r7, rfl, h⟩ := hq
    refine g_icmp_ge (off := 28) (tgt := 49) (by decide +kernel) (by decide) (fun c => ?_) (fun c => ?_)
    · replace h := h.1 c
      refine g_iconst (n := 1) (v := 1) (by decide +kernel) (by decide) ?_
      exact g_zret (by decide +kernel) rfl rfl ⟨_, rfl, h⟩
    · replace h := h.2 c
      refine g_aload_n (q := 0) (i := 0) (by decide +kernel) rfl rfl ?_
      refine g_iload_n (q := 1) (i := 1) (by decide +kernel) rfl rfl ?_
      refine g_iload (i := 4) (by decide +kernel) rfl ?_
      refine g_iadd (by decide +kernel) ?_
      refine g_callV (kd := 6) (ix := 0) (ci := 5) (N := 6) (T := xT_Tape) (vs := [vi (x1 + z4)]) (st := []) (by decide +kernel) xm_Tape_byteAt kw_398 kw_400 kw_1 (by decide) rfl rfl rfl rfl (Nat.le_of_ble_eq_true rfl) (Nat.le_of_ble_eq_true rfl) h (fun vH8 H8 hq => ?_)
      obtain ⟨r9, rfl, h⟩ := hq
      refine g_aload_n (q := 3) (i := 3) (by decide +kernel) rfl rfl ?_
      refine g_iload (i := 4) (by decide +kernel) rfl ?_
      refine g_callStr (vs := [vi z4]) (st := [vi r9]) (by decide +kernel) xm_String_charAt kw_344 kw_345 kw_346 rfl rfl rfl (Nat.le_of_ble_eq_true rfl) (Nat.le_of_ble_eq_true rfl) h (fun vH10 H10 hq => ?_)
      obtain ⟨r11, rfl, h⟩ := hq
      refine g_icmp_eq (off := 5) (tgt := 43) (by decide +kernel) (by decide) (fun c => ?_) (fun c => ?_)
      · replace h := h.1 c
        refine g_iinc (i := 4) (n := 1) (v := (z4 + 1)) (ls2 := [some (vr 6 0), some (vi x1), none, some (vr 60 w), some (vi (z4 + 1))]) (by decide +kernel) rfl rfl (by decide) rfl rfl ?_
        refine g_goto (off := (-31)) (tgt := 15) (by decide +kernel) (by decide) ?_
        obtain ⟨hI, hlt⟩ := h
        exact g_drop (ls2 := [some (vr 6 0), some (vi x1), none, some (vr 60 w), some (vi (z4 + 1))]) (And.intro rfl (And.intro rfl (And.intro rfl (And.intro rfl trivial)))) (ih3 (z4 + 1) H10 hI hlt)
      · replace h := h.2 c
        refine g_iconst (n := 0) (v := 0) (by decide +kernel) (by decide) ?_
        exact g_zret (by decide +kernel) rfl rfl ⟨_, rfl, h⟩
  · replace h := h.2 c
    refine g_iconst (n := 0) (v := 0) (by decide +kernel) (by decide) ?_
    exact g_zret (by decide +kernel) rfl rfl ⟨_, rfl, h⟩
def p_Tape_nameAt (E : XE) (d : Nat) (x1 : Int32) (x2 : Int32) (H : HH) (Q : Int32 → HH → Prop) : Prop := c_Tape_spells E d x1 x2 1 H (fun r2 H1 => (r2 = 0 → (c_Tape_spells E d x1 x2 2 H1 (fun r4 H3 => (r4 = 0 → (c_Tape_spells E d x1 x2 3 H3 (fun r6 H5 => (r6 = 0 → (c_Tape_spells E d x1 x2 4 H5 (fun r8 H7 => (r8 = 0 → (c_Tape_spells E d x1 x2 5 H7 (fun r10 H9 => (r10 = 0 → (c_Tape_spells E d x1 x2 6 H9 (fun r12 H11 => (r12 = 0 → (Q (-1) H11)) ∧ (¬ r12 = 0 → (Q 5 H11))))) ∧ (¬ r10 = 0 → (Q 4 H9))))) ∧ (¬ r8 = 0 → (Q 3 H7))))) ∧ (¬ r6 = 0 → (Q 2 H5))))) ∧ (¬ r4 = 0 → (Q 1 H3))))) ∧ (¬ r2 = 0 → (Q 0 H1)))
set_option maxHeartbeats 4000000 in
theorem l_Tape_nameAt {E : XE} {d : Nat} {x1 : Int32} {x2 : Int32} {H : HH} {Q : Int32 → HH → Prop} (h : p_Tape_nameAt E d x1 x2 H Q) : c_Tape_nameAt E (d + 1) x1 x2 H Q := by
  show g_Tape_nameAt E (d + 1) 0 (xent [vr 6 0, vi x1, vi x2]) [] H (qi Q)
  refine g_drop (ls2 := [some (vr 6 0), some (vi x1), some (vi x2)]) (And.intro rfl (And.intro rfl (And.intro rfl trivial))) ?_
  refine g_aload_n (q := 0) (i := 0) (by decide +kernel) rfl rfl ?_
  refine g_iload_n (q := 1) (i := 1) (by decide +kernel) rfl rfl ?_
  refine g_iload_n (q := 2) (i := 2) (by decide +kernel) rfl rfl ?_
  refine g_ldcS (i := 1) (by decide +kernel) rfl (by decide) ?_
  refine g_callV (kd := 6) (ix := 0) (ci := 5) (N := 6) (T := xT_Tape) (vs := [vi x1, vi x2, vr 60 1]) (st := []) (by decide +kernel) xm_Tape_spells kw_420 kw_422 kw_4 (by decide) rfl rfl rfl rfl (Nat.le_of_ble_eq_true rfl) (Nat.le_of_ble_eq_true rfl) h (fun vH1 H1 hq => ?_)
  obtain ⟨r2, rfl, h⟩ := hq
  refine g_if_eq (off := 5) (tgt := 13) (by decide +kernel) (by decide) (fun c => ?_) (fun c => ?_)
  · replace h := h.1 c
    refine g_aload_n (q := 0) (i := 0) (by decide +kernel) rfl rfl ?_
    refine g_iload_n (q := 1) (i := 1) (by decide +kernel) rfl rfl ?_
    refine g_iload_n (q := 2) (i := 2) (by decide +kernel) rfl rfl ?_
    refine g_ldcS (i := 2) (by decide +kernel) rfl (by decide) ?_
    refine g_callV (kd := 6) (ix := 0) (ci := 5) (N := 6) (T := xT_Tape) (vs := [vi x1, vi x2, vr 60 2]) (st := []) (by decide +kernel) xm_Tape_spells kw_420 kw_422 kw_4 (by decide) rfl rfl rfl rfl (Nat.le_of_ble_eq_true rfl) (Nat.le_of_ble_eq_true rfl) h (fun vH3 H3 hq => ?_)
    obtain ⟨r4, rfl, h⟩ := hq
    refine g_if_eq (off := 5) (tgt := 26) (by decide +kernel) (by decide) (fun c => ?_) (fun c => ?_)
    · replace h := h.1 c
      refine g_aload_n (q := 0) (i := 0) (by decide +kernel) rfl rfl ?_
      refine g_iload_n (q := 1) (i := 1) (by decide +kernel) rfl rfl ?_
      refine g_iload_n (q := 2) (i := 2) (by decide +kernel) rfl rfl ?_
      refine g_ldcS (i := 3) (by decide +kernel) rfl (by decide) ?_
      refine g_callV (kd := 6) (ix := 0) (ci := 5) (N := 6) (T := xT_Tape) (vs := [vi x1, vi x2, vr 60 3]) (st := []) (by decide +kernel) xm_Tape_spells kw_420 kw_422 kw_4 (by decide) rfl rfl rfl rfl (Nat.le_of_ble_eq_true rfl) (Nat.le_of_ble_eq_true rfl) h (fun vH5 H5 hq => ?_)
      obtain ⟨r6, rfl, h⟩ := hq
      refine g_if_eq (off := 5) (tgt := 39) (by decide +kernel) (by decide) (fun c => ?_) (fun c => ?_)
      · replace h := h.1 c
        refine g_aload_n (q := 0) (i := 0) (by decide +kernel) rfl rfl ?_
        refine g_iload_n (q := 1) (i := 1) (by decide +kernel) rfl rfl ?_
        refine g_iload_n (q := 2) (i := 2) (by decide +kernel) rfl rfl ?_
        refine g_ldcS (i := 4) (by decide +kernel) rfl (by decide) ?_
        refine g_callV (kd := 6) (ix := 0) (ci := 5) (N := 6) (T := xT_Tape) (vs := [vi x1, vi x2, vr 60 4]) (st := []) (by decide +kernel) xm_Tape_spells kw_420 kw_422 kw_4 (by decide) rfl rfl rfl rfl (Nat.le_of_ble_eq_true rfl) (Nat.le_of_ble_eq_true rfl) h (fun vH7 H7 hq => ?_)
        obtain ⟨r8, rfl, h⟩ := hq
        refine g_if_eq (off := 5) (tgt := 52) (by decide +kernel) (by decide) (fun c => ?_) (fun c => ?_)
        · replace h := h.1 c
          refine g_aload_n (q := 0) (i := 0) (by decide +kernel) rfl rfl ?_
          refine g_iload_n (q := 1) (i := 1) (by decide +kernel) rfl rfl ?_
          refine g_iload_n (q := 2) (i := 2) (by decide +kernel) rfl rfl ?_
          refine g_ldcS (i := 5) (by decide +kernel) rfl (by decide) ?_
          refine g_callV (kd := 6) (ix := 0) (ci := 5) (N := 6) (T := xT_Tape) (vs := [vi x1, vi x2, vr 60 5]) (st := []) (by decide +kernel) xm_Tape_spells kw_420 kw_422 kw_4 (by decide) rfl rfl rfl rfl (Nat.le_of_ble_eq_true rfl) (Nat.le_of_ble_eq_true rfl) h (fun vH9 H9 hq => ?_)
          obtain ⟨r10, rfl, h⟩ := hq
          refine g_if_eq (off := 5) (tgt := 65) (by decide +kernel) (by decide) (fun c => ?_) (fun c => ?_)
          · replace h := h.1 c
            refine g_aload_n (q := 0) (i := 0) (by decide +kernel) rfl rfl ?_
            refine g_iload_n (q := 1) (i := 1) (by decide +kernel) rfl rfl ?_
            refine g_iload_n (q := 2) (i := 2) (by decide +kernel) rfl rfl ?_
            refine g_ldcS (i := 6) (by decide +kernel) rfl (by decide) ?_
            refine g_callV (kd := 6) (ix := 0) (ci := 5) (N := 6) (T := xT_Tape) (vs := [vi x1, vi x2, vr 60 6]) (st := []) (by decide +kernel) xm_Tape_spells kw_420 kw_422 kw_4 (by decide) rfl rfl rfl rfl (Nat.le_of_ble_eq_true rfl) (Nat.le_of_ble_eq_true rfl) h (fun vH11 H11 hq => ?_)
            obtain ⟨r12, rfl, h⟩ := hq
            refine g_if_eq (off := 5) (tgt := 78) (by decide +kernel) (by decide) (fun c => ?_) (fun c => ?_)
            · replace h := h.1 c
              refine g_iconst (n := (-1)) (v := (-1)) (by decide +kernel) (by decide) ?_
              exact g_iret (by decide +kernel) rfl ⟨_, rfl, h⟩
            · replace h := h.2 c
              refine g_iconst (n := 5) (v := 5) (by decide +kernel) (by decide) ?_
              exact g_iret (by decide +kernel) rfl ⟨_, rfl, h⟩
          · replace h := h.2 c
            refine g_iconst (n := 4) (v := 4) (by decide +kernel) (by decide) ?_
            exact g_iret (by decide +kernel) rfl ⟨_, rfl, h⟩
        · replace h := h.2 c
          refine g_iconst (n := 3) (v := 3) (by decide +kernel) (by decide) ?_
          exact g_iret (by decide +kernel) rfl ⟨_, rfl, h⟩
      · replace h := h.2 c
        refine g_iconst (n := 2) (v := 2) (by decide +kernel) (by decide) ?_
        exact g_iret (by decide +kernel) rfl ⟨_, rfl, h⟩
    · replace h := h.2 c
      refine g_iconst (n := 1) (v := 1) (by decide +kernel) (by decide) ?_
      exact g_iret (by decide +kernel) rfl ⟨_, rfl, h⟩
  · replace h := h.2 c
    refine g_iconst (n := 0) (v := 0) (by decide +kernel) (by decide) ?_
    exact g_iret (by decide +kernel) rfl ⟨_, rfl, h⟩
def p_Tape_wordKindAt (E : XE) (d : Nat) (x1 : Int32) (x2 : Int32) (H : HH) (Q : Int32 → HH → Prop) : Prop := c_Tape_spells E d x1 x2 7 H (fun r2 H1 => (r2 = 0 → (c_Tape_spells E d x1 x2 8 H1 (fun r4 H3 => (r4 = 0 → (c_Tape_spells E d x1 x2 9 H3 (fun r6 H5 => (r6 = 0 → (c_Tape_spells E d x1 x2 10 H5 (fun r8 H7 => (r8 = 0 → (c_Tape_spells E d x1 x2 11 H7 (fun r10 H9 => (r10 = 0 → (c_Tape_spells E d x1 x2 12 H9 (fun r12 H11 => (r12 = 0 → (c_Tape_nameAt E d x1 x2 H11 (fun r14 H13 => Q (if r14 = (-1) then 265 else 262 : Int32) H13))) ∧ (¬ r12 = 0 → (Q 261 H11))))) ∧ (¬ r10 = 0 → (Q 260 H9))))) ∧ (¬ r8 = 0 → (Q 259 H7))))) ∧ (¬ r6 = 0 → (Q 258 H5))))) ∧ (¬ r4 = 0 → (Q 257 H3))))) ∧ (¬ r2 = 0 → (Q 256 H1)))
set_option maxHeartbeats 4000000 in
theorem l_Tape_wordKindAt {E : XE} {d : Nat} {x1 : Int32} {x2 : Int32} {H : HH} {Q : Int32 → HH → Prop} (h : p_Tape_wordKindAt E d x1 x2 H Q) : c_Tape_wordKindAt E (d + 1) x1 x2 H Q := by
  show g_Tape_wordKindAt E (d + 1) 0 (xent [vr 6 0, vi x1, vi x2]) [] H (qi Q)
  refine g_drop (ls2 := [some (vr 6 0), some (vi x1), some (vi x2)]) (And.intro rfl (And.intro rfl (And.intro rfl trivial))) ?_
  refine g_aload_n (q := 0) (i := 0) (by decide +kernel) rfl rfl ?_
  refine g_iload_n (q := 1) (i := 1) (by decide +kernel) rfl rfl ?_
  refine g_iload_n (q := 2) (i := 2) (by decide +kernel) rfl rfl ?_
  refine g_ldcS (i := 7) (by decide +kernel) rfl (by decide) ?_
  refine g_callV (kd := 6) (ix := 0) (ci := 5) (N := 6) (T := xT_Tape) (vs := [vi x1, vi x2, vr 60 7]) (st := []) (by decide +kernel) xm_Tape_spells kw_420 kw_422 kw_4 (by decide) rfl rfl rfl rfl (Nat.le_of_ble_eq_true rfl) (Nat.le_of_ble_eq_true rfl) h (fun vH1 H1 hq => ?_)
  obtain ⟨r2, rfl, h⟩ := hq
  refine g_if_eq (off := 7) (tgt := 15) (by decide +kernel) (by decide) (fun c => ?_) (fun c => ?_)
  · replace h := h.1 c
    refine g_aload_n (q := 0) (i := 0) (by decide +kernel) rfl rfl ?_
    refine g_iload_n (q := 1) (i := 1) (by decide +kernel) rfl rfl ?_
    refine g_iload_n (q := 2) (i := 2) (by decide +kernel) rfl rfl ?_
    refine g_ldcS (i := 8) (by decide +kernel) rfl (by decide) ?_
    refine g_callV (kd := 6) (ix := 0) (ci := 5) (N := 6) (T := xT_Tape) (vs := [vi x1, vi x2, vr 60 8]) (st := []) (by decide +kernel) xm_Tape_spells kw_420 kw_422 kw_4 (by decide) rfl rfl rfl rfl (Nat.le_of_ble_eq_true rfl) (Nat.le_of_ble_eq_true rfl) h (fun vH3 H3 hq => ?_)
    obtain ⟨r4, rfl, h⟩ := hq
    refine g_if_eq (off := 7) (tgt := 30) (by decide +kernel) (by decide) (fun c => ?_) (fun c => ?_)
    · replace h := h.1 c
      refine g_aload_n (q := 0) (i := 0) (by decide +kernel) rfl rfl ?_
      refine g_iload_n (q := 1) (i := 1) (by decide +kernel) rfl rfl ?_
      refine g_iload_n (q := 2) (i := 2) (by decide +kernel) rfl rfl ?_
      refine g_ldcS (i := 9) (by decide +kernel) rfl (by decide) ?_
      refine g_callV (kd := 6) (ix := 0) (ci := 5) (N := 6) (T := xT_Tape) (vs := [vi x1, vi x2, vr 60 9]) (st := []) (by decide +kernel) xm_Tape_spells kw_420 kw_422 kw_4 (by decide) rfl rfl rfl rfl (Nat.le_of_ble_eq_true rfl) (Nat.le_of_ble_eq_true rfl) h (fun vH5 H5 hq => ?_)
      obtain ⟨r6, rfl, h⟩ := hq
      refine g_if_eq (off := 7) (tgt := 45) (by decide +kernel) (by decide) (fun c => ?_) (fun c => ?_)
      · replace h := h.1 c
        refine g_aload_n (q := 0) (i := 0) (by decide +kernel) rfl rfl ?_
        refine g_iload_n (q := 1) (i := 1) (by decide +kernel) rfl rfl ?_
        refine g_iload_n (q := 2) (i := 2) (by decide +kernel) rfl rfl ?_
        refine g_ldcS (i := 10) (by decide +kernel) rfl (by decide) ?_
        refine g_callV (kd := 6) (ix := 0) (ci := 5) (N := 6) (T := xT_Tape) (vs := [vi x1, vi x2, vr 60 10]) (st := []) (by decide +kernel) xm_Tape_spells kw_420 kw_422 kw_4 (by decide) rfl rfl rfl rfl (Nat.le_of_ble_eq_true rfl) (Nat.le_of_ble_eq_true rfl) h (fun vH7 H7 hq => ?_)
        obtain ⟨r8, rfl, h⟩ := hq
        refine g_if_eq (off := 7) (tgt := 60) (by decide +kernel) (by decide) (fun c => ?_) (fun c => ?_)
        · replace h := h.1 c
          refine g_aload_n (q := 0) (i := 0) (by decide +kernel) rfl rfl ?_
          refine g_iload_n (q := 1) (i := 1) (by decide +kernel) rfl rfl ?_
          refine g_iload_n (q := 2) (i := 2) (by decide +kernel) rfl rfl ?_
          refine g_ldcS (i := 11) (by decide +kernel) rfl (by decide) ?_
          refine g_callV (kd := 6) (ix := 0) (ci := 5) (N := 6) (T := xT_Tape) (vs := [vi x1, vi x2, vr 60 11]) (st := []) (by decide +kernel) xm_Tape_spells kw_420 kw_422 kw_4 (by decide) rfl rfl rfl rfl (Nat.le_of_ble_eq_true rfl) (Nat.le_of_ble_eq_true rfl) h (fun vH9 H9 hq => ?_)
          obtain ⟨r10, rfl, h⟩ := hq
          refine g_if_eq (off := 7) (tgt := 75) (by decide +kernel) (by decide) (fun c => ?_) (fun c => ?_)
          · replace h := h.1 c
            refine g_aload_n (q := 0) (i := 0) (by decide +kernel) rfl rfl ?_
            refine g_iload_n (q := 1) (i := 1) (by decide +kernel) rfl rfl ?_
            refine g_iload_n (q := 2) (i := 2) (by decide +kernel) rfl rfl ?_
            refine g_ldcS (i := 12) (by decide +kernel) rfl (by decide) ?_
            refine g_callV (kd := 6) (ix := 0) (ci := 5) (N := 6) (T := xT_Tape) (vs := [vi x1, vi x2, vr 60 12]) (st := []) (by decide +kernel) xm_Tape_spells kw_420 kw_422 kw_4 (by decide) rfl rfl rfl rfl (Nat.le_of_ble_eq_true rfl) (Nat.le_of_ble_eq_true rfl) h (fun vH11 H11 hq => ?_)
            obtain ⟨r12, rfl, h⟩ := hq
            refine g_if_eq (off := 7) (tgt := 90) (by decide +kernel) (by decide) (fun c => ?_) (fun c => ?_)
            · replace h := h.1 c
              refine g_aload_n (q := 0) (i := 0) (by decide +kernel) rfl rfl ?_
              refine g_iload_n (q := 1) (i := 1) (by decide +kernel) rfl rfl ?_
              refine g_iload_n (q := 2) (i := 2) (by decide +kernel) rfl rfl ?_
              refine g_callV (kd := 6) (ix := 0) (ci := 5) (N := 6) (T := xT_Tape) (vs := [vi x1, vi x2]) (st := []) (by decide +kernel) xm_Tape_nameAt kw_415 kw_417 kw_3 (by decide) rfl rfl rfl rfl (Nat.le_of_ble_eq_true rfl) (Nat.le_of_ble_eq_true rfl) h (fun vH13 H13 hq => ?_)
              obtain ⟨r14, rfl, h⟩ := hq
              refine g_iconst (n := (-1)) (v := (-1)) (by decide +kernel) (by decide) ?_
              suffices hj15 : g_Tape_wordKindAt E (d + 1) 109 [some (vr 6 0), some (vi x1), some (vi x2)] [vi (if r14 = (-1) then 265 else 262 : Int32)] H13 (qi Q) by
                refine g_icmp_ne (off := 9) (tgt := 106) (by decide +kernel) (by decide) (fun c => ?_) (fun c => ?_)
                · rw [if_neg c] at hj15
                  refine g_sipush (n := 262) (v := 262) (by decide +kernel) (by decide) ?_
                  exact hj15
                · rw [if_pos c] at hj15
                  refine g_sipush (n := 265) (v := 265) (by decide +kernel) (by decide) ?_
                  refine g_goto (off := 6) (tgt := 109) (by decide +kernel) (by decide) ?_
                  exact hj15
              exact g_iret (by decide +kernel) rfl ⟨_, rfl, h⟩
            · replace h := h.2 c
              refine g_sipush (n := 261) (v := 261) (by decide +kernel) (by decide) ?_
              exact g_iret (by decide +kernel) rfl ⟨_, rfl, h⟩
          · replace h := h.2 c
            refine g_sipush (n := 260) (v := 260) (by decide +kernel) (by decide) ?_
            exact g_iret (by decide +kernel) rfl ⟨_, rfl, h⟩
        · replace h := h.2 c
          refine g_sipush (n := 259) (v := 259) (by decide +kernel) (by decide) ?_
          exact g_iret (by decide +kernel) rfl ⟨_, rfl, h⟩
      · replace h := h.2 c
        refine g_sipush (n := 258) (v := 258) (by decide +kernel) (by decide) ?_
        exact g_iret (by decide +kernel) rfl ⟨_, rfl, h⟩
    · replace h := h.2 c
      refine g_sipush (n := 257) (v := 257) (by decide +kernel) (by decide) ?_
      exact g_iret (by decide +kernel) rfl ⟨_, rfl, h⟩
  · replace h := h.2 c
    refine g_sipush (n := 256) (v := 256) (by decide +kernel) (by decide) ?_
    exact g_iret (by decide +kernel) rfl ⟨_, rfl, h⟩
def p_Tape_kindAt (E : XE) (d : Nat) (x1 : Int32) (x2 : Int32) (H : HH) (Q : Int32 → HH → Prop) : Prop := c_Tape_byteAt E d x1 H (fun r2 H1 => c_Tape_isLetter E d r2 H1 (fun r4 H3 => (r4 = 0 → (c_Tape_isDigit E d r2 H3 (fun r6 H5 => (r6 = 0 → (c_String_indexOf_I E d 13 ((r2.toUInt32 % 65536).toInt32) H5 (fun r8 H7 => Q (if r8 < 0 then 265 else r2 : Int32) H7))) ∧ (¬ r6 = 0 → (Q (if (x2 - x1) ≤ 4 then 263 else 265 : Int32) H5))))) ∧ (¬ r4 = 0 → (c_Tape_wordKindAt E d x1 x2 H3 (fun r12 H11 => Q r12 H11)))))
set_option maxHeartbeats 4000000 in
theorem l_Tape_kindAt {E : XE} {d : Nat} {x1 : Int32} {x2 : Int32} {H : HH} {Q : Int32 → HH → Prop} (h : p_Tape_kindAt E d x1 x2 H Q) : c_Tape_kindAt E (d + 1) x1 x2 H Q := by
  show g_Tape_kindAt E (d + 1) 0 (xent [vr 6 0, vi x1, vi x2]) [] H (qi Q)
  refine g_drop (ls2 := [some (vr 6 0), some (vi x1), some (vi x2), none]) (And.intro rfl (And.intro rfl (And.intro rfl trivial))) ?_
  refine g_aload_n (q := 0) (i := 0) (by decide +kernel) rfl rfl ?_
  refine g_iload_n (q := 1) (i := 1) (by decide +kernel) rfl rfl ?_
  refine g_callV (kd := 6) (ix := 0) (ci := 5) (N := 6) (T := xT_Tape) (vs := [vi x1]) (st := []) (by decide +kernel) xm_Tape_byteAt kw_398 kw_400 kw_1 (by decide) rfl rfl rfl rfl (Nat.le_of_ble_eq_true rfl) (Nat.le_of_ble_eq_true rfl) h (fun vH1 H1 hq => ?_)
  obtain ⟨r2, rfl, h⟩ := hq
  refine g_istore_n (q := 3) (i := 3) (ls2 := [some (vr 6 0), some (vi x1), some (vi x2), some (vi r2)]) (by decide +kernel) rfl (by decide) rfl rfl ?_
  refine g_iload_n (q := 3) (i := 3) (by decide +kernel) rfl rfl ?_
  refine g_callS (vs := [vi r2]) (st := []) (by decide +kernel) xm_Tape_isLetter kw_402 kw_403 rfl rfl (Nat.le_of_ble_eq_true rfl) (Nat.le_of_ble_eq_true rfl) h (fun vH3 H3 hq => ?_)
  obtain ⟨r4, rfl, h⟩ := hq
  refine g_if_eq (off := 10) (tgt := 20) (by decide +kernel) (by decide) (fun c => ?_) (fun c => ?_)
  · replace h := h.1 c
    refine g_iload_n (q := 3) (i := 3) (by decide +kernel) rfl rfl ?_
    refine g_callS (vs := [vi r2]) (st := []) (by decide +kernel) xm_Tape_isDigit kw_405 kw_406 rfl rfl (Nat.le_of_ble_eq_true rfl) (Nat.le_of_ble_eq_true rfl) h (fun vH5 H5 hq => ?_)
    obtain ⟨r6, rfl, h⟩ := hq
    refine g_if_eq (off := 20) (tgt := 44) (by decide +kernel) (by decide) (fun c => ?_) (fun c => ?_)
    · replace h := h.1 c
      refine g_ldcS (i := 13) (by decide +kernel) rfl (by decide) ?_
      refine g_iload_n (q := 3) (i := 3) (by decide +kernel) rfl rfl ?_
      refine g_i2c (by decide +kernel) ?_
      refine g_callStr (vs := [vi ((r2.toUInt32 % 65536).toInt32)]) (st := []) (by decide +kernel) xm_String_indexOf_I kw_444 kw_445 kw_446 rfl rfl rfl (Nat.le_of_ble_eq_true rfl) (Nat.le_of_ble_eq_true rfl) h (fun vH7 H7 hq => ?_)
      obtain ⟨r8, rfl, h⟩ := hq
      suffices hj9 : g_Tape_kindAt E (d + 1) 61 [some (vr 6 0), some (vi x1), some (vi x2), some (vi r2)] [vi (if r8 < 0 then 265 else r2 : Int32)] H7 (qi Q) by
        refine g_if_lt (off := 7) (tgt := 58) (by decide +kernel) (by decide) (fun c => ?_) (fun c => ?_)
        · rw [if_pos c] at hj9
          refine g_sipush (n := 265) (v := 265) (by decide +kernel) (by decide) ?_
          exact hj9
        · rw [if_neg c] at hj9
          refine g_iload_n (q := 3) (i := 3) (by decide +kernel) rfl rfl ?_
          refine g_goto (off := 6) (tgt := 61) (by decide +kernel) (by decide) ?_
          exact hj9
      exact g_iret (by decide +kernel) rfl ⟨_, rfl, h⟩
    · replace h := h.2 c
      refine g_iload_n (q := 2) (i := 2) (by decide +kernel) rfl rfl ?_
      refine g_iload_n (q := 1) (i := 1) (by decide +kernel) rfl rfl ?_
      refine g_isub (by decide +kernel) ?_
      refine g_iconst (n := 4) (v := 4) (by decide +kernel) (by decide) ?_
      suffices hj10 : g_Tape_kindAt E (d + 1) 43 [some (vr 6 0), some (vi x1), some (vi x2), some (vi r2)] [vi (if (x2 - x1) ≤ 4 then 263 else 265 : Int32)] H5 (qi Q) by
        refine g_icmp_le (off := 9) (tgt := 40) (by decide +kernel) (by decide) (fun c => ?_) (fun c => ?_)
        · rw [if_pos c] at hj10
          refine g_sipush (n := 263) (v := 263) (by decide +kernel) (by decide) ?_
          exact hj10
        · rw [if_neg c] at hj10
          refine g_sipush (n := 265) (v := 265) (by decide +kernel) (by decide) ?_
          refine g_goto (off := 6) (tgt := 43) (by decide +kernel) (by decide) ?_
          exact hj10
      exact g_iret (by decide +kernel) rfl ⟨_, rfl, h⟩
  · replace h := h.2 c
    refine g_aload_n (q := 0) (i := 0) (by decide +kernel) rfl rfl ?_
    refine g_iload_n (q := 1) (i := 1) (by decide +kernel) rfl rfl ?_
    refine g_iload_n (q := 2) (i := 2) (by decide +kernel) rfl rfl ?_
    refine g_callV (kd := 6) (ix := 0) (ci := 5) (N := 6) (T := xT_Tape) (vs := [vi x1, vi x2]) (st := []) (by decide +kernel) xm_Tape_wordKindAt kw_433 kw_435 kw_6 (by decide) rfl rfl rfl rfl (Nat.le_of_ble_eq_true rfl) (Nat.le_of_ble_eq_true rfl) h (fun vH11 H11 hq => ?_)
    obtain ⟨r12, rfl, h⟩ := hq
    exact g_iret (by decide +kernel) rfl ⟨_, rfl, h⟩
def p_Tape_split (E : XE) (d : Nat)  (H : HH) (Q : HH → Prop) : Prop := ∀ H1 : HH, H1 = (hu H 6 0 5 0) → (∃ (I2 : Int32 → HH → Prop) (μ2 : Int32 → HH → Nat), I2 0 H1 ∧ ∀ (z3 : Int32) (H4 : HH), I2 z3 H4 → (((H4 6 0 1) ≤ z3 → (Q H4)) ∧ (¬ (H4 6 0 1) ≤ z3 → ((160 ≤ (H4 6 0 5) → (Q H4)) ∧ (¬ 160 ≤ (H4 6 0 5) → (c_Tape_endOfToken E d z3 H4 (fun r6 H5 => c_Tape_byteAt E d z3 H5 (fun r8 H7 => c_Tape_isBlank E d r8 H7 (fun r10 H9 => (¬ r10 = 0 → (∀ v11 : Int32, v11 = (xmax r6 (z3 + 1)) → (I2 v11 H9 ∧ μ2 v11 H9 < μ2 z3 H4))) ∧ (r10 = 0 → (vp_in (H9 6 0 5) 160 ∧ (∀ H12 : HH, H12 = (hu H9 9 0 ((H9 6 0 5).toNatClampNeg) z3) → (c_Tape_byteAt E d z3 H12 (fun r14 H13 => c_Tape_isDigit E d r14 H13 (fun r16 H15 => (r16 = 0 → (c_Tape_nameAt E d z3 r6 H15 (fun r18 H17 => vp_in (H12 6 0 5) 160 ∧ (∀ H19 : HH, H19 = (hu H17 10 0 ((H12 6 0 5).toNatClampNeg) r18) → (c_Tape_kindAt E d z3 r6 H19 (fun r21 H20 => vp_in (H19 6 0 5) 160 ∧ (∀ H22 : HH, H22 = (hu H20 8 0 ((H19 6 0 5).toNatClampNeg) r21) → (∀ H23 : HH, H23 = (hu H22 6 0 5 ((H22 6 0 5) + 1)) → (∀ v24 : Int32, v24 = (xmax r6 (z3 + 1)) → (I2 v24 H23 ∧ μ2 v24 H23 < μ2 z3 H4)))))))))) ∧ (¬ r16 = 0 → (c_Tape_numberAt E d z3 r6 H15 (fun r26 H25 => vp_in (H12 6 0 5) 160 ∧ (∀ H27 : HH, H27 = (hu H25 10 0 ((H12 6 0 5).toNatClampNeg) r26) → (c_Tape_kindAt E d z3 r6 H27 (fun r29 H28 => vp_in (H27 6 0 5) 160 ∧ (∀ H30 : HH, H30 = (hu H28 8 0 ((H27 6 0 5).toNatClampNeg) r29) → (∀ H31 : HH, H31 = (hu H30 6 0 5 ((H30 6 0 5) + 1)) → (∀ v32 : Int32, v32 = (xmax r6 (z3 + 1)) → (I2 v32 H31 ∧ μ2 v32 H31 < μ2 z3 H4)))))))))))))))))))))))))
set_option maxHeartbeats 4000000 in
theorem l_Tape_split {E : XE} {d : Nat}  {H : HH} {Q : HH → Prop} (h : p_Tape_split E d  H Q) : c_Tape_split E (d + 1)  H Q := by
  show g_Tape_split E (d + 1) 0 (xent [vr 6 0]) [] H (qv Q)
  refine g_drop (ls2 := [some (vr 6 0), none, none]) (And.intro rfl trivial) ?_
  refine g_aload_n (q := 0) (i := 0) (by decide +kernel) rfl rfl ?_
  refine g_iconst (n := 0) (v := 0) (by decide +kernel) (by decide) ?_
  refine g_put (C := "ThreePoints$Tape") (T := xT_Tape) (N := 6) (ci := 5) (k := 5) xy_Tape (by decide +kernel) (by decide) rfl rfl xi_Tape xy_Tape_ok xn_Tape (by decide) kw_193 rfl (by decide +kernel) (fun _ => rfl) ?_
  refine g_iconst (n := 0) (v := 0) (by decide +kernel) (by decide) ?_
  refine g_istore_n (q := 1) (i := 1) (ls2 := [some (vr 6 0), some (vi 0), none]) (by decide +kernel) rfl (by decide) rfl rfl ?_
  refine g_heap (fun H1 eH1 => ?_)
  replace h := h H1 eH1
  refine g_drop (ls2 := [some (vr 6 0), some (vi 0), none]) (And.intro rfl (And.intro rfl trivial)) ?_
  obtain ⟨I2, μ2, h0, h⟩ := h
  refine xloop (σ := Int32) (fun s H => I2 s H) (fun s H => μ2 s H) (fun s H => g_Tape_split E (d + 1) 7 [some (vr 6 0), some (vi s), none] [] H (qv Q)) (fun s H4 hI ih2 => ?_) 0 H1 h0
  obtain ⟨z3, es⟩ : ∃ z, z = s := ⟨s, rfl⟩
  subst es
  replace h := h z3 H4 hI
  refine g_iload_n (q := 1) (i := 1) (by decide +kernel) rfl rfl ?_
  refine g_aload_n (q := 0) (i := 0) (by decide +kernel) rfl rfl ?_
  refine g_get (C := "ThreePoints$Tape") (T := xT_Tape) (N := 6) (ci := 5) (k := 1) (v := vi (H4 6 0 1)) (by decide +kernel) (by decide) rfl rfl xi_Tape (by decide) kw_188 rfl ?_
  refine g_icmp_ge (off := 111) (tgt := 123) (by decide +kernel) (by decide) (fun c => ?_) (fun c => ?_)
  · replace h := h.1 c
    exact g_vret (by decide +kernel) rfl h
  · replace h := h.2 c
    refine g_aload_n (q := 0) (i := 0) (by decide +kernel) rfl rfl ?_
    refine g_get (C := "ThreePoints$Tape") (T := xT_Tape) (N := 6) (ci := 5) (k := 5) (v := vi (H4 6 0 5)) (by decide +kernel) (by decide) rfl rfl xi_Tape (by decide) kw_193 rfl ?_
    refine g_sipush (n := 160) (v := 160) (by decide +kernel) (by decide) ?_
    refine g_icmp_ge (off := 101) (tgt := 123) (by decide +kernel) (by decide) (fun c => ?_) (fun c => ?_)
    · replace h := h.1 c
      exact g_vret (by decide +kernel) rfl h
    · replace h := h.2 c
      refine g_aload_n (q := 0) (i := 0) (by decide +kernel) rfl rfl ?_
      refine g_iload_n (q := 1) (i := 1) (by decide +kernel) rfl rfl ?_
      refine g_callV (kd := 6) (ix := 0) (ci := 5) (N := 6) (T := xT_Tape) (vs := [vi z3]) (st := []) (by decide +kernel) xm_Tape_endOfToken kw_394 kw_396 kw_0 (by decide) rfl rfl rfl rfl (Nat.le_of_ble_eq_true rfl) (Nat.le_of_ble_eq_true rfl) h (fun vH5 H5 hq => ?_)
      obtain ⟨r6, rfl, h⟩ := hq
      refine g_istore_n (q := 2) (i := 2) (ls2 := [some (vr 6 0), some (vi z3), some (vi r6)]) (by decide +kernel) rfl (by decide) rfl rfl ?_
      refine g_aload_n (q := 0) (i := 0) (by decide +kernel) rfl rfl ?_
      refine g_iload_n (q := 1) (i := 1) (by decide +kernel) rfl rfl ?_
      refine g_callV (kd := 6) (ix := 0) (ci := 5) (N := 6) (T := xT_Tape) (vs := [vi z3]) (st := []) (by decide +kernel) xm_Tape_byteAt kw_398 kw_400 kw_1 (by decide) rfl rfl rfl rfl (Nat.le_of_ble_eq_true rfl) (Nat.le_of_ble_eq_true rfl) h (fun vH7 H7 hq => ?_)
      obtain ⟨r8, rfl, h⟩ := hq
      refine g_callS (vs := [vi r8]) (st := []) (by decide +kernel) xm_Tape_isBlank kw_408 kw_409 rfl rfl (Nat.le_of_ble_eq_true rfl) (Nat.le_of_ble_eq_true rfl) h (fun vH9 H9 hq => ?_)
      obtain ⟨r10, rfl, h⟩ := hq
      refine g_if_ne (off := 73) (tgt := 112) (by decide +kernel) (by decide) (fun c => ?_) (fun c => ?_)
      · replace h := h.1 c
        refine g_iload_n (q := 2) (i := 2) (by decide +kernel) rfl rfl ?_
        refine g_iload_n (q := 1) (i := 1) (by decide +kernel) rfl rfl ?_
        refine g_iconst (n := 1) (v := 1) (by decide +kernel) (by decide) ?_
        refine g_iadd (by decide +kernel) ?_
        refine g_mmax (by decide +kernel) kw_503 kw_460 kw_79 kw_461 (Nat.le_of_ble_eq_true rfl) ?_
        refine g_topi (fun v11 ev11 => ?_)
        replace h := h v11 ev11
        refine g_istore_n (q := 1) (i := 1) (ls2 := [some (vr 6 0), some (vi v11), some (vi r6)]) (by decide +kernel) rfl (by decide) rfl rfl ?_
        refine g_goto (off := (-113)) (tgt := 7) (by decide +kernel) (by decide) ?_
        obtain ⟨hI, hlt⟩ := h
        exact g_drop (ls2 := [some (vr 6 0), some (vi v11), none]) (And.intro rfl (And.intro rfl trivial)) (ih2 v11 H9 hI hlt)
      · replace h := h.2 c
        refine g_aload_n (q := 0) (i := 0) (by decide +kernel) rfl rfl ?_
        refine g_get (C := "ThreePoints$Tape") (T := xT_Tape) (N := 6) (ci := 5) (k := 3) (v := vr 9 0) (by decide +kernel) (by decide) rfl rfl xi_Tape (by decide) kw_191 rfl ?_
        refine g_aload_n (q := 0) (i := 0) (by decide +kernel) rfl rfl ?_
        refine g_get (C := "ThreePoints$Tape") (T := xT_Tape) (N := 6) (ci := 5) (k := 5) (v := vi (H9 6 0 5)) (by decide +kernel) (by decide) rfl rfl xi_Tape (by decide) kw_193 rfl ?_
        refine g_iload_n (q := 1) (i := 1) (by decide +kernel) rfl rfl ?_
        obtain ⟨hin, h⟩ := h
        refine g_iast (by decide +kernel) (by decide) rfl hin ?_
        refine g_aload_n (q := 0) (i := 0) (by decide +kernel) rfl rfl ?_
        refine g_get (C := "ThreePoints$Tape") (T := xT_Tape) (N := 6) (ci := 5) (k := 4) (v := vr 10 0) (by decide +kernel) (by decide) rfl rfl xi_Tape (by decide) kw_192 rfl ?_
        refine g_aload_n (q := 0) (i := 0) (by decide +kernel) rfl rfl ?_
        refine g_heap (fun H12 eH12 => ?_)
        replace h := h H12 eH12
        refine g_get (C := "ThreePoints$Tape") (T := xT_Tape) (N := 6) (ci := 5) (k := 5) (v := vi (H12 6 0 5)) (by decide +kernel) (by decide) rfl rfl xi_Tape (by decide) kw_193 rfl ?_
        refine g_aload_n (q := 0) (i := 0) (by decide +kernel) rfl rfl ?_
        refine g_iload_n (q := 1) (i := 1) (by decide +kernel) rfl rfl ?_
        refine g_callV (kd := 6) (ix := 0) (ci := 5) (N := 6) (T := xT_Tape) (vs := [vi z3]) (st := [vi (H12 6 0 5), vr 10 0]) (by decide +kernel) xm_Tape_byteAt kw_398 kw_400 kw_1 (by decide) rfl rfl rfl rfl (Nat.le_of_ble_eq_true rfl) (Nat.le_of_ble_eq_true rfl) h (fun vH13 H13 hq => ?_)
        obtain ⟨r14, rfl, h⟩ := hq
        refine g_callS (vs := [vi r14]) (st := [vi (H12 6 0 5), vr 10 0]) (by decide +kernel) xm_Tape_isDigit kw_405 kw_406 rfl rfl (Nat.le_of_ble_eq_true rfl) (Nat.le_of_ble_eq_true rfl) h (fun vH15 H15 hq => ?_)
        obtain ⟨r16, rfl, h⟩ := hq
        refine g_if_eq (off := 12) (tgt := 80) (by decide +kernel) (by decide) (fun c => ?_) (fun c => ?_)
        · replace h := h.1 c
          refine g_aload_n (q := 0) (i := 0) (by decide +kernel) rfl rfl ?_
          refine g_iload_n (q := 1) (i := 1) (by decide +kernel) rfl rfl ?_
          refine g_iload_n (q := 2) (i := 2) (by decide +kernel) rfl rfl ?_
          refine g_callV (kd := 6) (ix := 0) (ci := 5) (N := 6) (T := xT_Tape) (vs := [vi z3, vi r6]) (st := [vi (H12 6 0 5), vr 10 0]) (by decide +kernel) xm_Tape_nameAt kw_415 kw_417 kw_3 (by decide) rfl rfl rfl rfl (Nat.le_of_ble_eq_true rfl) (Nat.le_of_ble_eq_true rfl) h (fun vH17 H17 hq => ?_)
          obtain ⟨r18, rfl, h⟩ := hq
          obtain ⟨hin, h⟩ := h
          refine g_iast (by decide +kernel) (by decide) rfl hin ?_
          refine g_aload_n (q := 0) (i := 0) (by decide +kernel) rfl rfl ?_
          refine g_get (C := "ThreePoints$Tape") (T := xT_Tape) (N := 6) (ci := 5) (k := 2) (v := vr 8 0) (by decide +kernel) (by decide) rfl rfl xi_Tape (by decide) kw_190 rfl ?_
          refine g_aload_n (q := 0) (i := 0) (by decide +kernel) rfl rfl ?_
          refine g_heap (fun H19 eH19 => ?_)
          replace h := h H19 eH19
          refine g_get (C := "ThreePoints$Tape") (T := xT_Tape) (N := 6) (ci := 5) (k := 5) (v := vi (H19 6 0 5)) (by decide +kernel) (by decide) rfl rfl xi_Tape (by decide) kw_193 rfl ?_
          refine g_aload_n (q := 0) (i := 0) (by decide +kernel) rfl rfl ?_
          refine g_iload_n (q := 1) (i := 1) (by decide +kernel) rfl rfl ?_
          refine g_iload_n (q := 2) (i := 2) (by decide +kernel) rfl rfl ?_
          refine g_callV (kd := 6) (ix := 0) (ci := 5) (N := 6) (T := xT_Tape) (vs := [vi z3, vi r6]) (st := [vi (H19 6 0 5), vr 8 0]) (by decide +kernel) xm_Tape_kindAt kw_429 kw_431 kw_5 (by decide) rfl rfl rfl rfl (Nat.le_of_ble_eq_true rfl) (Nat.le_of_ble_eq_true rfl) h (fun vH20 H20 hq => ?_)
          obtain ⟨r21, rfl, h⟩ := hq
          obtain ⟨hin, h⟩ := h
          refine g_iast (by decide +kernel) (by decide) rfl hin ?_
          refine g_aload_n (q := 0) (i := 0) (by decide +kernel) rfl rfl ?_
          refine g_dup (by decide +kernel) rfl ?_
          refine g_heap (fun H22 eH22 => ?_)
          replace h := h H22 eH22
          refine g_get (C := "ThreePoints$Tape") (T := xT_Tape) (N := 6) (ci := 5) (k := 5) (v := vi (H22 6 0 5)) (by decide +kernel) (by decide) rfl rfl xi_Tape (by decide) kw_193 rfl ?_
          refine g_iconst (n := 1) (v := 1) (by decide +kernel) (by decide) ?_
          refine g_iadd (by decide +kernel) ?_
          refine g_put (C := "ThreePoints$Tape") (T := xT_Tape) (N := 6) (ci := 5) (k := 5) xy_Tape (by decide +kernel) (by decide) rfl rfl xi_Tape xy_Tape_ok xn_Tape (by decide) kw_193 rfl (by decide +kernel) (fun _ => rfl) ?_
          refine g_iload_n (q := 2) (i := 2) (by decide +kernel) rfl rfl ?_
          refine g_iload_n (q := 1) (i := 1) (by decide +kernel) rfl rfl ?_
          refine g_iconst (n := 1) (v := 1) (by decide +kernel) (by decide) ?_
          refine g_iadd (by decide +kernel) ?_
          refine g_heap (fun H23 eH23 => ?_)
          replace h := h H23 eH23
          refine g_mmax (by decide +kernel) kw_503 kw_460 kw_79 kw_461 (Nat.le_of_ble_eq_true rfl) ?_
          refine g_topi (fun v24 ev24 => ?_)
          replace h := h v24 ev24
          refine g_istore_n (q := 1) (i := 1) (ls2 := [some (vr 6 0), some (vi v24), some (vi r6)]) (by decide +kernel) rfl (by decide) rfl rfl ?_
          refine g_goto (off := (-113)) (tgt := 7) (by decide +kernel) (by decide) ?_
          obtain ⟨hI, hlt⟩ := h
          exact g_drop (ls2 := [some (vr 6 0), some (vi v24), none]) (And.intro rfl (And.intro rfl trivial)) (ih2 v24 H23 hI hlt)
        · replace h := h.2 c
          refine g_aload_n (q := 0) (i := 0) (by decide +kernel) rfl rfl ?_
          refine g_iload_n (q := 1) (i := 1) (by decide +kernel) rfl rfl ?_
          refine g_iload_n (q := 2) (i := 2) (by decide +kernel) rfl rfl ?_
          refine g_callV (kd := 6) (ix := 0) (ci := 5) (N := 6) (T := xT_Tape) (vs := [vi z3, vi r6]) (st := [vi (H12 6 0 5), vr 10 0]) (by decide +kernel) xm_Tape_numberAt kw_411 kw_413 kw_2 (by decide) rfl rfl rfl rfl (Nat.le_of_ble_eq_true rfl) (Nat.le_of_ble_eq_true rfl) h (fun vH25 H25 hq => ?_)
          obtain ⟨r26, rfl, h⟩ := hq
          refine g_goto (off := 9) (tgt := 86) (by decide +kernel) (by decide) ?_
          obtain ⟨hin, h⟩ := h
          refine g_iast (by decide +kernel) (by decide) rfl hin ?_
          refine g_aload_n (q := 0) (i := 0) (by decide +kernel) rfl rfl ?_
          refine g_get (C := "ThreePoints$Tape") (T := xT_Tape) (N := 6) (ci := 5) (k := 2) (v := vr 8 0) (by decide +kernel) (by decide) rfl rfl xi_Tape (by decide) kw_190 rfl ?_
          refine g_aload_n (q := 0) (i := 0) (by decide +kernel) rfl rfl ?_
          refine g_heap (fun H27 eH27 => ?_)
          replace h := h H27 eH27
          refine g_get (C := "ThreePoints$Tape") (T := xT_Tape) (N := 6) (ci := 5) (k := 5) (v := vi (H27 6 0 5)) (by decide +kernel) (by decide) rfl rfl xi_Tape (by decide) kw_193 rfl ?_
          refine g_aload_n (q := 0) (i := 0) (by decide +kernel) rfl rfl ?_
          refine g_iload_n (q := 1) (i := 1) (by decide +kernel) rfl rfl ?_
          refine g_iload_n (q := 2) (i := 2) (by decide +kernel) rfl rfl ?_
          refine g_callV (kd := 6) (ix := 0) (ci := 5) (N := 6) (T := xT_Tape) (vs := [vi z3, vi r6]) (st := [vi (H27 6 0 5), vr 8 0]) (by decide +kernel) xm_Tape_kindAt kw_429 kw_431 kw_5 (by decide) rfl rfl rfl rfl (Nat.le_of_ble_eq_true rfl) (Nat.le_of_ble_eq_true rfl) h (fun vH28 H28 hq => ?_)
          obtain ⟨r29, rfl, h⟩ := hq
          obtain ⟨hin, h⟩ := h
          refine g_iast (by decide +kernel) (by decide) rfl hin ?_
          refine g_aload_n (q := 0) (i := 0) (by decide +kernel) rfl rfl ?_
          refine g_dup (by decide +kernel) rfl ?_
          refine g_heap (fun H30 eH30 => ?_)
          replace h := h H30 eH30
          refine g_get (C := "ThreePoints$Tape") (T := xT_Tape) (N := 6) (ci := 5) (k := 5) (v := vi (H30 6 0 5)) (by decide +kernel) (by decide) rfl rfl xi_Tape (by decide) kw_193 rfl ?_
          refine g_iconst (n := 1) (v := 1) (by decide +kernel) (by decide) ?_
          refine g_iadd (by decide +kernel) ?_
          refine g_put (C := "ThreePoints$Tape") (T := xT_Tape) (N := 6) (ci := 5) (k := 5) xy_Tape (by decide +kernel) (by decide) rfl rfl xi_Tape xy_Tape_ok xn_Tape (by decide) kw_193 rfl (by decide +kernel) (fun _ => rfl) ?_
          refine g_iload_n (q := 2) (i := 2) (by decide +kernel) rfl rfl ?_
          refine g_iload_n (q := 1) (i := 1) (by decide +kernel) rfl rfl ?_
          refine g_iconst (n := 1) (v := 1) (by decide +kernel) (by decide) ?_
          refine g_iadd (by decide +kernel) ?_
          refine g_heap (fun H31 eH31 => ?_)
          replace h := h H31 eH31
          refine g_mmax (by decide +kernel) kw_503 kw_460 kw_79 kw_461 (Nat.le_of_ble_eq_true rfl) ?_
          refine g_topi (fun v32 ev32 => ?_)
          replace h := h v32 ev32
          refine g_istore_n (q := 1) (i := 1) (ls2 := [some (vr 6 0), some (vi v32), some (vi r6)]) (by decide +kernel) rfl (by decide) rfl rfl ?_
          refine g_goto (off := (-113)) (tgt := 7) (by decide +kernel) (by decide) ?_
          obtain ⟨hI, hlt⟩ := h
          exact g_drop (ls2 := [some (vr 6 0), some (vi v32), none]) (And.intro rfl (And.intro rfl trivial)) (ih2 v32 H31 hI hlt)
def p_Tape_kindOf (E : XE) (d : Nat) (x1 : Int32) (H : HH) (Q : Int32 → HH → Prop) : Prop := (x1 < 0 → (Q 264 H)) ∧ (¬ x1 < 0 → (((H 6 0 5) ≤ x1 → (Q 264 H)) ∧ (¬ (H 6 0 5) ≤ x1 → ((160 ≤ x1 → (Q 264 H)) ∧ (¬ 160 ≤ x1 → (vp_in x1 160 ∧ (Q (H 8 0 (x1.toNatClampNeg)) H)))))))
set_option maxHeartbeats 4000000 in
theorem l_Tape_kindOf {E : XE} {d : Nat} {x1 : Int32} {H : HH} {Q : Int32 → HH → Prop} (h : p_Tape_kindOf E d x1 H Q) : c_Tape_kindOf E d x1 H Q := by
  show g_Tape_kindOf E d 0 (xent [vr 6 0, vi x1]) [] H (qi Q)
  refine g_drop (ls2 := [some (vr 6 0), some (vi x1)]) (And.intro rfl (And.intro rfl trivial)) ?_
  refine g_iload_n (q := 1) (i := 1) (by decide +kernel) rfl rfl ?_
  refine g_if_lt (off := 27) (tgt := 28) (by decide +kernel) (by decide) (fun c => ?_) (fun c => ?_)
  · replace h := h.1 c
    refine g_sipush (n := 264) (v := 264) (by decide +kernel) (by decide) ?_
    exact g_iret (by decide +kernel) rfl ⟨_, rfl, h⟩
  · replace h := h.2 c
    refine g_iload_n (q := 1) (i := 1) (by decide +kernel) rfl rfl ?_
    refine g_aload_n (q := 0) (i := 0) (by decide +kernel) rfl rfl ?_
    refine g_get (C := "ThreePoints$Tape") (T := xT_Tape) (N := 6) (ci := 5) (k := 5) (v := vi (H 6 0 5)) (by decide +kernel) (by decide) rfl rfl xi_Tape (by decide) kw_193 rfl ?_
    refine g_icmp_ge (off := 19) (tgt := 28) (by decide +kernel) (by decide) (fun c => ?_) (fun c => ?_)
    · replace h := h.1 c
      refine g_sipush (n := 264) (v := 264) (by decide +kernel) (by decide) ?_
      exact g_iret (by decide +kernel) rfl ⟨_, rfl, h⟩
    · replace h := h.2 c
      refine g_iload_n (q := 1) (i := 1) (by decide +kernel) rfl rfl ?_
      refine g_sipush (n := 160) (v := 160) (by decide +kernel) (by decide) ?_
      refine g_icmp_ge (off := 12) (tgt := 28) (by decide +kernel) (by decide) (fun c => ?_) (fun c => ?_)
      · replace h := h.1 c
        refine g_sipush (n := 264) (v := 264) (by decide +kernel) (by decide) ?_
        exact g_iret (by decide +kernel) rfl ⟨_, rfl, h⟩
      · replace h := h.2 c
        refine g_aload_n (q := 0) (i := 0) (by decide +kernel) rfl rfl ?_
        refine g_get (C := "ThreePoints$Tape") (T := xT_Tape) (N := 6) (ci := 5) (k := 2) (v := vr 8 0) (by decide +kernel) (by decide) rfl rfl xi_Tape (by decide) kw_190 rfl ?_
        refine g_iload_n (q := 1) (i := 1) (by decide +kernel) rfl rfl ?_
        obtain ⟨hin, h⟩ := h
        refine g_iald (by decide +kernel) (by decide) rfl hin ?_
        refine g_goto (off := 6) (tgt := 31) (by decide +kernel) (by decide) ?_
        exact g_iret (by decide +kernel) rfl ⟨_, rfl, h⟩
def p_Reader_goTo (E : XE) (d : Nat) (x1 : Int32) (H : HH) (Q : HH → Prop) : Prop := ∀ H1 : HH, H1 = (hu H 5 0 2 x1) → (c_Tape_kindOf E d x1 H1 (fun r3 H2 => ∀ H4 : HH, H4 = (hu H2 5 0 3 r3) → (Q H4)))
set_option maxHeartbeats 4000000 in
theorem l_Reader_goTo {E : XE} {d : Nat} {x1 : Int32} {H : HH} {Q : HH → Prop} (h : p_Reader_goTo E d x1 H Q) : c_Reader_goTo E (d + 1) x1 H Q := by
  show g_Reader_goTo E (d + 1) 0 (xent [vr 5 0, vi x1]) [] H (qv Q)
  refine g_drop (ls2 := [some (vr 5 0), some (vi x1)]) (And.intro rfl (And.intro rfl trivial)) ?_
  refine g_aload_n (q := 0) (i := 0) (by decide +kernel) rfl rfl ?_
  refine g_iload_n (q := 1) (i := 1) (by decide +kernel) rfl rfl ?_
  refine g_put (C := "ThreePoints$Reader") (T := xT_Reader) (N := 5) (ci := 4) (k := 2) xy_Reader (by decide +kernel) (by decide) rfl rfl xi_Reader xy_Reader_ok xn_Reader (by decide) kw_231 rfl (by decide +kernel) (fun _ => rfl) ?_
  refine g_aload_n (q := 0) (i := 0) (by decide +kernel) rfl rfl ?_
  refine g_aload_n (q := 0) (i := 0) (by decide +kernel) rfl rfl ?_
  refine g_get (C := "ThreePoints$Reader") (T := xT_Reader) (N := 5) (ci := 4) (k := 0) (v := vr 6 0) (by decide +kernel) (by decide) rfl rfl xi_Reader (by decide) kw_227 rfl ?_
  refine g_iload_n (q := 1) (i := 1) (by decide +kernel) rfl rfl ?_
  refine g_heap (fun H1 eH1 => ?_)
  replace h := h H1 eH1
  refine g_callV (kd := 6) (ix := 0) (ci := 5) (N := 6) (T := xT_Tape) (vs := [vi x1]) (st := [vr 5 0]) (by decide +kernel) xm_Tape_kindOf kw_515 kw_516 kw_517 (by decide) rfl rfl rfl rfl (Nat.le_of_ble_eq_true rfl) (Nat.le_of_ble_eq_true rfl) h (fun vH2 H2 hq => ?_)
  obtain ⟨r3, rfl, h⟩ := hq
  refine g_put (C := "ThreePoints$Reader") (T := xT_Reader) (N := 5) (ci := 4) (k := 3) xy_Reader (by decide +kernel) (by decide) rfl rfl xi_Reader xy_Reader_ok xn_Reader (by decide) kw_232 rfl (by decide +kernel) (fun _ => rfl) ?_
  refine g_heap (fun H4 eH4 => ?_)
  replace h := h H4 eH4
  exact g_vret (by decide +kernel) rfl h
def p_Tape_valueOf (E : XE) (d : Nat) (x1 : Int32) (H : HH) (Q : Int32 → HH → Prop) : Prop := (x1 < 0 → (Q 0 H)) ∧ (¬ x1 < 0 → (((H 6 0 5) ≤ x1 → (Q 0 H)) ∧ (¬ (H 6 0 5) ≤ x1 → ((160 ≤ x1 → (Q 0 H)) ∧ (¬ 160 ≤ x1 → (vp_in x1 160 ∧ (Q (H 10 0 (x1.toNatClampNeg)) H)))))))
set_option maxHeartbeats 4000000 in
theorem l_Tape_valueOf {E : XE} {d : Nat} {x1 : Int32} {H : HH} {Q : Int32 → HH → Prop} (h : p_Tape_valueOf E d x1 H Q) : c_Tape_valueOf E d x1 H Q := by
  show g_Tape_valueOf E d 0 (xent [vr 6 0, vi x1]) [] H (qi Q)
  refine g_drop (ls2 := [some (vr 6 0), some (vi x1)]) (And.intro rfl (And.intro rfl trivial)) ?_
  refine g_iload_n (q := 1) (i := 1) (by decide +kernel) rfl rfl ?_
  refine g_if_lt (off := 27) (tgt := 28) (by decide +kernel) (by decide) (fun c => ?_) (fun c => ?_)
  · replace h := h.1 c
    refine g_iconst (n := 0) (v := 0) (by decide +kernel) (by decide) ?_
    exact g_iret (by decide +kernel) rfl ⟨_, rfl, h⟩
  · replace h := h.2 c
    refine g_iload_n (q := 1) (i := 1) (by decide +kernel) rfl rfl ?_
    refine g_aload_n (q := 0) (i := 0) (by decide +kernel) rfl rfl ?_
    refine g_get (C := "ThreePoints$Tape") (T := xT_Tape) (N := 6) (ci := 5) (k := 5) (v := vi (H 6 0 5)) (by decide +kernel) (by decide) rfl rfl xi_Tape (by decide) kw_193 rfl ?_
    refine g_icmp_ge (off := 19) (tgt := 28) (by decide +kernel) (by decide) (fun c => ?_) (fun c => ?_)
    · replace h := h.1 c
      refine g_iconst (n := 0) (v := 0) (by decide +kernel) (by decide) ?_
      exact g_iret (by decide +kernel) rfl ⟨_, rfl, h⟩
    · replace h := h.2 c
      refine g_iload_n (q := 1) (i := 1) (by decide +kernel) rfl rfl ?_
      refine g_sipush (n := 160) (v := 160) (by decide +kernel) (by decide) ?_
      refine g_icmp_ge (off := 12) (tgt := 28) (by decide +kernel) (by decide) (fun c => ?_) (fun c => ?_)
      · replace h := h.1 c
        refine g_iconst (n := 0) (v := 0) (by decide +kernel) (by decide) ?_
        exact g_iret (by decide +kernel) rfl ⟨_, rfl, h⟩
      · replace h := h.2 c
        refine g_aload_n (q := 0) (i := 0) (by decide +kernel) rfl rfl ?_
        refine g_get (C := "ThreePoints$Tape") (T := xT_Tape) (N := 6) (ci := 5) (k := 4) (v := vr 10 0) (by decide +kernel) (by decide) rfl rfl xi_Tape (by decide) kw_192 rfl ?_
        refine g_iload_n (q := 1) (i := 1) (by decide +kernel) rfl rfl ?_
        obtain ⟨hin, h⟩ := h
        refine g_iald (by decide +kernel) (by decide) rfl hin ?_
        refine g_goto (off := 4) (tgt := 29) (by decide +kernel) (by decide) ?_
        exact g_iret (by decide +kernel) rfl ⟨_, rfl, h⟩
def p_Reader_mayOpen (E : XE) (d : Nat)  (H : HH) (Q : Int32 → HH → Prop) : Prop := ((H 5 0 4) < 5 → (∀ H1 : HH, H1 = (hu H 5 0 4 ((H 5 0 4) + 1)) → (c_Reader_goTo E d ((H1 5 0 2) + 1) H1 (fun H2 => Q 1 H2)))) ∧ (¬ (H 5 0 4) < 5 → (Q 0 H))
set_option maxHeartbeats 4000000 in
theorem l_Reader_mayOpen {E : XE} {d : Nat}  {H : HH} {Q : Int32 → HH → Prop} (h : p_Reader_mayOpen E d  H Q) : c_Reader_mayOpen E (d + 1)  H Q := by
  show g_Reader_mayOpen E (d + 1) 0 (xent [vr 5 0]) [] H (qi Q)
  refine g_drop (ls2 := [some (vr 5 0)]) (And.intro rfl trivial) ?_
  refine g_aload_n (q := 0) (i := 0) (by decide +kernel) rfl rfl ?_
  refine g_get (C := "ThreePoints$Reader") (T := xT_Reader) (N := 5) (ci := 4) (k := 4) (v := vi (H 5 0 4)) (by decide +kernel) (by decide) rfl rfl xi_Reader (by decide) kw_233 rfl ?_
  refine g_iconst (n := 5) (v := 5) (by decide +kernel) (by decide) ?_
  refine g_icmp_lt (off := 5) (tgt := 10) (by decide +kernel) (by decide) (fun c => ?_) (fun c => ?_)
  · replace h := h.1 c
    refine g_aload_n (q := 0) (i := 0) (by decide +kernel) rfl rfl ?_
    refine g_dup (by decide +kernel) rfl ?_
    refine g_get (C := "ThreePoints$Reader") (T := xT_Reader) (N := 5) (ci := 4) (k := 4) (v := vi (H 5 0 4)) (by decide +kernel) (by decide) rfl rfl xi_Reader (by decide) kw_233 rfl ?_
    refine g_iconst (n := 1) (v := 1) (by decide +kernel) (by decide) ?_
    refine g_iadd (by decide +kernel) ?_
    refine g_put (C := "ThreePoints$Reader") (T := xT_Reader) (N := 5) (ci := 4) (k := 4) xy_Reader (by decide +kernel) (by decide) rfl rfl xi_Reader xy_Reader_ok xn_Reader (by decide) kw_233 rfl (by decide +kernel) (fun _ => rfl) ?_
    refine g_aload_n (q := 0) (i := 0) (by decide +kernel) rfl rfl ?_
    refine g_aload_n (q := 0) (i := 0) (by decide +kernel) rfl rfl ?_
    refine g_heap (fun H1 eH1 => ?_)
    replace h := h H1 eH1
    refine g_get (C := "ThreePoints$Reader") (T := xT_Reader) (N := 5) (ci := 4) (k := 2) (v := vi (H1 5 0 2)) (by decide +kernel) (by decide) rfl rfl xi_Reader (by decide) kw_231 rfl ?_
    refine g_iconst (n := 1) (v := 1) (by decide +kernel) (by decide) ?_
    refine g_iadd (by decide +kernel) ?_
    refine g_callV (kd := 5) (ix := 0) (ci := 4) (N := 5) (T := xT_Reader) (vs := [vi ((H1 5 0 2) + 1)]) (st := []) (by decide +kernel) xm_Reader_goTo kw_511 kw_513 kw_7 (by decide) rfl rfl rfl rfl (Nat.le_of_ble_eq_true rfl) (Nat.le_of_ble_eq_true rfl) h (fun vH2 H2 hq => ?_)
    replace h := hq
    refine g_iconst (n := 1) (v := 1) (by decide +kernel) (by decide) ?_
    exact g_zret (by decide +kernel) rfl rfl ⟨_, rfl, h⟩
  · replace h := h.2 c
    refine g_iconst (n := 0) (v := 0) (by decide +kernel) (by decide) ?_
    exact g_zret (by decide +kernel) rfl rfl ⟨_, rfl, h⟩
def p_Reader_readOne (E : XE) (d : Nat)  (H : HH) (Q : Int32 → HH → Prop) : Prop := ((H 5 0 3) = 263 → ((¬ (H 5 0 3) = 262 → (c_Tape_valueOf E d (H 5 0 2) H (fun r2 H1 => c_Text_put E d 6 r2 H1 (fun H3 => c_Reader_goTo E d ((H3 5 0 2) + 1) H3 (fun H4 => Q 1 H4))))) ∧ ((H 5 0 3) = 262 → (c_Tape_valueOf E d (H 5 0 2) H (fun r6 H5 => c_Text_put E d 6 (10000 + r6) H5 (fun H7 => c_Reader_goTo E d ((H7 5 0 2) + 1) H7 (fun H8 => Q 1 H8))))))) ∧ (¬ (H 5 0 3) = 263 → ((¬ (H 5 0 3) = 262 → ((¬ (H 5 0 3) = 45 → ((¬ (H 5 0 3) = 40 → (Q 0 H)) ∧ ((H 5 0 3) = 40 → (c_Reader_mayOpen E d  H (fun r10 H9 => (r10 = 0 → (Q 0 H9)) ∧ (¬ r10 = 0 → (c_Reader_readOr E d  H9 (fun r12 H11 => (r12 = 0 → (Q 0 H11)) ∧ (¬ r12 = 0 → (((H11 5 0 3) = 41 → (∀ H13 : HH, H13 = (hu H11 5 0 4 ((H11 5 0 4) - 1)) → (c_Reader_goTo E d ((H13 5 0 2) + 1) H13 (fun H14 => Q 1 H14)))) ∧ (¬ (H11 5 0 3) = 41 → (Q 0 H11)))))))))))) ∧ ((H 5 0 3) = 45 → (c_Reader_mayOpen E d  H (fun r16 H15 => (r16 = 0 → (Q 0 H15)) ∧ (¬ r16 = 0 → (c_Reader_readOne E d  H15 (fun r18 H17 => (¬ r18 = 0 → (∀ H19 : HH, H19 = (hu H17 5 0 4 ((H17 5 0 4) - 1)) → (c_Text_put E d 6 20008 H19 (fun H20 => Q 1 H20)))) ∧ (r18 = 0 → (Q 0 H17)))))))))) ∧ ((H 5 0 3) = 262 → ((¬ (H 5 0 3) = 262 → (c_Tape_valueOf E d (H 5 0 2) H (fun r22 H21 => c_Text_put E d 6 r22 H21 (fun H23 => c_Reader_goTo E d ((H23 5 0 2) + 1) H23 (fun H24 => Q 1 H24))))) ∧ ((H 5 0 3) = 262 → (c_Tape_valueOf E d (H 5 0 2) H (fun r26 H25 => c_Text_put E d 6 (10000 + r26) H25 (fun H27 => c_Reader_goTo E d ((H27 5 0 2) + 1) H27 (fun H28 => Q 1 H28)))))))))
set_option maxHeartbeats 4000000 in
theorem l_Reader_readOne {E : XE} {d : Nat}  {H : HH} {Q : Int32 → HH → Prop} (h : p_Reader_readOne E d  H Q) : c_Reader_readOne E (d + 1)  H Q := by
  show g_Reader_readOne E (d + 1) 0 (xent [vr 5 0]) [] H (qi Q)
  refine g_drop (ls2 := [some (vr 5 0)]) (And.intro rfl trivial) ?_
  refine g_aload_n (q := 0) (i := 0) (by decide +kernel) rfl rfl ?_
  refine g_get (C := "ThreePoints$Reader") (T := xT_Reader) (N := 5) (ci := 4) (k := 3) (v := vi (H 5 0 3)) (by decide +kernel) (by decide) rfl rfl xi_Reader (by decide) kw_232 rfl ?_
  refine g_sipush (n := 263) (v := 263) (by decide +kernel) (by decide) ?_
  refine g_icmp_eq (off := 13) (tgt := 20) (by decide +kernel) (by decide) (fun c => ?_) (fun c => ?_)
  · replace h := h.1 c
    refine g_aload_n (q := 0) (i := 0) (by decide +kernel) rfl rfl ?_
    refine g_get (C := "ThreePoints$Reader") (T := xT_Reader) (N := 5) (ci := 4) (k := 1) (v := vr 11 6) (by decide +kernel) (by decide) rfl rfl xi_Reader (by decide) kw_229 rfl ?_
    refine g_aload_n (q := 0) (i := 0) (by decide +kernel) rfl rfl ?_
    refine g_get (C := "ThreePoints$Reader") (T := xT_Reader) (N := 5) (ci := 4) (k := 3) (v := vi (H 5 0 3)) (by decide +kernel) (by decide) rfl rfl xi_Reader (by decide) kw_232 rfl ?_
    refine g_sipush (n := 262) (v := 262) (by decide +kernel) (by decide) ?_
    refine g_icmp_ne (off := 21) (tgt := 52) (by decide +kernel) (by decide) (fun c => ?_) (fun c => ?_)
    · replace h := h.1 c
      refine g_aload_n (q := 0) (i := 0) (by decide +kernel) rfl rfl ?_
      refine g_get (C := "ThreePoints$Reader") (T := xT_Reader) (N := 5) (ci := 4) (k := 0) (v := vr 6 0) (by decide +kernel) (by decide) rfl rfl xi_Reader (by decide) kw_227 rfl ?_
      refine g_aload_n (q := 0) (i := 0) (by decide +kernel) rfl rfl ?_
      refine g_get (C := "ThreePoints$Reader") (T := xT_Reader) (N := 5) (ci := 4) (k := 2) (v := vi (H 5 0 2)) (by decide +kernel) (by decide) rfl rfl xi_Reader (by decide) kw_231 rfl ?_
      refine g_callV (kd := 6) (ix := 0) (ci := 5) (N := 6) (T := xT_Tape) (vs := [vi (H 5 0 2)]) (st := [vr 11 6]) (by decide +kernel) xm_Tape_valueOf kw_551 kw_552 kw_553 (by decide) rfl rfl rfl rfl (Nat.le_of_ble_eq_true rfl) (Nat.le_of_ble_eq_true rfl) h (fun vH1 H1 hq => ?_)
      obtain ⟨r2, rfl, h⟩ := hq
      refine g_callV (kd := 11) (ix := 6) (ci := 6) (N := 4) (T := xT_Text) (vs := [vi r2]) (st := []) (by decide +kernel) xm_Text_put kw_555 kw_556 kw_557 (by decide) rfl rfl rfl rfl (Nat.le_of_ble_eq_true rfl) (Nat.le_of_ble_eq_true rfl) h (fun vH3 H3 hq => ?_)
      replace h := hq
      refine g_aload_n (q := 0) (i := 0) (by decide +kernel) rfl rfl ?_
      refine g_aload_n (q := 0) (i := 0) (by decide +kernel) rfl rfl ?_
      refine g_get (C := "ThreePoints$Reader") (T := xT_Reader) (N := 5) (ci := 4) (k := 2) (v := vi (H3 5 0 2)) (by decide +kernel) (by decide) rfl rfl xi_Reader (by decide) kw_231 rfl ?_
      refine g_iconst (n := 1) (v := 1) (by decide +kernel) (by decide) ?_
      refine g_iadd (by decide +kernel) ?_
      refine g_callV (kd := 5) (ix := 0) (ci := 4) (N := 5) (T := xT_Reader) (vs := [vi ((H3 5 0 2) + 1)]) (st := []) (by decide +kernel) xm_Reader_goTo kw_511 kw_513 kw_7 (by decide) rfl rfl rfl rfl (Nat.le_of_ble_eq_true rfl) (Nat.le_of_ble_eq_true rfl) h (fun vH4 H4 hq => ?_)
      replace h := hq
      refine g_iconst (n := 1) (v := 1) (by decide +kernel) (by decide) ?_
      exact g_zret (by decide +kernel) rfl rfl ⟨_, rfl, h⟩
    · replace h := h.2 c
      refine g_sipush (n := 10000) (v := 10000) (by decide +kernel) (by decide) ?_
      refine g_aload_n (q := 0) (i := 0) (by decide +kernel) rfl rfl ?_
      refine g_get (C := "ThreePoints$Reader") (T := xT_Reader) (N := 5) (ci := 4) (k := 0) (v := vr 6 0) (by decide +kernel) (by decide) rfl rfl xi_Reader (by decide) kw_227 rfl ?_
      refine g_aload_n (q := 0) (i := 0) (by decide +kernel) rfl rfl ?_
      refine g_get (C := "ThreePoints$Reader") (T := xT_Reader) (N := 5) (ci := 4) (k := 2) (v := vi (H 5 0 2)) (by decide +kernel) (by decide) rfl rfl xi_Reader (by decide) kw_231 rfl ?_
      refine g_callV (kd := 6) (ix := 0) (ci := 5) (N := 6) (T := xT_Tape) (vs := [vi (H 5 0 2)]) (st := [vi 10000, vr 11 6]) (by decide +kernel) xm_Tape_valueOf kw_551 kw_552 kw_553 (by decide) rfl rfl rfl rfl (Nat.le_of_ble_eq_true rfl) (Nat.le_of_ble_eq_true rfl) h (fun vH5 H5 hq => ?_)
      obtain ⟨r6, rfl, h⟩ := hq
      refine g_iadd (by decide +kernel) ?_
      refine g_goto (off := 14) (tgt := 63) (by decide +kernel) (by decide) ?_
      refine g_callV (kd := 11) (ix := 6) (ci := 6) (N := 4) (T := xT_Text) (vs := [vi (10000 + r6)]) (st := []) (by decide +kernel) xm_Text_put kw_555 kw_556 kw_557 (by decide) rfl rfl rfl rfl (Nat.le_of_ble_eq_true rfl) (Nat.le_of_ble_eq_true rfl) h (fun vH7 H7 hq => ?_)
      replace h := hq
      refine g_aload_n (q := 0) (i := 0) (by decide +kernel) rfl rfl ?_
      refine g_aload_n (q := 0) (i := 0) (by decide +kernel) rfl rfl ?_
      refine g_get (C := "ThreePoints$Reader") (T := xT_Reader) (N := 5) (ci := 4) (k := 2) (v := vi (H7 5 0 2)) (by decide +kernel) (by decide) rfl rfl xi_Reader (by decide) kw_231 rfl ?_
      refine g_iconst (n := 1) (v := 1) (by decide +kernel) (by decide) ?_
      refine g_iadd (by decide +kernel) ?_
      refine g_callV (kd := 5) (ix := 0) (ci := 4) (N := 5) (T := xT_Reader) (vs := [vi ((H7 5 0 2) + 1)]) (st := []) (by decide +kernel) xm_Reader_goTo kw_511 kw_513 kw_7 (by decide) rfl rfl rfl rfl (Nat.le_of_ble_eq_true rfl) (Nat.le_of_ble_eq_true rfl) h (fun vH8 H8 hq => ?_)
      replace h := hq
      refine g_iconst (n := 1) (v := 1) (by decide +kernel) (by decide) ?_
      exact g_zret (by decide +kernel) rfl rfl ⟨_, rfl, h⟩
  · replace h := h.2 c
    refine g_aload_n (q := 0) (i := 0) (by decide +kernel) rfl rfl ?_
    refine g_get (C := "ThreePoints$Reader") (T := xT_Reader) (N := 5) (ci := 4) (k := 3) (v := vi (H 5 0 3)) (by decide +kernel) (by decide) rfl rfl xi_Reader (by decide) kw_232 rfl ?_
    refine g_sipush (n := 262) (v := 262) (by decide +kernel) (by decide) ?_
    refine g_icmp_ne (off := 61) (tgt := 78) (by decide +kernel) (by decide) (fun c => ?_) (fun c => ?_)
    · replace h := h.1 c
      refine g_aload_n (q := 0) (i := 0) (by decide +kernel) rfl rfl ?_
      refine g_get (C := "ThreePoints$Reader") (T := xT_Reader) (N := 5) (ci := 4) (k := 3) (v := vi (H 5 0 3)) (by decide +kernel) (by decide) rfl rfl xi_Reader (by decide) kw_232 rfl ?_
      refine g_bipush (n := 45) (v := 45) (by decide +kernel) (by decide) ?_
      refine g_icmp_ne (off := 41) (tgt := 125) (by decide +kernel) (by decide) (fun c => ?_) (fun c => ?_)
      · replace h := h.1 c
        refine g_aload_n (q := 0) (i := 0) (by decide +kernel) rfl rfl ?_
        refine g_get (C := "ThreePoints$Reader") (T := xT_Reader) (N := 5) (ci := 4) (k := 3) (v := vi (H 5 0 3)) (by decide +kernel) (by decide) rfl rfl xi_Reader (by decide) kw_232 rfl ?_
        refine g_bipush (n := 40) (v := 40) (by decide +kernel) (by decide) ?_
        refine g_icmp_ne (off := 26) (tgt := 157) (by decide +kernel) (by decide) (fun c => ?_) (fun c => ?_)
        · replace h := h.1 c
          refine g_iconst (n := 0) (v := 0) (by decide +kernel) (by decide) ?_
          exact g_zret (by decide +kernel) rfl rfl ⟨_, rfl, h⟩
        · replace h := h.2 c
          refine g_aload_n (q := 0) (i := 0) (by decide +kernel) rfl rfl ?_
          refine g_callV (kd := 5) (ix := 0) (ci := 4) (N := 5) (T := xT_Reader) (vs := []) (st := []) (by decide +kernel) xm_Reader_mayOpen kw_559 kw_561 kw_16 (by decide) rfl rfl rfl rfl (Nat.le_of_ble_eq_true rfl) (Nat.le_of_ble_eq_true rfl) h (fun vH9 H9 hq => ?_)
          obtain ⟨r10, rfl, h⟩ := hq
          refine g_if_eq (off := 19) (tgt := 157) (by decide +kernel) (by decide) (fun c => ?_) (fun c => ?_)
          · replace h := h.1 c
            refine g_iconst (n := 0) (v := 0) (by decide +kernel) (by decide) ?_
            exact g_zret (by decide +kernel) rfl rfl ⟨_, rfl, h⟩
          · replace h := h.2 c
            refine g_aload_n (q := 0) (i := 0) (by decide +kernel) rfl rfl ?_
            refine g_callV (kd := 5) (ix := 0) (ci := 4) (N := 5) (T := xT_Reader) (vs := []) (st := []) (by decide +kernel) xm_Reader_readOr kw_523 kw_525 kw_9 (by decide) rfl rfl rfl rfl (Nat.le_of_ble_eq_true rfl) (Nat.le_of_ble_eq_true rfl) h (fun vH11 H11 hq => ?_)
            obtain ⟨r12, rfl, h⟩ := hq
            refine g_if_eq (off := 12) (tgt := 157) (by decide +kernel) (by decide) (fun c => ?_) (fun c => ?_)
            · replace h := h.1 c
              refine g_iconst (n := 0) (v := 0) (by decide +kernel) (by decide) ?_
              exact g_zret (by decide +kernel) rfl rfl ⟨_, rfl, h⟩
            · replace h := h.2 c
              refine g_aload_n (q := 0) (i := 0) (by decide +kernel) rfl rfl ?_
              refine g_get (C := "ThreePoints$Reader") (T := xT_Reader) (N := 5) (ci := 4) (k := 3) (v := vi (H11 5 0 3)) (by decide +kernel) (by decide) rfl rfl xi_Reader (by decide) kw_232 rfl ?_
              refine g_bipush (n := 41) (v := 41) (by decide +kernel) (by decide) ?_
              refine g_icmp_eq (off := 5) (tgt := 159) (by decide +kernel) (by decide) (fun c => ?_) (fun c => ?_)
              · replace h := h.1 c
                refine g_aload_n (q := 0) (i := 0) (by decide +kernel) rfl rfl ?_
                refine g_dup (by decide +kernel) rfl ?_
                refine g_get (C := "ThreePoints$Reader") (T := xT_Reader) (N := 5) (ci := 4) (k := 4) (v := vi (H11 5 0 4)) (by decide +kernel) (by decide) rfl rfl xi_Reader (by decide) kw_233 rfl ?_
                refine g_iconst (n := 1) (v := 1) (by decide +kernel) (by decide) ?_
                refine g_isub (by decide +kernel) ?_
                refine g_put (C := "ThreePoints$Reader") (T := xT_Reader) (N := 5) (ci := 4) (k := 4) xy_Reader (by decide +kernel) (by decide) rfl rfl xi_Reader xy_Reader_ok xn_Reader (by decide) kw_233 rfl (by decide +kernel) (fun _ => rfl) ?_
                refine g_aload_n (q := 0) (i := 0) (by decide +kernel) rfl rfl ?_
                refine g_aload_n (q := 0) (i := 0) (by decide +kernel) rfl rfl ?_
                refine g_heap (fun H13 eH13 => ?_)
                replace h := h H13 eH13
                refine g_get (C := "ThreePoints$Reader") (T := xT_Reader) (N := 5) (ci := 4) (k := 2) (v := vi (H13 5 0 2)) (by decide +kernel) (by decide) rfl rfl xi_Reader (by decide) kw_231 rfl ?_
                refine g_iconst (n := 1) (v := 1) (by decide +kernel) (by decide) ?_
                refine g_iadd (by decide +kernel) ?_
                refine g_callV (kd := 5) (ix := 0) (ci := 4) (N := 5) (T := xT_Reader) (vs := [vi ((H13 5 0 2) + 1)]) (st := []) (by decide +kernel) xm_Reader_goTo kw_511 kw_513 kw_7 (by decide) rfl rfl rfl rfl (Nat.le_of_ble_eq_true rfl) (Nat.le_of_ble_eq_true rfl) h (fun vH14 H14 hq => ?_)
                replace h := hq
                refine g_iconst (n := 1) (v := 1) (by decide +kernel) (by decide) ?_
                exact g_zret (by decide +kernel) rfl rfl ⟨_, rfl, h⟩
              · replace h := h.2 c
                refine g_iconst (n := 0) (v := 0) (by decide +kernel) (by decide) ?_
                exact g_zret (by decide +kernel) rfl rfl ⟨_, rfl, h⟩
      · replace h := h.2 c
        refine g_aload_n (q := 0) (i := 0) (by decide +kernel) rfl rfl ?_
        refine g_callV (kd := 5) (ix := 0) (ci := 4) (N := 5) (T := xT_Reader) (vs := []) (st := []) (by decide +kernel) xm_Reader_mayOpen kw_559 kw_561 kw_16 (by decide) rfl rfl rfl rfl (Nat.le_of_ble_eq_true rfl) (Nat.le_of_ble_eq_true rfl) h (fun vH15 H15 hq => ?_)
        obtain ⟨r16, rfl, h⟩ := hq
        refine g_if_eq (off := 10) (tgt := 101) (by decide +kernel) (by decide) (fun c => ?_) (fun c => ?_)
        · replace h := h.1 c
          refine g_iconst (n := 0) (v := 0) (by decide +kernel) (by decide) ?_
          exact g_zret (by decide +kernel) rfl rfl ⟨_, rfl, h⟩
        · replace h := h.2 c
          refine g_aload_n (q := 0) (i := 0) (by decide +kernel) rfl rfl ?_
          refine g_callV (kd := 5) (ix := 0) (ci := 4) (N := 5) (T := xT_Reader) (vs := []) (st := []) (by decide +kernel) xm_Reader_readOne kw_547 kw_549 kw_15 (by decide) rfl rfl rfl rfl (Nat.le_of_ble_eq_true rfl) (Nat.le_of_ble_eq_true rfl) h (fun vH17 H17 hq => ?_)
          obtain ⟨r18, rfl, h⟩ := hq
          refine g_if_ne (off := 5) (tgt := 103) (by decide +kernel) (by decide) (fun c => ?_) (fun c => ?_)
          · replace h := h.1 c
            refine g_aload_n (q := 0) (i := 0) (by decide +kernel) rfl rfl ?_
            refine g_dup (by decide +kernel) rfl ?_
            refine g_get (C := "ThreePoints$Reader") (T := xT_Reader) (N := 5) (ci := 4) (k := 4) (v := vi (H17 5 0 4)) (by decide +kernel) (by decide) rfl rfl xi_Reader (by decide) kw_233 rfl ?_
            refine g_iconst (n := 1) (v := 1) (by decide +kernel) (by decide) ?_
            refine g_isub (by decide +kernel) ?_
            refine g_put (C := "ThreePoints$Reader") (T := xT_Reader) (N := 5) (ci := 4) (k := 4) xy_Reader (by decide +kernel) (by decide) rfl rfl xi_Reader xy_Reader_ok xn_Reader (by decide) kw_233 rfl (by decide +kernel) (fun _ => rfl) ?_
            refine g_aload_n (q := 0) (i := 0) (by decide +kernel) rfl rfl ?_
            refine g_get (C := "ThreePoints$Reader") (T := xT_Reader) (N := 5) (ci := 4) (k := 1) (v := vr 11 6) (by decide +kernel) (by decide) rfl rfl xi_Reader (by decide) kw_229 rfl ?_
            refine g_sipush (n := 20008) (v := 20008) (by decide +kernel) (by decide) ?_
            refine g_heap (fun H19 eH19 => ?_)
            replace h := h H19 eH19
            refine g_callV (kd := 11) (ix := 6) (ci := 6) (N := 4) (T := xT_Text) (vs := [vi 20008]) (st := []) (by decide +kernel) xm_Text_put kw_555 kw_556 kw_557 (by decide) rfl rfl rfl rfl (Nat.le_of_ble_eq_true rfl) (Nat.le_of_ble_eq_true rfl) h (fun vH20 H20 hq => ?_)
            replace h := hq
            refine g_iconst (n := 1) (v := 1) (by decide +kernel) (by decide) ?_
            exact g_zret (by decide +kernel) rfl rfl ⟨_, rfl, h⟩
          · replace h := h.2 c
            refine g_iconst (n := 0) (v := 0) (by decide +kernel) (by decide) ?_
            exact g_zret (by decide +kernel) rfl rfl ⟨_, rfl, h⟩
    · replace h := h.2 c
      refine g_aload_n (q := 0) (i := 0) (by decide +kernel) rfl rfl ?_
      refine g_get (C := "ThreePoints$Reader") (T := xT_Reader) (N := 5) (ci := 4) (k := 1) (v := vr 11 6) (by decide +kernel) (by decide) rfl rfl xi_Reader (by decide) kw_229 rfl ?_
      refine g_aload_n (q := 0) (i := 0) (by decide +kernel) rfl rfl ?_
      refine g_get (C := "ThreePoints$Reader") (T := xT_Reader) (N := 5) (ci := 4) (k := 3) (v := vi (H 5 0 3)) (by decide +kernel) (by decide) rfl rfl xi_Reader (by decide) kw_232 rfl ?_
      refine g_sipush (n := 262) (v := 262) (by decide +kernel) (by decide) ?_
      refine g_icmp_ne (off := 21) (tgt := 52) (by decide +kernel) (by decide) (fun c => ?_) (fun c => ?_)
      · replace h := h.1 c
        refine g_aload_n (q := 0) (i := 0) (by decide +kernel) rfl rfl ?_
        refine g_get (C := "ThreePoints$Reader") (T := xT_Reader) (N := 5) (ci := 4) (k := 0) (v := vr 6 0) (by decide +kernel) (by decide) rfl rfl xi_Reader (by decide) kw_227 rfl ?_
        refine g_aload_n (q := 0) (i := 0) (by decide +kernel) rfl rfl ?_
        refine g_get (C := "ThreePoints$Reader") (T := xT_Reader) (N := 5) (ci := 4) (k := 2) (v := vi (H 5 0 2)) (by decide +kernel) (by decide) rfl rfl xi_Reader (by decide) kw_231 rfl ?_
        refine g_callV (kd := 6) (ix := 0) (ci := 5) (N := 6) (T := xT_Tape) (vs := [vi (H 5 0 2)]) (st := [vr 11 6]) (by decide +kernel) xm_Tape_valueOf kw_551 kw_552 kw_553 (by decide) rfl rfl rfl rfl (Nat.le_of_ble_eq_true rfl) (Nat.le_of_ble_eq_true rfl) h (fun vH21 H21 hq => ?_)
        obtain ⟨r22, rfl, h⟩ := hq
        refine g_callV (kd := 11) (ix := 6) (ci := 6) (N := 4) (T := xT_Text) (vs := [vi r22]) (st := []) (by decide +kernel) xm_Text_put kw_555 kw_556 kw_557 (by decide) rfl rfl rfl rfl (Nat.le_of_ble_eq_true rfl) (Nat.le_of_ble_eq_true rfl) h (fun vH23 H23 hq => ?_)
        replace h := hq
        refine g_aload_n (q := 0) (i := 0) (by decide +kernel) rfl rfl ?_
        refine g_aload_n (q := 0) (i := 0) (by decide +kernel) rfl rfl ?_
        refine g_get (C := "ThreePoints$Reader") (T := xT_Reader) (N := 5) (ci := 4) (k := 2) (v := vi (H23 5 0 2)) (by decide +kernel) (by decide) rfl rfl xi_Reader (by decide) kw_231 rfl ?_
        refine g_iconst (n := 1) (v := 1) (by decide +kernel) (by decide) ?_
        refine g_iadd (by decide +kernel) ?_
        refine g_callV (kd := 5) (ix := 0) (ci := 4) (N := 5) (T := xT_Reader) (vs := [vi ((H23 5 0 2) + 1)]) (st := []) (by decide +kernel) xm_Reader_goTo kw_511 kw_513 kw_7 (by decide) rfl rfl rfl rfl (Nat.le_of_ble_eq_true rfl) (Nat.le_of_ble_eq_true rfl) h (fun vH24 H24 hq => ?_)
        replace h := hq
        refine g_iconst (n := 1) (v := 1) (by decide +kernel) (by decide) ?_
        exact g_zret (by decide +kernel) rfl rfl ⟨_, rfl, h⟩
      · replace h := h.2 c
        refine g_sipush (n := 10000) (v := 10000) (by decide +kernel) (by decide) ?_
        refine g_aload_n (q := 0) (i := 0) (by decide +kernel) rfl rfl ?_
        refine g_get (C := "ThreePoints$Reader") (T := xT_Reader) (N := 5) (ci := 4) (k := 0) (v := vr 6 0) (by decide +kernel) (by decide) rfl rfl xi_Reader (by decide) kw_227 rfl ?_
        refine g_aload_n (q := 0) (i := 0) (by decide +kernel) rfl rfl ?_
        refine g_get (C := "ThreePoints$Reader") (T := xT_Reader) (N := 5) (ci := 4) (k := 2) (v := vi (H 5 0 2)) (by decide +kernel) (by decide) rfl rfl xi_Reader (by decide) kw_231 rfl ?_
        refine g_callV (kd := 6) (ix := 0) (ci := 5) (N := 6) (T := xT_Tape) (vs := [vi (H 5 0 2)]) (st := [vi 10000, vr 11 6]) (by decide +kernel) xm_Tape_valueOf kw_551 kw_552 kw_553 (by decide) rfl rfl rfl rfl (Nat.le_of_ble_eq_true rfl) (Nat.le_of_ble_eq_true rfl) h (fun vH25 H25 hq => ?_)
        obtain ⟨r26, rfl, h⟩ := hq
        refine g_iadd (by decide +kernel) ?_
        refine g_goto (off := 14) (tgt := 63) (by decide +kernel) (by decide) ?_
        refine g_callV (kd := 11) (ix := 6) (ci := 6) (N := 4) (T := xT_Text) (vs := [vi (10000 + r26)]) (st := []) (by decide +kernel) xm_Text_put kw_555 kw_556 kw_557 (by decide) rfl rfl rfl rfl (Nat.le_of_ble_eq_true rfl) (Nat.le_of_ble_eq_true rfl) h (fun vH27 H27 hq => ?_)
        replace h := hq
        refine g_aload_n (q := 0) (i := 0) (by decide +kernel) rfl rfl ?_
        refine g_aload_n (q := 0) (i := 0) (by decide +kernel) rfl rfl ?_
        refine g_get (C := "ThreePoints$Reader") (T := xT_Reader) (N := 5) (ci := 4) (k := 2) (v := vi (H27 5 0 2)) (by decide +kernel) (by decide) rfl rfl xi_Reader (by decide) kw_231 rfl ?_
        refine g_iconst (n := 1) (v := 1) (by decide +kernel) (by decide) ?_
        refine g_iadd (by decide +kernel) ?_
        refine g_callV (kd := 5) (ix := 0) (ci := 4) (N := 5) (T := xT_Reader) (vs := [vi ((H27 5 0 2) + 1)]) (st := []) (by decide +kernel) xm_Reader_goTo kw_511 kw_513 kw_7 (by decide) rfl rfl rfl rfl (Nat.le_of_ble_eq_true rfl) (Nat.le_of_ble_eq_true rfl) h (fun vH28 H28 hq => ?_)
        replace h := hq
        refine g_iconst (n := 1) (v := 1) (by decide +kernel) (by decide) ?_
        exact g_zret (by decide +kernel) rfl rfl ⟨_, rfl, h⟩
def p_Reader_readTerm (E : XE) (d : Nat)  (H : HH) (Q : Int32 → HH → Prop) : Prop := c_Reader_readOne E d  H (fun r2 H1 => (¬ r2 = 0 → (∃ (I3 : Int32 → HH → Prop) (μ3 : Int32 → HH → Nat), I3 160 H1 ∧ ∀ (z4 : Int32) (H5 : HH), I3 z4 H5 → ((z4 ≤ 0 → (Q 1 H5)) ∧ (¬ z4 ≤ 0 → ((¬ (H5 5 0 3) = 42 → (Q 1 H5)) ∧ ((H5 5 0 3) = 42 → (c_Reader_goTo E d ((H5 5 0 2) + 1) H5 (fun H6 => c_Reader_readOne E d  H6 (fun r8 H7 => (¬ r8 = 0 → (c_Text_put E d 6 20007 H7 (fun H9 => I3 (z4 + (-1)) H9 ∧ μ3 (z4 + (-1)) H9 < μ3 z4 H5))) ∧ (r8 = 0 → (Q 0 H7))))))))))) ∧ (r2 = 0 → (Q 0 H1)))
set_option maxHeartbeats 4000000 in
theorem l_Reader_readTerm {E : XE} {d : Nat}  {H : HH} {Q : Int32 → HH → Prop} (h : p_Reader_readTerm E d  H Q) : c_Reader_readTerm E (d + 1)  H Q := by
  show g_Reader_readTerm E (d + 1) 0 (xent [vr 5 0]) [] H (qi Q)
  refine g_drop (ls2 := [some (vr 5 0), none]) (And.intro rfl trivial) ?_
  refine g_aload_n (q := 0) (i := 0) (by decide +kernel) rfl rfl ?_
  refine g_callV (kd := 5) (ix := 0) (ci := 4) (N := 5) (T := xT_Reader) (vs := []) (st := []) (by decide +kernel) xm_Reader_readOne kw_547 kw_549 kw_15 (by decide) rfl rfl rfl rfl (Nat.le_of_ble_eq_true rfl) (Nat.le_of_ble_eq_true rfl) h (fun vH1 H1 hq => ?_)
  obtain ⟨r2, rfl, h⟩ := hq
  refine g_if_ne (off := 5) (tgt := 9) (by decide +kernel) (by decide) (fun c => ?_) (fun c => ?_)
  · replace h := h.1 c
    refine g_sipush (n := 160) (v := 160) (by decide +kernel) (by decide) ?_
    refine g_istore_n (q := 1) (i := 1) (ls2 := [some (vr 5 0), some (vi 160)]) (by decide +kernel) rfl (by decide) rfl rfl ?_
    refine g_drop (ls2 := [some (vr 5 0), some (vi 160)]) (And.intro rfl (And.intro rfl trivial)) ?_
    obtain ⟨I3, μ3, h0, h⟩ := h
    refine xloop (σ := Int32) (fun s H => I3 s H) (fun s H => μ3 s H) (fun s H => g_Reader_readTerm E (d + 1) 13 [some (vr 5 0), some (vi s)] [] H (qi Q)) (fun s H5 hI ih3 => ?_) 160 H1 h0
    obtain ⟨z4, es⟩ : ∃ z, z = s := ⟨s, rfl⟩
    subst es
    replace h := h z4 H5 hI
    refine g_iload_n (q := 1) (i := 1) (by decide +kernel) rfl rfl ?_
    refine g_if_le (off := 47) (tgt := 61) (by decide +kernel) (by decide) (fun c => ?_) (fun c => ?_)
    · replace h := h.1 c
      refine g_iconst (n := 1) (v := 1) (by decide +kernel) (by decide) ?_
      exact g_zret (by decide +kernel) rfl rfl ⟨_, rfl, h⟩
    · replace h := h.2 c
      refine g_aload_n (q := 0) (i := 0) (by decide +kernel) rfl rfl ?_
      refine g_get (C := "ThreePoints$Reader") (T := xT_Reader) (N := 5) (ci := 4) (k := 3) (v := vi (H5 5 0 3)) (by decide +kernel) (by decide) rfl rfl xi_Reader (by decide) kw_232 rfl ?_
      refine g_bipush (n := 42) (v := 42) (by decide +kernel) (by decide) ?_
      refine g_icmp_ne (off := 38) (tgt := 61) (by decide +kernel) (by decide) (fun c => ?_) (fun c => ?_)
      · replace h := h.1 c
        refine g_iconst (n := 1) (v := 1) (by decide +kernel) (by decide) ?_
        exact g_zret (by decide +kernel) rfl rfl ⟨_, rfl, h⟩
      · replace h := h.2 c
        refine g_aload_n (q := 0) (i := 0) (by decide +kernel) rfl rfl ?_
        refine g_aload_n (q := 0) (i := 0) (by decide +kernel) rfl rfl ?_
        refine g_get (C := "ThreePoints$Reader") (T := xT_Reader) (N := 5) (ci := 4) (k := 2) (v := vi (H5 5 0 2)) (by decide +kernel) (by decide) rfl rfl xi_Reader (by decide) kw_231 rfl ?_
        refine g_iconst (n := 1) (v := 1) (by decide +kernel) (by decide) ?_
        refine g_iadd (by decide +kernel) ?_
        refine g_callV (kd := 5) (ix := 0) (ci := 4) (N := 5) (T := xT_Reader) (vs := [vi ((H5 5 0 2) + 1)]) (st := []) (by decide +kernel) xm_Reader_goTo kw_511 kw_513 kw_7 (by decide) rfl rfl rfl rfl (Nat.le_of_ble_eq_true rfl) (Nat.le_of_ble_eq_true rfl) h (fun vH6 H6 hq => ?_)
        replace h := hq
        refine g_aload_n (q := 0) (i := 0) (by decide +kernel) rfl rfl ?_
        refine g_callV (kd := 5) (ix := 0) (ci := 4) (N := 5) (T := xT_Reader) (vs := []) (st := []) (by decide +kernel) xm_Reader_readOne kw_547 kw_549 kw_15 (by decide) rfl rfl rfl rfl (Nat.le_of_ble_eq_true rfl) (Nat.le_of_ble_eq_true rfl) h (fun vH7 H7 hq => ?_)
        obtain ⟨r8, rfl, h⟩ := hq
        refine g_if_ne (off := 5) (tgt := 45) (by decide +kernel) (by decide) (fun c => ?_) (fun c => ?_)
        · replace h := h.1 c
          refine g_aload_n (q := 0) (i := 0) (by decide +kernel) rfl rfl ?_
          refine g_get (C := "ThreePoints$Reader") (T := xT_Reader) (N := 5) (ci := 4) (k := 1) (v := vr 11 6) (by decide +kernel) (by decide) rfl rfl xi_Reader (by decide) kw_229 rfl ?_
          refine g_sipush (n := 20007) (v := 20007) (by decide +kernel) (by decide) ?_
          refine g_callV (kd := 11) (ix := 6) (ci := 6) (N := 4) (T := xT_Text) (vs := [vi 20007]) (st := []) (by decide +kernel) xm_Text_put kw_555 kw_556 kw_557 (by decide) rfl rfl rfl rfl (Nat.le_of_ble_eq_true rfl) (Nat.le_of_ble_eq_true rfl) h (fun vH9 H9 hq => ?_)
          replace h := hq
          refine g_iinc (i := 1) (n := (-1)) (v := (z4 + (-1))) (ls2 := [some (vr 5 0), some (vi (z4 + (-1)))]) (by decide +kernel) rfl rfl (by decide) rfl rfl ?_
          refine g_goto (off := (-45)) (tgt := 13) (by decide +kernel) (by decide) ?_
          obtain ⟨hI, hlt⟩ := h
          exact g_drop (ls2 := [some (vr 5 0), some (vi (z4 + (-1)))]) (And.intro rfl (And.intro rfl trivial)) (ih3 (z4 + (-1)) H9 hI hlt)
        · replace h := h.2 c
          refine g_iconst (n := 0) (v := 0) (by decide +kernel) (by decide) ?_
          exact g_zret (by decide +kernel) rfl rfl ⟨_, rfl, h⟩
  · replace h := h.2 c
    refine g_iconst (n := 0) (v := 0) (by decide +kernel) (by decide) ?_
    exact g_zret (by decide +kernel) rfl rfl ⟨_, rfl, h⟩
def p_Reader_readSum (E : XE) (d : Nat)  (H : HH) (Q : Int32 → HH → Prop) : Prop := c_Reader_readTerm E d  H (fun r2 H1 => (¬ r2 = 0 → (∃ (I3 : Int32 → HH → Prop) (μ3 : Int32 → HH → Nat), I3 160 H1 ∧ ∀ (z4 : Int32) (H5 : HH), I3 z4 H5 → ((z4 ≤ 0 → (Q 1 H5)) ∧ (¬ z4 ≤ 0 → (((H5 5 0 3) = 43 → (∀ v7 : Int32, v7 = (if (H5 5 0 3) = 43 then 20005 else 20006 : Int32) → (c_Reader_goTo E d ((H5 5 0 2) + 1) H5 (fun H8 => c_Reader_readTerm E d  H8 (fun r10 H9 => (¬ r10 = 0 → (c_Text_put E d 6 v7 H9 (fun H11 => I3 (z4 + (-1)) H11 ∧ μ3 (z4 + (-1)) H11 < μ3 z4 H5))) ∧ (r10 = 0 → (Q 0 H9))))))) ∧ (¬ (H5 5 0 3) = 43 → ((¬ (H5 5 0 3) = 45 → (Q 1 H5)) ∧ ((H5 5 0 3) = 45 → (∀ v13 : Int32, v13 = (if (H5 5 0 3) = 43 then 20005 else 20006 : Int32) → (c_Reader_goTo E d ((H5 5 0 2) + 1) H5 (fun H14 => c_Reader_readTerm E d  H14 (fun r16 H15 => (¬ r16 = 0 → (c_Text_put E d 6 v13 H15 (fun H17 => I3 (z4 + (-1)) H17 ∧ μ3 (z4 + (-1)) H17 < μ3 z4 H5))) ∧ (r16 = 0 → (Q 0 H15)))))))))))))) ∧ (r2 = 0 → (Q 0 H1)))
set_option maxHeartbeats 4000000 in
theorem l_Reader_readSum {E : XE} {d : Nat}  {H : HH} {Q : Int32 → HH → Prop} (h : p_Reader_readSum E d  H Q) : c_Reader_readSum E (d + 1)  H Q := by
  show g_Reader_readSum E (d + 1) 0 (xent [vr 5 0]) [] H (qi Q)
  refine g_drop (ls2 := [some (vr 5 0), none, none]) (And.intro rfl trivial) ?_
  refine g_aload_n (q := 0) (i := 0) (by decide +kernel) rfl rfl ?_
  refine g_callV (kd := 5) (ix := 0) (ci := 4) (N := 5) (T := xT_Reader) (vs := []) (st := []) (by decide +kernel) xm_Reader_readTerm kw_543 kw_545 kw_14 (by decide) rfl rfl rfl rfl (Nat.le_of_ble_eq_true rfl) (Nat.le_of_ble_eq_true rfl) h (fun vH1 H1 hq => ?_)
  obtain ⟨r2, rfl, h⟩ := hq
  refine g_if_ne (off := 5) (tgt := 9) (by decide +kernel) (by decide) (fun c => ?_) (fun c => ?_)
  · replace h := h.1 c
    refine g_sipush (n := 160) (v := 160) (by decide +kernel) (by decide) ?_
    refine g_istore_n (q := 1) (i := 1) (ls2 := [some (vr 5 0), some (vi 160), none]) (by decide +kernel) rfl (by decide) rfl rfl ?_
    refine g_drop (ls2 := [some (vr 5 0), some (vi 160), none]) (And.intro rfl (And.intro rfl trivial)) ?_
    obtain ⟨I3, μ3, h0, h⟩ := h
    refine xloop (σ := Int32) (fun s H => I3 s H) (fun s H => μ3 s H) (fun s H => g_Reader_readSum E (d + 1) 13 [some (vr 5 0), some (vi s), none] [] H (qi Q)) (fun s H5 hI ih3 => ?_) 160 H1 h0
    obtain ⟨z4, es⟩ : ∃ z, z = s := ⟨s, rfl⟩
    subst es
    replace h := h z4 H5 hI
    refine g_iload_n (q := 1) (i := 1) (by decide +kernel) rfl rfl ?_
    refine g_if_le (off := 73) (tgt := 87) (by decide +kernel) (by decide) (fun c => ?_) (fun c => ?_)
    · replace h := h.1 c
      refine g_iconst (n := 1) (v := 1) (by decide +kernel) (by decide) ?_
      exact g_zret (by decide +kernel) rfl rfl ⟨_, rfl, h⟩
    · replace h := h.2 c
      refine g_aload_n (q := 0) (i := 0) (by decide +kernel) rfl rfl ?_
      refine g_get (C := "ThreePoints$Reader") (T := xT_Reader) (N := 5) (ci := 4) (k := 3) (v := vi (H5 5 0 3)) (by decide +kernel) (by decide) rfl rfl xi_Reader (by decide) kw_232 rfl ?_
      refine g_bipush (n := 43) (v := 43) (by decide +kernel) (by decide) ?_
      refine g_icmp_eq (off := 12) (tgt := 35) (by decide +kernel) (by decide) (fun c => ?_) (fun c => ?_)
      · replace h := h.1 c
        refine g_aload_n (q := 0) (i := 0) (by decide +kernel) rfl rfl ?_
        refine g_get (C := "ThreePoints$Reader") (T := xT_Reader) (N := 5) (ci := 4) (k := 3) (v := vi (H5 5 0 3)) (by decide +kernel) (by decide) rfl rfl xi_Reader (by decide) kw_232 rfl ?_
        refine g_bipush (n := 43) (v := 43) (by decide +kernel) (by decide) ?_
        suffices hj6 : g_Reader_readSum E (d + 1) 53 [some (vr 5 0), some (vi z4), none] [vi (if (H5 5 0 3) = 43 then 20005 else 20006 : Int32)] H5 (qi Q) by
          refine g_icmp_ne (off := 9) (tgt := 50) (by decide +kernel) (by decide) (fun c => ?_) (fun c => ?_)
          · rw [if_neg c] at hj6
            refine g_sipush (n := 20006) (v := 20006) (by decide +kernel) (by decide) ?_
            exact hj6
          · rw [if_pos c] at hj6
            refine g_sipush (n := 20005) (v := 20005) (by decide +kernel) (by decide) ?_
            refine g_goto (off := 6) (tgt := 53) (by decide +kernel) (by decide) ?_
            exact hj6
        refine g_topi (fun v7 ev7 => ?_)
        replace h := h v7 ev7
        refine g_istore_n (q := 2) (i := 2) (ls2 := [some (vr 5 0), some (vi z4), some (vi v7)]) (by decide +kernel) rfl (by decide) rfl rfl ?_
        refine g_aload_n (q := 0) (i := 0) (by decide +kernel) rfl rfl ?_
        refine g_aload_n (q := 0) (i := 0) (by decide +kernel) rfl rfl ?_
        refine g_get (C := "ThreePoints$Reader") (T := xT_Reader) (N := 5) (ci := 4) (k := 2) (v := vi (H5 5 0 2)) (by decide +kernel) (by decide) rfl rfl xi_Reader (by decide) kw_231 rfl ?_
        refine g_iconst (n := 1) (v := 1) (by decide +kernel) (by decide) ?_
        refine g_iadd (by decide +kernel) ?_
        refine g_callV (kd := 5) (ix := 0) (ci := 4) (N := 5) (T := xT_Reader) (vs := [vi ((H5 5 0 2) + 1)]) (st := []) (by decide +kernel) xm_Reader_goTo kw_511 kw_513 kw_7 (by decide) rfl rfl rfl rfl (Nat.le_of_ble_eq_true rfl) (Nat.le_of_ble_eq_true rfl) h (fun vH8 H8 hq => ?_)
        replace h := hq
        refine g_aload_n (q := 0) (i := 0) (by decide +kernel) rfl rfl ?_
        refine g_callV (kd := 5) (ix := 0) (ci := 4) (N := 5) (T := xT_Reader) (vs := []) (st := []) (by decide +kernel) xm_Reader_readTerm kw_543 kw_545 kw_14 (by decide) rfl rfl rfl rfl (Nat.le_of_ble_eq_true rfl) (Nat.le_of_ble_eq_true rfl) h (fun vH9 H9 hq => ?_)
        obtain ⟨r10, rfl, h⟩ := hq
        refine g_if_ne (off := 5) (tgt := 73) (by decide +kernel) (by decide) (fun c => ?_) (fun c => ?_)
        · replace h := h.1 c
          refine g_aload_n (q := 0) (i := 0) (by decide +kernel) rfl rfl ?_
          refine g_get (C := "ThreePoints$Reader") (T := xT_Reader) (N := 5) (ci := 4) (k := 1) (v := vr 11 6) (by decide +kernel) (by decide) rfl rfl xi_Reader (by decide) kw_229 rfl ?_
          refine g_iload_n (q := 2) (i := 2) (by decide +kernel) rfl rfl ?_
          refine g_callV (kd := 11) (ix := 6) (ci := 6) (N := 4) (T := xT_Text) (vs := [vi v7]) (st := []) (by decide +kernel) xm_Text_put kw_555 kw_556 kw_557 (by decide) rfl rfl rfl rfl (Nat.le_of_ble_eq_true rfl) (Nat.le_of_ble_eq_true rfl) h (fun vH11 H11 hq => ?_)
          replace h := hq
          refine g_iinc (i := 1) (n := (-1)) (v := (z4 + (-1))) (ls2 := [some (vr 5 0), some (vi (z4 + (-1))), some (vi v7)]) (by decide +kernel) rfl rfl (by decide) rfl rfl ?_
          refine g_goto (off := (-71)) (tgt := 13) (by decide +kernel) (by decide) ?_
          obtain ⟨hI, hlt⟩ := h
          exact g_drop (ls2 := [some (vr 5 0), some (vi (z4 + (-1))), none]) (And.intro rfl (And.intro rfl trivial)) (ih3 (z4 + (-1)) H11 hI hlt)
        · replace h := h.2 c
          refine g_iconst (n := 0) (v := 0) (by decide +kernel) (by decide) ?_
          exact g_zret (by decide +kernel) rfl rfl ⟨_, rfl, h⟩
      · replace h := h.2 c
        refine g_aload_n (q := 0) (i := 0) (by decide +kernel) rfl rfl ?_
        refine g_get (C := "ThreePoints$Reader") (T := xT_Reader) (N := 5) (ci := 4) (k := 3) (v := vi (H5 5 0 3)) (by decide +kernel) (by decide) rfl rfl xi_Reader (by decide) kw_232 rfl ?_
        refine g_bipush (n := 45) (v := 45) (by decide +kernel) (by decide) ?_
        refine g_icmp_ne (off := 55) (tgt := 87) (by decide +kernel) (by decide) (fun c => ?_) (fun c => ?_)
        · replace h := h.1 c
          refine g_iconst (n := 1) (v := 1) (by decide +kernel) (by decide) ?_
          exact g_zret (by decide +kernel) rfl rfl ⟨_, rfl, h⟩
        · replace h := h.2 c
          refine g_aload_n (q := 0) (i := 0) (by decide +kernel) rfl rfl ?_
          refine g_get (C := "ThreePoints$Reader") (T := xT_Reader) (N := 5) (ci := 4) (k := 3) (v := vi (H5 5 0 3)) (by decide +kernel) (by decide) rfl rfl xi_Reader (by decide) kw_232 rfl ?_
          refine g_bipush (n := 43) (v := 43) (by decide +kernel) (by decide) ?_
          suffices hj12 : g_Reader_readSum E (d + 1) 53 [some (vr 5 0), some (vi z4), none] [vi (if (H5 5 0 3) = 43 then 20005 else 20006 : Int32)] H5 (qi Q) by
            refine g_icmp_ne (off := 9) (tgt := 50) (by decide +kernel) (by decide) (fun c => ?_) (fun c => ?_)
            · rw [if_neg c] at hj12
              refine g_sipush (n := 20006) (v := 20006) (by decide +kernel) (by decide) ?_
              exact hj12
            · rw [if_pos c] at hj12
              refine g_sipush (n := 20005) (v := 20005) (by decide +kernel) (by decide) ?_
              refine g_goto (off := 6) (tgt := 53) (by decide +kernel) (by decide) ?_
              exact hj12
          refine g_topi (fun v13 ev13 => ?_)
          replace h := h v13 ev13
          refine g_istore_n (q := 2) (i := 2) (ls2 := [some (vr 5 0), some (vi z4), some (vi v13)]) (by decide +kernel) rfl (by decide) rfl rfl ?_
          refine g_aload_n (q := 0) (i := 0) (by decide +kernel) rfl rfl ?_
          refine g_aload_n (q := 0) (i := 0) (by decide +kernel) rfl rfl ?_
          refine g_get (C := "ThreePoints$Reader") (T := xT_Reader) (N := 5) (ci := 4) (k := 2) (v := vi (H5 5 0 2)) (by decide +kernel) (by decide) rfl rfl xi_Reader (by decide) kw_231 rfl ?_
          refine g_iconst (n := 1) (v := 1) (by decide +kernel) (by decide) ?_
          refine g_iadd (by decide +kernel) ?_
          refine g_callV (kd := 5) (ix := 0) (ci := 4) (N := 5) (T := xT_Reader) (vs := [vi ((H5 5 0 2) + 1)]) (st := []) (by decide +kernel) xm_Reader_goTo kw_511 kw_513 kw_7 (by decide) rfl rfl rfl rfl (Nat.le_of_ble_eq_true rfl) (Nat.le_of_ble_eq_true rfl) h (fun vH14 H14 hq => ?_)
          replace h := hq
          refine g_aload_n (q := 0) (i := 0) (by decide +kernel) rfl rfl ?_
          refine g_callV (kd := 5) (ix := 0) (ci := 4) (N := 5) (T := xT_Reader) (vs := []) (st := []) (by decide +kernel) xm_Reader_readTerm kw_543 kw_545 kw_14 (by decide) rfl rfl rfl rfl (Nat.le_of_ble_eq_true rfl) (Nat.le_of_ble_eq_true rfl) h (fun vH15 H15 hq => ?_)
          obtain ⟨r16, rfl, h⟩ := hq
          refine g_if_ne (off := 5) (tgt := 73) (by decide +kernel) (by decide) (fun c => ?_) (fun c => ?_)
          · replace h := h.1 c
            refine g_aload_n (q := 0) (i := 0) (by decide +kernel) rfl rfl ?_
            refine g_get (C := "ThreePoints$Reader") (T := xT_Reader) (N := 5) (ci := 4) (k := 1) (v := vr 11 6) (by decide +kernel) (by decide) rfl rfl xi_Reader (by decide) kw_229 rfl ?_
            refine g_iload_n (q := 2) (i := 2) (by decide +kernel) rfl rfl ?_
            refine g_callV (kd := 11) (ix := 6) (ci := 6) (N := 4) (T := xT_Text) (vs := [vi v13]) (st := []) (by decide +kernel) xm_Text_put kw_555 kw_556 kw_557 (by decide) rfl rfl rfl rfl (Nat.le_of_ble_eq_true rfl) (Nat.le_of_ble_eq_true rfl) h (fun vH17 H17 hq => ?_)
            replace h := hq
            refine g_iinc (i := 1) (n := (-1)) (v := (z4 + (-1))) (ls2 := [some (vr 5 0), some (vi (z4 + (-1))), some (vi v13)]) (by decide +kernel) rfl rfl (by decide) rfl rfl ?_
            refine g_goto (off := (-71)) (tgt := 13) (by decide +kernel) (by decide) ?_
            obtain ⟨hI, hlt⟩ := h
            exact g_drop (ls2 := [some (vr 5 0), some (vi (z4 + (-1))), none]) (And.intro rfl (And.intro rfl trivial)) (ih3 (z4 + (-1)) H17 hI hlt)
          · replace h := h.2 c
            refine g_iconst (n := 0) (v := 0) (by decide +kernel) (by decide) ?_
            exact g_zret (by decide +kernel) rfl rfl ⟨_, rfl, h⟩
  · replace h := h.2 c
    refine g_iconst (n := 0) (v := 0) (by decide +kernel) (by decide) ?_
    exact g_zret (by decide +kernel) rfl rfl ⟨_, rfl, h⟩
def p_Reader_readComparison (E : XE) (d : Nat)  (H : HH) (Q : Int32 → HH → Prop) : Prop := c_Reader_readSum E d  H (fun r2 H1 => (¬ r2 = 0 → (((H1 5 0 3) = 60 → (∀ v4 : Int32, v4 = (if (H1 5 0 3) = 60 then 20003 else 20004 : Int32) → (c_Reader_goTo E d ((H1 5 0 2) + 1) H1 (fun H5 => c_Reader_readSum E d  H5 (fun r7 H6 => (¬ r7 = 0 → (c_Text_put E d 6 v4 H6 (fun H8 => Q 1 H8))) ∧ (r7 = 0 → (Q 0 H6))))))) ∧ (¬ (H1 5 0 3) = 60 → (((H1 5 0 3) = 61 → (∀ v10 : Int32, v10 = (if (H1 5 0 3) = 60 then 20003 else 20004 : Int32) → (c_Reader_goTo E d ((H1 5 0 2) + 1) H1 (fun H11 => c_Reader_readSum E d  H11 (fun r13 H12 => (¬ r13 = 0 → (c_Text_put E d 6 v10 H12 (fun H14 => Q 1 H14))) ∧ (r13 = 0 → (Q 0 H12))))))) ∧ (¬ (H1 5 0 3) = 61 → (Q 1 H1)))))) ∧ (r2 = 0 → (Q 0 H1)))
set_option maxHeartbeats 4000000 in
theorem l_Reader_readComparison {E : XE} {d : Nat}  {H : HH} {Q : Int32 → HH → Prop} (h : p_Reader_readComparison E d  H Q) : c_Reader_readComparison E (d + 1)  H Q := by
  show g_Reader_readComparison E (d + 1) 0 (xent [vr 5 0]) [] H (qi Q)
  refine g_drop (ls2 := [some (vr 5 0), none]) (And.intro rfl trivial) ?_
  refine g_aload_n (q := 0) (i := 0) (by decide +kernel) rfl rfl ?_
  refine g_callV (kd := 5) (ix := 0) (ci := 4) (N := 5) (T := xT_Reader) (vs := []) (st := []) (by decide +kernel) xm_Reader_readSum kw_539 kw_541 kw_13 (by decide) rfl rfl rfl rfl (Nat.le_of_ble_eq_true rfl) (Nat.le_of_ble_eq_true rfl) h (fun vH1 H1 hq => ?_)
  obtain ⟨r2, rfl, h⟩ := hq
  refine g_if_ne (off := 5) (tgt := 9) (by decide +kernel) (by decide) (fun c => ?_) (fun c => ?_)
  · replace h := h.1 c
    refine g_aload_n (q := 0) (i := 0) (by decide +kernel) rfl rfl ?_
    refine g_get (C := "ThreePoints$Reader") (T := xT_Reader) (N := 5) (ci := 4) (k := 3) (v := vi (H1 5 0 3)) (by decide +kernel) (by decide) rfl rfl xi_Reader (by decide) kw_232 rfl ?_
    refine g_bipush (n := 60) (v := 60) (by decide +kernel) (by decide) ?_
    refine g_icmp_eq (off := 14) (tgt := 29) (by decide +kernel) (by decide) (fun c => ?_) (fun c => ?_)
    · replace h := h.1 c
      refine g_aload_n (q := 0) (i := 0) (by decide +kernel) rfl rfl ?_
      refine g_get (C := "ThreePoints$Reader") (T := xT_Reader) (N := 5) (ci := 4) (k := 3) (v := vi (H1 5 0 3)) (by decide +kernel) (by decide) rfl rfl xi_Reader (by decide) kw_232 rfl ?_
      refine g_bipush (n := 60) (v := 60) (by decide +kernel) (by decide) ?_
      suffices hj3 : g_Reader_readComparison E (d + 1) 47 [some (vr 5 0), none] [vi (if (H1 5 0 3) = 60 then 20003 else 20004 : Int32)] H1 (qi Q) by
        refine g_icmp_ne (off := 9) (tgt := 44) (by decide +kernel) (by decide) (fun c => ?_) (fun c => ?_)
        · rw [if_neg c] at hj3
          refine g_sipush (n := 20004) (v := 20004) (by decide +kernel) (by decide) ?_
          exact hj3
        · rw [if_pos c] at hj3
          refine g_sipush (n := 20003) (v := 20003) (by decide +kernel) (by decide) ?_
          refine g_goto (off := 6) (tgt := 47) (by decide +kernel) (by decide) ?_
          exact hj3
      refine g_topi (fun v4 ev4 => ?_)
      replace h := h v4 ev4
      refine g_istore_n (q := 1) (i := 1) (ls2 := [some (vr 5 0), some (vi v4)]) (by decide +kernel) rfl (by decide) rfl rfl ?_
      refine g_aload_n (q := 0) (i := 0) (by decide +kernel) rfl rfl ?_
      refine g_aload_n (q := 0) (i := 0) (by decide +kernel) rfl rfl ?_
      refine g_get (C := "ThreePoints$Reader") (T := xT_Reader) (N := 5) (ci := 4) (k := 2) (v := vi (H1 5 0 2)) (by decide +kernel) (by decide) rfl rfl xi_Reader (by decide) kw_231 rfl ?_
      refine g_iconst (n := 1) (v := 1) (by decide +kernel) (by decide) ?_
      refine g_iadd (by decide +kernel) ?_
      refine g_callV (kd := 5) (ix := 0) (ci := 4) (N := 5) (T := xT_Reader) (vs := [vi ((H1 5 0 2) + 1)]) (st := []) (by decide +kernel) xm_Reader_goTo kw_511 kw_513 kw_7 (by decide) rfl rfl rfl rfl (Nat.le_of_ble_eq_true rfl) (Nat.le_of_ble_eq_true rfl) h (fun vH5 H5 hq => ?_)
      replace h := hq
      refine g_aload_n (q := 0) (i := 0) (by decide +kernel) rfl rfl ?_
      refine g_callV (kd := 5) (ix := 0) (ci := 4) (N := 5) (T := xT_Reader) (vs := []) (st := []) (by decide +kernel) xm_Reader_readSum kw_539 kw_541 kw_13 (by decide) rfl rfl rfl rfl (Nat.le_of_ble_eq_true rfl) (Nat.le_of_ble_eq_true rfl) h (fun vH6 H6 hq => ?_)
      obtain ⟨r7, rfl, h⟩ := hq
      refine g_if_ne (off := 5) (tgt := 67) (by decide +kernel) (by decide) (fun c => ?_) (fun c => ?_)
      · replace h := h.1 c
        refine g_aload_n (q := 0) (i := 0) (by decide +kernel) rfl rfl ?_
        refine g_get (C := "ThreePoints$Reader") (T := xT_Reader) (N := 5) (ci := 4) (k := 1) (v := vr 11 6) (by decide +kernel) (by decide) rfl rfl xi_Reader (by decide) kw_229 rfl ?_
        refine g_iload_n (q := 1) (i := 1) (by decide +kernel) rfl rfl ?_
        refine g_callV (kd := 11) (ix := 6) (ci := 6) (N := 4) (T := xT_Text) (vs := [vi v4]) (st := []) (by decide +kernel) xm_Text_put kw_555 kw_556 kw_557 (by decide) rfl rfl rfl rfl (Nat.le_of_ble_eq_true rfl) (Nat.le_of_ble_eq_true rfl) h (fun vH8 H8 hq => ?_)
        replace h := hq
        refine g_iconst (n := 1) (v := 1) (by decide +kernel) (by decide) ?_
        exact g_zret (by decide +kernel) rfl rfl ⟨_, rfl, h⟩
      · replace h := h.2 c
        refine g_iconst (n := 0) (v := 0) (by decide +kernel) (by decide) ?_
        exact g_zret (by decide +kernel) rfl rfl ⟨_, rfl, h⟩
    · replace h := h.2 c
      refine g_aload_n (q := 0) (i := 0) (by decide +kernel) rfl rfl ?_
      refine g_get (C := "ThreePoints$Reader") (T := xT_Reader) (N := 5) (ci := 4) (k := 3) (v := vi (H1 5 0 3)) (by decide +kernel) (by decide) rfl rfl xi_Reader (by decide) kw_232 rfl ?_
      refine g_bipush (n := 61) (v := 61) (by decide +kernel) (by decide) ?_
      refine g_icmp_eq (off := 5) (tgt := 29) (by decide +kernel) (by decide) (fun c => ?_) (fun c => ?_)
      · replace h := h.1 c
        refine g_aload_n (q := 0) (i := 0) (by decide +kernel) rfl rfl ?_
        refine g_get (C := "ThreePoints$Reader") (T := xT_Reader) (N := 5) (ci := 4) (k := 3) (v := vi (H1 5 0 3)) (by decide +kernel) (by decide) rfl rfl xi_Reader (by decide) kw_232 rfl ?_
        refine g_bipush (n := 60) (v := 60) (by decide +kernel) (by decide) ?_
        suffices hj9 : g_Reader_readComparison E (d + 1) 47 [some (vr 5 0), none] [vi (if (H1 5 0 3) = 60 then 20003 else 20004 : Int32)] H1 (qi Q) by
          refine g_icmp_ne (off := 9) (tgt := 44) (by decide +kernel) (by decide) (fun c => ?_) (fun c => ?_)
          · rw [if_neg c] at hj9
            refine g_sipush (n := 20004) (v := 20004) (by decide +kernel) (by decide) ?_
            exact hj9
          · rw [if_pos c] at hj9
            refine g_sipush (n := 20003) (v := 20003) (by decide +kernel) (by decide) ?_
            refine g_goto (off := 6) (tgt := 47) (by decide +kernel) (by decide) ?_
            exact hj9
        refine g_topi (fun v10 ev10 => ?_)
        replace h := h v10 ev10
        refine g_istore_n (q := 1) (i := 1) (ls2 := [some (vr 5 0), some (vi v10)]) (by decide +kernel) rfl (by decide) rfl rfl ?_
        refine g_aload_n (q := 0) (i := 0) (by decide +kernel) rfl rfl ?_
        refine g_aload_n (q := 0) (i := 0) (by decide +kernel) rfl rfl ?_
        refine g_get (C := "ThreePoints$Reader") (T := xT_Reader) (N := 5) (ci := 4) (k := 2) (v := vi (H1 5 0 2)) (by decide +kernel) (by decide) rfl rfl xi_Reader (by decide) kw_231 rfl ?_
        refine g_iconst (n := 1) (v := 1) (by decide +kernel) (by decide) ?_
        refine g_iadd (by decide +kernel) ?_
        refine g_callV (kd := 5) (ix := 0) (ci := 4) (N := 5) (T := xT_Reader) (vs := [vi ((H1 5 0 2) + 1)]) (st := []) (by decide +kernel) xm_Reader_goTo kw_511 kw_513 kw_7 (by decide) rfl rfl rfl rfl (Nat.le_of_ble_eq_true rfl) (Nat.le_of_ble_eq_true rfl) h (fun vH11 H11 hq => ?_)
        replace h := hq
        refine g_aload_n (q := 0) (i := 0) (by decide +kernel) rfl rfl ?_
        refine g_callV (kd := 5) (ix := 0) (ci := 4) (N := 5) (T := xT_Reader) (vs := []) (st := []) (by decide +kernel) xm_Reader_readSum kw_539 kw_541 kw_13 (by decide) rfl rfl rfl rfl (Nat.le_of_ble_eq_true rfl) (Nat.le_of_ble_eq_true rfl) h (fun vH12 H12 hq => ?_)
        obtain ⟨r13, rfl, h⟩ := hq
        refine g_if_ne (off := 5) (tgt := 67) (by decide +kernel) (by decide) (fun c => ?_) (fun c => ?_)
        · replace h := h.1 c
          refine g_aload_n (q := 0) (i := 0) (by decide +kernel) rfl rfl ?_
          refine g_get (C := "ThreePoints$Reader") (T := xT_Reader) (N := 5) (ci := 4) (k := 1) (v := vr 11 6) (by decide +kernel) (by decide) rfl rfl xi_Reader (by decide) kw_229 rfl ?_
          refine g_iload_n (q := 1) (i := 1) (by decide +kernel) rfl rfl ?_
          refine g_callV (kd := 11) (ix := 6) (ci := 6) (N := 4) (T := xT_Text) (vs := [vi v10]) (st := []) (by decide +kernel) xm_Text_put kw_555 kw_556 kw_557 (by decide) rfl rfl rfl rfl (Nat.le_of_ble_eq_true rfl) (Nat.le_of_ble_eq_true rfl) h (fun vH14 H14 hq => ?_)
          replace h := hq
          refine g_iconst (n := 1) (v := 1) (by decide +kernel) (by decide) ?_
          exact g_zret (by decide +kernel) rfl rfl ⟨_, rfl, h⟩
        · replace h := h.2 c
          refine g_iconst (n := 0) (v := 0) (by decide +kernel) (by decide) ?_
          exact g_zret (by decide +kernel) rfl rfl ⟨_, rfl, h⟩
      · replace h := h.2 c
        refine g_iconst (n := 1) (v := 1) (by decide +kernel) (by decide) ?_
        exact g_zret (by decide +kernel) rfl rfl ⟨_, rfl, h⟩
  · replace h := h.2 c
    refine g_iconst (n := 0) (v := 0) (by decide +kernel) (by decide) ?_
    exact g_zret (by decide +kernel) rfl rfl ⟨_, rfl, h⟩
def p_Reader_readNot (E : XE) (d : Nat)  (H : HH) (Q : Int32 → HH → Prop) : Prop := ((H 5 0 3) = 261 → (c_Reader_mayOpen E d  H (fun r2 H1 => (r2 = 0 → (Q 0 H1)) ∧ (¬ r2 = 0 → (c_Reader_readNot E d  H1 (fun r4 H3 => (¬ r4 = 0 → (∀ H5 : HH, H5 = (hu H3 5 0 4 ((H3 5 0 4) - 1)) → (c_Text_put E d 6 20002 H5 (fun H6 => Q 1 H6)))) ∧ (r4 = 0 → (Q 0 H3)))))))) ∧ (¬ (H 5 0 3) = 261 → (c_Reader_readComparison E d  H (fun r8 H7 => (r8 = 0 ∨ r8 = 1) ∧ Q r8 H7)))
set_option maxHeartbeats 4000000 in
theorem l_Reader_readNot {E : XE} {d : Nat}  {H : HH} {Q : Int32 → HH → Prop} (h : p_Reader_readNot E d  H Q) : c_Reader_readNot E (d + 1)  H Q := by
  show g_Reader_readNot E (d + 1) 0 (xent [vr 5 0]) [] H (qi Q)
  refine g_drop (ls2 := [some (vr 5 0)]) (And.intro rfl trivial) ?_
  refine g_aload_n (q := 0) (i := 0) (by decide +kernel) rfl rfl ?_
  refine g_get (C := "ThreePoints$Reader") (T := xT_Reader) (N := 5) (ci := 4) (k := 3) (v := vi (H 5 0 3)) (by decide +kernel) (by decide) rfl rfl xi_Reader (by decide) kw_232 rfl ?_
  refine g_sipush (n := 261) (v := 261) (by decide +kernel) (by decide) ?_
  refine g_icmp_eq (off := 8) (tgt := 15) (by decide +kernel) (by decide) (fun c => ?_) (fun c => ?_)
  · replace h := h.1 c
    refine g_aload_n (q := 0) (i := 0) (by decide +kernel) rfl rfl ?_
    refine g_callV (kd := 5) (ix := 0) (ci := 4) (N := 5) (T := xT_Reader) (vs := []) (st := []) (by decide +kernel) xm_Reader_mayOpen kw_559 kw_561 kw_16 (by decide) rfl rfl rfl rfl (Nat.le_of_ble_eq_true rfl) (Nat.le_of_ble_eq_true rfl) h (fun vH1 H1 hq => ?_)
    obtain ⟨r2, rfl, h⟩ := hq
    refine g_if_eq (off := 10) (tgt := 29) (by decide +kernel) (by decide) (fun c => ?_) (fun c => ?_)
    · replace h := h.1 c
      refine g_iconst (n := 0) (v := 0) (by decide +kernel) (by decide) ?_
      exact g_zret (by decide +kernel) rfl rfl ⟨_, rfl, h⟩
    · replace h := h.2 c
      refine g_aload_n (q := 0) (i := 0) (by decide +kernel) rfl rfl ?_
      refine g_callV (kd := 5) (ix := 0) (ci := 4) (N := 5) (T := xT_Reader) (vs := []) (st := []) (by decide +kernel) xm_Reader_readNot kw_531 kw_533 kw_11 (by decide) rfl rfl rfl rfl (Nat.le_of_ble_eq_true rfl) (Nat.le_of_ble_eq_true rfl) h (fun vH3 H3 hq => ?_)
      obtain ⟨r4, rfl, h⟩ := hq
      refine g_if_ne (off := 5) (tgt := 31) (by decide +kernel) (by decide) (fun c => ?_) (fun c => ?_)
      · replace h := h.1 c
        refine g_aload_n (q := 0) (i := 0) (by decide +kernel) rfl rfl ?_
        refine g_dup (by decide +kernel) rfl ?_
        refine g_get (C := "ThreePoints$Reader") (T := xT_Reader) (N := 5) (ci := 4) (k := 4) (v := vi (H3 5 0 4)) (by decide +kernel) (by decide) rfl rfl xi_Reader (by decide) kw_233 rfl ?_
        refine g_iconst (n := 1) (v := 1) (by decide +kernel) (by decide) ?_
        refine g_isub (by decide +kernel) ?_
        refine g_put (C := "ThreePoints$Reader") (T := xT_Reader) (N := 5) (ci := 4) (k := 4) xy_Reader (by decide +kernel) (by decide) rfl rfl xi_Reader xy_Reader_ok xn_Reader (by decide) kw_233 rfl (by decide +kernel) (fun _ => rfl) ?_
        refine g_aload_n (q := 0) (i := 0) (by decide +kernel) rfl rfl ?_
        refine g_get (C := "ThreePoints$Reader") (T := xT_Reader) (N := 5) (ci := 4) (k := 1) (v := vr 11 6) (by decide +kernel) (by decide) rfl rfl xi_Reader (by decide) kw_229 rfl ?_
        refine g_sipush (n := 20002) (v := 20002) (by decide +kernel) (by decide) ?_
        refine g_heap (fun H5 eH5 => ?_)
        replace h := h H5 eH5
        refine g_callV (kd := 11) (ix := 6) (ci := 6) (N := 4) (T := xT_Text) (vs := [vi 20002]) (st := []) (by decide +kernel) xm_Text_put kw_555 kw_556 kw_557 (by decide) rfl rfl rfl rfl (Nat.le_of_ble_eq_true rfl) (Nat.le_of_ble_eq_true rfl) h (fun vH6 H6 hq => ?_)
        replace h := hq
        refine g_iconst (n := 1) (v := 1) (by decide +kernel) (by decide) ?_
        exact g_zret (by decide +kernel) rfl rfl ⟨_, rfl, h⟩
      · replace h := h.2 c
        refine g_iconst (n := 0) (v := 0) (by decide +kernel) (by decide) ?_
        exact g_zret (by decide +kernel) rfl rfl ⟨_, rfl, h⟩
  · replace h := h.2 c
    refine g_aload_n (q := 0) (i := 0) (by decide +kernel) rfl rfl ?_
    refine g_callV (kd := 5) (ix := 0) (ci := 4) (N := 5) (T := xT_Reader) (vs := []) (st := []) (by decide +kernel) xm_Reader_readComparison kw_535 kw_537 kw_12 (by decide) rfl rfl rfl rfl (Nat.le_of_ble_eq_true rfl) (Nat.le_of_ble_eq_true rfl) h (fun vH7 H7 hq => ?_)
    obtain ⟨r8, rfl, h⟩ := hq
    obtain ⟨h01, h⟩ := h
    exact g_zret (by decide +kernel) rfl (nbool h01) ⟨_, rfl, h⟩
def p_Reader_readAnd (E : XE) (d : Nat)  (H : HH) (Q : Int32 → HH → Prop) : Prop := c_Reader_readNot E d  H (fun r2 H1 => (¬ r2 = 0 → (∃ (I3 : Int32 → HH → Prop) (μ3 : Int32 → HH → Nat), I3 160 H1 ∧ ∀ (z4 : Int32) (H5 : HH), I3 z4 H5 → ((z4 ≤ 0 → (Q 1 H5)) ∧ (¬ z4 ≤ 0 → ((¬ (H5 5 0 3) = 260 → (Q 1 H5)) ∧ ((H5 5 0 3) = 260 → (c_Reader_goTo E d ((H5 5 0 2) + 1) H5 (fun H6 => c_Reader_readNot E d  H6 (fun r8 H7 => (¬ r8 = 0 → (c_Text_put E d 6 20001 H7 (fun H9 => I3 (z4 + (-1)) H9 ∧ μ3 (z4 + (-1)) H9 < μ3 z4 H5))) ∧ (r8 = 0 → (Q 0 H7))))))))))) ∧ (r2 = 0 → (Q 0 H1)))
set_option maxHeartbeats 4000000 in
theorem l_Reader_readAnd {E : XE} {d : Nat}  {H : HH} {Q : Int32 → HH → Prop} (h : p_Reader_readAnd E d  H Q) : c_Reader_readAnd E (d + 1)  H Q := by
  show g_Reader_readAnd E (d + 1) 0 (xent [vr 5 0]) [] H (qi Q)
  refine g_drop (ls2 := [some (vr 5 0), none]) (And.intro rfl trivial) ?_
  refine g_aload_n (q := 0) (i := 0) (by decide +kernel) rfl rfl ?_
  refine g_callV (kd := 5) (ix := 0) (ci := 4) (N := 5) (T := xT_Reader) (vs := []) (st := []) (by decide +kernel) xm_Reader_readNot kw_531 kw_533 kw_11 (by decide) rfl rfl rfl rfl (Nat.le_of_ble_eq_true rfl) (Nat.le_of_ble_eq_true rfl) h (fun vH1 H1 hq => ?_)
  obtain ⟨r2, rfl, h⟩ := hq
  refine g_if_ne (off := 5) (tgt := 9) (by decide +kernel) (by decide) (fun c => ?_) (fun c => ?_)
  · replace h := h.1 c
    refine g_sipush (n := 160) (v := 160) (by decide +kernel) (by decide) ?_
    refine g_istore_n (q := 1) (i := 1) (ls2 := [some (vr 5 0), some (vi 160)]) (by decide +kernel) rfl (by decide) rfl rfl ?_
    refine g_drop (ls2 := [some (vr 5 0), some (vi 160)]) (And.intro rfl (And.intro rfl trivial)) ?_
    obtain ⟨I3, μ3, h0, h⟩ := h
    refine xloop (σ := Int32) (fun s H => I3 s H) (fun s H => μ3 s H) (fun s H => g_Reader_readAnd E (d + 1) 13 [some (vr 5 0), some (vi s)] [] H (qi Q)) (fun s H5 hI ih3 => ?_) 160 H1 h0
    obtain ⟨z4, es⟩ : ∃ z, z = s := ⟨s, rfl⟩
    subst es
    replace h := h z4 H5 hI
    refine g_iload_n (q := 1) (i := 1) (by decide +kernel) rfl rfl ?_
    refine g_if_le (off := 48) (tgt := 62) (by decide +kernel) (by decide) (fun c => ?_) (fun c => ?_)
    · replace h := h.1 c
      refine g_iconst (n := 1) (v := 1) (by decide +kernel) (by decide) ?_
      exact g_zret (by decide +kernel) rfl rfl ⟨_, rfl, h⟩
    · replace h := h.2 c
      refine g_aload_n (q := 0) (i := 0) (by decide +kernel) rfl rfl ?_
      refine g_get (C := "ThreePoints$Reader") (T := xT_Reader) (N := 5) (ci := 4) (k := 3) (v := vi (H5 5 0 3)) (by decide +kernel) (by decide) rfl rfl xi_Reader (by decide) kw_232 rfl ?_
      refine g_sipush (n := 260) (v := 260) (by decide +kernel) (by decide) ?_
      refine g_icmp_ne (off := 38) (tgt := 62) (by decide +kernel) (by decide) (fun c => ?_) (fun c => ?_)
      · replace h := h.1 c
        refine g_iconst (n := 1) (v := 1) (by decide +kernel) (by decide) ?_
        exact g_zret (by decide +kernel) rfl rfl ⟨_, rfl, h⟩
      · replace h := h.2 c
        refine g_aload_n (q := 0) (i := 0) (by decide +kernel) rfl rfl ?_
        refine g_aload_n (q := 0) (i := 0) (by decide +kernel) rfl rfl ?_
        refine g_get (C := "ThreePoints$Reader") (T := xT_Reader) (N := 5) (ci := 4) (k := 2) (v := vi (H5 5 0 2)) (by decide +kernel) (by decide) rfl rfl xi_Reader (by decide) kw_231 rfl ?_
        refine g_iconst (n := 1) (v := 1) (by decide +kernel) (by decide) ?_
        refine g_iadd (by decide +kernel) ?_
        refine g_callV (kd := 5) (ix := 0) (ci := 4) (N := 5) (T := xT_Reader) (vs := [vi ((H5 5 0 2) + 1)]) (st := []) (by decide +kernel) xm_Reader_goTo kw_511 kw_513 kw_7 (by decide) rfl rfl rfl rfl (Nat.le_of_ble_eq_true rfl) (Nat.le_of_ble_eq_true rfl) h (fun vH6 H6 hq => ?_)
        replace h := hq
        refine g_aload_n (q := 0) (i := 0) (by decide +kernel) rfl rfl ?_
        refine g_callV (kd := 5) (ix := 0) (ci := 4) (N := 5) (T := xT_Reader) (vs := []) (st := []) (by decide +kernel) xm_Reader_readNot kw_531 kw_533 kw_11 (by decide) rfl rfl rfl rfl (Nat.le_of_ble_eq_true rfl) (Nat.le_of_ble_eq_true rfl) h (fun vH7 H7 hq => ?_)
        obtain ⟨r8, rfl, h⟩ := hq
        refine g_if_ne (off := 5) (tgt := 46) (by decide +kernel) (by decide) (fun c => ?_) (fun c => ?_)
        · replace h := h.1 c
          refine g_aload_n (q := 0) (i := 0) (by decide +kernel) rfl rfl ?_
          refine g_get (C := "ThreePoints$Reader") (T := xT_Reader) (N := 5) (ci := 4) (k := 1) (v := vr 11 6) (by decide +kernel) (by decide) rfl rfl xi_Reader (by decide) kw_229 rfl ?_
          refine g_sipush (n := 20001) (v := 20001) (by decide +kernel) (by decide) ?_
          refine g_callV (kd := 11) (ix := 6) (ci := 6) (N := 4) (T := xT_Text) (vs := [vi 20001]) (st := []) (by decide +kernel) xm_Text_put kw_555 kw_556 kw_557 (by decide) rfl rfl rfl rfl (Nat.le_of_ble_eq_true rfl) (Nat.le_of_ble_eq_true rfl) h (fun vH9 H9 hq => ?_)
          replace h := hq
          refine g_iinc (i := 1) (n := (-1)) (v := (z4 + (-1))) (ls2 := [some (vr 5 0), some (vi (z4 + (-1)))]) (by decide +kernel) rfl rfl (by decide) rfl rfl ?_
          refine g_goto (off := (-46)) (tgt := 13) (by decide +kernel) (by decide) ?_
          obtain ⟨hI, hlt⟩ := h
          exact g_drop (ls2 := [some (vr 5 0), some (vi (z4 + (-1)))]) (And.intro rfl (And.intro rfl trivial)) (ih3 (z4 + (-1)) H9 hI hlt)
        · replace h := h.2 c
          refine g_iconst (n := 0) (v := 0) (by decide +kernel) (by decide) ?_
          exact g_zret (by decide +kernel) rfl rfl ⟨_, rfl, h⟩
  · replace h := h.2 c
    refine g_iconst (n := 0) (v := 0) (by decide +kernel) (by decide) ?_
    exact g_zret (by decide +kernel) rfl rfl ⟨_, rfl, h⟩
def p_Reader_readOr (E : XE) (d : Nat)  (H : HH) (Q : Int32 → HH → Prop) : Prop := c_Reader_readAnd E d  H (fun r2 H1 => (¬ r2 = 0 → (∃ (I3 : Int32 → HH → Prop) (μ3 : Int32 → HH → Nat), I3 160 H1 ∧ ∀ (z4 : Int32) (H5 : HH), I3 z4 H5 → ((z4 ≤ 0 → (Q 1 H5)) ∧ (¬ z4 ≤ 0 → ((¬ (H5 5 0 3) = 259 → (Q 1 H5)) ∧ ((H5 5 0 3) = 259 → (c_Reader_goTo E d ((H5 5 0 2) + 1) H5 (fun H6 => c_Reader_readAnd E d  H6 (fun r8 H7 => (¬ r8 = 0 → (c_Text_put E d 6 20000 H7 (fun H9 => I3 (z4 + (-1)) H9 ∧ μ3 (z4 + (-1)) H9 < μ3 z4 H5))) ∧ (r8 = 0 → (Q 0 H7))))))))))) ∧ (r2 = 0 → (Q 0 H1)))
set_option maxHeartbeats 4000000 in
theorem l_Reader_readOr {E : XE} {d : Nat}  {H : HH} {Q : Int32 → HH → Prop} (h : p_Reader_readOr E d  H Q) : c_Reader_readOr E (d + 1)  H Q := by
  show g_Reader_readOr E (d + 1) 0 (xent [vr 5 0]) [] H (qi Q)
  refine g_drop (ls2 := [some (vr 5 0), none]) (And.intro rfl trivial) ?_
  refine g_aload_n (q := 0) (i := 0) (by decide +kernel) rfl rfl ?_
  refine g_callV (kd := 5) (ix := 0) (ci := 4) (N := 5) (T := xT_Reader) (vs := []) (st := []) (by decide +kernel) xm_Reader_readAnd kw_527 kw_529 kw_10 (by decide) rfl rfl rfl rfl (Nat.le_of_ble_eq_true rfl) (Nat.le_of_ble_eq_true rfl) h (fun vH1 H1 hq => ?_)
  obtain ⟨r2, rfl, h⟩ := hq
  refine g_if_ne (off := 5) (tgt := 9) (by decide +kernel) (by decide) (fun c => ?_) (fun c => ?_)
  · replace h := h.1 c
    refine g_sipush (n := 160) (v := 160) (by decide +kernel) (by decide) ?_
    refine g_istore_n (q := 1) (i := 1) (ls2 := [some (vr 5 0), some (vi 160)]) (by decide +kernel) rfl (by decide) rfl rfl ?_
    refine g_drop (ls2 := [some (vr 5 0), some (vi 160)]) (And.intro rfl (And.intro rfl trivial)) ?_
    obtain ⟨I3, μ3, h0, h⟩ := h
    refine xloop (σ := Int32) (fun s H => I3 s H) (fun s H => μ3 s H) (fun s H => g_Reader_readOr E (d + 1) 13 [some (vr 5 0), some (vi s)] [] H (qi Q)) (fun s H5 hI ih3 => ?_) 160 H1 h0
    obtain ⟨z4, es⟩ : ∃ z, z = s := ⟨s, rfl⟩
    subst es
    replace h := h z4 H5 hI
    refine g_iload_n (q := 1) (i := 1) (by decide +kernel) rfl rfl ?_
    refine g_if_le (off := 48) (tgt := 62) (by decide +kernel) (by decide) (fun c => ?_) (fun c => ?_)
    · replace h := h.1 c
      refine g_iconst (n := 1) (v := 1) (by decide +kernel) (by decide) ?_
      exact g_zret (by decide +kernel) rfl rfl ⟨_, rfl, h⟩
    · replace h := h.2 c
      refine g_aload_n (q := 0) (i := 0) (by decide +kernel) rfl rfl ?_
      refine g_get (C := "ThreePoints$Reader") (T := xT_Reader) (N := 5) (ci := 4) (k := 3) (v := vi (H5 5 0 3)) (by decide +kernel) (by decide) rfl rfl xi_Reader (by decide) kw_232 rfl ?_
      refine g_sipush (n := 259) (v := 259) (by decide +kernel) (by decide) ?_
      refine g_icmp_ne (off := 38) (tgt := 62) (by decide +kernel) (by decide) (fun c => ?_) (fun c => ?_)
      · replace h := h.1 c
        refine g_iconst (n := 1) (v := 1) (by decide +kernel) (by decide) ?_
        exact g_zret (by decide +kernel) rfl rfl ⟨_, rfl, h⟩
      · replace h := h.2 c
        refine g_aload_n (q := 0) (i := 0) (by decide +kernel) rfl rfl ?_
        refine g_aload_n (q := 0) (i := 0) (by decide +kernel) rfl rfl ?_
        refine g_get (C := "ThreePoints$Reader") (T := xT_Reader) (N := 5) (ci := 4) (k := 2) (v := vi (H5 5 0 2)) (by decide +kernel) (by decide) rfl rfl xi_Reader (by decide) kw_231 rfl ?_
        refine g_iconst (n := 1) (v := 1) (by decide +kernel) (by decide) ?_
        refine g_iadd (by decide +kernel) ?_
        refine g_callV (kd := 5) (ix := 0) (ci := 4) (N := 5) (T := xT_Reader) (vs := [vi ((H5 5 0 2) + 1)]) (st := []) (by decide +kernel) xm_Reader_goTo kw_511 kw_513 kw_7 (by decide) rfl rfl rfl rfl (Nat.le_of_ble_eq_true rfl) (Nat.le_of_ble_eq_true rfl) h (fun vH6 H6 hq => ?_)
        replace h := hq
        refine g_aload_n (q := 0) (i := 0) (by decide +kernel) rfl rfl ?_
        refine g_callV (kd := 5) (ix := 0) (ci := 4) (N := 5) (T := xT_Reader) (vs := []) (st := []) (by decide +kernel) xm_Reader_readAnd kw_527 kw_529 kw_10 (by decide) rfl rfl rfl rfl (Nat.le_of_ble_eq_true rfl) (Nat.le_of_ble_eq_true rfl) h (fun vH7 H7 hq => ?_)
        obtain ⟨r8, rfl, h⟩ := hq
        refine g_if_ne (off := 5) (tgt := 46) (by decide +kernel) (by decide) (fun c => ?_) (fun c => ?_)
        · replace h := h.1 c
          refine g_aload_n (q := 0) (i := 0) (by decide +kernel) rfl rfl ?_
          refine g_get (C := "ThreePoints$Reader") (T := xT_Reader) (N := 5) (ci := 4) (k := 1) (v := vr 11 6) (by decide +kernel) (by decide) rfl rfl xi_Reader (by decide) kw_229 rfl ?_
          refine g_sipush (n := 20000) (v := 20000) (by decide +kernel) (by decide) ?_
          refine g_callV (kd := 11) (ix := 6) (ci := 6) (N := 4) (T := xT_Text) (vs := [vi 20000]) (st := []) (by decide +kernel) xm_Text_put kw_555 kw_556 kw_557 (by decide) rfl rfl rfl rfl (Nat.le_of_ble_eq_true rfl) (Nat.le_of_ble_eq_true rfl) h (fun vH9 H9 hq => ?_)
          replace h := hq
          refine g_iinc (i := 1) (n := (-1)) (v := (z4 + (-1))) (ls2 := [some (vr 5 0), some (vi (z4 + (-1)))]) (by decide +kernel) rfl rfl (by decide) rfl rfl ?_
          refine g_goto (off := (-46)) (tgt := 13) (by decide +kernel) (by decide) ?_
          obtain ⟨hI, hlt⟩ := h
          exact g_drop (ls2 := [some (vr 5 0), some (vi (z4 + (-1)))]) (And.intro rfl (And.intro rfl trivial)) (ih3 (z4 + (-1)) H9 hI hlt)
        · replace h := h.2 c
          refine g_iconst (n := 0) (v := 0) (by decide +kernel) (by decide) ?_
          exact g_zret (by decide +kernel) rfl rfl ⟨_, rfl, h⟩
  · replace h := h.2 c
    refine g_iconst (n := 0) (v := 0) (by decide +kernel) (by decide) ?_
    exact g_zret (by decide +kernel) rfl rfl ⟨_, rfl, h⟩
def p_Reader_readPart (E : XE) (d : Nat) (x1 : Int32) (x2 : Int32) (H : HH) (Q : Int32 → HH → Prop) : Prop := ((H 5 0 3) = x1 → (c_Reader_goTo E d ((H 5 0 2) + 1) H (fun H1 => c_Reader_readOr E d  H1 (fun r3 H2 => (¬ r3 = 0 → (c_Text_endPart E d 6 x2 H2 (fun H4 => ((H4 5 0 3) = 59 → (c_Reader_goTo E d ((H4 5 0 2) + 1) H4 (fun H5 => Q 1 H5))) ∧ (¬ (H4 5 0 3) = 59 → (Q 0 H4))))) ∧ (r3 = 0 → (Q 0 H2)))))) ∧ (¬ (H 5 0 3) = x1 → (Q 0 H))
set_option maxHeartbeats 4000000 in
theorem l_Reader_readPart {E : XE} {d : Nat} {x1 : Int32} {x2 : Int32} {H : HH} {Q : Int32 → HH → Prop} (h : p_Reader_readPart E d x1 x2 H Q) : c_Reader_readPart E (d + 1) x1 x2 H Q := by
  show g_Reader_readPart E (d + 1) 0 (xent [vr 5 0, vi x1, vi x2]) [] H (qi Q)
  refine g_drop (ls2 := [some (vr 5 0), some (vi x1), some (vi x2)]) (And.intro rfl (And.intro rfl (And.intro rfl trivial))) ?_
  refine g_aload_n (q := 0) (i := 0) (by decide +kernel) rfl rfl ?_
  refine g_get (C := "ThreePoints$Reader") (T := xT_Reader) (N := 5) (ci := 4) (k := 3) (v := vi (H 5 0 3)) (by decide +kernel) (by decide) rfl rfl xi_Reader (by decide) kw_232 rfl ?_
  refine g_iload_n (q := 1) (i := 1) (by decide +kernel) rfl rfl ?_
  refine g_icmp_eq (off := 5) (tgt := 10) (by decide +kernel) (by decide) (fun c => ?_) (fun c => ?_)
  · replace h := h.1 c
    refine g_aload_n (q := 0) (i := 0) (by decide +kernel) rfl rfl ?_
    refine g_aload_n (q := 0) (i := 0) (by decide +kernel) rfl rfl ?_
    refine g_get (C := "ThreePoints$Reader") (T := xT_Reader) (N := 5) (ci := 4) (k := 2) (v := vi (H 5 0 2)) (by decide +kernel) (by decide) rfl rfl xi_Reader (by decide) kw_231 rfl ?_
    refine g_iconst (n := 1) (v := 1) (by decide +kernel) (by decide) ?_
    refine g_iadd (by decide +kernel) ?_
    refine g_callV (kd := 5) (ix := 0) (ci := 4) (N := 5) (T := xT_Reader) (vs := [vi ((H 5 0 2) + 1)]) (st := []) (by decide +kernel) xm_Reader_goTo kw_511 kw_513 kw_7 (by decide) rfl rfl rfl rfl (Nat.le_of_ble_eq_true rfl) (Nat.le_of_ble_eq_true rfl) h (fun vH1 H1 hq => ?_)
    replace h := hq
    refine g_aload_n (q := 0) (i := 0) (by decide +kernel) rfl rfl ?_
    refine g_callV (kd := 5) (ix := 0) (ci := 4) (N := 5) (T := xT_Reader) (vs := []) (st := []) (by decide +kernel) xm_Reader_readOr kw_523 kw_525 kw_9 (by decide) rfl rfl rfl rfl (Nat.le_of_ble_eq_true rfl) (Nat.le_of_ble_eq_true rfl) h (fun vH2 H2 hq => ?_)
    obtain ⟨r3, rfl, h⟩ := hq
    refine g_if_ne (off := 5) (tgt := 29) (by decide +kernel) (by decide) (fun c => ?_) (fun c => ?_)
    · replace h := h.1 c
      refine g_aload_n (q := 0) (i := 0) (by decide +kernel) rfl rfl ?_
      refine g_get (C := "ThreePoints$Reader") (T := xT_Reader) (N := 5) (ci := 4) (k := 1) (v := vr 11 6) (by decide +kernel) (by decide) rfl rfl xi_Reader (by decide) kw_229 rfl ?_
      refine g_iload_n (q := 2) (i := 2) (by decide +kernel) rfl rfl ?_
      refine g_callV (kd := 11) (ix := 6) (ci := 6) (N := 4) (T := xT_Text) (vs := [vi x2]) (st := []) (by decide +kernel) xm_Text_endPart kw_563 kw_564 kw_565 (by decide) rfl rfl rfl rfl (Nat.le_of_ble_eq_true rfl) (Nat.le_of_ble_eq_true rfl) h (fun vH4 H4 hq => ?_)
      replace h := hq
      refine g_aload_n (q := 0) (i := 0) (by decide +kernel) rfl rfl ?_
      refine g_get (C := "ThreePoints$Reader") (T := xT_Reader) (N := 5) (ci := 4) (k := 3) (v := vi (H4 5 0 3)) (by decide +kernel) (by decide) rfl rfl xi_Reader (by decide) kw_232 rfl ?_
      refine g_bipush (n := 59) (v := 59) (by decide +kernel) (by decide) ?_
      refine g_icmp_eq (off := 5) (tgt := 48) (by decide +kernel) (by decide) (fun c => ?_) (fun c => ?_)
      · replace h := h.1 c
        refine g_aload_n (q := 0) (i := 0) (by decide +kernel) rfl rfl ?_
        refine g_aload_n (q := 0) (i := 0) (by decide +kernel) rfl rfl ?_
        refine g_get (C := "ThreePoints$Reader") (T := xT_Reader) (N := 5) (ci := 4) (k := 2) (v := vi (H4 5 0 2)) (by decide +kernel) (by decide) rfl rfl xi_Reader (by decide) kw_231 rfl ?_
        refine g_iconst (n := 1) (v := 1) (by decide +kernel) (by decide) ?_
        refine g_iadd (by decide +kernel) ?_
        refine g_callV (kd := 5) (ix := 0) (ci := 4) (N := 5) (T := xT_Reader) (vs := [vi ((H4 5 0 2) + 1)]) (st := []) (by decide +kernel) xm_Reader_goTo kw_511 kw_513 kw_7 (by decide) rfl rfl rfl rfl (Nat.le_of_ble_eq_true rfl) (Nat.le_of_ble_eq_true rfl) h (fun vH5 H5 hq => ?_)
        replace h := hq
        refine g_iconst (n := 1) (v := 1) (by decide +kernel) (by decide) ?_
        exact g_zret (by decide +kernel) rfl rfl ⟨_, rfl, h⟩
      · replace h := h.2 c
        refine g_iconst (n := 0) (v := 0) (by decide +kernel) (by decide) ?_
        exact g_zret (by decide +kernel) rfl rfl ⟨_, rfl, h⟩
    · replace h := h.2 c
      refine g_iconst (n := 0) (v := 0) (by decide +kernel) (by decide) ?_
      exact g_zret (by decide +kernel) rfl rfl ⟨_, rfl, h⟩
  · replace h := h.2 c
    refine g_iconst (n := 0) (v := 0) (by decide +kernel) (by decide) ?_
    exact g_zret (by decide +kernel) rfl rfl ⟨_, rfl, h⟩
def p_Tape_startOf (E : XE) (d : Nat) (x1 : Int32) (H : HH) (Q : Int32 → HH → Prop) : Prop := (x1 < 0 → (Q (H 6 0 1) H)) ∧ (¬ x1 < 0 → (((H 6 0 5) ≤ x1 → (Q (H 6 0 1) H)) ∧ (¬ (H 6 0 5) ≤ x1 → ((160 ≤ x1 → (Q (H 6 0 1) H)) ∧ (¬ 160 ≤ x1 → (vp_in x1 160 ∧ (Q (H 9 0 (x1.toNatClampNeg)) H)))))))
set_option maxHeartbeats 4000000 in
theorem l_Tape_startOf {E : XE} {d : Nat} {x1 : Int32} {H : HH} {Q : Int32 → HH → Prop} (h : p_Tape_startOf E d x1 H Q) : c_Tape_startOf E d x1 H Q := by
  show g_Tape_startOf E d 0 (xent [vr 6 0, vi x1]) [] H (qi Q)
  refine g_drop (ls2 := [some (vr 6 0), some (vi x1)]) (And.intro rfl (And.intro rfl trivial)) ?_
  refine g_iload_n (q := 1) (i := 1) (by decide +kernel) rfl rfl ?_
  refine g_if_lt (off := 27) (tgt := 28) (by decide +kernel) (by decide) (fun c => ?_) (fun c => ?_)
  · replace h := h.1 c
    refine g_aload_n (q := 0) (i := 0) (by decide +kernel) rfl rfl ?_
    refine g_get (C := "ThreePoints$Tape") (T := xT_Tape) (N := 6) (ci := 5) (k := 1) (v := vi (H 6 0 1)) (by decide +kernel) (by decide) rfl rfl xi_Tape (by decide) kw_188 rfl ?_
    exact g_iret (by decide +kernel) rfl ⟨_, rfl, h⟩
  · replace h := h.2 c
    refine g_iload_n (q := 1) (i := 1) (by decide +kernel) rfl rfl ?_
    refine g_aload_n (q := 0) (i := 0) (by decide +kernel) rfl rfl ?_
    refine g_get (C := "ThreePoints$Tape") (T := xT_Tape) (N := 6) (ci := 5) (k := 5) (v := vi (H 6 0 5)) (by decide +kernel) (by decide) rfl rfl xi_Tape (by decide) kw_193 rfl ?_
    refine g_icmp_ge (off := 19) (tgt := 28) (by decide +kernel) (by decide) (fun c => ?_) (fun c => ?_)
    · replace h := h.1 c
      refine g_aload_n (q := 0) (i := 0) (by decide +kernel) rfl rfl ?_
      refine g_get (C := "ThreePoints$Tape") (T := xT_Tape) (N := 6) (ci := 5) (k := 1) (v := vi (H 6 0 1)) (by decide +kernel) (by decide) rfl rfl xi_Tape (by decide) kw_188 rfl ?_
      exact g_iret (by decide +kernel) rfl ⟨_, rfl, h⟩
    · replace h := h.2 c
      refine g_iload_n (q := 1) (i := 1) (by decide +kernel) rfl rfl ?_
      refine g_sipush (n := 160) (v := 160) (by decide +kernel) (by decide) ?_
      refine g_icmp_ge (off := 12) (tgt := 28) (by decide +kernel) (by decide) (fun c => ?_) (fun c => ?_)
      · replace h := h.1 c
        refine g_aload_n (q := 0) (i := 0) (by decide +kernel) rfl rfl ?_
        refine g_get (C := "ThreePoints$Tape") (T := xT_Tape) (N := 6) (ci := 5) (k := 1) (v := vi (H 6 0 1)) (by decide +kernel) (by decide) rfl rfl xi_Tape (by decide) kw_188 rfl ?_
        exact g_iret (by decide +kernel) rfl ⟨_, rfl, h⟩
      · replace h := h.2 c
        refine g_aload_n (q := 0) (i := 0) (by decide +kernel) rfl rfl ?_
        refine g_get (C := "ThreePoints$Tape") (T := xT_Tape) (N := 6) (ci := 5) (k := 3) (v := vr 9 0) (by decide +kernel) (by decide) rfl rfl xi_Tape (by decide) kw_191 rfl ?_
        refine g_iload_n (q := 1) (i := 1) (by decide +kernel) rfl rfl ?_
        obtain ⟨hin, h⟩ := h
        refine g_iald (by decide +kernel) (by decide) rfl hin ?_
        refine g_goto (off := 7) (tgt := 32) (by decide +kernel) (by decide) ?_
        exact g_iret (by decide +kernel) rfl ⟨_, rfl, h⟩
def p_Reader_faultOfTape (E : XE) (d : Nat)  (H : HH) (Q : Int32 → HH → Prop) : Prop := c_Tape_split E d  H (fun H1 => c_Text_clear E d 6 H1 (fun H2 => ∀ H3 : HH, H3 = (hu H2 5 0 4 0) → (c_Reader_goTo E d 0 H3 (fun H4 => c_Reader_readPart E d 256 0 H4 (fun r6 H5 => (r6 = 0 → (c_Tape_startOf E d (H5 5 0 2) H5 (fun r8 H7 => Q r8 H7))) ∧ (¬ r6 = 0 → (c_Reader_readPart E d 257 1 H5 (fun r10 H9 => (r10 = 0 → (c_Tape_startOf E d (H9 5 0 2) H9 (fun r12 H11 => Q r12 H11))) ∧ (¬ r10 = 0 → (c_Reader_readPart E d 258 2 H9 (fun r14 H13 => ∀ v17 : Int32, v17 = (if r14 = 0 then 0 else (if (H13 5 0 3) = 264 then 1 else 0 : Int32) : Int32) → ((v17 = 0 → (c_Tape_startOf E d (H13 5 0 2) H13 (fun r19 H18 => Q r19 H18))) ∧ (¬ v17 = 0 → (Q (-1) H13))))))))))))))
set_option maxHeartbeats 4000000 in
theorem l_Reader_faultOfTape {E : XE} {d : Nat}  {H : HH} {Q : Int32 → HH → Prop} (h : p_Reader_faultOfTape E d  H Q) : c_Reader_faultOfTape E (d + 1)  H Q := by
  show g_Reader_faultOfTape E (d + 1) 0 (xent [vr 5 0]) [] H (qi Q)
  refine g_drop (ls2 := [some (vr 5 0), none]) (And.intro rfl trivial) ?_
  refine g_aload_n (q := 0) (i := 0) (by decide +kernel) rfl rfl ?_
  refine g_get (C := "ThreePoints$Reader") (T := xT_Reader) (N := 5) (ci := 4) (k := 0) (v := vr 6 0) (by decide +kernel) (by decide) rfl rfl xi_Reader (by decide) kw_227 rfl ?_
  refine g_callV (kd := 6) (ix := 0) (ci := 5) (N := 6) (T := xT_Tape) (vs := []) (st := []) (by decide +kernel) xm_Tape_split kw_390 kw_391 kw_392 (by decide) rfl rfl rfl rfl (Nat.le_of_ble_eq_true rfl) (Nat.le_of_ble_eq_true rfl) h (fun vH1 H1 hq => ?_)
  replace h := hq
  refine g_aload_n (q := 0) (i := 0) (by decide +kernel) rfl rfl ?_
  refine g_get (C := "ThreePoints$Reader") (T := xT_Reader) (N := 5) (ci := 4) (k := 1) (v := vr 11 6) (by decide +kernel) (by decide) rfl rfl xi_Reader (by decide) kw_229 rfl ?_
  refine g_callV (kd := 11) (ix := 6) (ci := 6) (N := 4) (T := xT_Text) (vs := []) (st := []) (by decide +kernel) xm_Text_clear kw_504 kw_505 kw_506 (by decide) rfl rfl rfl rfl (Nat.le_of_ble_eq_true rfl) (Nat.le_of_ble_eq_true rfl) h (fun vH2 H2 hq => ?_)
  replace h := hq
  refine g_aload_n (q := 0) (i := 0) (by decide +kernel) rfl rfl ?_
  refine g_iconst (n := 0) (v := 0) (by decide +kernel) (by decide) ?_
  refine g_put (C := "ThreePoints$Reader") (T := xT_Reader) (N := 5) (ci := 4) (k := 4) xy_Reader (by decide +kernel) (by decide) rfl rfl xi_Reader xy_Reader_ok xn_Reader (by decide) kw_233 rfl (by decide +kernel) (fun _ => rfl) ?_
  refine g_aload_n (q := 0) (i := 0) (by decide +kernel) rfl rfl ?_
  refine g_iconst (n := 0) (v := 0) (by decide +kernel) (by decide) ?_
  refine g_heap (fun H3 eH3 => ?_)
  replace h := h H3 eH3
  refine g_callV (kd := 5) (ix := 0) (ci := 4) (N := 5) (T := xT_Reader) (vs := [vi 0]) (st := []) (by decide +kernel) xm_Reader_goTo kw_511 kw_513 kw_7 (by decide) rfl rfl rfl rfl (Nat.le_of_ble_eq_true rfl) (Nat.le_of_ble_eq_true rfl) h (fun vH4 H4 hq => ?_)
  replace h := hq
  refine g_aload_n (q := 0) (i := 0) (by decide +kernel) rfl rfl ?_
  refine g_sipush (n := 256) (v := 256) (by decide +kernel) (by decide) ?_
  refine g_iconst (n := 0) (v := 0) (by decide +kernel) (by decide) ?_
  refine g_callV (kd := 5) (ix := 0) (ci := 4) (N := 5) (T := xT_Reader) (vs := [vi 256, vi 0]) (st := []) (by decide +kernel) xm_Reader_readPart kw_519 kw_521 kw_8 (by decide) rfl rfl rfl rfl (Nat.le_of_ble_eq_true rfl) (Nat.le_of_ble_eq_true rfl) h (fun vH5 H5 hq => ?_)
  obtain ⟨r6, rfl, h⟩ := hq
  refine g_if_eq (off := 39) (tgt := 71) (by decide +kernel) (by decide) (fun c => ?_) (fun c => ?_)
  · replace h := h.1 c
    refine g_iconst (n := 0) (v := 0) (by decide +kernel) (by decide) ?_
    refine g_istore_n (q := 1) (i := 1) (ls2 := [some (vr 5 0), some (vi 0)]) (by decide +kernel) rfl (by decide) rfl rfl ?_
    refine g_iload_n (q := 1) (i := 1) (by decide +kernel) rfl rfl ?_
    refine g_if_eq (off := 7) (tgt := 81) (by decide +kernel) (by decide) (fun c => ?_) (fun c => absurd c (by decide))
    refine g_aload_n (q := 0) (i := 0) (by decide +kernel) rfl rfl ?_
    refine g_get (C := "ThreePoints$Reader") (T := xT_Reader) (N := 5) (ci := 4) (k := 0) (v := vr 6 0) (by decide +kernel) (by decide) rfl rfl xi_Reader (by decide) kw_227 rfl ?_
    refine g_aload_n (q := 0) (i := 0) (by decide +kernel) rfl rfl ?_
    refine g_get (C := "ThreePoints$Reader") (T := xT_Reader) (N := 5) (ci := 4) (k := 2) (v := vi (H5 5 0 2)) (by decide +kernel) (by decide) rfl rfl xi_Reader (by decide) kw_231 rfl ?_
    refine g_callV (kd := 6) (ix := 0) (ci := 5) (N := 6) (T := xT_Tape) (vs := [vi (H5 5 0 2)]) (st := []) (by decide +kernel) xm_Tape_startOf kw_567 kw_568 kw_569 (by decide) rfl rfl rfl rfl (Nat.le_of_ble_eq_true rfl) (Nat.le_of_ble_eq_true rfl) h (fun vH7 H7 hq => ?_)
    obtain ⟨r8, rfl, h⟩ := hq
    exact g_iret (by decide +kernel) rfl ⟨_, rfl, h⟩
  · replace h := h.2 c
    refine g_aload_n (q := 0) (i := 0) (by decide +kernel) rfl rfl ?_
    refine g_sipush (n := 257) (v := 257) (by decide +kernel) (by decide) ?_
    refine g_iconst (n := 1) (v := 1) (by decide +kernel) (by decide) ?_
    refine g_callV (kd := 5) (ix := 0) (ci := 4) (N := 5) (T := xT_Reader) (vs := [vi 257, vi 1]) (st := []) (by decide +kernel) xm_Reader_readPart kw_519 kw_521 kw_8 (by decide) rfl rfl rfl rfl (Nat.le_of_ble_eq_true rfl) (Nat.le_of_ble_eq_true rfl) h (fun vH9 H9 hq => ?_)
    obtain ⟨r10, rfl, h⟩ := hq
    refine g_if_eq (off := 28) (tgt := 71) (by decide +kernel) (by decide) (fun c => ?_) (fun c => ?_)
    · replace h := h.1 c
      refine g_iconst (n := 0) (v := 0) (by decide +kernel) (by decide) ?_
      refine g_istore_n (q := 1) (i := 1) (ls2 := [some (vr 5 0), some (vi 0)]) (by decide +kernel) rfl (by decide) rfl rfl ?_
      refine g_iload_n (q := 1) (i := 1) (by decide +kernel) rfl rfl ?_
      refine g_if_eq (off := 7) (tgt := 81) (by decide +kernel) (by decide) (fun c => ?_) (fun c => absurd c (by decide))
      refine g_aload_n (q := 0) (i := 0) (by decide +kernel) rfl rfl ?_
      refine g_get (C := "ThreePoints$Reader") (T := xT_Reader) (N := 5) (ci := 4) (k := 0) (v := vr 6 0) (by decide +kernel) (by decide) rfl rfl xi_Reader (by decide) kw_227 rfl ?_
      refine g_aload_n (q := 0) (i := 0) (by decide +kernel) rfl rfl ?_
      refine g_get (C := "ThreePoints$Reader") (T := xT_Reader) (N := 5) (ci := 4) (k := 2) (v := vi (H9 5 0 2)) (by decide +kernel) (by decide) rfl rfl xi_Reader (by decide) kw_231 rfl ?_
      refine g_callV (kd := 6) (ix := 0) (ci := 5) (N := 6) (T := xT_Tape) (vs := [vi (H9 5 0 2)]) (st := []) (by decide +kernel) xm_Tape_startOf kw_567 kw_568 kw_569 (by decide) rfl rfl rfl rfl (Nat.le_of_ble_eq_true rfl) (Nat.le_of_ble_eq_true rfl) h (fun vH11 H11 hq => ?_)
      obtain ⟨r12, rfl, h⟩ := hq
      exact g_iret (by decide +kernel) rfl ⟨_, rfl, h⟩
    · replace h := h.2 c
      refine g_aload_n (q := 0) (i := 0) (by decide +kernel) rfl rfl ?_
      refine g_sipush (n := 258) (v := 258) (by decide +kernel) (by decide) ?_
      refine g_iconst (n := 2) (v := 2) (by decide +kernel) (by decide) ?_
      refine g_callV (kd := 5) (ix := 0) (ci := 4) (N := 5) (T := xT_Reader) (vs := [vi 258, vi 2]) (st := []) (by decide +kernel) xm_Reader_readPart kw_519 kw_521 kw_8 (by decide) rfl rfl rfl rfl (Nat.le_of_ble_eq_true rfl) (Nat.le_of_ble_eq_true rfl) h (fun vH13 H13 hq => ?_)
      obtain ⟨r14, rfl, h⟩ := hq
      suffices hj16 : g_Reader_faultOfTape E (d + 1) 72 [some (vr 5 0), none] [vi (if r14 = 0 then 0 else (if (H13 5 0 3) = 264 then 1 else 0 : Int32) : Int32)] H13 (qi Q) by
        refine g_if_eq (off := 17) (tgt := 71) (by decide +kernel) (by decide) (fun c => ?_) (fun c => ?_)
        · rw [if_pos c] at hj16
          refine g_iconst (n := 0) (v := 0) (by decide +kernel) (by decide) ?_
          exact hj16
        · rw [if_neg c] at hj16
          refine g_aload_n (q := 0) (i := 0) (by decide +kernel) rfl rfl ?_
          refine g_get (C := "ThreePoints$Reader") (T := xT_Reader) (N := 5) (ci := 4) (k := 3) (v := vi (H13 5 0 3)) (by decide +kernel) (by decide) rfl rfl xi_Reader (by decide) kw_232 rfl ?_
          refine g_sipush (n := 264) (v := 264) (by decide +kernel) (by decide) ?_
          suffices hj15 : g_Reader_faultOfTape E (d + 1) 72 [some (vr 5 0), none] [vi (if (H13 5 0 3) = 264 then 1 else 0 : Int32)] H13 (qi Q) by
            refine g_icmp_ne (off := 7) (tgt := 71) (by decide +kernel) (by decide) (fun c => ?_) (fun c => ?_)
            · rw [if_neg c] at hj15
              refine g_iconst (n := 0) (v := 0) (by decide +kernel) (by decide) ?_
              exact hj15
            · rw [if_pos c] at hj15
              refine g_iconst (n := 1) (v := 1) (by decide +kernel) (by decide) ?_
              refine g_goto (off := 4) (tgt := 72) (by decide +kernel) (by decide) ?_
              exact hj15
          exact hj16
      refine g_topi (fun v17 ev17 => ?_)
      replace h := h v17 ev17
      refine g_istore_n (q := 1) (i := 1) (ls2 := [some (vr 5 0), some (vi v17)]) (by decide +kernel) rfl (by decide) rfl rfl ?_
      refine g_iload_n (q := 1) (i := 1) (by decide +kernel) rfl rfl ?_
      refine g_if_eq (off := 7) (tgt := 81) (by decide +kernel) (by decide) (fun c => ?_) (fun c => ?_)
      · replace h := h.1 c
        refine g_aload_n (q := 0) (i := 0) (by decide +kernel) rfl rfl ?_
        refine g_get (C := "ThreePoints$Reader") (T := xT_Reader) (N := 5) (ci := 4) (k := 0) (v := vr 6 0) (by decide +kernel) (by decide) rfl rfl xi_Reader (by decide) kw_227 rfl ?_
        refine g_aload_n (q := 0) (i := 0) (by decide +kernel) rfl rfl ?_
        refine g_get (C := "ThreePoints$Reader") (T := xT_Reader) (N := 5) (ci := 4) (k := 2) (v := vi (H13 5 0 2)) (by decide +kernel) (by decide) rfl rfl xi_Reader (by decide) kw_231 rfl ?_
        refine g_callV (kd := 6) (ix := 0) (ci := 5) (N := 6) (T := xT_Tape) (vs := [vi (H13 5 0 2)]) (st := []) (by decide +kernel) xm_Tape_startOf kw_567 kw_568 kw_569 (by decide) rfl rfl rfl rfl (Nat.le_of_ble_eq_true rfl) (Nat.le_of_ble_eq_true rfl) h (fun vH18 H18 hq => ?_)
        obtain ⟨r19, rfl, h⟩ := hq
        exact g_iret (by decide +kernel) rfl ⟨_, rfl, h⟩
      · replace h := h.2 c
        refine g_iconst (n := (-1)) (v := (-1)) (by decide +kernel) (by decide) ?_
        refine g_goto (off := 14) (tgt := 92) (by decide +kernel) (by decide) ?_
        exact g_iret (by decide +kernel) rfl ⟨_, rfl, h⟩
def p_Tape_clear (E : XE) (d : Nat)  (H : HH) (Q : HH → Prop) : Prop := ∀ H1 : HH, H1 = (hu H 6 0 1 0) → (Q H1)
set_option maxHeartbeats 4000000 in
theorem l_Tape_clear {E : XE} {d : Nat}  {H : HH} {Q : HH → Prop} (h : p_Tape_clear E d  H Q) : c_Tape_clear E d  H Q := by
  show g_Tape_clear E d 0 (xent [vr 6 0]) [] H (qv Q)
  refine g_drop (ls2 := [some (vr 6 0)]) (And.intro rfl trivial) ?_
  refine g_aload_n (q := 0) (i := 0) (by decide +kernel) rfl rfl ?_
  refine g_iconst (n := 0) (v := 0) (by decide +kernel) (by decide) ?_
  refine g_put (C := "ThreePoints$Tape") (T := xT_Tape) (N := 6) (ci := 5) (k := 1) xy_Tape (by decide +kernel) (by decide) rfl rfl xi_Tape xy_Tape_ok xn_Tape (by decide) kw_188 rfl (by decide +kernel) (fun _ => rfl) ?_
  refine g_heap (fun H1 eH1 => ?_)
  replace h := h H1 eH1
  exact g_vret (by decide +kernel) rfl h
end
section
/-! a method: its place, its formula, the walk that proves it; printed by wip/gen/emitall.py -/
abbrev g_Ride_says (E : XE) (d pc : Nat) (ls : List (Option AV)) (st : List AV) (H : HH) (Q : AV → HH → Prop) : Prop := Gp E.1 E.2.1 E.2.2.1 E.2.2.2 xTX xRF xLC d "ThreePoints$Ride" prog_4_method_2_code 6 (some .int) pc ls st H Q
def c_Ride_says (E : XE) (d : Nat) (x1 : Int32) (x2 : Int32) (x3 : Int32) (x4 : Int32) (x5 : Int32) (H : HH) (Q : Int32 → HH → Prop) : Prop := g_Ride_says E d 0 (xent [vr 19 0, vi x1, vi x2, vi x3, vi x4, vi x5]) [] H (qi Q)
theorem xm_Ride_says : xM ⟨"ThreePoints$Ride", "says", "(IIIII)I"⟩ prog_4_method_2_code 6 (some .int) 5 := ⟨kw_663, kw_72, by decide +kernel, by decide +kernel, by decide⟩
abbrev g_Ride_isAtOpening (E : XE) (d pc : Nat) (ls : List (Option AV)) (st : List AV) (H : HH) (Q : AV → HH → Prop) : Prop := Gp E.1 E.2.1 E.2.2.1 E.2.2.2 xTX xRF xLC d "ThreePoints$Ride" prog_4_method_6_code 2 (some .boolean) pc ls st H Q
def c_Ride_isAtOpening (E : XE) (d : Nat) (x0 : Int32) (H : HH) (Q : Int32 → HH → Prop) : Prop := g_Ride_isAtOpening E d 0 (xent [vi x0]) [] H (qi Q)
theorem xm_Ride_isAtOpening : xM ⟨"ThreePoints$Ride", "isAtOpening", "(I)Z"⟩ prog_4_method_6_code 2 (some .boolean) 1 := ⟨kw_681, kw_72, by decide +kernel, by decide +kernel, by decide⟩
abbrev g_Ride_fits (E : XE) (d pc : Nat) (ls : List (Option AV)) (st : List AV) (H : HH) (Q : AV → HH → Prop) : Prop := Gp E.1 E.2.1 E.2.2.1 E.2.2.2 xTX xRF xLC d "ThreePoints$Ride" prog_4_method_4_code 8 (some .boolean) pc ls st H Q
def c_Ride_fits (E : XE) (d : Nat) (x1 : Int32) (x2 : Int32) (H : HH) (Q : Int32 → HH → Prop) : Prop := g_Ride_fits E d 0 (xent [vr 19 0, vi x1, vi x2]) [] H (qi Q)
theorem xm_Ride_fits : xM ⟨"ThreePoints$Ride", "fits", "(II)Z"⟩ prog_4_method_4_code 8 (some .boolean) 2 := ⟨kw_645, kw_72, by decide +kernel, by decide +kernel, by decide⟩
abbrev g_Ride_fitsNow (E : XE) (d pc : Nat) (ls : List (Option AV)) (st : List AV) (H : HH) (Q : AV → HH → Prop) : Prop := Gp E.1 E.2.1 E.2.2.1 E.2.2.2 xTX xRF xLC d "ThreePoints$Ride" prog_4_method_5_code 1 (some .boolean) pc ls st H Q
def c_Ride_fitsNow (E : XE) (d : Nat)  (H : HH) (Q : Int32 → HH → Prop) : Prop := g_Ride_fitsNow E d 0 (xent [vr 19 0]) [] H (qi Q)
theorem xm_Ride_fitsNow : xM ⟨"ThreePoints$Ride", "fitsNow", "()Z"⟩ prog_4_method_5_code 1 (some .boolean) 0 := ⟨kw_641, kw_72, by decide +kernel, by decide +kernel, by decide⟩
abbrev g_Ride_shift (E : XE) (d pc : Nat) (ls : List (Option AV)) (st : List AV) (H : HH) (Q : AV → HH → Prop) : Prop := Gp E.1 E.2.1 E.2.2.1 E.2.2.2 xTX xRF xLC d "ThreePoints$Ride" prog_4_method_7_code 3 (some .int) pc ls st H Q
def c_Ride_shift (E : XE) (d : Nat) (x0 : Int32) (x1 : Int32) (H : HH) (Q : Int32 → HH → Prop) : Prop := g_Ride_shift E d 0 (xent [vi x0, vi x1]) [] H (qi Q)
theorem xm_Ride_shift : xM ⟨"ThreePoints$Ride", "shift", "(II)I"⟩ prog_4_method_7_code 3 (some .int) 2 := ⟨kw_747, kw_72, by decide +kernel, by decide +kernel, by decide⟩
abbrev g_Ride_turnedBy (E : XE) (d pc : Nat) (ls : List (Option AV)) (st : List AV) (H : HH) (Q : AV → HH → Prop) : Prop := Gp E.1 E.2.1 E.2.2.1 E.2.2.2 xTX xRF xLC d "ThreePoints$Ride" prog_4_method_8_code 4 (some .int) pc ls st H Q
def c_Ride_turnedBy (E : XE) (d : Nat) (x1 : Int32) (x2 : Int32) (x3 : Int32) (H : HH) (Q : Int32 → HH → Prop) : Prop := g_Ride_turnedBy E d 0 (xent [vr 19 0, vi x1, vi x2, vi x3]) [] H (qi Q)
theorem xm_Ride_turnedBy : xM ⟨"ThreePoints$Ride", "turnedBy", "(III)I"⟩ prog_4_method_8_code 4 (some .int) 3 := ⟨kw_751, kw_72, by decide +kernel, by decide +kernel, by decide⟩
abbrev g_Ride_wears (E : XE) (d pc : Nat) (ls : List (Option AV)) (st : List AV) (H : HH) (Q : AV → HH → Prop) : Prop := Gp E.1 E.2.1 E.2.2.1 E.2.2.2 xTX xRF xLC d "ThreePoints$Ride" prog_4_method_3_code 4 (some .int) pc ls st H Q
def c_Ride_wears (E : XE) (d : Nat) (x1 : Int32) (x2 : Int32) (x3 : Int32) (H : HH) (Q : Int32 → HH → Prop) : Prop := g_Ride_wears E d 0 (xent [vr 19 0, vi x1, vi x2, vi x3]) [] H (qi Q)
theorem xm_Ride_wears : xM ⟨"ThreePoints$Ride", "wears", "(III)I"⟩ prog_4_method_3_code 4 (some .int) 3 := ⟨kw_759, kw_72, by decide +kernel, by decide +kernel, by decide⟩
abbrev g_Ride_go (E : XE) (d pc : Nat) (ls : List (Option AV)) (st : List AV) (H : HH) (Q : AV → HH → Prop) : Prop := Gp E.1 E.2.1 E.2.2.1 E.2.2.2 xTX xRF xLC d "ThreePoints$Ride" prog_4_method_9_code 5 (some .boolean) pc ls st H Q
def c_Ride_go (E : XE) (d : Nat) (x1 : Int32) (x2 : Int32) (H : HH) (Q : Int32 → HH → Prop) : Prop := g_Ride_go E d 0 (xent [vr 19 0, vi x1, vi x2]) [] H (qi Q)
theorem xm_Ride_go : xM ⟨"ThreePoints$Ride", "go", "(II)Z"⟩ prog_4_method_9_code 5 (some .boolean) 2 := ⟨kw_744, kw_72, by decide +kernel, by decide +kernel, by decide⟩
abbrev g_Search_state (E : XE) (d pc : Nat) (ls : List (Option AV)) (st : List AV) (H : HH) (Q : AV → HH → Prop) : Prop := Gp E.1 E.2.1 E.2.2.1 E.2.2.2 xTX xRF xLC d "ThreePoints$Search" prog_5_method_2_code 4 (some .int) pc ls st H Q
def c_Search_state (E : XE) (d : Nat) (x0 : Int32) (x1 : Int32) (x2 : Int32) (H : HH) (Q : Int32 → HH → Prop) : Prop := g_Search_state E d 0 (xent [vi x0, vi x1, vi x2]) [] H (qi Q)
theorem xm_Search_state : xM ⟨"ThreePoints$Search", "state", "(III)I"⟩ prog_5_method_2_code 4 (some .int) 3 := ⟨kw_785, kw_73, by decide +kernel, by decide +kernel, by decide⟩
abbrev g_Search_unlink (E : XE) (d pc : Nat) (ls : List (Option AV)) (st : List AV) (H : HH) (Q : AV → HH → Prop) : Prop := Gp E.1 E.2.1 E.2.2.1 E.2.2.2 xTX xRF xLC d "ThreePoints$Search" prog_5_method_6_code 4 none pc ls st H Q
def c_Search_unlink (E : XE) (d : Nat) (x1 : Int32) (H : HH) (Q : HH → Prop) : Prop := g_Search_unlink E d 0 (xent [vr 21 0, vi x1]) [] H (qv Q)
theorem xm_Search_unlink : xM ⟨"ThreePoints$Search", "unlink", "(I)V"⟩ prog_5_method_6_code 4 none 1 := ⟨kw_795, kw_73, by decide +kernel, by decide +kernel, by decide⟩
abbrev g_Search_lower (E : XE) (d pc : Nat) (ls : List (Option AV)) (st : List AV) (H : HH) (Q : AV → HH → Prop) : Prop := Gp E.1 E.2.1 E.2.2.1 E.2.2.2 xTX xRF xLC d "ThreePoints$Search" prog_5_method_5_code 4 none pc ls st H Q
def c_Search_lower (E : XE) (d : Nat) (x1 : Int32) (x2 : Int32) (H : HH) (Q : HH → Prop) : Prop := g_Search_lower E d 0 (xent [vr 21 0, vi x1, vi x2]) [] H (qv Q)
theorem xm_Search_lower : xM ⟨"ThreePoints$Search", "lower", "(II)V"⟩ prog_5_method_5_code 4 none 2 := ⟨kw_791, kw_73, by decide +kernel, by decide +kernel, by decide⟩
abbrev g_Search_lowerAhead (E : XE) (d pc : Nat) (ls : List (Option AV)) (st : List AV) (H : HH) (Q : AV → HH → Prop) : Prop := Gp E.1 E.2.1 E.2.2.1 E.2.2.2 xTX xRF xLC d "ThreePoints$Search" prog_5_method_4_code 11 none pc ls st H Q
def c_Search_lowerAhead (E : XE) (d : Nat) (x2 : Int32) (x3 : Int32) (H : HH) (Q : HH → Prop) : Prop := g_Search_lowerAhead E d 0 (xent [vr 21 0, vr 19 0, vi x2, vi x3]) [] H (qv Q)
theorem xm_Search_lowerAhead : xM ⟨"ThreePoints$Search", "lowerAhead", "(LThreePoints$Ride;II)V"⟩ prog_5_method_4_code 11 none 3 := ⟨kw_800, kw_73, by decide +kernel, by decide +kernel, by decide⟩
abbrev g_Search_toHeading (E : XE) (d pc : Nat) (ls : List (Option AV)) (st : List AV) (H : HH) (Q : AV → HH → Prop) : Prop := Gp E.1 E.2.1 E.2.2.1 E.2.2.2 xTX xRF xLC d "ThreePoints$Search" prog_5_method_3_code 7 none pc ls st H Q
def c_Search_toHeading (E : XE) (d : Nat) (x2 : Int32) (x3 : Int32) (H : HH) (Q : HH → Prop) : Prop := g_Search_toHeading E d 0 (xent [vr 21 0, vr 19 0, vi x2, vi x3]) [] H (qv Q)
theorem xm_Search_toHeading : xM ⟨"ThreePoints$Search", "toHeading", "(LThreePoints$Ride;II)V"⟩ prog_5_method_3_code 7 none 3 := ⟨kw_779, kw_73, by decide +kernel, by decide +kernel, by decide⟩
abbrev g_Search_least (E : XE) (d pc : Nat) (ls : List (Option AV)) (st : List AV) (H : HH) (Q : AV → HH → Prop) : Prop := Gp E.1 E.2.1 E.2.2.1 E.2.2.2 xTX xRF xLC d "ThreePoints$Search" prog_5_method_7_code 12 (some .int) pc ls st H Q
def c_Search_least (E : XE) (d : Nat) (x2 : Int32) (x3 : Int32) (x4 : Int32) (H : HH) (Q : Int32 → HH → Prop) : Prop := g_Search_least E d 0 (xent [vr 21 0, vr 19 0, vi x2, vi x3, vi x4]) [] H (qi Q)
theorem xm_Search_least : xM ⟨"ThreePoints$Search", "least", "(LThreePoints$Ride;III)I"⟩ prog_5_method_7_code 12 (some .int) 4 := ⟨kw_811, kw_73, by decide +kernel, by decide +kernel, by decide⟩
abbrev g_Search_leastFromNow (E : XE) (d pc : Nat) (ls : List (Option AV)) (st : List AV) (H : HH) (Q : AV → HH → Prop) : Prop := Gp E.1 E.2.1 E.2.2.1 E.2.2.2 xTX xRF xLC d "ThreePoints$Search" prog_5_method_8_code 2 (some .int) pc ls st H Q
def c_Search_leastFromNow (E : XE) (d : Nat)  (H : HH) (Q : Int32 → HH → Prop) : Prop := g_Search_leastFromNow E d 0 (xent [vr 21 0, vr 19 0]) [] H (qi Q)
theorem xm_Search_leastFromNow : xM ⟨"ThreePoints$Search", "leastFromNow", "(LThreePoints$Ride;)I"⟩ prog_5_method_8_code 2 (some .int) 1 := ⟨kw_807, kw_73, by decide +kernel, by decide +kernel, by decide⟩
abbrev g_Search_addBehind (E : XE) (d pc : Nat) (ls : List (Option AV)) (st : List AV) (H : HH) (Q : AV → HH → Prop) : Prop := Gp E.1 E.2.1 E.2.2.1 E.2.2.2 xTX xRF xLC d "ThreePoints$Search" prog_5_method_10_code 11 (some .int) pc ls st H Q
def c_Search_addBehind (E : XE) (d : Nat) (x2 : Int32) (x3 : Int32) (x4 : Int32) (H : HH) (Q : Int32 → HH → Prop) : Prop := g_Search_addBehind E d 0 (xent [vr 21 0, vr 19 0, vi x2, vi x3, vi x4]) [] H (qi Q)
theorem xm_Search_addBehind : xM ⟨"ThreePoints$Search", "addBehind", "(LThreePoints$Ride;III)I"⟩ prog_5_method_10_code 11 (some .int) 4 := ⟨kw_837, kw_73, by decide +kernel, by decide +kernel, by decide⟩
abbrev g_Search_headingsReached (E : XE) (d pc : Nat) (ls : List (Option AV)) (st : List AV) (H : HH) (Q : AV → HH → Prop) : Prop := Gp E.1 E.2.1 E.2.2.1 E.2.2.2 xTX xRF xLC d "ThreePoints$Search" prog_5_method_9_code 7 (some .int) pc ls st H Q
def c_Search_headingsReached (E : XE) (d : Nat)  (H : HH) (Q : Int32 → HH → Prop) : Prop := g_Search_headingsReached E d 0 (xent [vr 21 0, vr 19 0]) [] H (qi Q)
theorem xm_Search_headingsReached : xM ⟨"ThreePoints$Search", "headingsReached", "(LThreePoints$Ride;)I"⟩ prog_5_method_9_code 7 (some .int) 1 := ⟨kw_833, kw_73, by decide +kernel, by decide +kernel, by decide⟩
abbrev g_Ride_through (E : XE) (d pc : Nat) (ls : List (Option AV)) (st : List AV) (H : HH) (Q : AV → HH → Prop) : Prop := Gp E.1 E.2.1 E.2.2.1 E.2.2.2 xTX xRF xLC d "ThreePoints$Ride" prog_4_method_10_code 5 (some .int) pc ls st H Q
def c_Ride_through (E : XE) (d : Nat) (u : Nat) (H : HH) (Q : Int32 → HH → Prop) : Prop := g_Ride_through E d 0 (xent [vr 19 0, vr 16 u]) [] H (qi Q)
theorem xm_Ride_through : xM ⟨"ThreePoints$Ride", "through", "(LThreePoints$Sheet;)I"⟩ prog_4_method_10_code 5 (some .int) 1 := ⟨kw_865, kw_72, by decide +kernel, by decide +kernel, by decide⟩
abbrev g_Ride_byLots (E : XE) (d pc : Nat) (ls : List (Option AV)) (st : List AV) (H : HH) (Q : AV → HH → Prop) : Prop := Gp E.1 E.2.1 E.2.2.1 E.2.2.2 xTX xRF xLC d "ThreePoints$Ride" prog_4_method_11_code 9 (some .int) pc ls st H Q
def c_Ride_byLots (E : XE) (d : Nat) (x1 : Int32) (x2 : Int32) (H : HH) (Q : Int32 → HH → Prop) : Prop := g_Ride_byLots E d 0 (xent [vr 19 0, vi x1, vi x2]) [] H (qi Q)
theorem xm_Ride_byLots : xM ⟨"ThreePoints$Ride", "byLots", "(II)I"⟩ prog_4_method_11_code 9 (some .int) 2 := ⟨kw_899, kw_72, by decide +kernel, by decide +kernel, by decide⟩
def p_Ride_says (E : XE) (d : Nat) (x1 : Int32) (x2 : Int32) (x3 : Int32) (x4 : Int32) (x5 : Int32) (H : HH) (Q : Int32 → HH → Prop) : Prop := (¬ (0 < (H 19 0 2) ∧ (H 19 0 2) < 8) → (Q 0 H)) ∧ (∀ t : Nat, t < 7 → (H 19 0 2) = nI (t + 1) → (∀ H1 : HH, H1 = (hu (hu (hu (hu H 20 0 0 (H 3 8 1)) 20 0 1 x4) 20 0 2 x3) 20 0 3 x2) → (∀ H2 : HH, H2 = (hu (hu H1 20 0 4 (H1 2 2 0)) 20 0 5 x5) → (c_Text_says E d t x1 H2 (fun r4 H3 => Q r4 H3)))))
set_option maxHeartbeats 4000000 in
theorem l_Ride_says {E : XE} {d : Nat} {x1 : Int32} {x2 : Int32} {x3 : Int32} {x4 : Int32} {x5 : Int32} {H : HH} {Q : Int32 → HH → Prop} (h : p_Ride_says E d x1 x2 x3 x4 x5 H Q) : c_Ride_says E (d + 1) x1 x2 x3 x4 x5 H Q := by
  show g_Ride_says E (d + 1) 0 (xent [vr 19 0, vi x1, vi x2, vi x3, vi x4, vi x5]) [] H (qi Q)
  refine g_drop (ls2 := [some (vr 19 0), some (vi x1), some (vi x2), some (vi x3), some (vi x4), some (vi x5)]) (And.intro rfl (And.intro rfl (And.intro rfl (And.intro rfl (And.intro rfl (And.intro rfl trivial)))))) ?_
  refine g_aload_n (q := 0) (i := 0) (by decide +kernel) rfl rfl ?_
  rcases xlaw 0 (H 19 0 2) with ⟨hx, hl⟩ | ⟨t, ht, hx, hl⟩
  · replace h := h.1 hx
    refine g_get (C := "ThreePoints$Ride") (T := xT_Ride) (N := 4) (ci := 8) (k := 2) (v := vn) (by decide +kernel) (by decide) rfl rfl xi_Ride (by decide) kw_265 hl ?_
    refine g_nonnullN (off := 5) (by decide +kernel) ?_
    refine g_iconst (n := 0) (v := 0) (by decide +kernel) (by decide) ?_
    exact g_iret (by decide +kernel) rfl ⟨_, rfl, h⟩
  · replace h := h.2 t ht hx
    refine g_get (C := "ThreePoints$Ride") (T := xT_Ride) (N := 4) (ci := 8) (k := 2) (v := vr 11 t) (by decide +kernel) (by decide) rfl rfl xi_Ride (by decide) kw_265 hl ?_
    refine g_nonnullR (off := 5) (tgt := 9) (by decide +kernel) (by decide) ?_
    refine g_aload_n (q := 0) (i := 0) (by decide +kernel) rfl rfl ?_
    refine g_get (C := "ThreePoints$Ride") (T := xT_Ride) (N := 4) (ci := 8) (k := 3) (v := vr 20 0) (by decide +kernel) (by decide) rfl rfl xi_Ride (by decide) kw_267 rfl ?_
    refine g_iconst (n := 0) (v := 0) (by decide +kernel) (by decide) ?_
    refine g_aload_n (q := 0) (i := 0) (by decide +kernel) rfl rfl ?_
    refine g_get (C := "ThreePoints$Ride") (T := xT_Ride) (N := 4) (ci := 8) (k := 1) (v := vr 3 8) (by decide +kernel) (by decide) rfl rfl xi_Ride (by decide) kw_262 rfl ?_
    refine g_get (C := "ThreePoints$Vehicle") (T := xT_Vehicle) (N := 7) (ci := 3) (k := 1) (v := vi (H 3 8 1)) (by decide +kernel) (by decide) rfl rfl xi_Vehicle (by decide) kw_130 rfl ?_
    refine g_iast (by decide +kernel) (by decide) rfl (vp_lit (by decide)) ?_
    refine g_heapE (H1 := (hu H 20 0 0 (H 3 8 1))) rfl ?_
    refine g_aload_n (q := 0) (i := 0) (by decide +kernel) rfl rfl ?_
    refine g_get (C := "ThreePoints$Ride") (T := xT_Ride) (N := 4) (ci := 8) (k := 3) (v := vr 20 0) (by decide +kernel) (by decide) rfl rfl xi_Ride (by decide) kw_267 rfl ?_
    refine g_iconst (n := 1) (v := 1) (by decide +kernel) (by decide) ?_
    refine g_iload (i := 4) (by decide +kernel) rfl ?_
    refine g_iast (by decide +kernel) (by decide) rfl (vp_lit (by decide)) ?_
    refine g_heapE (H1 := (hu (hu H 20 0 0 (H 3 8 1)) 20 0 1 x4)) rfl ?_
    refine g_aload_n (q := 0) (i := 0) (by decide +kernel) rfl rfl ?_
    refine g_get (C := "ThreePoints$Ride") (T := xT_Ride) (N := 4) (ci := 8) (k := 3) (v := vr 20 0) (by decide +kernel) (by decide) rfl rfl xi_Ride (by decide) kw_267 rfl ?_
    refine g_iconst (n := 2) (v := 2) (by decide +kernel) (by decide) ?_
    refine g_iload_n (q := 3) (i := 3) (by decide +kernel) rfl rfl ?_
    refine g_iast (by decide +kernel) (by decide) rfl (vp_lit (by decide)) ?_
    refine g_heapE (H1 := (hu (hu (hu H 20 0 0 (H 3 8 1)) 20 0 1 x4) 20 0 2 x3)) rfl ?_
    refine g_aload_n (q := 0) (i := 0) (by decide +kernel) rfl rfl ?_
    refine g_get (C := "ThreePoints$Ride") (T := xT_Ride) (N := 4) (ci := 8) (k := 3) (v := vr 20 0) (by decide +kernel) (by decide) rfl rfl xi_Ride (by decide) kw_267 rfl ?_
    refine g_iconst (n := 3) (v := 3) (by decide +kernel) (by decide) ?_
    refine g_iload_n (q := 2) (i := 2) (by decide +kernel) rfl rfl ?_
    refine g_iast (by decide +kernel) (by decide) rfl (vp_lit (by decide)) ?_
    refine g_heapE (H1 := (hu (hu (hu (hu H 20 0 0 (H 3 8 1)) 20 0 1 x4) 20 0 2 x3) 20 0 3 x2)) rfl ?_
    refine g_aload_n (q := 0) (i := 0) (by decide +kernel) rfl rfl ?_
    refine g_get (C := "ThreePoints$Ride") (T := xT_Ride) (N := 4) (ci := 8) (k := 3) (v := vr 20 0) (by decide +kernel) (by decide) rfl rfl xi_Ride (by decide) kw_267 rfl ?_
    refine g_iconst (n := 4) (v := 4) (by decide +kernel) (by decide) ?_
    refine g_aload_n (q := 0) (i := 0) (by decide +kernel) rfl rfl ?_
    refine g_get (C := "ThreePoints$Ride") (T := xT_Ride) (N := 4) (ci := 8) (k := 0) (v := vr 2 2) (by decide +kernel) (by decide) rfl rfl xi_Ride (by decide) kw_259 rfl ?_
    refine g_heap (fun H1 eH1 => ?_)
    replace h := h H1 eH1
    refine g_get (C := "ThreePoints$Lane") (T := xT_Lane) (N := 3) (ci := 2) (k := 0) (v := vi (H1 2 2 0)) (by decide +kernel) (by decide) rfl rfl xi_Lane (by decide) kw_105 rfl ?_
    refine g_iast (by decide +kernel) (by decide) rfl (vp_lit (by decide)) ?_
    refine g_heapE (H1 := (hu H1 20 0 4 (H1 2 2 0))) rfl ?_
    refine g_aload_n (q := 0) (i := 0) (by decide +kernel) rfl rfl ?_
    refine g_get (C := "ThreePoints$Ride") (T := xT_Ride) (N := 4) (ci := 8) (k := 3) (v := vr 20 0) (by decide +kernel) (by decide) rfl rfl xi_Ride (by decide) kw_267 rfl ?_
    refine g_iconst (n := 5) (v := 5) (by decide +kernel) (by decide) ?_
    refine g_iload (i := 5) (by decide +kernel) rfl ?_
    refine g_iast (by decide +kernel) (by decide) rfl (vp_lit (by decide)) ?_
    refine g_heapE (H1 := (hu (hu H1 20 0 4 (H1 2 2 0)) 20 0 5 x5)) rfl ?_
    refine g_aload_n (q := 0) (i := 0) (by decide +kernel) rfl rfl ?_
    refine g_heap (fun H2 eH2 => ?_)
    replace h := h H2 eH2
    refine g_get (C := "ThreePoints$Ride") (T := xT_Ride) (N := 4) (ci := 8) (k := 2) (v := vr 11 t) (by decide +kernel) (by decide) rfl rfl xi_Ride (by decide) kw_265 (by subst eH2; subst eH1; exact hl) ?_
    refine g_iload_n (q := 1) (i := 1) (by decide +kernel) rfl rfl ?_
    refine g_aload_n (q := 0) (i := 0) (by decide +kernel) rfl rfl ?_
    refine g_get (C := "ThreePoints$Ride") (T := xT_Ride) (N := 4) (ci := 8) (k := 3) (v := vr 20 0) (by decide +kernel) (by decide) rfl rfl xi_Ride (by decide) kw_267 rfl ?_
    refine g_callV (kd := 11) (ix := t) (ci := 6) (N := 4) (T := xT_Text) (vs := [vi x1, vr 20 0]) (st := []) (by decide +kernel) xm_Text_says kw_664 kw_665 kw_666 (by decide) rfl rfl rfl rfl (Nat.le_of_ble_eq_true rfl) (Nat.le_of_ble_eq_true rfl) h (fun vH3 H3 hq => ?_)
    obtain ⟨r4, rfl, h⟩ := hq
    exact g_iret (by decide +kernel) rfl ⟨_, rfl, h⟩
def p_Ride_isAtOpening (E : XE) (d : Nat) (x0 : Int32) (H : HH) (Q : Int32 → HH → Prop) : Prop := ((if (x0 &&& 7) < 3 then 0 else (if 5 < (x0 &&& 7) then 0 else 1 : Int32) : Int32) = 0 ∨ (if (x0 &&& 7) < 3 then 0 else (if 5 < (x0 &&& 7) then 0 else 1 : Int32) : Int32) = 1) ∧ Q (if (x0 &&& 7) < 3 then 0 else (if 5 < (x0 &&& 7) then 0 else 1 : Int32) : Int32) H
set_option maxHeartbeats 4000000 in
theorem l_Ride_isAtOpening {E : XE} {d : Nat} {x0 : Int32} {H : HH} {Q : Int32 → HH → Prop} (h : p_Ride_isAtOpening E d x0 H Q) : c_Ride_isAtOpening E d x0 H Q := by
  show g_Ride_isAtOpening E d 0 (xent [vi x0]) [] H (qi Q)
  refine g_drop (ls2 := [some (vi x0), none]) (And.intro rfl trivial) ?_
  refine g_iload_n (q := 0) (i := 0) (by decide +kernel) rfl rfl ?_
  refine g_bipush (n := 7) (v := 7) (by decide +kernel) (by decide) ?_
  refine g_iand (by decide +kernel) ?_
  refine g_istore_n (q := 1) (i := 1) (ls2 := [some (vi x0), some (vi (x0 &&& 7))]) (by decide +kernel) rfl (by decide) rfl rfl ?_
  refine g_iload_n (q := 1) (i := 1) (by decide +kernel) rfl rfl ?_
  refine g_iconst (n := 3) (v := 3) (by decide +kernel) (by decide) ?_
  suffices hj2 : g_Ride_isAtOpening E d 20 [some (vi x0), some (vi (x0 &&& 7))] [vi (if (x0 &&& 7) < 3 then 0 else (if 5 < (x0 &&& 7) then 0 else 1 : Int32) : Int32)] H (qi Q) by
    refine g_icmp_lt (off := 12) (tgt := 19) (by decide +kernel) (by decide) (fun c => ?_) (fun c => ?_)
    · rw [if_pos c] at hj2
      refine g_iconst (n := 0) (v := 0) (by decide +kernel) (by decide) ?_
      exact hj2
    · rw [if_neg c] at hj2
      refine g_iload_n (q := 1) (i := 1) (by decide +kernel) rfl rfl ?_
      refine g_iconst (n := 5) (v := 5) (by decide +kernel) (by decide) ?_
      suffices hj1 : g_Ride_isAtOpening E d 20 [some (vi x0), some (vi (x0 &&& 7))] [vi (if 5 < (x0 &&& 7) then 0 else 1 : Int32)] H (qi Q) by
        refine g_icmp_gt (off := 7) (tgt := 19) (by decide +kernel) (by decide) (fun c => ?_) (fun c => ?_)
        · rw [if_pos c] at hj1
          refine g_iconst (n := 0) (v := 0) (by decide +kernel) (by decide) ?_
          exact hj1
        · rw [if_neg c] at hj1
          refine g_iconst (n := 1) (v := 1) (by decide +kernel) (by decide) ?_
          refine g_goto (off := 4) (tgt := 20) (by decide +kernel) (by decide) ?_
          exact hj1
      exact hj2
  obtain ⟨h01, h⟩ := h
  exact g_zret (by decide +kernel) rfl (nbool h01) ⟨_, rfl, h⟩
def p_Ride_fits (E : XE) (d : Nat) (x1 : Int32) (x2 : Int32) (H : HH) (Q : Int32 → HH → Prop) : Prop := (x1 < 0 → (Q 0 H)) ∧ (¬ x1 < 0 → ((x1 ≤ (H 2 2 0) → (c_Main_across E d x2 H (fun r2 H1 => c_Vehicle_front E d 8 H1 (fun r4 H3 => ∀ v5 : Int32, v5 = (x1 + ((r2 * r4) / 8)) → (c_Main_across E d x2 H3 (fun r7 H6 => c_Vehicle_behind E d 8 H6 (fun r9 H8 => ∀ v10 : Int32, v10 = (x1 - ((r7 * r9) / 8)) → (∀ v11 : Int32, v11 = (xmin x1 (xmin v5 v10)) → (c_Ride_says E d 0 x1 x2 0 0 H8 (fun r13 H12 => (r13 ≤ v11 → (∀ v14 : Int32, v14 = (xmax x1 (xmax v5 v10)) → (c_Ride_isAtOpening E d x2 H12 (fun r16 H15 => ∀ v18 : Int32, v18 = (if r16 = 0 then (H15 2 2 0) else ((H15 2 2 0) + (H15 2 2 1)) : Int32) → (c_Ride_says E d 0 x1 x2 1 0 H15 (fun r20 H19 => ((if (v18 - r20) < v14 then 0 else 1 : Int32) = 0 ∨ (if (v18 - r20) < v14 then 0 else 1 : Int32) = 1) ∧ Q (if (v18 - r20) < v14 then 0 else 1 : Int32) H19)))))) ∧ (¬ r13 ≤ v11 → (Q 0 H12)))))))))))) ∧ (¬ x1 ≤ (H 2 2 0) → (Q 0 H))))
set_option maxHeartbeats 4000000 in
theorem l_Ride_fits {E : XE} {d : Nat} {x1 : Int32} {x2 : Int32} {H : HH} {Q : Int32 → HH → Prop} (h : p_Ride_fits E d x1 x2 H Q) : c_Ride_fits E (d + 1) x1 x2 H Q := by
  show g_Ride_fits E (d + 1) 0 (xent [vr 19 0, vi x1, vi x2]) [] H (qi Q)
  refine g_drop (ls2 := [some (vr 19 0), some (vi x1), some (vi x2), none, none, none, none, none]) (And.intro rfl (And.intro rfl (And.intro rfl trivial))) ?_
  refine g_iload_n (q := 1) (i := 1) (by decide +kernel) rfl rfl ?_
  refine g_if_lt (off := 14) (tgt := 15) (by decide +kernel) (by decide) (fun c => ?_) (fun c => ?_)
  · replace h := h.1 c
    refine g_iconst (n := 0) (v := 0) (by decide +kernel) (by decide) ?_
    exact g_zret (by decide +kernel) rfl rfl ⟨_, rfl, h⟩
  · replace h := h.2 c
    refine g_iload_n (q := 1) (i := 1) (by decide +kernel) rfl rfl ?_
    refine g_aload_n (q := 0) (i := 0) (by decide +kernel) rfl rfl ?_
    refine g_get (C := "ThreePoints$Ride") (T := xT_Ride) (N := 4) (ci := 8) (k := 0) (v := vr 2 2) (by decide +kernel) (by decide) rfl rfl xi_Ride (by decide) kw_259 rfl ?_
    refine g_get (C := "ThreePoints$Lane") (T := xT_Lane) (N := 3) (ci := 2) (k := 0) (v := vi (H 2 2 0)) (by decide +kernel) (by decide) rfl rfl xi_Lane (by decide) kw_105 rfl ?_
    refine g_icmp_le (off := 5) (tgt := 17) (by decide +kernel) (by decide) (fun c => ?_) (fun c => ?_)
    · replace h := h.1 c
      refine g_iload_n (q := 1) (i := 1) (by decide +kernel) rfl rfl ?_
      refine g_iload_n (q := 2) (i := 2) (by decide +kernel) rfl rfl ?_
      refine g_callSN (index := 49) (host := "ThreePoints") (vs := [vi x2]) (st := [vi x1]) (by decide +kernel) xm_Main_across (by decide +kernel) kw_647 rfl rfl (Nat.le_of_ble_eq_true rfl) (Nat.le_of_ble_eq_true rfl) h (fun vH1 H1 hq => ?_)
      obtain ⟨r2, rfl, h⟩ := hq
      refine g_aload_n (q := 0) (i := 0) (by decide +kernel) rfl rfl ?_
      refine g_get (C := "ThreePoints$Ride") (T := xT_Ride) (N := 4) (ci := 8) (k := 1) (v := vr 3 8) (by decide +kernel) (by decide) rfl rfl xi_Ride (by decide) kw_262 rfl ?_
      refine g_callV (kd := 3) (ix := 8) (ci := 3) (N := 7) (T := xT_Vehicle) (vs := []) (st := [vi r2, vi x1]) (by decide +kernel) xm_Vehicle_front kw_651 kw_652 kw_653 (by decide) rfl rfl rfl rfl (Nat.le_of_ble_eq_true rfl) (Nat.le_of_ble_eq_true rfl) h (fun vH3 H3 hq => ?_)
      obtain ⟨r4, rfl, h⟩ := hq
      refine g_imul (by decide +kernel) ?_
      refine g_bipush (n := 8) (v := 8) (by decide +kernel) (by decide) ?_
      refine g_idiv (by decide +kernel) (by decide) ?_
      refine g_iadd (by decide +kernel) ?_
      refine g_topi (fun v5 ev5 => ?_)
      replace h := h v5 ev5
      refine g_istore_n (q := 3) (i := 3) (ls2 := [some (vr 19 0), some (vi x1), some (vi x2), some (vi v5), none, none, none, none]) (by decide +kernel) rfl (by decide) rfl rfl ?_
      refine g_iload_n (q := 1) (i := 1) (by decide +kernel) rfl rfl ?_
      refine g_iload_n (q := 2) (i := 2) (by decide +kernel) rfl rfl ?_
      refine g_callSN (index := 49) (host := "ThreePoints") (vs := [vi x2]) (st := [vi x1]) (by decide +kernel) xm_Main_across (by decide +kernel) kw_647 rfl rfl (Nat.le_of_ble_eq_true rfl) (Nat.le_of_ble_eq_true rfl) h (fun vH6 H6 hq => ?_)
      obtain ⟨r7, rfl, h⟩ := hq
      refine g_aload_n (q := 0) (i := 0) (by decide +kernel) rfl rfl ?_
      refine g_get (C := "ThreePoints$Ride") (T := xT_Ride) (N := 4) (ci := 8) (k := 1) (v := vr 3 8) (by decide +kernel) (by decide) rfl rfl xi_Ride (by decide) kw_262 rfl ?_
      refine g_callV (kd := 3) (ix := 8) (ci := 3) (N := 7) (T := xT_Vehicle) (vs := []) (st := [vi r7, vi x1]) (by decide +kernel) xm_Vehicle_behind kw_655 kw_656 kw_657 (by decide) rfl rfl rfl rfl (Nat.le_of_ble_eq_true rfl) (Nat.le_of_ble_eq_true rfl) h (fun vH8 H8 hq => ?_)
      obtain ⟨r9, rfl, h⟩ := hq
      refine g_imul (by decide +kernel) ?_
      refine g_bipush (n := 8) (v := 8) (by decide +kernel) (by decide) ?_
      refine g_idiv (by decide +kernel) (by decide) ?_
      refine g_isub (by decide +kernel) ?_
      refine g_topi (fun v10 ev10 => ?_)
      replace h := h v10 ev10
      refine g_istore (i := 4) (ls2 := [some (vr 19 0), some (vi x1), some (vi x2), some (vi v5), some (vi v10), none, none, none]) (by decide +kernel) (by decide) rfl rfl ?_
      refine g_iload_n (q := 1) (i := 1) (by decide +kernel) rfl rfl ?_
      refine g_iload_n (q := 3) (i := 3) (by decide +kernel) rfl rfl ?_
      refine g_iload (i := 4) (by decide +kernel) rfl ?_
      refine g_mmin (by decide +kernel) kw_659 kw_463 kw_79 kw_464 (Nat.le_of_ble_eq_true rfl) ?_
      refine g_mmin (by decide +kernel) kw_659 kw_463 kw_79 kw_464 (Nat.le_of_ble_eq_true rfl) ?_
      refine g_topi (fun v11 ev11 => ?_)
      replace h := h v11 ev11
      refine g_istore (i := 5) (ls2 := [some (vr 19 0), some (vi x1), some (vi x2), some (vi v5), some (vi v10), some (vi v11), none, none]) (by decide +kernel) (by decide) rfl rfl ?_
      refine g_iload (i := 5) (by decide +kernel) rfl ?_
      refine g_aload_n (q := 0) (i := 0) (by decide +kernel) rfl rfl ?_
      refine g_iconst (n := 0) (v := 0) (by decide +kernel) (by decide) ?_
      refine g_iload_n (q := 1) (i := 1) (by decide +kernel) rfl rfl ?_
      refine g_iload_n (q := 2) (i := 2) (by decide +kernel) rfl rfl ?_
      refine g_iconst (n := 0) (v := 0) (by decide +kernel) (by decide) ?_
      refine g_iconst (n := 0) (v := 0) (by decide +kernel) (by decide) ?_
      refine g_callV (kd := 19) (ix := 0) (ci := 8) (N := 4) (T := xT_Ride) (vs := [vi 0, vi x1, vi x2, vi 0, vi 0]) (st := [vi v11]) (by decide +kernel) xm_Ride_says kw_660 kw_661 kw_662 (by decide) rfl rfl rfl rfl (Nat.le_of_ble_eq_true rfl) (Nat.le_of_ble_eq_true rfl) h (fun vH12 H12 hq => ?_)
      obtain ⟨r13, rfl, h⟩ := hq
      refine g_icmp_ge (off := 5) (tgt := 82) (by decide +kernel) (by decide) (fun c => ?_) (fun c => ?_)
      · replace h := h.1 c
        refine g_iload_n (q := 1) (i := 1) (by decide +kernel) rfl rfl ?_
        refine g_iload_n (q := 3) (i := 3) (by decide +kernel) rfl rfl ?_
        refine g_iload (i := 4) (by decide +kernel) rfl ?_
        refine g_mmax (by decide +kernel) kw_678 kw_460 kw_79 kw_461 (Nat.le_of_ble_eq_true rfl) ?_
        refine g_mmax (by decide +kernel) kw_678 kw_460 kw_79 kw_461 (Nat.le_of_ble_eq_true rfl) ?_
        refine g_topi (fun v14 ev14 => ?_)
        replace h := h v14 ev14
        refine g_istore (i := 6) (ls2 := [some (vr 19 0), some (vi x1), some (vi x2), some (vi v5), some (vi v10), some (vi v11), some (vi v14), none]) (by decide +kernel) (by decide) rfl rfl ?_
        refine g_iload_n (q := 2) (i := 2) (by decide +kernel) rfl rfl ?_
        refine g_callS (vs := [vi x2]) (st := []) (by decide +kernel) xm_Ride_isAtOpening kw_679 kw_680 rfl rfl (Nat.le_of_ble_eq_true rfl) (Nat.le_of_ble_eq_true rfl) h (fun vH15 H15 hq => ?_)
        obtain ⟨r16, rfl, h⟩ := hq
        suffices hj17 : g_Ride_fits E (d + 1) 126 [some (vr 19 0), some (vi x1), some (vi x2), some (vi v5), some (vi v10), some (vi v11), some (vi v14), none] [vi (if r16 = 0 then (H15 2 2 0) else ((H15 2 2 0) + (H15 2 2 1)) : Int32)] H15 (qi Q) by
          refine g_if_eq (off := 21) (tgt := 119) (by decide +kernel) (by decide) (fun c => ?_) (fun c => ?_)
          · rw [if_pos c] at hj17
            refine g_aload_n (q := 0) (i := 0) (by decide +kernel) rfl rfl ?_
            refine g_get (C := "ThreePoints$Ride") (T := xT_Ride) (N := 4) (ci := 8) (k := 0) (v := vr 2 2) (by decide +kernel) (by decide) rfl rfl xi_Ride (by decide) kw_259 rfl ?_
            refine g_get (C := "ThreePoints$Lane") (T := xT_Lane) (N := 3) (ci := 2) (k := 0) (v := vi (H15 2 2 0)) (by decide +kernel) (by decide) rfl rfl xi_Lane (by decide) kw_105 rfl ?_
            exact hj17
          · rw [if_neg c] at hj17
            refine g_aload_n (q := 0) (i := 0) (by decide +kernel) rfl rfl ?_
            refine g_get (C := "ThreePoints$Ride") (T := xT_Ride) (N := 4) (ci := 8) (k := 0) (v := vr 2 2) (by decide +kernel) (by decide) rfl rfl xi_Ride (by decide) kw_259 rfl ?_
            refine g_get (C := "ThreePoints$Lane") (T := xT_Lane) (N := 3) (ci := 2) (k := 0) (v := vi (H15 2 2 0)) (by decide +kernel) (by decide) rfl rfl xi_Lane (by decide) kw_105 rfl ?_
            refine g_aload_n (q := 0) (i := 0) (by decide +kernel) rfl rfl ?_
            refine g_get (C := "ThreePoints$Ride") (T := xT_Ride) (N := 4) (ci := 8) (k := 0) (v := vr 2 2) (by decide +kernel) (by decide) rfl rfl xi_Ride (by decide) kw_259 rfl ?_
            refine g_get (C := "ThreePoints$Lane") (T := xT_Lane) (N := 3) (ci := 2) (k := 1) (v := vi (H15 2 2 1)) (by decide +kernel) (by decide) rfl rfl xi_Lane (by decide) kw_110 rfl ?_
            refine g_iadd (by decide +kernel) ?_
            refine g_goto (off := 10) (tgt := 126) (by decide +kernel) (by decide) ?_
            exact hj17
        refine g_topi (fun v18 ev18 => ?_)
        replace h := h v18 ev18
        refine g_istore (i := 7) (ls2 := [some (vr 19 0), some (vi x1), some (vi x2), some (vi v5), some (vi v10), some (vi v11), some (vi v14), some (vi v18)]) (by decide +kernel) (by decide) rfl rfl ?_
        refine g_iload (i := 6) (by decide +kernel) rfl ?_
        refine g_iload (i := 7) (by decide +kernel) rfl ?_
        refine g_aload_n (q := 0) (i := 0) (by decide +kernel) rfl rfl ?_
        refine g_iconst (n := 0) (v := 0) (by decide +kernel) (by decide) ?_
        refine g_iload_n (q := 1) (i := 1) (by decide +kernel) rfl rfl ?_
        refine g_iload_n (q := 2) (i := 2) (by decide +kernel) rfl rfl ?_
        refine g_iconst (n := 1) (v := 1) (by decide +kernel) (by decide) ?_
        refine g_iconst (n := 0) (v := 0) (by decide +kernel) (by decide) ?_
        refine g_callV (kd := 19) (ix := 0) (ci := 8) (N := 4) (T := xT_Ride) (vs := [vi 0, vi x1, vi x2, vi 1, vi 0]) (st := [vi v18, vi v14]) (by decide +kernel) xm_Ride_says kw_660 kw_661 kw_662 (by decide) rfl rfl rfl rfl (Nat.le_of_ble_eq_true rfl) (Nat.le_of_ble_eq_true rfl) h (fun vH19 H19 hq => ?_)
        obtain ⟨r20, rfl, h⟩ := hq
        refine g_isub (by decide +kernel) ?_
        suffices hj21 : g_Ride_fits E (d + 1) 150 [some (vr 19 0), some (vi x1), some (vi x2), some (vi v5), some (vi v10), some (vi v11), some (vi v14), some (vi v18)] [vi (if (v18 - r20) < v14 then 0 else 1 : Int32)] H19 (qi Q) by
          refine g_icmp_gt (off := 7) (tgt := 149) (by decide +kernel) (by decide) (fun c => ?_) (fun c => ?_)
          · rw [if_pos c] at hj21
            refine g_iconst (n := 0) (v := 0) (by decide +kernel) (by decide) ?_
            exact hj21
          · rw [if_neg c] at hj21
            refine g_iconst (n := 1) (v := 1) (by decide +kernel) (by decide) ?_
            refine g_goto (off := 4) (tgt := 150) (by decide +kernel) (by decide) ?_
            exact hj21
        obtain ⟨h01, h⟩ := h
        exact g_zret (by decide +kernel) rfl (nbool h01) ⟨_, rfl, h⟩
      · replace h := h.2 c
        refine g_iconst (n := 0) (v := 0) (by decide +kernel) (by decide) ?_
        exact g_zret (by decide +kernel) rfl rfl ⟨_, rfl, h⟩
    · replace h := h.2 c
      refine g_iconst (n := 0) (v := 0) (by decide +kernel) (by decide) ?_
      exact g_zret (by decide +kernel) rfl rfl ⟨_, rfl, h⟩
def p_Ride_fitsNow (E : XE) (d : Nat)  (H : HH) (Q : Int32 → HH → Prop) : Prop := c_Ride_fits E d (H 3 8 2) (H 3 8 3) H (fun r2 H1 => (r2 = 0 ∨ r2 = 1) ∧ Q r2 H1)
set_option maxHeartbeats 4000000 in
theorem l_Ride_fitsNow {E : XE} {d : Nat}  {H : HH} {Q : Int32 → HH → Prop} (h : p_Ride_fitsNow E d  H Q) : c_Ride_fitsNow E (d + 1)  H Q := by
  show g_Ride_fitsNow E (d + 1) 0 (xent [vr 19 0]) [] H (qi Q)
  refine g_drop (ls2 := [some (vr 19 0)]) (And.intro rfl trivial) ?_
  refine g_aload_n (q := 0) (i := 0) (by decide +kernel) rfl rfl ?_
  refine g_aload_n (q := 0) (i := 0) (by decide +kernel) rfl rfl ?_
  refine g_get (C := "ThreePoints$Ride") (T := xT_Ride) (N := 4) (ci := 8) (k := 1) (v := vr 3 8) (by decide +kernel) (by decide) rfl rfl xi_Ride (by decide) kw_262 rfl ?_
  refine g_get (C := "ThreePoints$Vehicle") (T := xT_Vehicle) (N := 7) (ci := 3) (k := 2) (v := vi (H 3 8 2)) (by decide +kernel) (by decide) rfl rfl xi_Vehicle (by decide) kw_133 rfl ?_
  refine g_aload_n (q := 0) (i := 0) (by decide +kernel) rfl rfl ?_
  refine g_get (C := "ThreePoints$Ride") (T := xT_Ride) (N := 4) (ci := 8) (k := 1) (v := vr 3 8) (by decide +kernel) (by decide) rfl rfl xi_Ride (by decide) kw_262 rfl ?_
  refine g_get (C := "ThreePoints$Vehicle") (T := xT_Vehicle) (N := 7) (ci := 3) (k := 3) (v := vi (H 3 8 3)) (by decide +kernel) (by decide) rfl rfl xi_Vehicle (by decide) kw_137 rfl ?_
  refine g_callV (kd := 19) (ix := 0) (ci := 8) (N := 4) (T := xT_Ride) (vs := [vi (H 3 8 2), vi (H 3 8 3)]) (st := []) (by decide +kernel) xm_Ride_fits kw_642 kw_643 kw_644 (by decide) rfl rfl rfl rfl (Nat.le_of_ble_eq_true rfl) (Nat.le_of_ble_eq_true rfl) h (fun vH1 H1 hq => ?_)
  obtain ⟨r2, rfl, h⟩ := hq
  obtain ⟨h01, h⟩ := h
  exact g_zret (by decide +kernel) rfl (nbool h01) ⟨_, rfl, h⟩
def p_Ride_shift (E : XE) (d : Nat) (x0 : Int32) (x1 : Int32) (H : HH) (Q : Int32 → HH → Prop) : Prop := c_Main_across E d x0 H (fun r2 H1 => Q (if x1 = 0 then (r2 / 2) else (-(r2 / 2)) : Int32) H1)
set_option maxHeartbeats 4000000 in
theorem l_Ride_shift {E : XE} {d : Nat} {x0 : Int32} {x1 : Int32} {H : HH} {Q : Int32 → HH → Prop} (h : p_Ride_shift E d x0 x1 H Q) : c_Ride_shift E (d + 1) x0 x1 H Q := by
  show g_Ride_shift E (d + 1) 0 (xent [vi x0, vi x1]) [] H (qi Q)
  refine g_drop (ls2 := [some (vi x0), some (vi x1), none]) (And.intro rfl (And.intro rfl trivial)) ?_
  refine g_iload_n (q := 0) (i := 0) (by decide +kernel) rfl rfl ?_
  refine g_callSN (index := 49) (host := "ThreePoints") (vs := [vi x0]) (st := []) (by decide +kernel) xm_Main_across (by decide +kernel) kw_647 rfl rfl (Nat.le_of_ble_eq_true rfl) (Nat.le_of_ble_eq_true rfl) h (fun vH1 H1 hq => ?_)
  obtain ⟨r2, rfl, h⟩ := hq
  refine g_iconst (n := 2) (v := 2) (by decide +kernel) (by decide) ?_
  refine g_idiv (by decide +kernel) (by decide) ?_
  refine g_istore_n (q := 2) (i := 2) (ls2 := [some (vi x0), some (vi x1), some (vi (r2 / 2))]) (by decide +kernel) rfl (by decide) rfl rfl ?_
  refine g_iload_n (q := 1) (i := 1) (by decide +kernel) rfl rfl ?_
  suffices hj3 : g_Ride_shift E (d + 1) 17 [some (vi x0), some (vi x1), some (vi (r2 / 2))] [vi (if x1 = 0 then (r2 / 2) else (-(r2 / 2)) : Int32)] H1 (qi Q) by
    refine g_if_ne (off := 7) (tgt := 15) (by decide +kernel) (by decide) (fun c => ?_) (fun c => ?_)
    · rw [if_neg c] at hj3
      refine g_iload_n (q := 2) (i := 2) (by decide +kernel) rfl rfl ?_
      refine g_ineg (by decide +kernel) ?_
      exact hj3
    · rw [if_pos c] at hj3
      refine g_iload_n (q := 2) (i := 2) (by decide +kernel) rfl rfl ?_
      refine g_goto (off := 5) (tgt := 17) (by decide +kernel) (by decide) ?_
      exact hj3
  exact g_iret (by decide +kernel) rfl ⟨_, rfl, h⟩
def p_Ride_turnedBy (E : XE) (d : Nat) (x1 : Int32) (x2 : Int32) (x3 : Int32) (H : HH) (Q : Int32 → HH → Prop) : Prop := c_Vehicle_turns E d 8 x2 x3 H (fun r2 H1 => Q ((x1 + r2) &&& 15) H1)
set_option maxHeartbeats 4000000 in
theorem l_Ride_turnedBy {E : XE} {d : Nat} {x1 : Int32} {x2 : Int32} {x3 : Int32} {H : HH} {Q : Int32 → HH → Prop} (h : p_Ride_turnedBy E d x1 x2 x3 H Q) : c_Ride_turnedBy E (d + 1) x1 x2 x3 H Q := by
  show g_Ride_turnedBy E (d + 1) 0 (xent [vr 19 0, vi x1, vi x2, vi x3]) [] H (qi Q)
  refine g_drop (ls2 := [some (vr 19 0), some (vi x1), some (vi x2), some (vi x3)]) (And.intro rfl (And.intro rfl (And.intro rfl (And.intro rfl trivial)))) ?_
  refine g_iload_n (q := 1) (i := 1) (by decide +kernel) rfl rfl ?_
  refine g_aload_n (q := 0) (i := 0) (by decide +kernel) rfl rfl ?_
  refine g_get (C := "ThreePoints$Ride") (T := xT_Ride) (N := 4) (ci := 8) (k := 1) (v := vr 3 8) (by decide +kernel) (by decide) rfl rfl xi_Ride (by decide) kw_262 rfl ?_
  refine g_iload_n (q := 2) (i := 2) (by decide +kernel) rfl rfl ?_
  refine g_iload_n (q := 3) (i := 3) (by decide +kernel) rfl rfl ?_
  refine g_callV (kd := 3) (ix := 8) (ci := 3) (N := 7) (T := xT_Vehicle) (vs := [vi x2, vi x3]) (st := [vi x1]) (by decide +kernel) xm_Vehicle_turns kw_752 kw_753 kw_754 (by decide) rfl rfl rfl rfl (Nat.le_of_ble_eq_true rfl) (Nat.le_of_ble_eq_true rfl) h (fun vH1 H1 hq => ?_)
  obtain ⟨r2, rfl, h⟩ := hq
  refine g_iadd (by decide +kernel) ?_
  refine g_bipush (n := 15) (v := 15) (by decide +kernel) (by decide) ?_
  refine g_iand (by decide +kernel) ?_
  exact g_iret (by decide +kernel) rfl ⟨_, rfl, h⟩
def p_Ride_wears (E : XE) (d : Nat) (x1 : Int32) (x2 : Int32) (x3 : Int32) (H : HH) (Q : Int32 → HH → Prop) : Prop := c_Ride_says E d 1 x1 x2 0 (if x3 = 0 then 0 else 1 : Int32) H (fun r3 H2 => Q r3 H2)
set_option maxHeartbeats 4000000 in
theorem l_Ride_wears {E : XE} {d : Nat} {x1 : Int32} {x2 : Int32} {x3 : Int32} {H : HH} {Q : Int32 → HH → Prop} (h : p_Ride_wears E d x1 x2 x3 H Q) : c_Ride_wears E (d + 1) x1 x2 x3 H Q := by
  show g_Ride_wears E (d + 1) 0 (xent [vr 19 0, vi x1, vi x2, vi x3]) [] H (qi Q)
  refine g_drop (ls2 := [some (vr 19 0), some (vi x1), some (vi x2), some (vi x3)]) (And.intro rfl (And.intro rfl (And.intro rfl (And.intro rfl trivial)))) ?_
  refine g_aload_n (q := 0) (i := 0) (by decide +kernel) rfl rfl ?_
  refine g_iconst (n := 1) (v := 1) (by decide +kernel) (by decide) ?_
  refine g_iload_n (q := 1) (i := 1) (by decide +kernel) rfl rfl ?_
  refine g_iload_n (q := 2) (i := 2) (by decide +kernel) rfl rfl ?_
  refine g_iconst (n := 0) (v := 0) (by decide +kernel) (by decide) ?_
  refine g_iload_n (q := 3) (i := 3) (by decide +kernel) rfl rfl ?_
  suffices hj1 : g_Ride_wears E (d + 1) 14 [some (vr 19 0), some (vi x1), some (vi x2), some (vi x3)] [vi (if x3 = 0 then 0 else 1 : Int32), vi 0, vi x2, vi x1, vi 1, vr 19 0] H (qi Q) by
    refine g_if_ne (off := 7) (tgt := 13) (by decide +kernel) (by decide) (fun c => ?_) (fun c => ?_)
    · rw [if_neg c] at hj1
      refine g_iconst (n := 1) (v := 1) (by decide +kernel) (by decide) ?_
      exact hj1
    · rw [if_pos c] at hj1
      refine g_iconst (n := 0) (v := 0) (by decide +kernel) (by decide) ?_
      refine g_goto (off := 4) (tgt := 14) (by decide +kernel) (by decide) ?_
      exact hj1
  refine g_callV (kd := 19) (ix := 0) (ci := 8) (N := 4) (T := xT_Ride) (vs := [vi 1, vi x1, vi x2, vi 0, vi (if x3 = 0 then 0 else 1 : Int32)]) (st := []) (by decide +kernel) xm_Ride_says kw_660 kw_661 kw_662 (by decide) rfl rfl rfl rfl (Nat.le_of_ble_eq_true rfl) (Nat.le_of_ble_eq_true rfl) h (fun vH2 H2 hq => ?_)
  obtain ⟨r3, rfl, h⟩ := hq
  exact g_iret (by decide +kernel) rfl ⟨_, rfl, h⟩
def p_Ride_go (E : XE) (d : Nat) (x1 : Int32) (x2 : Int32) (H : HH) (Q : Int32 → HH → Prop) : Prop := c_Ride_shift E d (H 3 8 3) x1 H (fun r2 H1 => ∀ v3 : Int32, v3 = ((H 3 8 2) + r2) → (c_Ride_turnedBy E d (H1 3 8 3) x1 x2 H1 (fun r5 H4 => c_Ride_fits E d v3 r5 H4 (fun r7 H6 => (¬ r7 = 0 → (c_Ride_wears E d (H6 3 8 2) (H6 3 8 3) x2 H6 (fun r9 H8 => c_Vehicle_stepTo E d 8 v3 r5 x1 r9 H8 (fun H10 => Q 1 H10)))) ∧ (r7 = 0 → (Q 0 H6))))))
set_option maxHeartbeats 4000000 in
theorem l_Ride_go {E : XE} {d : Nat} {x1 : Int32} {x2 : Int32} {H : HH} {Q : Int32 → HH → Prop} (h : p_Ride_go E d x1 x2 H Q) : c_Ride_go E (d + 1) x1 x2 H Q := by
  show g_Ride_go E (d + 1) 0 (xent [vr 19 0, vi x1, vi x2]) [] H (qi Q)
  refine g_drop (ls2 := [some (vr 19 0), some (vi x1), some (vi x2), none, none]) (And.intro rfl (And.intro rfl (And.intro rfl trivial))) ?_
  refine g_aload_n (q := 0) (i := 0) (by decide +kernel) rfl rfl ?_
  refine g_get (C := "ThreePoints$Ride") (T := xT_Ride) (N := 4) (ci := 8) (k := 1) (v := vr 3 8) (by decide +kernel) (by decide) rfl rfl xi_Ride (by decide) kw_262 rfl ?_
  refine g_get (C := "ThreePoints$Vehicle") (T := xT_Vehicle) (N := 7) (ci := 3) (k := 2) (v := vi (H 3 8 2)) (by decide +kernel) (by decide) rfl rfl xi_Vehicle (by decide) kw_133 rfl ?_
  refine g_aload_n (q := 0) (i := 0) (by decide +kernel) rfl rfl ?_
  refine g_get (C := "ThreePoints$Ride") (T := xT_Ride) (N := 4) (ci := 8) (k := 1) (v := vr 3 8) (by decide +kernel) (by decide) rfl rfl xi_Ride (by decide) kw_262 rfl ?_
  refine g_get (C := "ThreePoints$Vehicle") (T := xT_Vehicle) (N := 7) (ci := 3) (k := 3) (v := vi (H 3 8 3)) (by decide +kernel) (by decide) rfl rfl xi_Vehicle (by decide) kw_137 rfl ?_
  refine g_iload_n (q := 1) (i := 1) (by decide +kernel) rfl rfl ?_
  refine g_callS (vs := [vi (H 3 8 3), vi x1]) (st := [vi (H 3 8 2)]) (by decide +kernel) xm_Ride_shift kw_745 kw_746 rfl rfl (Nat.le_of_ble_eq_true rfl) (Nat.le_of_ble_eq_true rfl) h (fun vH1 H1 hq => ?_)
  obtain ⟨r2, rfl, h⟩ := hq
  refine g_iadd (by decide +kernel) ?_
  refine g_topi (fun v3 ev3 => ?_)
  replace h := h v3 ev3
  refine g_istore_n (q := 3) (i := 3) (ls2 := [some (vr 19 0), some (vi x1), some (vi x2), some (vi v3), none]) (by decide +kernel) rfl (by decide) rfl rfl ?_
  refine g_aload_n (q := 0) (i := 0) (by decide +kernel) rfl rfl ?_
  refine g_aload_n (q := 0) (i := 0) (by decide +kernel) rfl rfl ?_
  refine g_get (C := "ThreePoints$Ride") (T := xT_Ride) (N := 4) (ci := 8) (k := 1) (v := vr 3 8) (by decide +kernel) (by decide) rfl rfl xi_Ride (by decide) kw_262 rfl ?_
  refine g_get (C := "ThreePoints$Vehicle") (T := xT_Vehicle) (N := 7) (ci := 3) (k := 3) (v := vi (H1 3 8 3)) (by decide +kernel) (by decide) rfl rfl xi_Vehicle (by decide) kw_137 rfl ?_
  refine g_iload_n (q := 1) (i := 1) (by decide +kernel) rfl rfl ?_
  refine g_iload_n (q := 2) (i := 2) (by decide +kernel) rfl rfl ?_
  refine g_callV (kd := 19) (ix := 0) (ci := 8) (N := 4) (T := xT_Ride) (vs := [vi (H1 3 8 3), vi x1, vi x2]) (st := []) (by decide +kernel) xm_Ride_turnedBy kw_748 kw_749 kw_750 (by decide) rfl rfl rfl rfl (Nat.le_of_ble_eq_true rfl) (Nat.le_of_ble_eq_true rfl) h (fun vH4 H4 hq => ?_)
  obtain ⟨r5, rfl, h⟩ := hq
  refine g_istore (i := 4) (ls2 := [some (vr 19 0), some (vi x1), some (vi x2), some (vi v3), some (vi r5)]) (by decide +kernel) (by decide) rfl rfl ?_
  refine g_aload_n (q := 0) (i := 0) (by decide +kernel) rfl rfl ?_
  refine g_iload_n (q := 3) (i := 3) (by decide +kernel) rfl rfl ?_
  refine g_iload (i := 4) (by decide +kernel) rfl ?_
  refine g_callV (kd := 19) (ix := 0) (ci := 8) (N := 4) (T := xT_Ride) (vs := [vi v3, vi r5]) (st := []) (by decide +kernel) xm_Ride_fits kw_642 kw_643 kw_644 (by decide) rfl rfl rfl rfl (Nat.le_of_ble_eq_true rfl) (Nat.le_of_ble_eq_true rfl) h (fun vH6 H6 hq => ?_)
  obtain ⟨r7, rfl, h⟩ := hq
  refine g_if_ne (off := 5) (tgt := 47) (by decide +kernel) (by decide) (fun c => ?_) (fun c => ?_)
  · replace h := h.1 c
    refine g_aload_n (q := 0) (i := 0) (by decide +kernel) rfl rfl ?_
    refine g_get (C := "ThreePoints$Ride") (T := xT_Ride) (N := 4) (ci := 8) (k := 1) (v := vr 3 8) (by decide +kernel) (by decide) rfl rfl xi_Ride (by decide) kw_262 rfl ?_
    refine g_iload_n (q := 3) (i := 3) (by decide +kernel) rfl rfl ?_
    refine g_iload (i := 4) (by decide +kernel) rfl ?_
    refine g_iload_n (q := 1) (i := 1) (by decide +kernel) rfl rfl ?_
    refine g_aload_n (q := 0) (i := 0) (by decide +kernel) rfl rfl ?_
    refine g_aload_n (q := 0) (i := 0) (by decide +kernel) rfl rfl ?_
    refine g_get (C := "ThreePoints$Ride") (T := xT_Ride) (N := 4) (ci := 8) (k := 1) (v := vr 3 8) (by decide +kernel) (by decide) rfl rfl xi_Ride (by decide) kw_262 rfl ?_
    refine g_get (C := "ThreePoints$Vehicle") (T := xT_Vehicle) (N := 7) (ci := 3) (k := 2) (v := vi (H6 3 8 2)) (by decide +kernel) (by decide) rfl rfl xi_Vehicle (by decide) kw_133 rfl ?_
    refine g_aload_n (q := 0) (i := 0) (by decide +kernel) rfl rfl ?_
    refine g_get (C := "ThreePoints$Ride") (T := xT_Ride) (N := 4) (ci := 8) (k := 1) (v := vr 3 8) (by decide +kernel) (by decide) rfl rfl xi_Ride (by decide) kw_262 rfl ?_
    refine g_get (C := "ThreePoints$Vehicle") (T := xT_Vehicle) (N := 7) (ci := 3) (k := 3) (v := vi (H6 3 8 3)) (by decide +kernel) (by decide) rfl rfl xi_Vehicle (by decide) kw_137 rfl ?_
    refine g_iload_n (q := 2) (i := 2) (by decide +kernel) rfl rfl ?_
    refine g_callV (kd := 19) (ix := 0) (ci := 8) (N := 4) (T := xT_Ride) (vs := [vi (H6 3 8 2), vi (H6 3 8 3), vi x2]) (st := [vi x1, vi r5, vi v3, vr 3 8]) (by decide +kernel) xm_Ride_wears kw_756 kw_757 kw_758 (by decide) rfl rfl rfl rfl (Nat.le_of_ble_eq_true rfl) (Nat.le_of_ble_eq_true rfl) h (fun vH8 H8 hq => ?_)
    obtain ⟨r9, rfl, h⟩ := hq
    refine g_callV (kd := 3) (ix := 8) (ci := 3) (N := 7) (T := xT_Vehicle) (vs := [vi v3, vi r5, vi x1, vi r9]) (st := []) (by decide +kernel) xm_Vehicle_stepTo kw_760 kw_761 kw_762 (by decide) rfl rfl rfl rfl (Nat.le_of_ble_eq_true rfl) (Nat.le_of_ble_eq_true rfl) h (fun vH10 H10 hq => ?_)
    replace h := hq
    refine g_iconst (n := 1) (v := 1) (by decide +kernel) (by decide) ?_
    exact g_zret (by decide +kernel) rfl rfl ⟨_, rfl, h⟩
  · replace h := h.2 c
    refine g_iconst (n := 0) (v := 0) (by decide +kernel) (by decide) ?_
    exact g_zret (by decide +kernel) rfl rfl ⟨_, rfl, h⟩
def p_Search_state (E : XE) (d : Nat) (x0 : Int32) (x1 : Int32) (x2 : Int32) (H : HH) (Q : Int32 → HH → Prop) : Prop := ∀ v1 : Int32, v1 = (xmax 0 (xmin x0 60)) → (Q ((((v1 * 16) + (x1 &&& 15)) * 2) + (x2 &&& 1)) H)
set_option maxHeartbeats 4000000 in
theorem l_Search_state {E : XE} {d : Nat} {x0 : Int32} {x1 : Int32} {x2 : Int32} {H : HH} {Q : Int32 → HH → Prop} (h : p_Search_state E d x0 x1 x2 H Q) : c_Search_state E (d + 1) x0 x1 x2 H Q := by
  show g_Search_state E (d + 1) 0 (xent [vi x0, vi x1, vi x2]) [] H (qi Q)
  refine g_drop (ls2 := [some (vi x0), some (vi x1), some (vi x2), none]) (And.intro rfl (And.intro rfl (And.intro rfl trivial))) ?_
  refine g_iconst (n := 0) (v := 0) (by decide +kernel) (by decide) ?_
  refine g_iload_n (q := 0) (i := 0) (by decide +kernel) rfl rfl ?_
  refine g_bipush (n := 60) (v := 60) (by decide +kernel) (by decide) ?_
  refine g_mmin (by decide +kernel) kw_786 kw_463 kw_79 kw_464 (Nat.le_of_ble_eq_true rfl) ?_
  refine g_mmax (by decide +kernel) kw_787 kw_460 kw_79 kw_461 (Nat.le_of_ble_eq_true rfl) ?_
  refine g_topi (fun v1 ev1 => ?_)
  replace h := h v1 ev1
  refine g_istore_n (q := 3) (i := 3) (ls2 := [some (vi x0), some (vi x1), some (vi x2), some (vi v1)]) (by decide +kernel) rfl (by decide) rfl rfl ?_
  refine g_iload_n (q := 3) (i := 3) (by decide +kernel) rfl rfl ?_
  refine g_bipush (n := 16) (v := 16) (by decide +kernel) (by decide) ?_
  refine g_imul (by decide +kernel) ?_
  refine g_iload_n (q := 1) (i := 1) (by decide +kernel) rfl rfl ?_
  refine g_bipush (n := 15) (v := 15) (by decide +kernel) (by decide) ?_
  refine g_iand (by decide +kernel) ?_
  refine g_iadd (by decide +kernel) ?_
  refine g_iconst (n := 2) (v := 2) (by decide +kernel) (by decide) ?_
  refine g_imul (by decide +kernel) ?_
  refine g_iload_n (q := 2) (i := 2) (by decide +kernel) rfl rfl ?_
  refine g_iconst (n := 1) (v := 1) (by decide +kernel) (by decide) ?_
  refine g_iand (by decide +kernel) ?_
  refine g_iadd (by decide +kernel) ?_
  exact g_iret (by decide +kernel) rfl ⟨_, rfl, h⟩
def p_Search_unlink (E : XE) (d : Nat) (x1 : Int32) (H : HH) (Q : HH → Prop) : Prop := (x1 < 0 → (Q H)) ∧ (¬ x1 < 0 → ((x1 < 1952 → (vp_in x1 1952 ∧ (∀ v1 : Int32, v1 = (H 25 0 (x1.toNatClampNeg)) → (vp_in x1 1952 ∧ (∀ v2 : Int32, v2 = (H 26 0 (x1.toNatClampNeg)) → ((v2 < 0 → (vp_in x1 1952 ∧ (vp_in (xrem (H 23 0 (x1.toNatClampNeg)) 128) 128 ∧ (∀ H3 : HH, H3 = (hu H 24 0 ((xrem (H 23 0 (x1.toNatClampNeg)) 128).toNatClampNeg) v1) → ((v1 < 0 → (∀ H4 : HH, H4 = (hu H3 21 0 6 ((H3 21 0 6) - 1)) → (Q H4))) ∧ (¬ v1 < 0 → ((1952 ≤ v1 → (∀ H5 : HH, H5 = (hu H3 21 0 6 ((H3 21 0 6) - 1)) → (Q H5))) ∧ (¬ 1952 ≤ v1 → (vp_in v1 1952 ∧ (∀ H6 : HH, H6 = (hu H3 26 0 (v1.toNatClampNeg) v2) → (∀ H7 : HH, H7 = (hu H6 21 0 6 ((H6 21 0 6) - 1)) → (Q H7)))))))))))) ∧ (¬ v2 < 0 → ((1952 ≤ v2 → (vp_in x1 1952 ∧ (vp_in (xrem (H 23 0 (x1.toNatClampNeg)) 128) 128 ∧ (∀ H8 : HH, H8 = (hu H 24 0 ((xrem (H 23 0 (x1.toNatClampNeg)) 128).toNatClampNeg) v1) → ((v1 < 0 → (∀ H9 : HH, H9 = (hu H8 21 0 6 ((H8 21 0 6) - 1)) → (Q H9))) ∧ (¬ v1 < 0 → ((1952 ≤ v1 → (∀ H10 : HH, H10 = (hu H8 21 0 6 ((H8 21 0 6) - 1)) → (Q H10))) ∧ (¬ 1952 ≤ v1 → (vp_in v1 1952 ∧ (∀ H11 : HH, H11 = (hu H8 26 0 (v1.toNatClampNeg) v2) → (∀ H12 : HH, H12 = (hu H11 21 0 6 ((H11 21 0 6) - 1)) → (Q H12)))))))))))) ∧ (¬ 1952 ≤ v2 → (vp_in v2 1952 ∧ (∀ H13 : HH, H13 = (hu H 25 0 (v2.toNatClampNeg) v1) → ((v1 < 0 → (∀ H14 : HH, H14 = (hu H13 21 0 6 ((H13 21 0 6) - 1)) → (Q H14))) ∧ (¬ v1 < 0 → ((1952 ≤ v1 → (∀ H15 : HH, H15 = (hu H13 21 0 6 ((H13 21 0 6) - 1)) → (Q H15))) ∧ (¬ 1952 ≤ v1 → (vp_in v1 1952 ∧ (∀ H16 : HH, H16 = (hu H13 26 0 (v1.toNatClampNeg) v2) → (∀ H17 : HH, H17 = (hu H16 21 0 6 ((H16 21 0 6) - 1)) → (Q H17))))))))))))))))))) ∧ (¬ x1 < 1952 → (Q H))))
set_option maxHeartbeats 4000000 in
theorem l_Search_unlink {E : XE} {d : Nat} {x1 : Int32} {H : HH} {Q : HH → Prop} (h : p_Search_unlink E d x1 H Q) : c_Search_unlink E d x1 H Q := by
  show g_Search_unlink E d 0 (xent [vr 21 0, vi x1]) [] H (qv Q)
  refine g_drop (ls2 := [some (vr 21 0), some (vi x1), none, none]) (And.intro rfl (And.intro rfl trivial)) ?_
  refine g_iload_n (q := 1) (i := 1) (by decide +kernel) rfl rfl ?_
  refine g_if_lt (off := 10) (tgt := 11) (by decide +kernel) (by decide) (fun c => ?_) (fun c => ?_)
  · replace h := h.1 c
    exact g_vret (by decide +kernel) rfl h
  · replace h := h.2 c
    refine g_iload_n (q := 1) (i := 1) (by decide +kernel) rfl rfl ?_
    refine g_sipush (n := 1952) (v := 1952) (by decide +kernel) (by decide) ?_
    refine g_icmp_lt (off := 4) (tgt := 12) (by decide +kernel) (by decide) (fun c => ?_) (fun c => ?_)
    · replace h := h.1 c
      refine g_aload_n (q := 0) (i := 0) (by decide +kernel) rfl rfl ?_
      refine g_get (C := "ThreePoints$Search") (T := xT_Search) (N := 8) (ci := 9) (k := 4) (v := vr 25 0) (by decide +kernel) (by decide) rfl rfl xi_Search (by decide) kw_287 rfl ?_
      refine g_iload_n (q := 1) (i := 1) (by decide +kernel) rfl rfl ?_
      obtain ⟨hin, h⟩ := h
      refine g_iald (by decide +kernel) (by decide) rfl hin ?_
      refine g_topi (fun v1 ev1 => ?_)
      replace h := h v1 ev1
      refine g_istore_n (q := 2) (i := 2) (ls2 := [some (vr 21 0), some (vi x1), some (vi v1), none]) (by decide +kernel) rfl (by decide) rfl rfl ?_
      refine g_aload_n (q := 0) (i := 0) (by decide +kernel) rfl rfl ?_
      refine g_get (C := "ThreePoints$Search") (T := xT_Search) (N := 8) (ci := 9) (k := 5) (v := vr 26 0) (by decide +kernel) (by decide) rfl rfl xi_Search (by decide) kw_288 rfl ?_
      refine g_iload_n (q := 1) (i := 1) (by decide +kernel) rfl rfl ?_
      obtain ⟨hin, h⟩ := h
      refine g_iald (by decide +kernel) (by decide) rfl hin ?_
      refine g_topi (fun v2 ev2 => ?_)
      replace h := h v2 ev2
      refine g_istore_n (q := 3) (i := 3) (ls2 := [some (vr 21 0), some (vi x1), some (vi v1), some (vi v2)]) (by decide +kernel) rfl (by decide) rfl rfl ?_
      refine g_iload_n (q := 3) (i := 3) (by decide +kernel) rfl rfl ?_
      refine g_if_lt (off := 20) (tgt := 47) (by decide +kernel) (by decide) (fun c => ?_) (fun c => ?_)
      · replace h := h.1 c
        refine g_aload_n (q := 0) (i := 0) (by decide +kernel) rfl rfl ?_
        refine g_get (C := "ThreePoints$Search") (T := xT_Search) (N := 8) (ci := 9) (k := 3) (v := vr 24 0) (by decide +kernel) (by decide) rfl rfl xi_Search (by decide) kw_286 rfl ?_
        refine g_aload_n (q := 0) (i := 0) (by decide +kernel) rfl rfl ?_
        refine g_get (C := "ThreePoints$Search") (T := xT_Search) (N := 8) (ci := 9) (k := 2) (v := vr 23 0) (by decide +kernel) (by decide) rfl rfl xi_Search (by decide) kw_285 rfl ?_
        refine g_iload_n (q := 1) (i := 1) (by decide +kernel) rfl rfl ?_
        obtain ⟨hin, h⟩ := h
        refine g_iald (by decide +kernel) (by decide) rfl hin ?_
        refine g_sipush (n := 128) (v := 128) (by decide +kernel) (by decide) ?_
        refine g_irem (by decide +kernel) (by decide) ?_
        refine g_iload_n (q := 2) (i := 2) (by decide +kernel) rfl rfl ?_
        obtain ⟨hin, h⟩ := h
        refine g_iast (by decide +kernel) (by decide) rfl hin ?_
        refine g_iload_n (q := 2) (i := 2) (by decide +kernel) rfl rfl ?_
        refine g_heap (fun H3 eH3 => ?_)
        replace h := h H3 eH3
        refine g_if_lt (off := 17) (tgt := 81) (by decide +kernel) (by decide) (fun c => ?_) (fun c => ?_)
        · replace h := h.1 c
          refine g_aload_n (q := 0) (i := 0) (by decide +kernel) rfl rfl ?_
          refine g_dup (by decide +kernel) rfl ?_
          refine g_get (C := "ThreePoints$Search") (T := xT_Search) (N := 8) (ci := 9) (k := 6) (v := vi (H3 21 0 6)) (by decide +kernel) (by decide) rfl rfl xi_Search (by decide) kw_289 rfl ?_
          refine g_iconst (n := 1) (v := 1) (by decide +kernel) (by decide) ?_
          refine g_isub (by decide +kernel) ?_
          refine g_put (C := "ThreePoints$Search") (T := xT_Search) (N := 8) (ci := 9) (k := 6) xy_Search (by decide +kernel) (by decide) rfl rfl xi_Search xy_Search_ok xn_Search (by decide) kw_289 rfl (by decide +kernel) (fun _ => rfl) ?_
          refine g_heap (fun H4 eH4 => ?_)
          replace h := h H4 eH4
          exact g_vret (by decide +kernel) rfl h
        · replace h := h.2 c
          refine g_iload_n (q := 2) (i := 2) (by decide +kernel) rfl rfl ?_
          refine g_sipush (n := 1952) (v := 1952) (by decide +kernel) (by decide) ?_
          refine g_icmp_ge (off := 10) (tgt := 81) (by decide +kernel) (by decide) (fun c => ?_) (fun c => ?_)
          · replace h := h.1 c
            refine g_aload_n (q := 0) (i := 0) (by decide +kernel) rfl rfl ?_
            refine g_dup (by decide +kernel) rfl ?_
            refine g_get (C := "ThreePoints$Search") (T := xT_Search) (N := 8) (ci := 9) (k := 6) (v := vi (H3 21 0 6)) (by decide +kernel) (by decide) rfl rfl xi_Search (by decide) kw_289 rfl ?_
            refine g_iconst (n := 1) (v := 1) (by decide +kernel) (by decide) ?_
            refine g_isub (by decide +kernel) ?_
            refine g_put (C := "ThreePoints$Search") (T := xT_Search) (N := 8) (ci := 9) (k := 6) xy_Search (by decide +kernel) (by decide) rfl rfl xi_Search xy_Search_ok xn_Search (by decide) kw_289 rfl (by decide +kernel) (fun _ => rfl) ?_
            refine g_heap (fun H5 eH5 => ?_)
            replace h := h H5 eH5
            exact g_vret (by decide +kernel) rfl h
          · replace h := h.2 c
            refine g_aload_n (q := 0) (i := 0) (by decide +kernel) rfl rfl ?_
            refine g_get (C := "ThreePoints$Search") (T := xT_Search) (N := 8) (ci := 9) (k := 5) (v := vr 26 0) (by decide +kernel) (by decide) rfl rfl xi_Search (by decide) kw_288 rfl ?_
            refine g_iload_n (q := 2) (i := 2) (by decide +kernel) rfl rfl ?_
            refine g_iload_n (q := 3) (i := 3) (by decide +kernel) rfl rfl ?_
            obtain ⟨hin, h⟩ := h
            refine g_iast (by decide +kernel) (by decide) rfl hin ?_
            refine g_aload_n (q := 0) (i := 0) (by decide +kernel) rfl rfl ?_
            refine g_dup (by decide +kernel) rfl ?_
            refine g_heap (fun H6 eH6 => ?_)
            replace h := h H6 eH6
            refine g_get (C := "ThreePoints$Search") (T := xT_Search) (N := 8) (ci := 9) (k := 6) (v := vi (H6 21 0 6)) (by decide +kernel) (by decide) rfl rfl xi_Search (by decide) kw_289 rfl ?_
            refine g_iconst (n := 1) (v := 1) (by decide +kernel) (by decide) ?_
            refine g_isub (by decide +kernel) ?_
            refine g_put (C := "ThreePoints$Search") (T := xT_Search) (N := 8) (ci := 9) (k := 6) xy_Search (by decide +kernel) (by decide) rfl rfl xi_Search xy_Search_ok xn_Search (by decide) kw_289 rfl (by decide +kernel) (fun _ => rfl) ?_
            refine g_heap (fun H7 eH7 => ?_)
            replace h := h H7 eH7
            exact g_vret (by decide +kernel) rfl h
      · replace h := h.2 c
        refine g_iload_n (q := 3) (i := 3) (by decide +kernel) rfl rfl ?_
        refine g_sipush (n := 1952) (v := 1952) (by decide +kernel) (by decide) ?_
        refine g_icmp_ge (off := 13) (tgt := 47) (by decide +kernel) (by decide) (fun c => ?_) (fun c => ?_)
        · replace h := h.1 c
          refine g_aload_n (q := 0) (i := 0) (by decide +kernel) rfl rfl ?_
          refine g_get (C := "ThreePoints$Search") (T := xT_Search) (N := 8) (ci := 9) (k := 3) (v := vr 24 0) (by decide +kernel) (by decide) rfl rfl xi_Search (by decide) kw_286 rfl ?_
          refine g_aload_n (q := 0) (i := 0) (by decide +kernel) rfl rfl ?_
          refine g_get (C := "ThreePoints$Search") (T := xT_Search) (N := 8) (ci := 9) (k := 2) (v := vr 23 0) (by decide +kernel) (by decide) rfl rfl xi_Search (by decide) kw_285 rfl ?_
          refine g_iload_n (q := 1) (i := 1) (by decide +kernel) rfl rfl ?_
          obtain ⟨hin, h⟩ := h
          refine g_iald (by decide +kernel) (by decide) rfl hin ?_
          refine g_sipush (n := 128) (v := 128) (by decide +kernel) (by decide) ?_
          refine g_irem (by decide +kernel) (by decide) ?_
          refine g_iload_n (q := 2) (i := 2) (by decide +kernel) rfl rfl ?_
          obtain ⟨hin, h⟩ := h
          refine g_iast (by decide +kernel) (by decide) rfl hin ?_
          refine g_iload_n (q := 2) (i := 2) (by decide +kernel) rfl rfl ?_
          refine g_heap (fun H8 eH8 => ?_)
          replace h := h H8 eH8
          refine g_if_lt (off := 17) (tgt := 81) (by decide +kernel) (by decide) (fun c => ?_) (fun c => ?_)
          · replace h := h.1 c
            refine g_aload_n (q := 0) (i := 0) (by decide +kernel) rfl rfl ?_
            refine g_dup (by decide +kernel) rfl ?_
            refine g_get (C := "ThreePoints$Search") (T := xT_Search) (N := 8) (ci := 9) (k := 6) (v := vi (H8 21 0 6)) (by decide +kernel) (by decide) rfl rfl xi_Search (by decide) kw_289 rfl ?_
            refine g_iconst (n := 1) (v := 1) (by decide +kernel) (by decide) ?_
            refine g_isub (by decide +kernel) ?_
            refine g_put (C := "ThreePoints$Search") (T := xT_Search) (N := 8) (ci := 9) (k := 6) xy_Search (by decide +kernel) (by decide) rfl rfl xi_Search xy_Search_ok xn_Search (by decide) kw_289 rfl (by decide +kernel) (fun _ => rfl) ?_
            refine g_heap (fun H9 eH9 => ?_)
            replace h := h H9 eH9
            exact g_vret (by decide +kernel) rfl h
          · replace h := h.2 c
            refine g_iload_n (q := 2) (i := 2) (by decide +kernel) rfl rfl ?_
            refine g_sipush (n := 1952) (v := 1952) (by decide +kernel) (by decide) ?_
            refine g_icmp_ge (off := 10) (tgt := 81) (by decide +kernel) (by decide) (fun c => ?_) (fun c => ?_)
            · replace h := h.1 c
              refine g_aload_n (q := 0) (i := 0) (by decide +kernel) rfl rfl ?_
              refine g_dup (by decide +kernel) rfl ?_
              refine g_get (C := "ThreePoints$Search") (T := xT_Search) (N := 8) (ci := 9) (k := 6) (v := vi (H8 21 0 6)) (by decide +kernel) (by decide) rfl rfl xi_Search (by decide) kw_289 rfl ?_
              refine g_iconst (n := 1) (v := 1) (by decide +kernel) (by decide) ?_
              refine g_isub (by decide +kernel) ?_
              refine g_put (C := "ThreePoints$Search") (T := xT_Search) (N := 8) (ci := 9) (k := 6) xy_Search (by decide +kernel) (by decide) rfl rfl xi_Search xy_Search_ok xn_Search (by decide) kw_289 rfl (by decide +kernel) (fun _ => rfl) ?_
              refine g_heap (fun H10 eH10 => ?_)
              replace h := h H10 eH10
              exact g_vret (by decide +kernel) rfl h
            · replace h := h.2 c
              refine g_aload_n (q := 0) (i := 0) (by decide +kernel) rfl rfl ?_
              refine g_get (C := "ThreePoints$Search") (T := xT_Search) (N := 8) (ci := 9) (k := 5) (v := vr 26 0) (by decide +kernel) (by decide) rfl rfl xi_Search (by decide) kw_288 rfl ?_
              refine g_iload_n (q := 2) (i := 2) (by decide +kernel) rfl rfl ?_
              refine g_iload_n (q := 3) (i := 3) (by decide +kernel) rfl rfl ?_
              obtain ⟨hin, h⟩ := h
              refine g_iast (by decide +kernel) (by decide) rfl hin ?_
              refine g_aload_n (q := 0) (i := 0) (by decide +kernel) rfl rfl ?_
              refine g_dup (by decide +kernel) rfl ?_
              refine g_heap (fun H11 eH11 => ?_)
              replace h := h H11 eH11
              refine g_get (C := "ThreePoints$Search") (T := xT_Search) (N := 8) (ci := 9) (k := 6) (v := vi (H11 21 0 6)) (by decide +kernel) (by decide) rfl rfl xi_Search (by decide) kw_289 rfl ?_
              refine g_iconst (n := 1) (v := 1) (by decide +kernel) (by decide) ?_
              refine g_isub (by decide +kernel) ?_
              refine g_put (C := "ThreePoints$Search") (T := xT_Search) (N := 8) (ci := 9) (k := 6) xy_Search (by decide +kernel) (by decide) rfl rfl xi_Search xy_Search_ok xn_Search (by decide) kw_289 rfl (by decide +kernel) (fun _ => rfl) ?_
              refine g_heap (fun H12 eH12 => ?_)
              replace h := h H12 eH12
              exact g_vret (by decide +kernel) rfl h
        · replace h := h.2 c
          refine g_aload_n (q := 0) (i := 0) (by decide +kernel) rfl rfl ?_
          refine g_get (C := "ThreePoints$Search") (T := xT_Search) (N := 8) (ci := 9) (k := 4) (v := vr 25 0) (by decide +kernel) (by decide) rfl rfl xi_Search (by decide) kw_287 rfl ?_
          refine g_iload_n (q := 3) (i := 3) (by decide +kernel) rfl rfl ?_
          refine g_iload_n (q := 2) (i := 2) (by decide +kernel) rfl rfl ?_
          obtain ⟨hin, h⟩ := h
          refine g_iast (by decide +kernel) (by decide) rfl hin ?_
          refine g_goto (off := 19) (tgt := 63) (by decide +kernel) (by decide) ?_
          refine g_iload_n (q := 2) (i := 2) (by decide +kernel) rfl rfl ?_
          refine g_heap (fun H13 eH13 => ?_)
          replace h := h H13 eH13
          refine g_if_lt (off := 17) (tgt := 81) (by decide +kernel) (by decide) (fun c => ?_) (fun c => ?_)
          · replace h := h.1 c
            refine g_aload_n (q := 0) (i := 0) (by decide +kernel) rfl rfl ?_
            refine g_dup (by decide +kernel) rfl ?_
            refine g_get (C := "ThreePoints$Search") (T := xT_Search) (N := 8) (ci := 9) (k := 6) (v := vi (H13 21 0 6)) (by decide +kernel) (by decide) rfl rfl xi_Search (by decide) kw_289 rfl ?_
            refine g_iconst (n := 1) (v := 1) (by decide +kernel) (by decide) ?_
            refine g_isub (by decide +kernel) ?_
            refine g_put (C := "ThreePoints$Search") (T := xT_Search) (N := 8) (ci := 9) (k := 6) xy_Search (by decide +kernel) (by decide) rfl rfl xi_Search xy_Search_ok xn_Search (by decide) kw_289 rfl (by decide +kernel) (fun _ => rfl) ?_
            refine g_heap (fun H14 eH14 => ?_)
            replace h := h H14 eH14
            exact g_vret (by decide +kernel) rfl h
          · replace h := h.2 c
            refine g_iload_n (q := 2) (i := 2) (by decide +kernel) rfl rfl ?_
            refine g_sipush (n := 1952) (v := 1952) (by decide +kernel) (by decide) ?_
            refine g_icmp_ge (off := 10) (tgt := 81) (by decide +kernel) (by decide) (fun c => ?_) (fun c => ?_)
            · replace h := h.1 c
              refine g_aload_n (q := 0) (i := 0) (by decide +kernel) rfl rfl ?_
              refine g_dup (by decide +kernel) rfl ?_
              refine g_get (C := "ThreePoints$Search") (T := xT_Search) (N := 8) (ci := 9) (k := 6) (v := vi (H13 21 0 6)) (by decide +kernel) (by decide) rfl rfl xi_Search (by decide) kw_289 rfl ?_
              refine g_iconst (n := 1) (v := 1) (by decide +kernel) (by decide) ?_
              refine g_isub (by decide +kernel) ?_
              refine g_put (C := "ThreePoints$Search") (T := xT_Search) (N := 8) (ci := 9) (k := 6) xy_Search (by decide +kernel) (by decide) rfl rfl xi_Search xy_Search_ok xn_Search (by decide) kw_289 rfl (by decide +kernel) (fun _ => rfl) ?_
              refine g_heap (fun H15 eH15 => ?_)
              replace h := h H15 eH15
              exact g_vret (by decide +kernel) rfl h
            · replace h := h.2 c
              refine g_aload_n (q := 0) (i := 0) (by decide +kernel) rfl rfl ?_
              refine g_get (C := "ThreePoints$Search") (T := xT_Search) (N := 8) (ci := 9) (k := 5) (v := vr 26 0) (by decide +kernel) (by decide) rfl rfl xi_Search (by decide) kw_288 rfl ?_
              refine g_iload_n (q := 2) (i := 2) (by decide +kernel) rfl rfl ?_
              refine g_iload_n (q := 3) (i := 3) (by decide +kernel) rfl rfl ?_
              obtain ⟨hin, h⟩ := h
              refine g_iast (by decide +kernel) (by decide) rfl hin ?_
              refine g_aload_n (q := 0) (i := 0) (by decide +kernel) rfl rfl ?_
              refine g_dup (by decide +kernel) rfl ?_
              refine g_heap (fun H16 eH16 => ?_)
              replace h := h H16 eH16
              refine g_get (C := "ThreePoints$Search") (T := xT_Search) (N := 8) (ci := 9) (k := 6) (v := vi (H16 21 0 6)) (by decide +kernel) (by decide) rfl rfl xi_Search (by decide) kw_289 rfl ?_
              refine g_iconst (n := 1) (v := 1) (by decide +kernel) (by decide) ?_
              refine g_isub (by decide +kernel) ?_
              refine g_put (C := "ThreePoints$Search") (T := xT_Search) (N := 8) (ci := 9) (k := 6) xy_Search (by decide +kernel) (by decide) rfl rfl xi_Search xy_Search_ok xn_Search (by decide) kw_289 rfl (by decide +kernel) (fun _ => rfl) ?_
              refine g_heap (fun H17 eH17 => ?_)
              replace h := h H17 eH17
              exact g_vret (by decide +kernel) rfl h
    · replace h := h.2 c
      exact g_vret (by decide +kernel) rfl h
def p_Search_lower (E : XE) (d : Nat) (x1 : Int32) (x2 : Int32) (H : HH) (Q : HH → Prop) : Prop := (x1 < 0 → (Q H)) ∧ (¬ x1 < 0 → ((1952 ≤ x1 → (Q H)) ∧ (¬ 1952 ≤ x1 → ((x2 < 0 → (Q H)) ∧ (¬ x2 < 0 → (vp_in x1 1952 ∧ ((x2 < (H 23 0 (x1.toNatClampNeg)) → (vp_in (x1 >>> (1 &&& 31)) 976 ∧ ((¬ (H 22 0 ((x1 >>> (1 &&& 31)).toNatClampNeg)) = 0 → (vp_in x1 1952 ∧ (((H 23 0 (x1.toNatClampNeg)) = 2147483647 → (vp_in x1 1952 ∧ (vp_in (xrem x2 128) 128 ∧ (∀ H1 : HH, H1 = (hu H 23 0 (x1.toNatClampNeg) x2) → (∀ v2 : Int32, v2 = (H1 24 0 ((xrem x2 128).toNatClampNeg)) → (vp_in x1 1952 ∧ (vp_in x1 1952 ∧ (∀ H3 : HH, H3 = (hu (hu H1 25 0 (x1.toNatClampNeg) v2) 26 0 (x1.toNatClampNeg) (-1)) → ((v2 < 0 → (vp_in (xrem x2 128) 128 ∧ (∀ H4 : HH, H4 = (hu H3 24 0 ((xrem x2 128).toNatClampNeg) x1) → (∀ H5 : HH, H5 = (hu H4 21 0 6 ((H4 21 0 6) + 1)) → (Q H5))))) ∧ (¬ v2 < 0 → ((1952 ≤ v2 → (vp_in (xrem x2 128) 128 ∧ (∀ H6 : HH, H6 = (hu H3 24 0 ((xrem x2 128).toNatClampNeg) x1) → (∀ H7 : HH, H7 = (hu H6 21 0 6 ((H6 21 0 6) + 1)) → (Q H7))))) ∧ (¬ 1952 ≤ v2 → (vp_in v2 1952 ∧ (vp_in (xrem x2 128) 128 ∧ (∀ H8 : HH, H8 = (hu (hu H3 26 0 (v2.toNatClampNeg) x1) 24 0 ((xrem x2 128).toNatClampNeg) x1) → (∀ H9 : HH, H9 = (hu H8 21 0 6 ((H8 21 0 6) + 1)) → (Q H9))))))))))))))))) ∧ (¬ (H 23 0 (x1.toNatClampNeg)) = 2147483647 → (c_Search_unlink E d x1 H (fun H10 => vp_in x1 1952 ∧ (vp_in (xrem x2 128) 128 ∧ (∀ H11 : HH, H11 = (hu H10 23 0 (x1.toNatClampNeg) x2) → (∀ v12 : Int32, v12 = (H11 24 0 ((xrem x2 128).toNatClampNeg)) → (vp_in x1 1952 ∧ (vp_in x1 1952 ∧ (∀ H13 : HH, H13 = (hu (hu H11 25 0 (x1.toNatClampNeg) v12) 26 0 (x1.toNatClampNeg) (-1)) → ((v12 < 0 → (vp_in (xrem x2 128) 128 ∧ (∀ H14 : HH, H14 = (hu H13 24 0 ((xrem x2 128).toNatClampNeg) x1) → (∀ H15 : HH, H15 = (hu H14 21 0 6 ((H14 21 0 6) + 1)) → (Q H15))))) ∧ (¬ v12 < 0 → ((1952 ≤ v12 → (vp_in (xrem x2 128) 128 ∧ (∀ H16 : HH, H16 = (hu H13 24 0 ((xrem x2 128).toNatClampNeg) x1) → (∀ H17 : HH, H17 = (hu H16 21 0 6 ((H16 21 0 6) + 1)) → (Q H17))))) ∧ (¬ 1952 ≤ v12 → (vp_in v12 1952 ∧ (vp_in (xrem x2 128) 128 ∧ (∀ H18 : HH, H18 = (hu (hu H13 26 0 (v12.toNatClampNeg) x1) 24 0 ((xrem x2 128).toNatClampNeg) x1) → (∀ H19 : HH, H19 = (hu H18 21 0 6 ((H18 21 0 6) + 1)) → (Q H19))))))))))))))))))))) ∧ ((H 22 0 ((x1 >>> (1 &&& 31)).toNatClampNeg)) = 0 → (Q H))))) ∧ (¬ x2 < (H 23 0 (x1.toNatClampNeg)) → (Q H)))))))))
set_option maxHeartbeats 4000000 in
theorem l_Search_lower {E : XE} {d : Nat} {x1 : Int32} {x2 : Int32} {H : HH} {Q : HH → Prop} (h : p_Search_lower E d x1 x2 H Q) : c_Search_lower E (d + 1) x1 x2 H Q := by
  show g_Search_lower E (d + 1) 0 (xent [vr 21 0, vi x1, vi x2]) [] H (qv Q)
  refine g_drop (ls2 := [some (vr 21 0), some (vi x1), some (vi x2), none]) (And.intro rfl (And.intro rfl (And.intro rfl trivial))) ?_
  refine g_iload_n (q := 1) (i := 1) (by decide +kernel) rfl rfl ?_
  refine g_if_lt (off := 24) (tgt := 25) (by decide +kernel) (by decide) (fun c => ?_) (fun c => ?_)
  · replace h := h.1 c
    exact g_vret (by decide +kernel) rfl h
  · replace h := h.2 c
    refine g_iload_n (q := 1) (i := 1) (by decide +kernel) rfl rfl ?_
    refine g_sipush (n := 1952) (v := 1952) (by decide +kernel) (by decide) ?_
    refine g_icmp_ge (off := 17) (tgt := 25) (by decide +kernel) (by decide) (fun c => ?_) (fun c => ?_)
    · replace h := h.1 c
      exact g_vret (by decide +kernel) rfl h
    · replace h := h.2 c
      refine g_iload_n (q := 2) (i := 2) (by decide +kernel) rfl rfl ?_
      refine g_if_lt (off := 13) (tgt := 25) (by decide +kernel) (by decide) (fun c => ?_) (fun c => ?_)
      · replace h := h.1 c
        exact g_vret (by decide +kernel) rfl h
      · replace h := h.2 c
        refine g_iload_n (q := 2) (i := 2) (by decide +kernel) rfl rfl ?_
        refine g_aload_n (q := 0) (i := 0) (by decide +kernel) rfl rfl ?_
        refine g_get (C := "ThreePoints$Search") (T := xT_Search) (N := 8) (ci := 9) (k := 2) (v := vr 23 0) (by decide +kernel) (by decide) rfl rfl xi_Search (by decide) kw_285 rfl ?_
        refine g_iload_n (q := 1) (i := 1) (by decide +kernel) rfl rfl ?_
        obtain ⟨hin, h⟩ := h
        refine g_iald (by decide +kernel) (by decide) rfl hin ?_
        refine g_icmp_lt (off := 4) (tgt := 26) (by decide +kernel) (by decide) (fun c => ?_) (fun c => ?_)
        · replace h := h.1 c
          refine g_aload_n (q := 0) (i := 0) (by decide +kernel) rfl rfl ?_
          refine g_get (C := "ThreePoints$Search") (T := xT_Search) (N := 8) (ci := 9) (k := 1) (v := vr 22 0) (by decide +kernel) (by decide) rfl rfl xi_Search (by decide) kw_284 rfl ?_
          refine g_iload_n (q := 1) (i := 1) (by decide +kernel) rfl rfl ?_
          refine g_iconst (n := 1) (v := 1) (by decide +kernel) (by decide) ?_
          refine g_ishr (by decide +kernel) ?_
          obtain ⟨hin, h⟩ := h
          refine g_zald (by decide +kernel) (by decide) rfl hin ?_
          refine g_if_ne (off := 4) (tgt := 38) (by decide +kernel) (by decide) (fun c => ?_) (fun c => ?_)
          · replace h := h.1 c
            refine g_aload_n (q := 0) (i := 0) (by decide +kernel) rfl rfl ?_
            refine g_get (C := "ThreePoints$Search") (T := xT_Search) (N := 8) (ci := 9) (k := 2) (v := vr 23 0) (by decide +kernel) (by decide) rfl rfl xi_Search (by decide) kw_285 rfl ?_
            refine g_iload_n (q := 1) (i := 1) (by decide +kernel) rfl rfl ?_
            obtain ⟨hin, h⟩ := h
            refine g_iald (by decide +kernel) (by decide) rfl hin ?_
            refine g_ldc (v := 2147483647) (by decide +kernel) kw_780 ?_
            refine g_icmp_eq (off := 8) (tgt := 54) (by decide +kernel) (by decide) (fun c => ?_) (fun c => ?_)
            · replace h := h.1 c
              refine g_aload_n (q := 0) (i := 0) (by decide +kernel) rfl rfl ?_
              refine g_get (C := "ThreePoints$Search") (T := xT_Search) (N := 8) (ci := 9) (k := 2) (v := vr 23 0) (by decide +kernel) (by decide) rfl rfl xi_Search (by decide) kw_285 rfl ?_
              refine g_iload_n (q := 1) (i := 1) (by decide +kernel) rfl rfl ?_
              refine g_iload_n (q := 2) (i := 2) (by decide +kernel) rfl rfl ?_
              obtain ⟨hin, h⟩ := h
              refine g_iast (by decide +kernel) (by decide) rfl hin ?_
              refine g_aload_n (q := 0) (i := 0) (by decide +kernel) rfl rfl ?_
              refine g_get (C := "ThreePoints$Search") (T := xT_Search) (N := 8) (ci := 9) (k := 3) (v := vr 24 0) (by decide +kernel) (by decide) rfl rfl xi_Search (by decide) kw_286 rfl ?_
              refine g_iload_n (q := 2) (i := 2) (by decide +kernel) rfl rfl ?_
              refine g_sipush (n := 128) (v := 128) (by decide +kernel) (by decide) ?_
              refine g_irem (by decide +kernel) (by decide) ?_
              obtain ⟨hin, h⟩ := h
              refine g_heap (fun H1 eH1 => ?_)
              replace h := h H1 eH1
              refine g_iald (by decide +kernel) (by decide) rfl hin ?_
              refine g_topi (fun v2 ev2 => ?_)
              replace h := h v2 ev2
              refine g_istore_n (q := 3) (i := 3) (ls2 := [some (vr 21 0), some (vi x1), some (vi x2), some (vi v2)]) (by decide +kernel) rfl (by decide) rfl rfl ?_
              refine g_aload_n (q := 0) (i := 0) (by decide +kernel) rfl rfl ?_
              refine g_get (C := "ThreePoints$Search") (T := xT_Search) (N := 8) (ci := 9) (k := 4) (v := vr 25 0) (by decide +kernel) (by decide) rfl rfl xi_Search (by decide) kw_287 rfl ?_
              refine g_iload_n (q := 1) (i := 1) (by decide +kernel) rfl rfl ?_
              refine g_iload_n (q := 3) (i := 3) (by decide +kernel) rfl rfl ?_
              obtain ⟨hin, h⟩ := h
              refine g_iast (by decide +kernel) (by decide) rfl hin ?_
              refine g_aload_n (q := 0) (i := 0) (by decide +kernel) rfl rfl ?_
              refine g_get (C := "ThreePoints$Search") (T := xT_Search) (N := 8) (ci := 9) (k := 5) (v := vr 26 0) (by decide +kernel) (by decide) rfl rfl xi_Search (by decide) kw_288 rfl ?_
              refine g_iload_n (q := 1) (i := 1) (by decide +kernel) rfl rfl ?_
              refine g_iconst (n := (-1)) (v := (-1)) (by decide +kernel) (by decide) ?_
              obtain ⟨hin, h⟩ := h
              refine g_iast (by decide +kernel) (by decide) rfl hin ?_
              refine g_iload_n (q := 3) (i := 3) (by decide +kernel) rfl rfl ?_
              refine g_heap (fun H3 eH3 => ?_)
              replace h := h H3 eH3
              refine g_if_lt (off := 17) (tgt := 104) (by decide +kernel) (by decide) (fun c => ?_) (fun c => ?_)
              · replace h := h.1 c
                refine g_aload_n (q := 0) (i := 0) (by decide +kernel) rfl rfl ?_
                refine g_get (C := "ThreePoints$Search") (T := xT_Search) (N := 8) (ci := 9) (k := 3) (v := vr 24 0) (by decide +kernel) (by decide) rfl rfl xi_Search (by decide) kw_286 rfl ?_
                refine g_iload_n (q := 2) (i := 2) (by decide +kernel) rfl rfl ?_
                refine g_sipush (n := 128) (v := 128) (by decide +kernel) (by decide) ?_
                refine g_irem (by decide +kernel) (by decide) ?_
                refine g_iload_n (q := 1) (i := 1) (by decide +kernel) rfl rfl ?_
                obtain ⟨hin, h⟩ := h
                refine g_iast (by decide +kernel) (by decide) rfl hin ?_
                refine g_aload_n (q := 0) (i := 0) (by decide +kernel) rfl rfl ?_
                refine g_dup (by decide +kernel) rfl ?_
                refine g_heap (fun H4 eH4 => ?_)
                replace h := h H4 eH4
                refine g_get (C := "ThreePoints$Search") (T := xT_Search) (N := 8) (ci := 9) (k := 6) (v := vi (H4 21 0 6)) (by decide +kernel) (by decide) rfl rfl xi_Search (by decide) kw_289 rfl ?_
                refine g_iconst (n := 1) (v := 1) (by decide +kernel) (by decide) ?_
                refine g_iadd (by decide +kernel) ?_
                refine g_put (C := "ThreePoints$Search") (T := xT_Search) (N := 8) (ci := 9) (k := 6) xy_Search (by decide +kernel) (by decide) rfl rfl xi_Search xy_Search_ok xn_Search (by decide) kw_289 rfl (by decide +kernel) (fun _ => rfl) ?_
                refine g_heap (fun H5 eH5 => ?_)
                replace h := h H5 eH5
                exact g_vret (by decide +kernel) rfl h
              · replace h := h.2 c
                refine g_iload_n (q := 3) (i := 3) (by decide +kernel) rfl rfl ?_
                refine g_sipush (n := 1952) (v := 1952) (by decide +kernel) (by decide) ?_
                refine g_icmp_ge (off := 10) (tgt := 104) (by decide +kernel) (by decide) (fun c => ?_) (fun c => ?_)
                · replace h := h.1 c
                  refine g_aload_n (q := 0) (i := 0) (by decide +kernel) rfl rfl ?_
                  refine g_get (C := "ThreePoints$Search") (T := xT_Search) (N := 8) (ci := 9) (k := 3) (v := vr 24 0) (by decide +kernel) (by decide) rfl rfl xi_Search (by decide) kw_286 rfl ?_
                  refine g_iload_n (q := 2) (i := 2) (by decide +kernel) rfl rfl ?_
                  refine g_sipush (n := 128) (v := 128) (by decide +kernel) (by decide) ?_
                  refine g_irem (by decide +kernel) (by decide) ?_
                  refine g_iload_n (q := 1) (i := 1) (by decide +kernel) rfl rfl ?_
                  obtain ⟨hin, h⟩ := h
                  refine g_iast (by decide +kernel) (by decide) rfl hin ?_
                  refine g_aload_n (q := 0) (i := 0) (by decide +kernel) rfl rfl ?_
                  refine g_dup (by decide +kernel) rfl ?_
                  refine g_heap (fun H6 eH6 => ?_)
                  replace h := h H6 eH6
                  refine g_get (C := "ThreePoints$Search") (T := xT_Search) (N := 8) (ci := 9) (k := 6) (v := vi (H6 21 0 6)) (by decide +kernel) (by decide) rfl rfl xi_Search (by decide) kw_289 rfl ?_
                  refine g_iconst (n := 1) (v := 1) (by decide +kernel) (by decide) ?_
                  refine g_iadd (by decide +kernel) ?_
                  refine g_put (C := "ThreePoints$Search") (T := xT_Search) (N := 8) (ci := 9) (k := 6) xy_Search (by decide +kernel) (by decide) rfl rfl xi_Search xy_Search_ok xn_Search (by decide) kw_289 rfl (by decide +kernel) (fun _ => rfl) ?_
                  refine g_heap (fun H7 eH7 => ?_)
                  replace h := h H7 eH7
                  exact g_vret (by decide +kernel) rfl h
                · replace h := h.2 c
                  refine g_aload_n (q := 0) (i := 0) (by decide +kernel) rfl rfl ?_
                  refine g_get (C := "ThreePoints$Search") (T := xT_Search) (N := 8) (ci := 9) (k := 5) (v := vr 26 0) (by decide +kernel) (by decide) rfl rfl xi_Search (by decide) kw_288 rfl ?_
                  refine g_iload_n (q := 3) (i := 3) (by decide +kernel) rfl rfl ?_
                  refine g_iload_n (q := 1) (i := 1) (by decide +kernel) rfl rfl ?_
                  obtain ⟨hin, h⟩ := h
                  refine g_iast (by decide +kernel) (by decide) rfl hin ?_
                  refine g_aload_n (q := 0) (i := 0) (by decide +kernel) rfl rfl ?_
                  refine g_get (C := "ThreePoints$Search") (T := xT_Search) (N := 8) (ci := 9) (k := 3) (v := vr 24 0) (by decide +kernel) (by decide) rfl rfl xi_Search (by decide) kw_286 rfl ?_
                  refine g_iload_n (q := 2) (i := 2) (by decide +kernel) rfl rfl ?_
                  refine g_sipush (n := 128) (v := 128) (by decide +kernel) (by decide) ?_
                  refine g_irem (by decide +kernel) (by decide) ?_
                  refine g_iload_n (q := 1) (i := 1) (by decide +kernel) rfl rfl ?_
                  obtain ⟨hin, h⟩ := h
                  refine g_iast (by decide +kernel) (by decide) rfl hin ?_
                  refine g_aload_n (q := 0) (i := 0) (by decide +kernel) rfl rfl ?_
                  refine g_dup (by decide +kernel) rfl ?_
                  refine g_heap (fun H8 eH8 => ?_)
                  replace h := h H8 eH8
                  refine g_get (C := "ThreePoints$Search") (T := xT_Search) (N := 8) (ci := 9) (k := 6) (v := vi (H8 21 0 6)) (by decide +kernel) (by decide) rfl rfl xi_Search (by decide) kw_289 rfl ?_
                  refine g_iconst (n := 1) (v := 1) (by decide +kernel) (by decide) ?_
                  refine g_iadd (by decide +kernel) ?_
                  refine g_put (C := "ThreePoints$Search") (T := xT_Search) (N := 8) (ci := 9) (k := 6) xy_Search (by decide +kernel) (by decide) rfl rfl xi_Search xy_Search_ok xn_Search (by decide) kw_289 rfl (by decide +kernel) (fun _ => rfl) ?_
                  refine g_heap (fun H9 eH9 => ?_)
                  replace h := h H9 eH9
                  exact g_vret (by decide +kernel) rfl h
            · replace h := h.2 c
              refine g_aload_n (q := 0) (i := 0) (by decide +kernel) rfl rfl ?_
              refine g_iload_n (q := 1) (i := 1) (by decide +kernel) rfl rfl ?_
              refine g_callV (kd := 21) (ix := 0) (ci := 9) (N := 8) (T := xT_Search) (vs := [vi x1]) (st := []) (by decide +kernel) xm_Search_unlink kw_792 kw_794 kw_23 (by decide) rfl rfl rfl rfl (Nat.le_of_ble_eq_true rfl) (Nat.le_of_ble_eq_true rfl) h (fun vH10 H10 hq => ?_)
              replace h := hq
              refine g_aload_n (q := 0) (i := 0) (by decide +kernel) rfl rfl ?_
              refine g_get (C := "ThreePoints$Search") (T := xT_Search) (N := 8) (ci := 9) (k := 2) (v := vr 23 0) (by decide +kernel) (by decide) rfl rfl xi_Search (by decide) kw_285 rfl ?_
              refine g_iload_n (q := 1) (i := 1) (by decide +kernel) rfl rfl ?_
              refine g_iload_n (q := 2) (i := 2) (by decide +kernel) rfl rfl ?_
              obtain ⟨hin, h⟩ := h
              refine g_iast (by decide +kernel) (by decide) rfl hin ?_
              refine g_aload_n (q := 0) (i := 0) (by decide +kernel) rfl rfl ?_
              refine g_get (C := "ThreePoints$Search") (T := xT_Search) (N := 8) (ci := 9) (k := 3) (v := vr 24 0) (by decide +kernel) (by decide) rfl rfl xi_Search (by decide) kw_286 rfl ?_
              refine g_iload_n (q := 2) (i := 2) (by decide +kernel) rfl rfl ?_
              refine g_sipush (n := 128) (v := 128) (by decide +kernel) (by decide) ?_
              refine g_irem (by decide +kernel) (by decide) ?_
              obtain ⟨hin, h⟩ := h
              refine g_heap (fun H11 eH11 => ?_)
              replace h := h H11 eH11
              refine g_iald (by decide +kernel) (by decide) rfl hin ?_
              refine g_topi (fun v12 ev12 => ?_)
              replace h := h v12 ev12
              refine g_istore_n (q := 3) (i := 3) (ls2 := [some (vr 21 0), some (vi x1), some (vi x2), some (vi v12)]) (by decide +kernel) rfl (by decide) rfl rfl ?_
              refine g_aload_n (q := 0) (i := 0) (by decide +kernel) rfl rfl ?_
              refine g_get (C := "ThreePoints$Search") (T := xT_Search) (N := 8) (ci := 9) (k := 4) (v := vr 25 0) (by decide +kernel) (by decide) rfl rfl xi_Search (by decide) kw_287 rfl ?_
              refine g_iload_n (q := 1) (i := 1) (by decide +kernel) rfl rfl ?_
              refine g_iload_n (q := 3) (i := 3) (by decide +kernel) rfl rfl ?_
              obtain ⟨hin, h⟩ := h
              refine g_iast (by decide +kernel) (by decide) rfl hin ?_
              refine g_aload_n (q := 0) (i := 0) (by decide +kernel) rfl rfl ?_
              refine g_get (C := "ThreePoints$Search") (T := xT_Search) (N := 8) (ci := 9) (k := 5) (v := vr 26 0) (by decide +kernel) (by decide) rfl rfl xi_Search (by decide) kw_288 rfl ?_
              refine g_iload_n (q := 1) (i := 1) (by decide +kernel) rfl rfl ?_
              refine g_iconst (n := (-1)) (v := (-1)) (by decide +kernel) (by decide) ?_
              obtain ⟨hin, h⟩ := h
              refine g_iast (by decide +kernel) (by decide) rfl hin ?_
              refine g_iload_n (q := 3) (i := 3) (by decide +kernel) rfl rfl ?_
              refine g_heap (fun H13 eH13 => ?_)
              replace h := h H13 eH13
              refine g_if_lt (off := 17) (tgt := 104) (by decide +kernel) (by decide) (fun c => ?_) (fun c => ?_)
              · replace h := h.1 c
                refine g_aload_n (q := 0) (i := 0) (by decide +kernel) rfl rfl ?_
                refine g_get (C := "ThreePoints$Search") (T := xT_Search) (N := 8) (ci := 9) (k := 3) (v := vr 24 0) (by decide +kernel) (by decide) rfl rfl xi_Search (by decide) kw_286 rfl ?_
                refine g_iload_n (q := 2) (i := 2) (by decide +kernel) rfl rfl ?_
                refine g_sipush (n := 128) (v := 128) (by decide +kernel) (by decide) ?_
                refine g_irem (by decide +kernel) (by decide) ?_
                refine g_iload_n (q := 1) (i := 1) (by decide +kernel) rfl rfl ?_
                obtain ⟨hin, h⟩ := h
                refine g_iast (by decide +kernel) (by decide) rfl hin ?_
                refine g_aload_n (q := 0) (i := 0) (by decide +kernel) rfl rfl ?_
                refine g_dup (by decide +kernel) rfl ?_
                refine g_heap (fun H14 eH14 => ?_)
                replace h := h H14 eH14
                refine g_get (C := "ThreePoints$Search") (T := xT_Search) (N := 8) (ci := 9) (k := 6) (v := vi (H14 21 0 6)) (by decide +kernel) (by decide) rfl rfl xi_Search (by decide) kw_289 rfl ?_
                refine g_iconst (n := 1) (v := 1) (by decide +kernel) (by decide) ?_
                refine g_iadd (by decide +kernel) ?_
                refine g_put (C := "ThreePoints$Search") (T := xT_Search) (N := 8) (ci := 9) (k := 6) xy_Search (by decide +kernel) (by decide) rfl rfl xi_Search xy_Search_ok xn_Search (by decide) kw_289 rfl (by decide +kernel) (fun _ => rfl) ?_
                refine g_heap (fun H15 eH15 => ?_)
                replace h := h H15 eH15
                exact g_vret (by decide +kernel) rfl h
              · replace h := h.2 c
                refine g_iload_n (q := 3) (i := 3) (by decide +kernel) rfl rfl ?_
                refine g_sipush (n := 1952) (v := 1952) (by decide +kernel) (by decide) ?_
                refine g_icmp_ge (off := 10) (tgt := 104) (by decide +kernel) (by decide) (fun c => ?_) (fun c => ?_)
                · replace h := h.1 c
                  refine g_aload_n (q := 0) (i := 0) (by decide +kernel) rfl rfl ?_
                  refine g_get (C := "ThreePoints$Search") (T := xT_Search) (N := 8) (ci := 9) (k := 3) (v := vr 24 0) (by decide +kernel) (by decide) rfl rfl xi_Search (by decide) kw_286 rfl ?_
                  refine g_iload_n (q := 2) (i := 2) (by decide +kernel) rfl rfl ?_
                  refine g_sipush (n := 128) (v := 128) (by decide +kernel) (by decide) ?_
                  refine g_irem (by decide +kernel) (by decide) ?_
                  refine g_iload_n (q := 1) (i := 1) (by decide +kernel) rfl rfl ?_
                  obtain ⟨hin, h⟩ := h
                  refine g_iast (by decide +kernel) (by decide) rfl hin ?_
                  refine g_aload_n (q := 0) (i := 0) (by decide +kernel) rfl rfl ?_
                  refine g_dup (by decide +kernel) rfl ?_
                  refine g_heap (fun H16 eH16 => ?_)
                  replace h := h H16 eH16
                  refine g_get (C := "ThreePoints$Search") (T := xT_Search) (N := 8) (ci := 9) (k := 6) (v := vi (H16 21 0 6)) (by decide +kernel) (by decide) rfl rfl xi_Search (by decide) kw_289 rfl ?_
                  refine g_iconst (n := 1) (v := 1) (by decide +kernel) (by decide) ?_
                  refine g_iadd (by decide +kernel) ?_
                  refine g_put (C := "ThreePoints$Search") (T := xT_Search) (N := 8) (ci := 9) (k := 6) xy_Search (by decide +kernel) (by decide) rfl rfl xi_Search xy_Search_ok xn_Search (by decide) kw_289 rfl (by decide +kernel) (fun _ => rfl) ?_
                  refine g_heap (fun H17 eH17 => ?_)
                  replace h := h H17 eH17
                  exact g_vret (by decide +kernel) rfl h
                · replace h := h.2 c
                  refine g_aload_n (q := 0) (i := 0) (by decide +kernel) rfl rfl ?_
                  refine g_get (C := "ThreePoints$Search") (T := xT_Search) (N := 8) (ci := 9) (k := 5) (v := vr 26 0) (by decide +kernel) (by decide) rfl rfl xi_Search (by decide) kw_288 rfl ?_
                  refine g_iload_n (q := 3) (i := 3) (by decide +kernel) rfl rfl ?_
                  refine g_iload_n (q := 1) (i := 1) (by decide +kernel) rfl rfl ?_
                  obtain ⟨hin, h⟩ := h
                  refine g_iast (by decide +kernel) (by decide) rfl hin ?_
                  refine g_aload_n (q := 0) (i := 0) (by decide +kernel) rfl rfl ?_
                  refine g_get (C := "ThreePoints$Search") (T := xT_Search) (N := 8) (ci := 9) (k := 3) (v := vr 24 0) (by decide +kernel) (by decide) rfl rfl xi_Search (by decide) kw_286 rfl ?_
                  refine g_iload_n (q := 2) (i := 2) (by decide +kernel) rfl rfl ?_
                  refine g_sipush (n := 128) (v := 128) (by decide +kernel) (by decide) ?_
                  refine g_irem (by decide +kernel) (by decide) ?_
                  refine g_iload_n (q := 1) (i := 1) (by decide +kernel) rfl rfl ?_
                  obtain ⟨hin, h⟩ := h
                  refine g_iast (by decide +kernel) (by decide) rfl hin ?_
                  refine g_aload_n (q := 0) (i := 0) (by decide +kernel) rfl rfl ?_
                  refine g_dup (by decide +kernel) rfl ?_
                  refine g_heap (fun H18 eH18 => ?_)
                  replace h := h H18 eH18
                  refine g_get (C := "ThreePoints$Search") (T := xT_Search) (N := 8) (ci := 9) (k := 6) (v := vi (H18 21 0 6)) (by decide +kernel) (by decide) rfl rfl xi_Search (by decide) kw_289 rfl ?_
                  refine g_iconst (n := 1) (v := 1) (by decide +kernel) (by decide) ?_
                  refine g_iadd (by decide +kernel) ?_
                  refine g_put (C := "ThreePoints$Search") (T := xT_Search) (N := 8) (ci := 9) (k := 6) xy_Search (by decide +kernel) (by decide) rfl rfl xi_Search xy_Search_ok xn_Search (by decide) kw_289 rfl (by decide +kernel) (fun _ => rfl) ?_
                  refine g_heap (fun H19 eH19 => ?_)
                  replace h := h H19 eH19
                  exact g_vret (by decide +kernel) rfl h
          · replace h := h.2 c
            exact g_vret (by decide +kernel) rfl h
        · replace h := h.2 c
          exact g_vret (by decide +kernel) rfl h
def p_Search_lowerAhead (E : XE) (d : Nat) (x2 : Int32) (x3 : Int32) (H : HH) (Q : HH → Prop) : Prop := ∀ v1 : Int32, v1 = ((x2 >>> (1 &&& 31)) &&& 15) → (∀ v2 : Int32, v2 = (x2 >>> (5 &&& 31)) → (∃ (I3 : Int32 → HH → Prop) (μ3 : Int32 → HH → Nat), I3 0 H ∧ ∀ (z4 : Int32) (H5 : HH), I3 z4 H5 → ((1 < z4 → (Q H5)) ∧ (¬ 1 < z4 → ((¬ (H5 21 0 0) = 0 → (∃ (I6 : Int32 → HH → Prop) (μ6 : Int32 → HH → Nat), I6 (-1) H5 ∧ ∀ (z7 : Int32) (H8 : HH), I6 z7 H8 → ((1 < z7 → (I3 (z4 + 1) H8 ∧ μ3 (z4 + 1) H8 < μ3 z4 H5)) ∧ (¬ 1 < z7 → (c_Vehicle_turns E d 8 z4 z7 H8 (fun r10 H9 => ∀ v11 : Int32, v11 = ((v1 - r10) &&& 15) → (c_Ride_shift E d v11 z4 H9 (fun r13 H12 => ((v2 - r13) < 0 → (I6 (z7 + 1) H12 ∧ μ6 (z7 + 1) H12 < μ6 z7 H8)) ∧ (¬ (v2 - r13) < 0 → (((v2 - r13) ≤ (H12 2 2 0) → ((¬ (H12 21 0 0) = 1 → (c_Search_state E d (v2 - r13) v11 z4 H12 (fun r15 H14 => c_Search_lower E d r15 x3 H14 (fun H16 => c_Search_state E d (v2 - r13) v11 (1 - z4) H16 (fun r18 H17 => c_Search_lower E d r18 (x3 + 1) H17 (fun H19 => I6 (z7 + 1) H19 ∧ μ6 (z7 + 1) H19 < μ6 z7 H8)))))) ∧ ((H12 21 0 0) = 1 → (c_Search_state E d (v2 - r13) v11 0 H12 (fun r21 H20 => c_Ride_wears E d (v2 - r13) v11 z7 H20 (fun r23 H22 => c_Search_lower E d r21 (x3 + r23) H22 (fun H24 => I6 (z7 + 1) H24 ∧ μ6 (z7 + 1) H24 < μ6 z7 H8))))))) ∧ (¬ (v2 - r13) ≤ (H12 2 2 0) → (I6 (z7 + 1) H12 ∧ μ6 (z7 + 1) H12 < μ6 z7 H8)))))))))))) ∧ ((H5 21 0 0) = 0 → ((z4 = (x2 &&& 1) → (∃ (I25 : Int32 → HH → Prop) (μ25 : Int32 → HH → Nat), I25 (-1) H5 ∧ ∀ (z26 : Int32) (H27 : HH), I25 z26 H27 → ((1 < z26 → (I3 (z4 + 1) H27 ∧ μ3 (z4 + 1) H27 < μ3 z4 H5)) ∧ (¬ 1 < z26 → (c_Vehicle_turns E d 8 z4 z26 H27 (fun r29 H28 => ∀ v30 : Int32, v30 = ((v1 - r29) &&& 15) → (c_Ride_shift E d v30 z4 H28 (fun r32 H31 => ((v2 - r32) < 0 → (I25 (z26 + 1) H31 ∧ μ25 (z26 + 1) H31 < μ25 z26 H27)) ∧ (¬ (v2 - r32) < 0 → (((v2 - r32) ≤ (H31 2 2 0) → ((¬ (H31 21 0 0) = 1 → (c_Search_state E d (v2 - r32) v30 z4 H31 (fun r34 H33 => c_Search_lower E d r34 x3 H33 (fun H35 => c_Search_state E d (v2 - r32) v30 (1 - z4) H35 (fun r37 H36 => c_Search_lower E d r37 (x3 + 1) H36 (fun H38 => I25 (z26 + 1) H38 ∧ μ25 (z26 + 1) H38 < μ25 z26 H27)))))) ∧ ((H31 21 0 0) = 1 → (c_Search_state E d (v2 - r32) v30 0 H31 (fun r40 H39 => c_Ride_wears E d (v2 - r32) v30 z26 H39 (fun r42 H41 => c_Search_lower E d r40 (x3 + r42) H41 (fun H43 => I25 (z26 + 1) H43 ∧ μ25 (z26 + 1) H43 < μ25 z26 H27))))))) ∧ (¬ (v2 - r32) ≤ (H31 2 2 0) → (I25 (z26 + 1) H31 ∧ μ25 (z26 + 1) H31 < μ25 z26 H27)))))))))))) ∧ (¬ z4 = (x2 &&& 1) → (I3 (z4 + 1) H5 ∧ μ3 (z4 + 1) H5 < μ3 z4 H5)))))))))
set_option maxHeartbeats 4000000 in
theorem l_Search_lowerAhead {E : XE} {d : Nat} {x2 : Int32} {x3 : Int32} {H : HH} {Q : HH → Prop} (h : p_Search_lowerAhead E d x2 x3 H Q) : c_Search_lowerAhead E (d + 1) x2 x3 H Q := by
  show g_Search_lowerAhead E (d + 1) 0 (xent [vr 21 0, vr 19 0, vi x2, vi x3]) [] H (qv Q)
  refine g_drop (ls2 := [some (vr 21 0), some (vr 19 0), some (vi x2), some (vi x3), none, none, none, none, none, none, none]) (And.intro rfl (And.intro rfl (And.intro rfl (And.intro rfl trivial)))) ?_
  refine g_iload_n (q := 2) (i := 2) (by decide +kernel) rfl rfl ?_
  refine g_iconst (n := 1) (v := 1) (by decide +kernel) (by decide) ?_
  refine g_iand (by decide +kernel) ?_
  refine g_istore (i := 4) (ls2 := [some (vr 21 0), some (vr 19 0), some (vi x2), some (vi x3), some (vi (x2 &&& 1)), none, none, none, none, none, none]) (by decide +kernel) (by decide) rfl rfl ?_
  refine g_iload_n (q := 2) (i := 2) (by decide +kernel) rfl rfl ?_
  refine g_iconst (n := 1) (v := 1) (by decide +kernel) (by decide) ?_
  refine g_ishr (by decide +kernel) ?_
  refine g_bipush (n := 15) (v := 15) (by decide +kernel) (by decide) ?_
  refine g_iand (by decide +kernel) ?_
  refine g_topi (fun v1 ev1 => ?_)
  replace h := h v1 ev1
  refine g_istore (i := 5) (ls2 := [some (vr 21 0), some (vr 19 0), some (vi x2), some (vi x3), some (vi (x2 &&& 1)), some (vi v1), none, none, none, none, none]) (by decide +kernel) (by decide) rfl rfl ?_
  refine g_iload_n (q := 2) (i := 2) (by decide +kernel) rfl rfl ?_
  refine g_iconst (n := 5) (v := 5) (by decide +kernel) (by decide) ?_
  refine g_ishr (by decide +kernel) ?_
  refine g_topi (fun v2 ev2 => ?_)
  replace h := h v2 ev2
  refine g_istore (i := 6) (ls2 := [some (vr 21 0), some (vr 19 0), some (vi x2), some (vi x3), some (vi (x2 &&& 1)), some (vi v1), some (vi v2), none, none, none, none]) (by decide +kernel) (by decide) rfl rfl ?_
  refine g_iconst (n := 0) (v := 0) (by decide +kernel) (by decide) ?_
  refine g_istore (i := 7) (ls2 := [some (vr 21 0), some (vr 19 0), some (vi x2), some (vi x3), some (vi (x2 &&& 1)), some (vi v1), some (vi v2), some (vi 0), none, none, none]) (by decide +kernel) (by decide) rfl rfl ?_
  refine g_drop (ls2 := [some (vr 21 0), some (vr 19 0), none, some (vi x3), some (vi (x2 &&& 1)), some (vi v1), some (vi v2), some (vi 0), none, none, none]) (And.intro rfl (And.intro rfl (And.intro rfl (And.intro rfl (And.intro rfl (And.intro rfl (And.intro rfl trivial))))))) ?_
  obtain ⟨I3, μ3, h0, h⟩ := h
  refine xloop (σ := Int32) (fun s H => I3 s H) (fun s H => μ3 s H) (fun s H => g_Search_lowerAhead E (d + 1) 21 [some (vr 21 0), some (vr 19 0), none, some (vi x3), some (vi (x2 &&& 1)), some (vi v1), some (vi v2), some (vi s), none, none, none] [] H (qv Q)) (fun s H5 hI ih3 => ?_) 0 H h0
  obtain ⟨z4, es⟩ : ∃ z, z = s := ⟨s, rfl⟩
  subst es
  replace h := h z4 H5 hI
  refine g_iload (i := 7) (by decide +kernel) rfl ?_
  refine g_iconst (n := 1) (v := 1) (by decide +kernel) (by decide) ?_
  refine g_icmp_gt (off := 159) (tgt := 183) (by decide +kernel) (by decide) (fun c => ?_) (fun c => ?_)
  · replace h := h.1 c
    exact g_vret (by decide +kernel) rfl h
  · replace h := h.2 c
    refine g_aload_n (q := 0) (i := 0) (by decide +kernel) rfl rfl ?_
    refine g_get (C := "ThreePoints$Search") (T := xT_Search) (N := 8) (ci := 9) (k := 0) (v := vi (H5 21 0 0)) (by decide +kernel) (by decide) rfl rfl xi_Search (by decide) kw_283 rfl ?_
    refine g_if_ne (off := 13) (tgt := 44) (by decide +kernel) (by decide) (fun c => ?_) (fun c => ?_)
    · replace h := h.1 c
      refine g_iconst (n := (-1)) (v := (-1)) (by decide +kernel) (by decide) ?_
      refine g_istore (i := 8) (ls2 := [some (vr 21 0), some (vr 19 0), none, some (vi x3), some (vi (x2 &&& 1)), some (vi v1), some (vi v2), some (vi z4), some (vi (-1)), none, none]) (by decide +kernel) (by decide) rfl rfl ?_
      refine g_drop (ls2 := [some (vr 21 0), some (vr 19 0), none, some (vi x3), some (vi (x2 &&& 1)), some (vi v1), some (vi v2), some (vi z4), some (vi (-1)), none, none]) (And.intro rfl (And.intro rfl (And.intro rfl (And.intro rfl (And.intro rfl (And.intro rfl (And.intro rfl (And.intro rfl trivial)))))))) ?_
      obtain ⟨I6, μ6, h0, h⟩ := h
      refine xloop (σ := Int32) (fun s H => I6 s H) (fun s H => μ6 s H) (fun s H => g_Search_lowerAhead E (d + 1) 47 [some (vr 21 0), some (vr 19 0), none, some (vi x3), some (vi (x2 &&& 1)), some (vi v1), some (vi v2), some (vi z4), some (vi s), none, none] [] H (qv Q)) (fun s H8 hI ih6 => ?_) (-1) H5 h0
      obtain ⟨z7, es⟩ : ∃ z, z = s := ⟨s, rfl⟩
      subst es
      replace h := h z7 H8 hI
      refine g_iload (i := 8) (by decide +kernel) rfl ?_
      refine g_iconst (n := 1) (v := 1) (by decide +kernel) (by decide) ?_
      refine g_icmp_gt (off := 127) (tgt := 177) (by decide +kernel) (by decide) (fun c => ?_) (fun c => ?_)
      · replace h := h.1 c
        refine g_iinc (i := 7) (n := 1) (v := (z4 + 1)) (ls2 := [some (vr 21 0), some (vr 19 0), none, some (vi x3), some (vi (x2 &&& 1)), some (vi v1), some (vi v2), some (vi (z4 + 1)), some (vi z7), none, none]) (by decide +kernel) rfl rfl (by decide) rfl rfl ?_
        refine g_goto (off := (-159)) (tgt := 21) (by decide +kernel) (by decide) ?_
        obtain ⟨hI, hlt⟩ := h
        exact g_drop (ls2 := [some (vr 21 0), some (vr 19 0), none, some (vi x3), some (vi (x2 &&& 1)), some (vi v1), some (vi v2), some (vi (z4 + 1)), none, none, none]) (And.intro rfl (And.intro rfl (And.intro rfl (And.intro rfl (And.intro rfl (And.intro rfl (And.intro rfl trivial))))))) (ih3 (z4 + 1) H8 hI hlt)
      · replace h := h.2 c
        refine g_iload (i := 5) (by decide +kernel) rfl ?_
        refine g_aload_n (q := 1) (i := 1) (by decide +kernel) rfl rfl ?_
        refine g_get (C := "ThreePoints$Ride") (T := xT_Ride) (N := 4) (ci := 8) (k := 1) (v := vr 3 8) (by decide +kernel) (by decide) rfl rfl xi_Ride (by decide) kw_263 rfl ?_
        refine g_iload (i := 7) (by decide +kernel) rfl ?_
        refine g_iload (i := 8) (by decide +kernel) rfl ?_
        refine g_callV (kd := 3) (ix := 8) (ci := 3) (N := 7) (T := xT_Vehicle) (vs := [vi z4, vi z7]) (st := [vi v1]) (by decide +kernel) xm_Vehicle_turns kw_801 kw_753 kw_754 (by decide) rfl rfl rfl rfl (Nat.le_of_ble_eq_true rfl) (Nat.le_of_ble_eq_true rfl) h (fun vH9 H9 hq => ?_)
        obtain ⟨r10, rfl, h⟩ := hq
        refine g_isub (by decide +kernel) ?_
        refine g_bipush (n := 15) (v := 15) (by decide +kernel) (by decide) ?_
        refine g_iand (by decide +kernel) ?_
        refine g_topi (fun v11 ev11 => ?_)
        replace h := h v11 ev11
        refine g_istore (i := 9) (ls2 := [some (vr 21 0), some (vr 19 0), none, some (vi x3), some (vi (x2 &&& 1)), some (vi v1), some (vi v2), some (vi z4), some (vi z7), some (vi v11), none]) (by decide +kernel) (by decide) rfl rfl ?_
        refine g_iload (i := 6) (by decide +kernel) rfl ?_
        refine g_iload (i := 9) (by decide +kernel) rfl ?_
        refine g_iload (i := 7) (by decide +kernel) rfl ?_
        refine g_callS (vs := [vi v11, vi z4]) (st := [vi v2]) (by decide +kernel) xm_Ride_shift kw_802 kw_746 rfl rfl (Nat.le_of_ble_eq_true rfl) (Nat.le_of_ble_eq_true rfl) h (fun vH12 H12 hq => ?_)
        obtain ⟨r13, rfl, h⟩ := hq
        refine g_isub (by decide +kernel) ?_
        refine g_istore (i := 10) (ls2 := [some (vr 21 0), some (vr 19 0), none, some (vi x3), some (vi (x2 &&& 1)), some (vi v1), some (vi v2), some (vi z4), some (vi z7), some (vi v11), some (vi (v2 - r13))]) (by decide +kernel) (by decide) rfl rfl ?_
        refine g_iload (i := 10) (by decide +kernel) rfl ?_
        refine g_if_lt (off := 85) (tgt := 171) (by decide +kernel) (by decide) (fun c => ?_) (fun c => ?_)
        · replace h := h.1 c
          refine g_iinc (i := 8) (n := 1) (v := (z7 + 1)) (ls2 := [some (vr 21 0), some (vr 19 0), none, some (vi x3), some (vi (x2 &&& 1)), some (vi v1), some (vi v2), some (vi z4), some (vi (z7 + 1)), some (vi v11), some (vi (v2 - r13))]) (by decide +kernel) rfl rfl (by decide) rfl rfl ?_
          refine g_goto (off := (-127)) (tgt := 47) (by decide +kernel) (by decide) ?_
          obtain ⟨hI, hlt⟩ := h
          exact g_drop (ls2 := [some (vr 21 0), some (vr 19 0), none, some (vi x3), some (vi (x2 &&& 1)), some (vi v1), some (vi v2), some (vi z4), some (vi (z7 + 1)), none, none]) (And.intro rfl (And.intro rfl (And.intro rfl (And.intro rfl (And.intro rfl (And.intro rfl (And.intro rfl (And.intro rfl trivial)))))))) (ih6 (z7 + 1) H12 hI hlt)
        · replace h := h.2 c
          refine g_iload (i := 10) (by decide +kernel) rfl ?_
          refine g_aload_n (q := 1) (i := 1) (by decide +kernel) rfl rfl ?_
          refine g_get (C := "ThreePoints$Ride") (T := xT_Ride) (N := 4) (ci := 8) (k := 0) (v := vr 2 2) (by decide +kernel) (by decide) rfl rfl xi_Ride (by decide) kw_260 rfl ?_
          refine g_get (C := "ThreePoints$Lane") (T := xT_Lane) (N := 3) (ci := 2) (k := 0) (v := vi (H12 2 2 0)) (by decide +kernel) (by decide) rfl rfl xi_Lane (by decide) kw_107 rfl ?_
          refine g_icmp_le (off := 6) (tgt := 104) (by decide +kernel) (by decide) (fun c => ?_) (fun c => ?_)
          · replace h := h.1 c
            refine g_aload_n (q := 0) (i := 0) (by decide +kernel) rfl rfl ?_
            refine g_get (C := "ThreePoints$Search") (T := xT_Search) (N := 8) (ci := 9) (k := 0) (v := vi (H12 21 0 0)) (by decide +kernel) (by decide) rfl rfl xi_Search (by decide) kw_283 rfl ?_
            refine g_iconst (n := 1) (v := 1) (by decide +kernel) (by decide) ?_
            refine g_icmp_ne (off := 30) (tgt := 139) (by decide +kernel) (by decide) (fun c => ?_) (fun c => ?_)
            · replace h := h.1 c
              refine g_aload_n (q := 0) (i := 0) (by decide +kernel) rfl rfl ?_
              refine g_iload (i := 10) (by decide +kernel) rfl ?_
              refine g_iload (i := 9) (by decide +kernel) rfl ?_
              refine g_iload (i := 7) (by decide +kernel) rfl ?_
              refine g_callS (vs := [vi (v2 - r13), vi v11, vi z4]) (st := [vr 21 0]) (by decide +kernel) xm_Search_state kw_783 kw_784 rfl rfl (Nat.le_of_ble_eq_true rfl) (Nat.le_of_ble_eq_true rfl) h (fun vH14 H14 hq => ?_)
              obtain ⟨r15, rfl, h⟩ := hq
              refine g_iload_n (q := 3) (i := 3) (by decide +kernel) rfl rfl ?_
              refine g_callV (kd := 21) (ix := 0) (ci := 9) (N := 8) (T := xT_Search) (vs := [vi r15, vi x3]) (st := []) (by decide +kernel) xm_Search_lower kw_788 kw_790 kw_22 (by decide) rfl rfl rfl rfl (Nat.le_of_ble_eq_true rfl) (Nat.le_of_ble_eq_true rfl) h (fun vH16 H16 hq => ?_)
              replace h := hq
              refine g_aload_n (q := 0) (i := 0) (by decide +kernel) rfl rfl ?_
              refine g_iload (i := 10) (by decide +kernel) rfl ?_
              refine g_iload (i := 9) (by decide +kernel) rfl ?_
              refine g_iconst (n := 1) (v := 1) (by decide +kernel) (by decide) ?_
              refine g_iload (i := 7) (by decide +kernel) rfl ?_
              refine g_isub (by decide +kernel) ?_
              refine g_callS (vs := [vi (v2 - r13), vi v11, vi (1 - z4)]) (st := [vr 21 0]) (by decide +kernel) xm_Search_state kw_783 kw_784 rfl rfl (Nat.le_of_ble_eq_true rfl) (Nat.le_of_ble_eq_true rfl) h (fun vH17 H17 hq => ?_)
              obtain ⟨r18, rfl, h⟩ := hq
              refine g_iload_n (q := 3) (i := 3) (by decide +kernel) rfl rfl ?_
              refine g_iconst (n := 1) (v := 1) (by decide +kernel) (by decide) ?_
              refine g_iadd (by decide +kernel) ?_
              refine g_callV (kd := 21) (ix := 0) (ci := 9) (N := 8) (T := xT_Search) (vs := [vi r18, vi (x3 + 1)]) (st := []) (by decide +kernel) xm_Search_lower kw_788 kw_790 kw_22 (by decide) rfl rfl rfl rfl (Nat.le_of_ble_eq_true rfl) (Nat.le_of_ble_eq_true rfl) h (fun vH19 H19 hq => ?_)
              replace h := hq
              refine g_iinc (i := 8) (n := 1) (v := (z7 + 1)) (ls2 := [some (vr 21 0), some (vr 19 0), none, some (vi x3), some (vi (x2 &&& 1)), some (vi v1), some (vi v2), some (vi z4), some (vi (z7 + 1)), some (vi v11), some (vi (v2 - r13))]) (by decide +kernel) rfl rfl (by decide) rfl rfl ?_
              refine g_goto (off := (-127)) (tgt := 47) (by decide +kernel) (by decide) ?_
              obtain ⟨hI, hlt⟩ := h
              exact g_drop (ls2 := [some (vr 21 0), some (vr 19 0), none, some (vi x3), some (vi (x2 &&& 1)), some (vi v1), some (vi v2), some (vi z4), some (vi (z7 + 1)), none, none]) (And.intro rfl (And.intro rfl (And.intro rfl (And.intro rfl (And.intro rfl (And.intro rfl (And.intro rfl (And.intro rfl trivial)))))))) (ih6 (z7 + 1) H19 hI hlt)
            · replace h := h.2 c
              refine g_aload_n (q := 0) (i := 0) (by decide +kernel) rfl rfl ?_
              refine g_iload (i := 10) (by decide +kernel) rfl ?_
              refine g_iload (i := 9) (by decide +kernel) rfl ?_
              refine g_iconst (n := 0) (v := 0) (by decide +kernel) (by decide) ?_
              refine g_callS (vs := [vi (v2 - r13), vi v11, vi 0]) (st := [vr 21 0]) (by decide +kernel) xm_Search_state kw_783 kw_784 rfl rfl (Nat.le_of_ble_eq_true rfl) (Nat.le_of_ble_eq_true rfl) h (fun vH20 H20 hq => ?_)
              obtain ⟨r21, rfl, h⟩ := hq
              refine g_iload_n (q := 3) (i := 3) (by decide +kernel) rfl rfl ?_
              refine g_aload_n (q := 1) (i := 1) (by decide +kernel) rfl rfl ?_
              refine g_iload (i := 10) (by decide +kernel) rfl ?_
              refine g_iload (i := 9) (by decide +kernel) rfl ?_
              refine g_iload (i := 8) (by decide +kernel) rfl ?_
              refine g_callV (kd := 19) (ix := 0) (ci := 8) (N := 4) (T := xT_Ride) (vs := [vi (v2 - r13), vi v11, vi z7]) (st := [vi x3, vi r21, vr 21 0]) (by decide +kernel) xm_Ride_wears kw_803 kw_757 kw_758 (by decide) rfl rfl rfl rfl (Nat.le_of_ble_eq_true rfl) (Nat.le_of_ble_eq_true rfl) h (fun vH22 H22 hq => ?_)
              obtain ⟨r23, rfl, h⟩ := hq
              refine g_iadd (by decide +kernel) ?_
              refine g_callV (kd := 21) (ix := 0) (ci := 9) (N := 8) (T := xT_Search) (vs := [vi r21, vi (x3 + r23)]) (st := []) (by decide +kernel) xm_Search_lower kw_788 kw_790 kw_22 (by decide) rfl rfl rfl rfl (Nat.le_of_ble_eq_true rfl) (Nat.le_of_ble_eq_true rfl) h (fun vH24 H24 hq => ?_)
              replace h := hq
              refine g_goto (off := 35) (tgt := 171) (by decide +kernel) (by decide) ?_
              refine g_iinc (i := 8) (n := 1) (v := (z7 + 1)) (ls2 := [some (vr 21 0), some (vr 19 0), none, some (vi x3), some (vi (x2 &&& 1)), some (vi v1), some (vi v2), some (vi z4), some (vi (z7 + 1)), some (vi v11), some (vi (v2 - r13))]) (by decide +kernel) rfl rfl (by decide) rfl rfl ?_
              refine g_goto (off := (-127)) (tgt := 47) (by decide +kernel) (by decide) ?_
              obtain ⟨hI, hlt⟩ := h
              exact g_drop (ls2 := [some (vr 21 0), some (vr 19 0), none, some (vi x3), some (vi (x2 &&& 1)), some (vi v1), some (vi v2), some (vi z4), some (vi (z7 + 1)), none, none]) (And.intro rfl (And.intro rfl (And.intro rfl (And.intro rfl (And.intro rfl (And.intro rfl (And.intro rfl (And.intro rfl trivial)))))))) (ih6 (z7 + 1) H24 hI hlt)
          · replace h := h.2 c
            refine g_goto (off := 70) (tgt := 171) (by decide +kernel) (by decide) ?_
            refine g_iinc (i := 8) (n := 1) (v := (z7 + 1)) (ls2 := [some (vr 21 0), some (vr 19 0), none, some (vi x3), some (vi (x2 &&& 1)), some (vi v1), some (vi v2), some (vi z4), some (vi (z7 + 1)), some (vi v11), some (vi (v2 - r13))]) (by decide +kernel) rfl rfl (by decide) rfl rfl ?_
            refine g_goto (off := (-127)) (tgt := 47) (by decide +kernel) (by decide) ?_
            obtain ⟨hI, hlt⟩ := h
            exact g_drop (ls2 := [some (vr 21 0), some (vr 19 0), none, some (vi x3), some (vi (x2 &&& 1)), some (vi v1), some (vi v2), some (vi z4), some (vi (z7 + 1)), none, none]) (And.intro rfl (And.intro rfl (And.intro rfl (And.intro rfl (And.intro rfl (And.intro rfl (And.intro rfl (And.intro rfl trivial)))))))) (ih6 (z7 + 1) H12 hI hlt)
    · replace h := h.2 c
      refine g_iload (i := 7) (by decide +kernel) rfl ?_
      refine g_iload (i := 4) (by decide +kernel) rfl ?_
      refine g_icmp_eq (off := 6) (tgt := 44) (by decide +kernel) (by decide) (fun c => ?_) (fun c => ?_)
      · replace h := h.1 c
        refine g_iconst (n := (-1)) (v := (-1)) (by decide +kernel) (by decide) ?_
        refine g_istore (i := 8) (ls2 := [some (vr 21 0), some (vr 19 0), none, some (vi x3), some (vi (x2 &&& 1)), some (vi v1), some (vi v2), some (vi z4), some (vi (-1)), none, none]) (by decide +kernel) (by decide) rfl rfl ?_
        refine g_drop (ls2 := [some (vr 21 0), some (vr 19 0), none, some (vi x3), some (vi (x2 &&& 1)), some (vi v1), some (vi v2), some (vi z4), some (vi (-1)), none, none]) (And.intro rfl (And.intro rfl (And.intro rfl (And.intro rfl (And.intro rfl (And.intro rfl (And.intro rfl (And.intro rfl trivial)))))))) ?_
        obtain ⟨I25, μ25, h0, h⟩ := h
        refine xloop (σ := Int32) (fun s H => I25 s H) (fun s H => μ25 s H) (fun s H => g_Search_lowerAhead E (d + 1) 47 [some (vr 21 0), some (vr 19 0), none, some (vi x3), some (vi (x2 &&& 1)), some (vi v1), some (vi v2), some (vi z4), some (vi s), none, none] [] H (qv Q)) (fun s H27 hI ih25 => ?_) (-1) H5 h0
        obtain ⟨z26, es⟩ : ∃ z, z = s := ⟨s, rfl⟩
        subst es
        replace h := h z26 H27 hI
        refine g_iload (i := 8) (by decide +kernel) rfl ?_
        refine g_iconst (n := 1) (v := 1) (by decide +kernel) (by decide) ?_
        refine g_icmp_gt (off := 127) (tgt := 177) (by decide +kernel) (by decide) (fun c => ?_) (fun c => ?_)
        · replace h := h.1 c
          refine g_iinc (i := 7) (n := 1) (v := (z4 + 1)) (ls2 := [some (vr 21 0), some (vr 19 0), none, some (vi x3), some (vi (x2 &&& 1)), some (vi v1), some (vi v2), some (vi (z4 + 1)), some (vi z26), none, none]) (by decide +kernel) rfl rfl (by decide) rfl rfl ?_
          refine g_goto (off := (-159)) (tgt := 21) (by decide +kernel) (by decide) ?_
          obtain ⟨hI, hlt⟩ := h
          exact g_drop (ls2 := [some (vr 21 0), some (vr 19 0), none, some (vi x3), some (vi (x2 &&& 1)), some (vi v1), some (vi v2), some (vi (z4 + 1)), none, none, none]) (And.intro rfl (And.intro rfl (And.intro rfl (And.intro rfl (And.intro rfl (And.intro rfl (And.intro rfl trivial))))))) (ih3 (z4 + 1) H27 hI hlt)
        · replace h := h.2 c
          refine g_iload (i := 5) (by decide +kernel) rfl ?_
          refine g_aload_n (q := 1) (i := 1) (by decide +kernel) rfl rfl ?_
          refine g_get (C := "ThreePoints$Ride") (T := xT_Ride) (N := 4) (ci := 8) (k := 1) (v := vr 3 8) (by decide +kernel) (by decide) rfl rfl xi_Ride (by decide) kw_263 rfl ?_
          refine g_iload (i := 7) (by decide +kernel) rfl ?_
          refine g_iload (i := 8) (by decide +kernel) rfl ?_
          refine g_callV (kd := 3) (ix := 8) (ci := 3) (N := 7) (T := xT_Vehicle) (vs := [vi z4, vi z26]) (st := [vi v1]) (by decide +kernel) xm_Vehicle_turns kw_801 kw_753 kw_754 (by decide) rfl rfl rfl rfl (Nat.le_of_ble_eq_true rfl) (Nat.le_of_ble_eq_true rfl) h (fun vH28 H28 hq => ?_)
          obtain ⟨r29, rfl, h⟩ := hq
          refine g_isub (by decide +kernel) ?_
          refine g_bipush (n := 15) (v := 15) (by decide +kernel) (by decide) ?_
          refine g_iand (by decide +kernel) ?_
          refine g_topi (fun v30 ev30 => ?_)
          replace h := h v30 ev30
          refine g_istore (i := 9) (ls2 := [some (vr 21 0), some (vr 19 0), none, some (vi x3), some (vi (x2 &&& 1)), some (vi v1), some (vi v2), some (vi z4), some (vi z26), some (vi v30), none]) (by decide +kernel) (by decide) rfl rfl ?_
          refine g_iload (i := 6) (by decide +kernel) rfl ?_
          refine g_iload (i := 9) (by decide +kernel) rfl ?_
          refine g_iload (i := 7) (by decide +kernel) rfl ?_
          refine g_callS (vs := [vi v30, vi z4]) (st := [vi v2]) (by decide +kernel) xm_Ride_shift kw_802 kw_746 rfl rfl (Nat.le_of_ble_eq_true rfl) (Nat.le_of_ble_eq_true rfl) h (fun vH31 H31 hq => ?_)
          obtain ⟨r32, rfl, h⟩ := hq
          refine g_isub (by decide +kernel) ?_
          refine g_istore (i := 10) (ls2 := [some (vr 21 0), some (vr 19 0), none, some (vi x3), some (vi (x2 &&& 1)), some (vi v1), some (vi v2), some (vi z4), some (vi z26), some (vi v30), some (vi (v2 - r32))]) (by decide +kernel) (by decide) rfl rfl ?_
          refine g_iload (i := 10) (by decide +kernel) rfl ?_
          refine g_if_lt (off := 85) (tgt := 171) (by decide +kernel) (by decide) (fun c => ?_) (fun c => ?_)
          · replace h := h.1 c
            refine g_iinc (i := 8) (n := 1) (v := (z26 + 1)) (ls2 := [some (vr 21 0), some (vr 19 0), none, some (vi x3), some (vi (x2 &&& 1)), some (vi v1), some (vi v2), some (vi z4), some (vi (z26 + 1)), some (vi v30), some (vi (v2 - r32))]) (by decide +kernel) rfl rfl (by decide) rfl rfl ?_
            refine g_goto (off := (-127)) (tgt := 47) (by decide +kernel) (by decide) ?_
            obtain ⟨hI, hlt⟩ := h
            exact g_drop (ls2 := [some (vr 21 0), some (vr 19 0), none, some (vi x3), some (vi (x2 &&& 1)), some (vi v1), some (vi v2), some (vi z4), some (vi (z26 + 1)), none, none]) (And.intro rfl (And.intro rfl (And.intro rfl (And.intro rfl (And.intro rfl (And.intro rfl (And.intro rfl (And.intro rfl trivial)))))))) (ih25 (z26 + 1) H31 hI hlt)
          · replace h := h.2 c
            refine g_iload (i := 10) (by decide +kernel) rfl ?_
            refine g_aload_n (q := 1) (i := 1) (by decide +kernel) rfl rfl ?_
            refine g_get (C := "ThreePoints$Ride") (T := xT_Ride) (N := 4) (ci := 8) (k := 0) (v := vr 2 2) (by decide +kernel) (by decide) rfl rfl xi_Ride (by decide) kw_260 rfl ?_
            refine g_get (C := "ThreePoints$Lane") (T := xT_Lane) (N := 3) (ci := 2) (k := 0) (v := vi (H31 2 2 0)) (by decide +kernel) (by decide) rfl rfl xi_Lane (by decide) kw_107 rfl ?_
            refine g_icmp_le (off := 6) (tgt := 104) (by decide +kernel) (by decide) (fun c => ?_) (fun c => ?_)
            · replace h := h.1 c
              refine g_aload_n (q := 0) (i := 0) (by decide +kernel) rfl rfl ?_
              refine g_get (C := "ThreePoints$Search") (T := xT_Search) (N := 8) (ci := 9) (k := 0) (v := vi (H31 21 0 0)) (by decide +kernel) (by decide) rfl rfl xi_Search (by decide) kw_283 rfl ?_
              refine g_iconst (n := 1) (v := 1) (by decide +kernel) (by decide) ?_
              refine g_icmp_ne (off := 30) (tgt := 139) (by decide +kernel) (by decide) (fun c => ?_) (fun c => ?_)
              · replace h := h.1 c
                refine g_aload_n (q := 0) (i := 0) (by decide +kernel) rfl rfl ?_
                refine g_iload (i := 10) (by decide +kernel) rfl ?_
                refine g_iload (i := 9) (by decide +kernel) rfl ?_
                refine g_iload (i := 7) (by decide +kernel) rfl ?_
                refine g_callS (vs := [vi (v2 - r32), vi v30, vi z4]) (st := [vr 21 0]) (by decide +kernel) xm_Search_state kw_783 kw_784 rfl rfl (Nat.le_of_ble_eq_true rfl) (Nat.le_of_ble_eq_true rfl) h (fun vH33 H33 hq => ?_)
                obtain ⟨r34, rfl, h⟩ := hq
                refine g_iload_n (q := 3) (i := 3) (by decide +kernel) rfl rfl ?_
                refine g_callV (kd := 21) (ix := 0) (ci := 9) (N := 8) (T := xT_Search) (vs := [vi r34, vi x3]) (st := []) (by decide +kernel) xm_Search_lower kw_788 kw_790 kw_22 (by decide) rfl rfl rfl rfl (Nat.le_of_ble_eq_true rfl) (Nat.le_of_ble_eq_true rfl) h (fun vH35 H35 hq => ?_)
                replace h := hq
                refine g_aload_n (q := 0) (i := 0) (by decide +kernel) rfl rfl ?_
                refine g_iload (i := 10) (by decide +kernel) rfl ?_
                refine g_iload (i := 9) (by decide +kernel) rfl ?_
                refine g_iconst (n := 1) (v := 1) (by decide +kernel) (by decide) ?_
                refine g_iload (i := 7) (by decide +kernel) rfl ?_
                refine g_isub (by decide +kernel) ?_
                refine g_callS (vs := [vi (v2 - r32), vi v30, vi (1 - z4)]) (st := [vr 21 0]) (by decide +kernel) xm_Search_state kw_783 kw_784 rfl rfl (Nat.le_of_ble_eq_true rfl) (Nat.le_of_ble_eq_true rfl) h (fun vH36 H36 hq => ?_)
                obtain ⟨r37, rfl, h⟩ := hq
                refine g_iload_n (q := 3) (i := 3) (by decide +kernel) rfl rfl ?_
                refine g_iconst (n := 1) (v := 1) (by decide +kernel) (by decide) ?_
                refine g_iadd (by decide +kernel) ?_
                refine g_callV (kd := 21) (ix := 0) (ci := 9) (N := 8) (T := xT_Search) (vs := [vi r37, vi (x3 + 1)]) (st := []) (by decide +kernel) xm_Search_lower kw_788 kw_790 kw_22 (by decide) rfl rfl rfl rfl (Nat.le_of_ble_eq_true rfl) (Nat.le_of_ble_eq_true rfl) h (fun vH38 H38 hq => ?_)
                replace h := hq
                refine g_iinc (i := 8) (n := 1) (v := (z26 + 1)) (ls2 := [some (vr 21 0), some (vr 19 0), none, some (vi x3), some (vi (x2 &&& 1)), some (vi v1), some (vi v2), some (vi z4), some (vi (z26 + 1)), some (vi v30), some (vi (v2 - r32))]) (by decide +kernel) rfl rfl (by decide) rfl rfl ?_
                refine g_goto (off := (-127)) (tgt := 47) (by decide +kernel) (by decide) ?_
                obtain ⟨hI, hlt⟩ := h
                exact g_drop (ls2 := [some (vr 21 0), some (vr 19 0), none, some (vi x3), some (vi (x2 &&& 1)), some (vi v1), some (vi v2), some (vi z4), some (vi (z26 + 1)), none, none]) (And.intro rfl (And.intro rfl (And.intro rfl (And.intro rfl (And.intro rfl (And.intro rfl (And.intro rfl (And.intro rfl trivial)))))))) (ih25 (z26 + 1) H38 hI hlt)
              · replace h := h.2 c
                refine g_aload_n (q := 0) (i := 0) (by decide +kernel) rfl rfl ?_
                refine g_iload (i := 10) (by decide +kernel) rfl ?_
                refine g_iload (i := 9) (by decide +kernel) rfl ?_
                refine g_iconst (n := 0) (v := 0) (by decide +kernel) (by decide) ?_
                refine g_callS (vs := [vi (v2 - r32), vi v30, vi 0]) (st := [vr 21 0]) (by decide +kernel) xm_Search_state kw_783 kw_784 rfl rfl (Nat.le_of_ble_eq_true rfl) (Nat.le_of_ble_eq_true rfl) h (fun vH39 H39 hq => ?_)
                obtain ⟨r40, rfl, h⟩ := hq
                refine g_iload_n (q := 3) (i := 3) (by decide +kernel) rfl rfl ?_
                refine g_aload_n (q := 1) (i := 1) (by decide +kernel) rfl rfl ?_
                refine g_iload (i := 10) (by decide +kernel) rfl ?_
                refine g_iload (i := 9) (by decide +kernel) rfl ?_
                refine g_iload (i := 8) (by decide +kernel) rfl ?_
                refine g_callV (kd := 19) (ix := 0) (ci := 8) (N := 4) (T := xT_Ride) (vs := [vi (v2 - r32), vi v30, vi z26]) (st := [vi x3, vi r40, vr 21 0]) (by decide +kernel) xm_Ride_wears kw_803 kw_757 kw_758 (by decide) rfl rfl rfl rfl (Nat.le_of_ble_eq_true rfl) (Nat.le_of_ble_eq_true rfl) h (fun vH41 H41 hq => ?_)
                obtain ⟨r42, rfl, h⟩ := hq
                refine g_iadd (by decide +kernel) ?_
                refine g_callV (kd := 21) (ix := 0) (ci := 9) (N := 8) (T := xT_Search) (vs := [vi r40, vi (x3 + r42)]) (st := []) (by decide +kernel) xm_Search_lower kw_788 kw_790 kw_22 (by decide) rfl rfl rfl rfl (Nat.le_of_ble_eq_true rfl) (Nat.le_of_ble_eq_true rfl) h (fun vH43 H43 hq => ?_)
                replace h := hq
                refine g_goto (off := 35) (tgt := 171) (by decide +kernel) (by decide) ?_
                refine g_iinc (i := 8) (n := 1) (v := (z26 + 1)) (ls2 := [some (vr 21 0), some (vr 19 0), none, some (vi x3), some (vi (x2 &&& 1)), some (vi v1), some (vi v2), some (vi z4), some (vi (z26 + 1)), some (vi v30), some (vi (v2 - r32))]) (by decide +kernel) rfl rfl (by decide) rfl rfl ?_
                refine g_goto (off := (-127)) (tgt := 47) (by decide +kernel) (by decide) ?_
                obtain ⟨hI, hlt⟩ := h
                exact g_drop (ls2 := [some (vr 21 0), some (vr 19 0), none, some (vi x3), some (vi (x2 &&& 1)), some (vi v1), some (vi v2), some (vi z4), some (vi (z26 + 1)), none, none]) (And.intro rfl (And.intro rfl (And.intro rfl (And.intro rfl (And.intro rfl (And.intro rfl (And.intro rfl (And.intro rfl trivial)))))))) (ih25 (z26 + 1) H43 hI hlt)
            · replace h := h.2 c
              refine g_goto (off := 70) (tgt := 171) (by decide +kernel) (by decide) ?_
              refine g_iinc (i := 8) (n := 1) (v := (z26 + 1)) (ls2 := [some (vr 21 0), some (vr 19 0), none, some (vi x3), some (vi (x2 &&& 1)), some (vi v1), some (vi v2), some (vi z4), some (vi (z26 + 1)), some (vi v30), some (vi (v2 - r32))]) (by decide +kernel) rfl rfl (by decide) rfl rfl ?_
              refine g_goto (off := (-127)) (tgt := 47) (by decide +kernel) (by decide) ?_
              obtain ⟨hI, hlt⟩ := h
              exact g_drop (ls2 := [some (vr 21 0), some (vr 19 0), none, some (vi x3), some (vi (x2 &&& 1)), some (vi v1), some (vi v2), some (vi z4), some (vi (z26 + 1)), none, none]) (And.intro rfl (And.intro rfl (And.intro rfl (And.intro rfl (And.intro rfl (And.intro rfl (And.intro rfl (And.intro rfl trivial)))))))) (ih25 (z26 + 1) H31 hI hlt)
      · replace h := h.2 c
        refine g_goto (off := 136) (tgt := 177) (by decide +kernel) (by decide) ?_
        refine g_iinc (i := 7) (n := 1) (v := (z4 + 1)) (ls2 := [some (vr 21 0), some (vr 19 0), none, some (vi x3), some (vi (x2 &&& 1)), some (vi v1), some (vi v2), some (vi (z4 + 1)), none, none, none]) (by decide +kernel) rfl rfl (by decide) rfl rfl ?_
        refine g_goto (off := (-159)) (tgt := 21) (by decide +kernel) (by decide) ?_
        obtain ⟨hI, hlt⟩ := h
        exact g_drop (ls2 := [some (vr 21 0), some (vr 19 0), none, some (vi x3), some (vi (x2 &&& 1)), some (vi v1), some (vi v2), some (vi (z4 + 1)), none, none, none]) (And.intro rfl (And.intro rfl (And.intro rfl (And.intro rfl (And.intro rfl (And.intro rfl (And.intro rfl trivial))))))) (ih3 (z4 + 1) H5 hI hlt)
def p_Search_toHeading (E : XE) (d : Nat) (x2 : Int32) (x3 : Int32) (H : HH) (Q : HH → Prop) : Prop := ∀ H1 : HH, H1 = (hu (hu H 21 0 0 x3) 21 0 6 0) → (c_fill E d 23 1952 0 2147483647 H1 (fun H2 => c_fill E d 24 128 0 (-1) H2 (fun H3 => ∃ (I4 : Int32 → HH → Prop) (μ4 : Int32 → HH → Nat), I4 0 H3 ∧ ∀ (z5 : Int32) (H6 : HH), I4 z5 H6 → (((((H6 2 2 0) + 1) * 16) ≤ z5 → (∃ (I7 : Int32 → HH → Prop) (μ7 : Int32 → HH → Nat), I7 0 H6 ∧ ∀ (z8 : Int32) (H9 : HH), I7 z8 H9 → (((H9 2 2 0) < z8 → (∃ (I10 : Int32 → HH → Prop) (μ10 : Int32 → HH → Nat), I10 0 H9 ∧ ∀ (z11 : Int32) (H12 : HH), I10 z11 H12 → ((193248 < z11 → (Q H12)) ∧ (¬ 193248 < z11 → (((H12 21 0 6) ≤ 0 → (Q H12)) ∧ (¬ (H12 21 0 6) ≤ 0 → (∃ (I13 : Int32 → HH → Prop) (μ13 : Int32 → HH → Nat), I13 1952 H12 ∧ ∀ (z14 : Int32) (H15 : HH), I13 z14 H15 → ((z14 ≤ 0 → (I10 (z11 + 1) H15 ∧ μ10 (z11 + 1) H15 < μ10 z11 H12)) ∧ (¬ z14 ≤ 0 → (vp_in (xrem z11 128) 128 ∧ (((H15 24 0 ((xrem z11 128).toNatClampNeg)) < 0 → (I10 (z11 + 1) H15 ∧ μ10 (z11 + 1) H15 < μ10 z11 H12)) ∧ (¬ (H15 24 0 ((xrem z11 128).toNatClampNeg)) < 0 → (vp_in (xrem z11 128) 128 ∧ (∀ v16 : Int32, v16 = (H15 24 0 ((xrem z11 128).toNatClampNeg)) → (c_Search_unlink E d v16 H15 (fun H17 => c_Search_lowerAhead E d v16 z11 H17 (fun H18 => I13 (z14 + (-1)) H18 ∧ μ13 (z14 + (-1)) H18 < μ13 z14 H15))))))))))))))))) ∧ (¬ (H9 2 2 0) < z8 → (c_Search_state E d z8 x2 0 H9 (fun r20 H19 => c_Search_lower E d r20 0 H19 (fun H21 => (¬ (H21 21 0 0) = 0 → (I7 (z8 + 1) H21 ∧ μ7 (z8 + 1) H21 < μ7 z8 H9)) ∧ ((H21 21 0 0) = 0 → (c_Search_state E d z8 x2 1 H21 (fun r23 H22 => c_Search_lower E d r23 0 H22 (fun H24 => I7 (z8 + 1) H24 ∧ μ7 (z8 + 1) H24 < μ7 z8 H9))))))))))) ∧ (¬ (((H6 2 2 0) + 1) * 16) ≤ z5 → ((976 ≤ z5 → (∃ (I25 : Int32 → HH → Prop) (μ25 : Int32 → HH → Nat), I25 0 H6 ∧ ∀ (z26 : Int32) (H27 : HH), I25 z26 H27 → (((H27 2 2 0) < z26 → (∃ (I28 : Int32 → HH → Prop) (μ28 : Int32 → HH → Nat), I28 0 H27 ∧ ∀ (z29 : Int32) (H30 : HH), I28 z29 H30 → ((193248 < z29 → (Q H30)) ∧ (¬ 193248 < z29 → (((H30 21 0 6) ≤ 0 → (Q H30)) ∧ (¬ (H30 21 0 6) ≤ 0 → (∃ (I31 : Int32 → HH → Prop) (μ31 : Int32 → HH → Nat), I31 1952 H30 ∧ ∀ (z32 : Int32) (H33 : HH), I31 z32 H33 → ((z32 ≤ 0 → (I28 (z29 + 1) H33 ∧ μ28 (z29 + 1) H33 < μ28 z29 H30)) ∧ (¬ z32 ≤ 0 → (vp_in (xrem z29 128) 128 ∧ (((H33 24 0 ((xrem z29 128).toNatClampNeg)) < 0 → (I28 (z29 + 1) H33 ∧ μ28 (z29 + 1) H33 < μ28 z29 H30)) ∧ (¬ (H33 24 0 ((xrem z29 128).toNatClampNeg)) < 0 → (vp_in (xrem z29 128) 128 ∧ (∀ v34 : Int32, v34 = (H33 24 0 ((xrem z29 128).toNatClampNeg)) → (c_Search_unlink E d v34 H33 (fun H35 => c_Search_lowerAhead E d v34 z29 H35 (fun H36 => I31 (z32 + (-1)) H36 ∧ μ31 (z32 + (-1)) H36 < μ31 z32 H33))))))))))))))))) ∧ (¬ (H27 2 2 0) < z26 → (c_Search_state E d z26 x2 0 H27 (fun r38 H37 => c_Search_lower E d r38 0 H37 (fun H39 => (¬ (H39 21 0 0) = 0 → (I25 (z26 + 1) H39 ∧ μ25 (z26 + 1) H39 < μ25 z26 H27)) ∧ ((H39 21 0 0) = 0 → (c_Search_state E d z26 x2 1 H39 (fun r41 H40 => c_Search_lower E d r41 0 H40 (fun H42 => I25 (z26 + 1) H42 ∧ μ25 (z26 + 1) H42 < μ25 z26 H27))))))))))) ∧ (¬ 976 ≤ z5 → (c_Ride_fits E d (z5 / 16) (xrem z5 16) H6 (fun r44 H43 => vp_in z5 976 ∧ ((r44 = 0 ∨ r44 = 1) ∧ (∀ H45 : HH, H45 = (hu H43 22 0 (z5.toNatClampNeg) r44) → (I4 (z5 + 1) H45 ∧ μ4 (z5 + 1) H45 < μ4 z5 H6))))))))))))
set_option maxHeartbeats 4000000 in
theorem l_Search_toHeading {E : XE} {d : Nat} {x2 : Int32} {x3 : Int32} {H : HH} {Q : HH → Prop} (h : p_Search_toHeading E d x2 x3 H Q) : c_Search_toHeading E (d + 1) x2 x3 H Q := by
  show g_Search_toHeading E (d + 1) 0 (xent [vr 21 0, vr 19 0, vi x2, vi x3]) [] H (qv Q)
  refine g_drop (ls2 := [some (vr 21 0), some (vr 19 0), some (vi x2), some (vi x3), none, none, none]) (And.intro rfl (And.intro rfl (And.intro rfl (And.intro rfl trivial)))) ?_
  refine g_aload_n (q := 0) (i := 0) (by decide +kernel) rfl rfl ?_
  refine g_iload_n (q := 3) (i := 3) (by decide +kernel) rfl rfl ?_
  refine g_put (C := "ThreePoints$Search") (T := xT_Search) (N := 8) (ci := 9) (k := 0) xy_Search (by decide +kernel) (by decide) rfl rfl xi_Search xy_Search_ok xn_Search (by decide) kw_283 rfl (by decide +kernel) (fun _ => rfl) ?_
  refine g_aload_n (q := 0) (i := 0) (by decide +kernel) rfl rfl ?_
  refine g_iconst (n := 0) (v := 0) (by decide +kernel) (by decide) ?_
  refine g_put (C := "ThreePoints$Search") (T := xT_Search) (N := 8) (ci := 9) (k := 6) xy_Search (by decide +kernel) (by decide) rfl rfl xi_Search xy_Search_ok xn_Search (by decide) kw_289 rfl (by decide +kernel) (fun _ => rfl) ?_
  refine g_aload_n (q := 0) (i := 0) (by decide +kernel) rfl rfl ?_
  refine g_get (C := "ThreePoints$Search") (T := xT_Search) (N := 8) (ci := 9) (k := 2) (v := vr 23 0) (by decide +kernel) (by decide) rfl rfl xi_Search (by decide) kw_285 rfl ?_
  refine g_ldc (v := 2147483647) (by decide +kernel) kw_780 ?_
  refine g_heap (fun H1 eH1 => ?_)
  replace h := h H1 eH1
  refine g_callS (vs := [vr 23 0, vi 2147483647]) (st := []) (by decide +kernel) xm_fill kw_781 kw_509 rfl rfl (Nat.le_of_ble_eq_true rfl) (Nat.le_of_ble_eq_true rfl) h (fun vH2 H2 hq => ?_)
  replace h := hq
  refine g_aload_n (q := 0) (i := 0) (by decide +kernel) rfl rfl ?_
  refine g_get (C := "ThreePoints$Search") (T := xT_Search) (N := 8) (ci := 9) (k := 3) (v := vr 24 0) (by decide +kernel) (by decide) rfl rfl xi_Search (by decide) kw_286 rfl ?_
  refine g_iconst (n := (-1)) (v := (-1)) (by decide +kernel) (by decide) ?_
  refine g_callS (vs := [vr 24 0, vi (-1)]) (st := []) (by decide +kernel) xm_fill kw_781 kw_509 rfl rfl (Nat.le_of_ble_eq_true rfl) (Nat.le_of_ble_eq_true rfl) h (fun vH3 H3 hq => ?_)
  replace h := hq
  refine g_iconst (n := 0) (v := 0) (by decide +kernel) (by decide) ?_
  refine g_istore (i := 4) (ls2 := [some (vr 21 0), some (vr 19 0), some (vi x2), some (vi x3), some (vi 0), none, none]) (by decide +kernel) (by decide) rfl rfl ?_
  refine g_drop (ls2 := [some (vr 21 0), some (vr 19 0), some (vi x2), none, some (vi 0), none, none]) (And.intro rfl (And.intro rfl (And.intro rfl (And.intro rfl trivial)))) ?_
  obtain ⟨I4, μ4, h0, h⟩ := h
  refine xloop (σ := Int32) (fun s H => I4 s H) (fun s H => μ4 s H) (fun s H => g_Search_toHeading E (d + 1) 30 [some (vr 21 0), some (vr 19 0), some (vi x2), none, some (vi s), none, none] [] H (qv Q)) (fun s H6 hI ih4 => ?_) 0 H3 h0
  obtain ⟨z5, es⟩ : ∃ z, z = s := ⟨s, rfl⟩
  subst es
  replace h := h z5 H6 hI
  refine g_iload (i := 4) (by decide +kernel) rfl ?_
  refine g_aload_n (q := 1) (i := 1) (by decide +kernel) rfl rfl ?_
  refine g_get (C := "ThreePoints$Ride") (T := xT_Ride) (N := 4) (ci := 8) (k := 0) (v := vr 2 2) (by decide +kernel) (by decide) rfl rfl xi_Ride (by decide) kw_260 rfl ?_
  refine g_get (C := "ThreePoints$Lane") (T := xT_Lane) (N := 3) (ci := 2) (k := 0) (v := vi (H6 2 2 0)) (by decide +kernel) (by decide) rfl rfl xi_Lane (by decide) kw_107 rfl ?_
  refine g_iconst (n := 1) (v := 1) (by decide +kernel) (by decide) ?_
  refine g_iadd (by decide +kernel) ?_
  refine g_bipush (n := 16) (v := 16) (by decide +kernel) (by decide) ?_
  refine g_imul (by decide +kernel) ?_
  refine g_icmp_ge (off := 38) (tgt := 82) (by decide +kernel) (by decide) (fun c => ?_) (fun c => ?_)
  · replace h := h.1 c
    refine g_iconst (n := 0) (v := 0) (by decide +kernel) (by decide) ?_
    refine g_istore (i := 4) (ls2 := [some (vr 21 0), some (vr 19 0), some (vi x2), none, some (vi 0), none, none]) (by decide +kernel) (by decide) rfl rfl ?_
    refine g_drop (ls2 := [some (vr 21 0), some (vr 19 0), some (vi x2), none, some (vi 0), none, none]) (And.intro rfl (And.intro rfl (And.intro rfl (And.intro rfl trivial)))) ?_
    obtain ⟨I7, μ7, h0, h⟩ := h
    refine xloop (σ := Int32) (fun s H => I7 s H) (fun s H => μ7 s H) (fun s H => g_Search_toHeading E (d + 1) 85 [some (vr 21 0), some (vr 19 0), some (vi x2), none, some (vi s), none, none] [] H (qv Q)) (fun s H9 hI ih7 => ?_) 0 H6 h0
    obtain ⟨z8, es⟩ : ∃ z, z = s := ⟨s, rfl⟩
    subst es
    replace h := h z8 H9 hI
    refine g_iload (i := 4) (by decide +kernel) rfl ?_
    refine g_aload_n (q := 1) (i := 1) (by decide +kernel) rfl rfl ?_
    refine g_get (C := "ThreePoints$Ride") (T := xT_Ride) (N := 4) (ci := 8) (k := 0) (v := vr 2 2) (by decide +kernel) (by decide) rfl rfl xi_Ride (by decide) kw_260 rfl ?_
    refine g_get (C := "ThreePoints$Lane") (T := xT_Lane) (N := 3) (ci := 2) (k := 0) (v := vi (H9 2 2 0)) (by decide +kernel) (by decide) rfl rfl xi_Lane (by decide) kw_107 rfl ?_
    refine g_icmp_gt (off := 40) (tgt := 134) (by decide +kernel) (by decide) (fun c => ?_) (fun c => ?_)
    · replace h := h.1 c
      refine g_iconst (n := 0) (v := 0) (by decide +kernel) (by decide) ?_
      refine g_istore (i := 4) (ls2 := [some (vr 21 0), some (vr 19 0), some (vi x2), none, some (vi 0), none, none]) (by decide +kernel) (by decide) rfl rfl ?_
      refine g_drop (ls2 := [some (vr 21 0), some (vr 19 0), none, none, some (vi 0), none, none]) (And.intro rfl (And.intro rfl (And.intro rfl trivial))) ?_
      obtain ⟨I10, μ10, h0, h⟩ := h
      refine xloop (σ := Int32) (fun s H => I10 s H) (fun s H => μ10 s H) (fun s H => g_Search_toHeading E (d + 1) 137 [some (vr 21 0), some (vr 19 0), none, none, some (vi s), none, none] [] H (qv Q)) (fun s H12 hI ih10 => ?_) 0 H9 h0
      obtain ⟨z11, es⟩ : ∃ z, z = s := ⟨s, rfl⟩
      subst es
      replace h := h z11 H12 hI
      refine g_iload (i := 4) (by decide +kernel) rfl ?_
      refine g_ldc (v := 193248) (by decide +kernel) kw_796 ?_
      refine g_icmp_gt (off := 74) (tgt := 215) (by decide +kernel) (by decide) (fun c => ?_) (fun c => ?_)
      · replace h := h.1 c
        exact g_vret (by decide +kernel) rfl h
      · replace h := h.2 c
        refine g_aload_n (q := 0) (i := 0) (by decide +kernel) rfl rfl ?_
        refine g_get (C := "ThreePoints$Search") (T := xT_Search) (N := 8) (ci := 9) (k := 6) (v := vi (H12 21 0 6)) (by decide +kernel) (by decide) rfl rfl xi_Search (by decide) kw_289 rfl ?_
        refine g_if_le (off := 67) (tgt := 215) (by decide +kernel) (by decide) (fun c => ?_) (fun c => ?_)
        · replace h := h.1 c
          exact g_vret (by decide +kernel) rfl h
        · replace h := h.2 c
          refine g_sipush (n := 1952) (v := 1952) (by decide +kernel) (by decide) ?_
          refine g_istore (i := 5) (ls2 := [some (vr 21 0), some (vr 19 0), none, none, some (vi z11), some (vi 1952), none]) (by decide +kernel) (by decide) rfl rfl ?_
          refine g_drop (ls2 := [some (vr 21 0), some (vr 19 0), none, none, some (vi z11), some (vi 1952), none]) (And.intro rfl (And.intro rfl (And.intro rfl (And.intro rfl trivial)))) ?_
          obtain ⟨I13, μ13, h0, h⟩ := h
          refine xloop (σ := Int32) (fun s H => I13 s H) (fun s H => μ13 s H) (fun s H => g_Search_toHeading E (d + 1) 156 [some (vr 21 0), some (vr 19 0), none, none, some (vi z11), some (vi s), none] [] H (qv Q)) (fun s H15 hI ih13 => ?_) 1952 H12 h0
          obtain ⟨z14, es⟩ : ∃ z, z = s := ⟨s, rfl⟩
          subst es
          replace h := h z14 H15 hI
          refine g_iload (i := 5) (by decide +kernel) rfl ?_
          refine g_if_le (off := 51) (tgt := 209) (by decide +kernel) (by decide) (fun c => ?_) (fun c => ?_)
          · replace h := h.1 c
            refine g_iinc (i := 4) (n := 1) (v := (z11 + 1)) (ls2 := [some (vr 21 0), some (vr 19 0), none, none, some (vi (z11 + 1)), some (vi z14), none]) (by decide +kernel) rfl rfl (by decide) rfl rfl ?_
            refine g_goto (off := (-75)) (tgt := 137) (by decide +kernel) (by decide) ?_
            obtain ⟨hI, hlt⟩ := h
            exact g_drop (ls2 := [some (vr 21 0), some (vr 19 0), none, none, some (vi (z11 + 1)), none, none]) (And.intro rfl (And.intro rfl (And.intro rfl trivial))) (ih10 (z11 + 1) H15 hI hlt)
          · replace h := h.2 c
            refine g_aload_n (q := 0) (i := 0) (by decide +kernel) rfl rfl ?_
            refine g_get (C := "ThreePoints$Search") (T := xT_Search) (N := 8) (ci := 9) (k := 3) (v := vr 24 0) (by decide +kernel) (by decide) rfl rfl xi_Search (by decide) kw_286 rfl ?_
            refine g_iload (i := 4) (by decide +kernel) rfl ?_
            refine g_sipush (n := 128) (v := 128) (by decide +kernel) (by decide) ?_
            refine g_irem (by decide +kernel) (by decide) ?_
            obtain ⟨hin, h⟩ := h
            refine g_iald (by decide +kernel) (by decide) rfl hin ?_
            refine g_if_lt (off := 37) (tgt := 209) (by decide +kernel) (by decide) (fun c => ?_) (fun c => ?_)
            · replace h := h.1 c
              refine g_iinc (i := 4) (n := 1) (v := (z11 + 1)) (ls2 := [some (vr 21 0), some (vr 19 0), none, none, some (vi (z11 + 1)), some (vi z14), none]) (by decide +kernel) rfl rfl (by decide) rfl rfl ?_
              refine g_goto (off := (-75)) (tgt := 137) (by decide +kernel) (by decide) ?_
              obtain ⟨hI, hlt⟩ := h
              exact g_drop (ls2 := [some (vr 21 0), some (vr 19 0), none, none, some (vi (z11 + 1)), none, none]) (And.intro rfl (And.intro rfl (And.intro rfl trivial))) (ih10 (z11 + 1) H15 hI hlt)
            · replace h := h.2 c
              refine g_aload_n (q := 0) (i := 0) (by decide +kernel) rfl rfl ?_
              refine g_get (C := "ThreePoints$Search") (T := xT_Search) (N := 8) (ci := 9) (k := 3) (v := vr 24 0) (by decide +kernel) (by decide) rfl rfl xi_Search (by decide) kw_286 rfl ?_
              refine g_iload (i := 4) (by decide +kernel) rfl ?_
              refine g_sipush (n := 128) (v := 128) (by decide +kernel) (by decide) ?_
              refine g_irem (by decide +kernel) (by decide) ?_
              obtain ⟨hin, h⟩ := h
              refine g_iald (by decide +kernel) (by decide) rfl hin ?_
              refine g_topi (fun v16 ev16 => ?_)
              replace h := h v16 ev16
              refine g_istore (i := 6) (ls2 := [some (vr 21 0), some (vr 19 0), none, none, some (vi z11), some (vi z14), some (vi v16)]) (by decide +kernel) (by decide) rfl rfl ?_
              refine g_aload_n (q := 0) (i := 0) (by decide +kernel) rfl rfl ?_
              refine g_iload (i := 6) (by decide +kernel) rfl ?_
              refine g_callV (kd := 21) (ix := 0) (ci := 9) (N := 8) (T := xT_Search) (vs := [vi v16]) (st := []) (by decide +kernel) xm_Search_unlink kw_792 kw_794 kw_23 (by decide) rfl rfl rfl rfl (Nat.le_of_ble_eq_true rfl) (Nat.le_of_ble_eq_true rfl) h (fun vH17 H17 hq => ?_)
              replace h := hq
              refine g_aload_n (q := 0) (i := 0) (by decide +kernel) rfl rfl ?_
              refine g_aload_n (q := 1) (i := 1) (by decide +kernel) rfl rfl ?_
              refine g_iload (i := 6) (by decide +kernel) rfl ?_
              refine g_iload (i := 4) (by decide +kernel) rfl ?_
              refine g_callV (kd := 21) (ix := 0) (ci := 9) (N := 8) (T := xT_Search) (vs := [vr 19 0, vi v16, vi z11]) (st := []) (by decide +kernel) xm_Search_lowerAhead kw_797 kw_799 kw_24 (by decide) rfl rfl rfl rfl (Nat.le_of_ble_eq_true rfl) (Nat.le_of_ble_eq_true rfl) h (fun vH18 H18 hq => ?_)
              replace h := hq
              refine g_iinc (i := 5) (n := (-1)) (v := (z14 + (-1))) (ls2 := [some (vr 21 0), some (vr 19 0), none, none, some (vi z11), some (vi (z14 + (-1))), some (vi v16)]) (by decide +kernel) rfl rfl (by decide) rfl rfl ?_
              refine g_goto (off := (-50)) (tgt := 156) (by decide +kernel) (by decide) ?_
              obtain ⟨hI, hlt⟩ := h
              exact g_drop (ls2 := [some (vr 21 0), some (vr 19 0), none, none, some (vi z11), some (vi (z14 + (-1))), none]) (And.intro rfl (And.intro rfl (And.intro rfl (And.intro rfl trivial)))) (ih13 (z14 + (-1)) H18 hI hlt)
    · replace h := h.2 c
      refine g_aload_n (q := 0) (i := 0) (by decide +kernel) rfl rfl ?_
      refine g_iload (i := 4) (by decide +kernel) rfl ?_
      refine g_iload_n (q := 2) (i := 2) (by decide +kernel) rfl rfl ?_
      refine g_iconst (n := 0) (v := 0) (by decide +kernel) (by decide) ?_
      refine g_callS (vs := [vi z8, vi x2, vi 0]) (st := [vr 21 0]) (by decide +kernel) xm_Search_state kw_783 kw_784 rfl rfl (Nat.le_of_ble_eq_true rfl) (Nat.le_of_ble_eq_true rfl) h (fun vH19 H19 hq => ?_)
      obtain ⟨r20, rfl, h⟩ := hq
      refine g_iconst (n := 0) (v := 0) (by decide +kernel) (by decide) ?_
      refine g_callV (kd := 21) (ix := 0) (ci := 9) (N := 8) (T := xT_Search) (vs := [vi r20, vi 0]) (st := []) (by decide +kernel) xm_Search_lower kw_788 kw_790 kw_22 (by decide) rfl rfl rfl rfl (Nat.le_of_ble_eq_true rfl) (Nat.le_of_ble_eq_true rfl) h (fun vH21 H21 hq => ?_)
      replace h := hq
      refine g_aload_n (q := 0) (i := 0) (by decide +kernel) rfl rfl ?_
      refine g_get (C := "ThreePoints$Search") (T := xT_Search) (N := 8) (ci := 9) (k := 0) (v := vi (H21 21 0 0)) (by decide +kernel) (by decide) rfl rfl xi_Search (by decide) kw_283 rfl ?_
      refine g_if_ne (off := 15) (tgt := 128) (by decide +kernel) (by decide) (fun c => ?_) (fun c => ?_)
      · replace h := h.1 c
        refine g_iinc (i := 4) (n := 1) (v := (z8 + 1)) (ls2 := [some (vr 21 0), some (vr 19 0), some (vi x2), none, some (vi (z8 + 1)), none, none]) (by decide +kernel) rfl rfl (by decide) rfl rfl ?_
        refine g_goto (off := (-46)) (tgt := 85) (by decide +kernel) (by decide) ?_
        obtain ⟨hI, hlt⟩ := h
        exact g_drop (ls2 := [some (vr 21 0), some (vr 19 0), some (vi x2), none, some (vi (z8 + 1)), none, none]) (And.intro rfl (And.intro rfl (And.intro rfl (And.intro rfl trivial)))) (ih7 (z8 + 1) H21 hI hlt)
      · replace h := h.2 c
        refine g_aload_n (q := 0) (i := 0) (by decide +kernel) rfl rfl ?_
        refine g_iload (i := 4) (by decide +kernel) rfl ?_
        refine g_iload_n (q := 2) (i := 2) (by decide +kernel) rfl rfl ?_
        refine g_iconst (n := 1) (v := 1) (by decide +kernel) (by decide) ?_
        refine g_callS (vs := [vi z8, vi x2, vi 1]) (st := [vr 21 0]) (by decide +kernel) xm_Search_state kw_783 kw_784 rfl rfl (Nat.le_of_ble_eq_true rfl) (Nat.le_of_ble_eq_true rfl) h (fun vH22 H22 hq => ?_)
        obtain ⟨r23, rfl, h⟩ := hq
        refine g_iconst (n := 0) (v := 0) (by decide +kernel) (by decide) ?_
        refine g_callV (kd := 21) (ix := 0) (ci := 9) (N := 8) (T := xT_Search) (vs := [vi r23, vi 0]) (st := []) (by decide +kernel) xm_Search_lower kw_788 kw_790 kw_22 (by decide) rfl rfl rfl rfl (Nat.le_of_ble_eq_true rfl) (Nat.le_of_ble_eq_true rfl) h (fun vH24 H24 hq => ?_)
        replace h := hq
        refine g_iinc (i := 4) (n := 1) (v := (z8 + 1)) (ls2 := [some (vr 21 0), some (vr 19 0), some (vi x2), none, some (vi (z8 + 1)), none, none]) (by decide +kernel) rfl rfl (by decide) rfl rfl ?_
        refine g_goto (off := (-46)) (tgt := 85) (by decide +kernel) (by decide) ?_
        obtain ⟨hI, hlt⟩ := h
        exact g_drop (ls2 := [some (vr 21 0), some (vr 19 0), some (vi x2), none, some (vi (z8 + 1)), none, none]) (And.intro rfl (And.intro rfl (And.intro rfl (And.intro rfl trivial)))) (ih7 (z8 + 1) H24 hI hlt)
  · replace h := h.2 c
    refine g_iload (i := 4) (by decide +kernel) rfl ?_
    refine g_sipush (n := 976) (v := 976) (by decide +kernel) (by decide) ?_
    refine g_icmp_ge (off := 30) (tgt := 82) (by decide +kernel) (by decide) (fun c => ?_) (fun c => ?_)
    · replace h := h.1 c
      refine g_iconst (n := 0) (v := 0) (by decide +kernel) (by decide) ?_
      refine g_istore (i := 4) (ls2 := [some (vr 21 0), some (vr 19 0), some (vi x2), none, some (vi 0), none, none]) (by decide +kernel) (by decide) rfl rfl ?_
      refine g_drop (ls2 := [some (vr 21 0), some (vr 19 0), some (vi x2), none, some (vi 0), none, none]) (And.intro rfl (And.intro rfl (And.intro rfl (And.intro rfl trivial)))) ?_
      obtain ⟨I25, μ25, h0, h⟩ := h
      refine xloop (σ := Int32) (fun s H => I25 s H) (fun s H => μ25 s H) (fun s H => g_Search_toHeading E (d + 1) 85 [some (vr 21 0), some (vr 19 0), some (vi x2), none, some (vi s), none, none] [] H (qv Q)) (fun s H27 hI ih25 => ?_) 0 H6 h0
      obtain ⟨z26, es⟩ : ∃ z, z = s := ⟨s, rfl⟩
      subst es
      replace h := h z26 H27 hI
      refine g_iload (i := 4) (by decide +kernel) rfl ?_
      refine g_aload_n (q := 1) (i := 1) (by decide +kernel) rfl rfl ?_
      refine g_get (C := "ThreePoints$Ride") (T := xT_Ride) (N := 4) (ci := 8) (k := 0) (v := vr 2 2) (by decide +kernel) (by decide) rfl rfl xi_Ride (by decide) kw_260 rfl ?_
      refine g_get (C := "ThreePoints$Lane") (T := xT_Lane) (N := 3) (ci := 2) (k := 0) (v := vi (H27 2 2 0)) (by decide +kernel) (by decide) rfl rfl xi_Lane (by decide) kw_107 rfl ?_
      refine g_icmp_gt (off := 40) (tgt := 134) (by decide +kernel) (by decide) (fun c => ?_) (fun c => ?_)
      · replace h := h.1 c
        refine g_iconst (n := 0) (v := 0) (by decide +kernel) (by decide) ?_
        refine g_istore (i := 4) (ls2 := [some (vr 21 0), some (vr 19 0), some (vi x2), none, some (vi 0), none, none]) (by decide +kernel) (by decide) rfl rfl ?_
        refine g_drop (ls2 := [some (vr 21 0), some (vr 19 0), none, none, some (vi 0), none, none]) (And.intro rfl (And.intro rfl (And.intro rfl trivial))) ?_
        obtain ⟨I28, μ28, h0, h⟩ := h
        refine xloop (σ := Int32) (fun s H => I28 s H) (fun s H => μ28 s H) (fun s H => g_Search_toHeading E (d + 1) 137 [some (vr 21 0), some (vr 19 0), none, none, some (vi s), none, none] [] H (qv Q)) (fun s H30 hI ih28 => ?_) 0 H27 h0
        obtain ⟨z29, es⟩ : ∃ z, z = s := ⟨s, rfl⟩
        subst es
        replace h := h z29 H30 hI
        refine g_iload (i := 4) (by decide +kernel) rfl ?_
        refine g_ldc (v := 193248) (by decide +kernel) kw_796 ?_
        refine g_icmp_gt (off := 74) (tgt := 215) (by decide +kernel) (by decide) (fun c => ?_) (fun c => ?_)
        · replace h := h.1 c
          exact g_vret (by decide +kernel) rfl h
        · replace h := h.2 c
          refine g_aload_n (q := 0) (i := 0) (by decide +kernel) rfl rfl ?_
          refine g_get (C := "ThreePoints$Search") (T := xT_Search) (N := 8) (ci := 9) (k := 6) (v := vi (H30 21 0 6)) (by decide +kernel) (by decide) rfl rfl xi_Search (by decide) kw_289 rfl ?_
          refine g_if_le (off := 67) (tgt := 215) (by decide +kernel) (by decide) (fun c => ?_) (fun c => ?_)
          · replace h := h.1 c
            exact g_vret (by decide +kernel) rfl h
          · replace h := h.2 c
            refine g_sipush (n := 1952) (v := 1952) (by decide +kernel) (by decide) ?_
            refine g_istore (i := 5) (ls2 := [some (vr 21 0), some (vr 19 0), none, none, some (vi z29), some (vi 1952), none]) (by decide +kernel) (by decide) rfl rfl ?_
            refine g_drop (ls2 := [some (vr 21 0), some (vr 19 0), none, none, some (vi z29), some (vi 1952), none]) (And.intro rfl (And.intro rfl (And.intro rfl (And.intro rfl trivial)))) ?_
            obtain ⟨I31, μ31, h0, h⟩ := h
            refine xloop (σ := Int32) (fun s H => I31 s H) (fun s H => μ31 s H) (fun s H => g_Search_toHeading E (d + 1) 156 [some (vr 21 0), some (vr 19 0), none, none, some (vi z29), some (vi s), none] [] H (qv Q)) (fun s H33 hI ih31 => ?_) 1952 H30 h0
            obtain ⟨z32, es⟩ : ∃ z, z = s := ⟨s, rfl⟩
            subst es
            replace h := h z32 H33 hI
            refine g_iload (i := 5) (by decide +kernel) rfl ?_
            refine g_if_le (off := 51) (tgt := 209) (by decide +kernel) (by decide) (fun c => ?_) (fun c => ?_)
            · replace h := h.1 c
              refine g_iinc (i := 4) (n := 1) (v := (z29 + 1)) (ls2 := [some (vr 21 0), some (vr 19 0), none, none, some (vi (z29 + 1)), some (vi z32), none]) (by decide +kernel) rfl rfl (by decide) rfl rfl ?_
              refine g_goto (off := (-75)) (tgt := 137) (by decide +kernel) (by decide) ?_
              obtain ⟨hI, hlt⟩ := h
              exact g_drop (ls2 := [some (vr 21 0), some (vr 19 0), none, none, some (vi (z29 + 1)), none, none]) (And.intro rfl (And.intro rfl (And.intro rfl trivial))) (ih28 (z29 + 1) H33 hI hlt)
            · replace h := h.2 c
              refine g_aload_n (q := 0) (i := 0) (by decide +kernel) rfl rfl ?_
              refine g_get (C := "ThreePoints$Search") (T := xT_Search) (N := 8) (ci := 9) (k := 3) (v := vr 24 0) (by decide +kernel) (by decide) rfl rfl xi_Search (by decide) kw_286 rfl ?_
              refine g_iload (i := 4) (by decide +kernel) rfl ?_
              refine g_sipush (n := 128) (v := 128) (by decide +kernel) (by decide) ?_
              refine g_irem (by decide +kernel) (by decide) ?_
              obtain ⟨hin, h⟩ := h
              refine g_iald (by decide +kernel) (by decide) rfl hin ?_
              refine g_if_lt (off := 37) (tgt := 209) (by decide +kernel) (by decide) (fun c => ?_) (fun c => ?_)
              · replace h := h.1 c
                refine g_iinc (i := 4) (n := 1) (v := (z29 + 1)) (ls2 := [some (vr 21 0), some (vr 19 0), none, none, some (vi (z29 + 1)), some (vi z32), none]) (by decide +kernel) rfl rfl (by decide) rfl rfl ?_
                refine g_goto (off := (-75)) (tgt := 137) (by decide +kernel) (by decide) ?_
                obtain ⟨hI, hlt⟩ := h
                exact g_drop (ls2 := [some (vr 21 0), some (vr 19 0), none, none, some (vi (z29 + 1)), none, none]) (And.intro rfl (And.intro rfl (And.intro rfl trivial))) (ih28 (z29 + 1) H33 hI hlt)
              · replace h := h.2 c
                refine g_aload_n (q := 0) (i := 0) (by decide +kernel) rfl rfl ?_
                refine g_get (C := "ThreePoints$Search") (T := xT_Search) (N := 8) (ci := 9) (k := 3) (v := vr 24 0) (by decide +kernel) (by decide) rfl rfl xi_Search (by decide) kw_286 rfl ?_
                refine g_iload (i := 4) (by decide +kernel) rfl ?_
                refine g_sipush (n := 128) (v := 128) (by decide +kernel) (by decide) ?_
                refine g_irem (by decide +kernel) (by decide) ?_
                obtain ⟨hin, h⟩ := h
                refine g_iald (by decide +kernel) (by decide) rfl hin ?_
                refine g_topi (fun v34 ev34 => ?_)
                replace h := h v34 ev34
                refine g_istore (i := 6) (ls2 := [some (vr 21 0), some (vr 19 0), none, none, some (vi z29), some (vi z32), some (vi v34)]) (by decide +kernel) (by decide) rfl rfl ?_
                refine g_aload_n (q := 0) (i := 0) (by decide +kernel) rfl rfl ?_
                refine g_iload (i := 6) (by decide +kernel) rfl ?_
                refine g_callV (kd := 21) (ix := 0) (ci := 9) (N := 8) (T := xT_Search) (vs := [vi v34]) (st := []) (by decide +kernel) xm_Search_unlink kw_792 kw_794 kw_23 (by decide) rfl rfl rfl rfl (Nat.le_of_ble_eq_true rfl) (Nat.le_of_ble_eq_true rfl) h (fun vH35 H35 hq => ?_)
                replace h := hq
                refine g_aload_n (q := 0) (i := 0) (by decide +kernel) rfl rfl ?_
                refine g_aload_n (q := 1) (i := 1) (by decide +kernel) rfl rfl ?_
                refine g_iload (i := 6) (by decide +kernel) rfl ?_
                refine g_iload (i := 4) (by decide +kernel) rfl ?_
                refine g_callV (kd := 21) (ix := 0) (ci := 9) (N := 8) (T := xT_Search) (vs := [vr 19 0, vi v34, vi z29]) (st := []) (by decide +kernel) xm_Search_lowerAhead kw_797 kw_799 kw_24 (by decide) rfl rfl rfl rfl (Nat.le_of_ble_eq_true rfl) (Nat.le_of_ble_eq_true rfl) h (fun vH36 H36 hq => ?_)
                replace h := hq
                refine g_iinc (i := 5) (n := (-1)) (v := (z32 + (-1))) (ls2 := [some (vr 21 0), some (vr 19 0), none, none, some (vi z29), some (vi (z32 + (-1))), some (vi v34)]) (by decide +kernel) rfl rfl (by decide) rfl rfl ?_
                refine g_goto (off := (-50)) (tgt := 156) (by decide +kernel) (by decide) ?_
                obtain ⟨hI, hlt⟩ := h
                exact g_drop (ls2 := [some (vr 21 0), some (vr 19 0), none, none, some (vi z29), some (vi (z32 + (-1))), none]) (And.intro rfl (And.intro rfl (And.intro rfl (And.intro rfl trivial)))) (ih31 (z32 + (-1)) H36 hI hlt)
      · replace h := h.2 c
        refine g_aload_n (q := 0) (i := 0) (by decide +kernel) rfl rfl ?_
        refine g_iload (i := 4) (by decide +kernel) rfl ?_
        refine g_iload_n (q := 2) (i := 2) (by decide +kernel) rfl rfl ?_
        refine g_iconst (n := 0) (v := 0) (by decide +kernel) (by decide) ?_
        refine g_callS (vs := [vi z26, vi x2, vi 0]) (st := [vr 21 0]) (by decide +kernel) xm_Search_state kw_783 kw_784 rfl rfl (Nat.le_of_ble_eq_true rfl) (Nat.le_of_ble_eq_true rfl) h (fun vH37 H37 hq => ?_)
        obtain ⟨r38, rfl, h⟩ := hq
        refine g_iconst (n := 0) (v := 0) (by decide +kernel) (by decide) ?_
        refine g_callV (kd := 21) (ix := 0) (ci := 9) (N := 8) (T := xT_Search) (vs := [vi r38, vi 0]) (st := []) (by decide +kernel) xm_Search_lower kw_788 kw_790 kw_22 (by decide) rfl rfl rfl rfl (Nat.le_of_ble_eq_true rfl) (Nat.le_of_ble_eq_true rfl) h (fun vH39 H39 hq => ?_)
        replace h := hq
        refine g_aload_n (q := 0) (i := 0) (by decide +kernel) rfl rfl ?_
        refine g_get (C := "ThreePoints$Search") (T := xT_Search) (N := 8) (ci := 9) (k := 0) (v := vi (H39 21 0 0)) (by decide +kernel) (by decide) rfl rfl xi_Search (by decide) kw_283 rfl ?_
        refine g_if_ne (off := 15) (tgt := 128) (by decide +kernel) (by decide) (fun c => ?_) (fun c => ?_)
        · replace h := h.1 c
          refine g_iinc (i := 4) (n := 1) (v := (z26 + 1)) (ls2 := [some (vr 21 0), some (vr 19 0), some (vi x2), none, some (vi (z26 + 1)), none, none]) (by decide +kernel) rfl rfl (by decide) rfl rfl ?_
          refine g_goto (off := (-46)) (tgt := 85) (by decide +kernel) (by decide) ?_
          obtain ⟨hI, hlt⟩ := h
          exact g_drop (ls2 := [some (vr 21 0), some (vr 19 0), some (vi x2), none, some (vi (z26 + 1)), none, none]) (And.intro rfl (And.intro rfl (And.intro rfl (And.intro rfl trivial)))) (ih25 (z26 + 1) H39 hI hlt)
        · replace h := h.2 c
          refine g_aload_n (q := 0) (i := 0) (by decide +kernel) rfl rfl ?_
          refine g_iload (i := 4) (by decide +kernel) rfl ?_
          refine g_iload_n (q := 2) (i := 2) (by decide +kernel) rfl rfl ?_
          refine g_iconst (n := 1) (v := 1) (by decide +kernel) (by decide) ?_
          refine g_callS (vs := [vi z26, vi x2, vi 1]) (st := [vr 21 0]) (by decide +kernel) xm_Search_state kw_783 kw_784 rfl rfl (Nat.le_of_ble_eq_true rfl) (Nat.le_of_ble_eq_true rfl) h (fun vH40 H40 hq => ?_)
          obtain ⟨r41, rfl, h⟩ := hq
          refine g_iconst (n := 0) (v := 0) (by decide +kernel) (by decide) ?_
          refine g_callV (kd := 21) (ix := 0) (ci := 9) (N := 8) (T := xT_Search) (vs := [vi r41, vi 0]) (st := []) (by decide +kernel) xm_Search_lower kw_788 kw_790 kw_22 (by decide) rfl rfl rfl rfl (Nat.le_of_ble_eq_true rfl) (Nat.le_of_ble_eq_true rfl) h (fun vH42 H42 hq => ?_)
          replace h := hq
          refine g_iinc (i := 4) (n := 1) (v := (z26 + 1)) (ls2 := [some (vr 21 0), some (vr 19 0), some (vi x2), none, some (vi (z26 + 1)), none, none]) (by decide +kernel) rfl rfl (by decide) rfl rfl ?_
          refine g_goto (off := (-46)) (tgt := 85) (by decide +kernel) (by decide) ?_
          obtain ⟨hI, hlt⟩ := h
          exact g_drop (ls2 := [some (vr 21 0), some (vr 19 0), some (vi x2), none, some (vi (z26 + 1)), none, none]) (And.intro rfl (And.intro rfl (And.intro rfl (And.intro rfl trivial)))) (ih25 (z26 + 1) H42 hI hlt)
    · replace h := h.2 c
      refine g_aload_n (q := 0) (i := 0) (by decide +kernel) rfl rfl ?_
      refine g_get (C := "ThreePoints$Search") (T := xT_Search) (N := 8) (ci := 9) (k := 1) (v := vr 22 0) (by decide +kernel) (by decide) rfl rfl xi_Search (by decide) kw_284 rfl ?_
      refine g_iload (i := 4) (by decide +kernel) rfl ?_
      refine g_aload_n (q := 1) (i := 1) (by decide +kernel) rfl rfl ?_
      refine g_iload (i := 4) (by decide +kernel) rfl ?_
      refine g_bipush (n := 16) (v := 16) (by decide +kernel) (by decide) ?_
      refine g_idiv (by decide +kernel) (by decide) ?_
      refine g_iload (i := 4) (by decide +kernel) rfl ?_
      refine g_bipush (n := 16) (v := 16) (by decide +kernel) (by decide) ?_
      refine g_irem (by decide +kernel) (by decide) ?_
      refine g_callV (kd := 19) (ix := 0) (ci := 8) (N := 4) (T := xT_Ride) (vs := [vi (z5 / 16), vi (xrem z5 16)]) (st := [vi z5, vr 22 0]) (by decide +kernel) xm_Ride_fits kw_782 kw_643 kw_644 (by decide) rfl rfl rfl rfl (Nat.le_of_ble_eq_true rfl) (Nat.le_of_ble_eq_true rfl) h (fun vH43 H43 hq => ?_)
      obtain ⟨r44, rfl, h⟩ := hq
      obtain ⟨hin, h⟩ := h
      obtain ⟨h01, h⟩ := h
      refine g_zast (by decide +kernel) (by decide) rfl hin h01 ?_
      refine g_iinc (i := 4) (n := 1) (v := (z5 + 1)) (ls2 := [some (vr 21 0), some (vr 19 0), some (vi x2), none, some (vi (z5 + 1)), none, none]) (by decide +kernel) rfl rfl (by decide) rfl rfl ?_
      refine g_goto (off := (-49)) (tgt := 30) (by decide +kernel) (by decide) ?_
      refine g_heap (fun H45 eH45 => ?_)
      replace h := h H45 eH45
      obtain ⟨hI, hlt⟩ := h
      exact g_drop (ls2 := [some (vr 21 0), some (vr 19 0), some (vi x2), none, some (vi (z5 + 1)), none, none]) (And.intro rfl (And.intro rfl (And.intro rfl (And.intro rfl trivial)))) (ih4 (z5 + 1) H45 hI hlt)
def p_Search_least (E : XE) (d : Nat) (x2 : Int32) (x3 : Int32) (x4 : Int32) (H : HH) (Q : Int32 → HH → Prop) : Prop := ∀ H1 : HH, H1 = (hu H 21 0 7 (-1)) → (∃ (I2 : Int32 → Int32 → HH → Prop) (μ2 : Int32 → Int32 → HH → Nat), I2 2147483647 0 H1 ∧ ∀ (z3 : Int32) (z4 : Int32) (H5 : HH), I2 z3 z4 H5 → ((1 < z4 → (Q (if z3 = 2147483647 then (-1) else z3 : Int32) H5)) ∧ (¬ 1 < z4 → (c_Ride_shift E d x3 z4 H5 (fun r8 H7 => ((x2 + r8) < 0 → (I2 z3 (z4 + 1) H7 ∧ μ2 z3 (z4 + 1) H7 < μ2 z3 z4 H5)) ∧ (¬ (x2 + r8) < 0 → (((x2 + r8) ≤ (H7 2 2 0) → (∃ (I9 : Int32 → Int32 → HH → Prop) (μ9 : Int32 → Int32 → HH → Nat), I9 z3 (-1) H7 ∧ ∀ (z10 : Int32) (z11 : Int32) (H12 : HH), I9 z10 z11 H12 → ((1 < z11 → (I2 z10 (z4 + 1) H12 ∧ μ2 z10 (z4 + 1) H12 < μ2 z3 z4 H5)) ∧ (¬ 1 < z11 → (∀ v14 : Int32, v14 = (if (H12 21 0 0) = 0 then z4 else 0 : Int32) → (c_Ride_turnedBy E d x3 z4 z11 H12 (fun r16 H15 => c_Search_state E d (x2 + r8) r16 v14 H15 (fun r18 H17 => vp_in r18 1952 ∧ (∀ v19 : Int32, v19 = (H17 23 0 (r18.toNatClampNeg)) → ((¬ v19 = 2147483647 → (∀ v22 : Int32, v22 = (if z4 = x4 then 0 else 1 : Int32) → ((¬ (H17 21 0 0) = 1 → (((v22 + v19) < z10 → (∀ H23 : HH, H23 = (hu H17 21 0 7 (((10 * z4) + z11) + 1)) → (I9 (v22 + v19) (z11 + 1) H23 ∧ μ9 (v22 + v19) (z11 + 1) H23 < μ9 z10 z11 H12))) ∧ (¬ (v22 + v19) < z10 → (I9 z10 (z11 + 1) H17 ∧ μ9 z10 (z11 + 1) H17 < μ9 z10 z11 H12)))) ∧ ((H17 21 0 0) = 1 → (c_Ride_wears E d x2 x3 z11 H17 (fun r25 H24 => ((r25 + v19) < z10 → (∀ H26 : HH, H26 = (hu H24 21 0 7 (((10 * z4) + z11) + 1)) → (I9 (r25 + v19) (z11 + 1) H26 ∧ μ9 (r25 + v19) (z11 + 1) H26 < μ9 z10 z11 H12))) ∧ (¬ (r25 + v19) < z10 → (I9 z10 (z11 + 1) H24 ∧ μ9 z10 (z11 + 1) H24 < μ9 z10 z11 H12)))))))) ∧ (v19 = 2147483647 → (I9 z10 (z11 + 1) H17 ∧ μ9 z10 (z11 + 1) H17 < μ9 z10 z11 H12)))))))))))) ∧ (¬ (x2 + r8) ≤ (H7 2 2 0) → (I2 z3 (z4 + 1) H7 ∧ μ2 z3 (z4 + 1) H7 < μ2 z3 z4 H5)))))))))
set_option maxHeartbeats 4000000 in
theorem l_Search_least {E : XE} {d : Nat} {x2 : Int32} {x3 : Int32} {x4 : Int32} {H : HH} {Q : Int32 → HH → Prop} (h : p_Search_least E d x2 x3 x4 H Q) : c_Search_least E (d + 1) x2 x3 x4 H Q := by
  show g_Search_least E (d + 1) 0 (xent [vr 21 0, vr 19 0, vi x2, vi x3, vi x4]) [] H (qi Q)
  refine g_drop (ls2 := [some (vr 21 0), some (vr 19 0), some (vi x2), some (vi x3), some (vi x4), none, none, none, none, none, none, none]) (And.intro rfl (And.intro rfl (And.intro rfl (And.intro rfl (And.intro rfl trivial))))) ?_
  refine g_ldc (v := 2147483647) (by decide +kernel) kw_780 ?_
  refine g_istore (i := 5) (ls2 := [some (vr 21 0), some (vr 19 0), some (vi x2), some (vi x3), some (vi x4), some (vi 2147483647), none, none, none, none, none, none]) (by decide +kernel) (by decide) rfl rfl ?_
  refine g_aload_n (q := 0) (i := 0) (by decide +kernel) rfl rfl ?_
  refine g_iconst (n := (-1)) (v := (-1)) (by decide +kernel) (by decide) ?_
  refine g_put (C := "ThreePoints$Search") (T := xT_Search) (N := 8) (ci := 9) (k := 7) xy_Search (by decide +kernel) (by decide) rfl rfl xi_Search xy_Search_ok xn_Search (by decide) kw_290 rfl (by decide +kernel) (fun _ => rfl) ?_
  refine g_iconst (n := 0) (v := 0) (by decide +kernel) (by decide) ?_
  refine g_istore (i := 6) (ls2 := [some (vr 21 0), some (vr 19 0), some (vi x2), some (vi x3), some (vi x4), some (vi 2147483647), some (vi 0), none, none, none, none, none]) (by decide +kernel) (by decide) rfl rfl ?_
  refine g_heap (fun H1 eH1 => ?_)
  replace h := h H1 eH1
  refine g_drop (ls2 := [some (vr 21 0), some (vr 19 0), some (vi x2), some (vi x3), some (vi x4), some (vi 2147483647), some (vi 0), none, none, none, none, none]) (And.intro rfl (And.intro rfl (And.intro rfl (And.intro rfl (And.intro rfl (And.intro rfl (And.intro rfl trivial))))))) ?_
  obtain ⟨I2, μ2, h0, h⟩ := h
  refine xloop (σ := Int32 × Int32) (fun s H => I2 s.1 s.2 H) (fun s H => μ2 s.1 s.2 H) (fun s H => g_Search_least E (d + 1) 12 [some (vr 21 0), some (vr 19 0), some (vi x2), some (vi x3), some (vi x4), some (vi s.1), some (vi s.2), none, none, none, none, none] [] H (qi Q)) (fun s H5 hI ih2 => ?_) (2147483647, 0) H1 h0
  obtain ⟨z3, z4⟩ := s
  replace h := h z3 z4 H5 hI
  refine g_iload (i := 6) (by decide +kernel) rfl ?_
  refine g_iconst (n := 1) (v := 1) (by decide +kernel) (by decide) ?_
  refine g_icmp_gt (off := 168) (tgt := 183) (by decide +kernel) (by decide) (fun c => ?_) (fun c => ?_)
  · replace h := h.1 c
    refine g_iload (i := 5) (by decide +kernel) rfl ?_
    refine g_ldc (v := 2147483647) (by decide +kernel) kw_780 ?_
    suffices hj6 : g_Search_least E (d + 1) 196 [some (vr 21 0), some (vr 19 0), some (vi x2), some (vi x3), some (vi x4), some (vi z3), some (vi z4), none, none, none, none, none] [vi (if z3 = 2147483647 then (-1) else z3 : Int32)] H5 (qi Q) by
      refine g_icmp_ne (off := 7) (tgt := 194) (by decide +kernel) (by decide) (fun c => ?_) (fun c => ?_)
      · rw [if_neg c] at hj6
        refine g_iload (i := 5) (by decide +kernel) rfl ?_
        exact hj6
      · rw [if_pos c] at hj6
        refine g_iconst (n := (-1)) (v := (-1)) (by decide +kernel) (by decide) ?_
        refine g_goto (off := 5) (tgt := 196) (by decide +kernel) (by decide) ?_
        exact hj6
    exact g_iret (by decide +kernel) rfl ⟨_, rfl, h⟩
  · replace h := h.2 c
    refine g_iload_n (q := 2) (i := 2) (by decide +kernel) rfl rfl ?_
    refine g_iload_n (q := 3) (i := 3) (by decide +kernel) rfl rfl ?_
    refine g_iload (i := 6) (by decide +kernel) rfl ?_
    refine g_callS (vs := [vi x3, vi z4]) (st := [vi x2]) (by decide +kernel) xm_Ride_shift kw_802 kw_746 rfl rfl (Nat.le_of_ble_eq_true rfl) (Nat.le_of_ble_eq_true rfl) h (fun vH7 H7 hq => ?_)
    obtain ⟨r8, rfl, h⟩ := hq
    refine g_iadd (by decide +kernel) ?_
    refine g_istore (i := 7) (ls2 := [some (vr 21 0), some (vr 19 0), some (vi x2), some (vi x3), some (vi x4), some (vi z3), some (vi z4), some (vi (x2 + r8)), none, none, none, none]) (by decide +kernel) (by decide) rfl rfl ?_
    refine g_iload (i := 7) (by decide +kernel) rfl ?_
    refine g_if_lt (off := 147) (tgt := 177) (by decide +kernel) (by decide) (fun c => ?_) (fun c => ?_)
    · replace h := h.1 c
      refine g_iinc (i := 6) (n := 1) (v := (z4 + 1)) (ls2 := [some (vr 21 0), some (vr 19 0), some (vi x2), some (vi x3), some (vi x4), some (vi z3), some (vi (z4 + 1)), some (vi (x2 + r8)), none, none, none, none]) (by decide +kernel) rfl rfl (by decide) rfl rfl ?_
      refine g_goto (off := (-168)) (tgt := 12) (by decide +kernel) (by decide) ?_
      obtain ⟨hI, hlt⟩ := h
      exact g_drop (ls2 := [some (vr 21 0), some (vr 19 0), some (vi x2), some (vi x3), some (vi x4), some (vi z3), some (vi (z4 + 1)), none, none, none, none, none]) (And.intro rfl (And.intro rfl (And.intro rfl (And.intro rfl (And.intro rfl (And.intro rfl (And.intro rfl trivial))))))) (ih2 (z3, (z4 + 1)) H7 hI hlt)
    · replace h := h.2 c
      refine g_iload (i := 7) (by decide +kernel) rfl ?_
      refine g_aload_n (q := 1) (i := 1) (by decide +kernel) rfl rfl ?_
      refine g_get (C := "ThreePoints$Ride") (T := xT_Ride) (N := 4) (ci := 8) (k := 0) (v := vr 2 2) (by decide +kernel) (by decide) rfl rfl xi_Ride (by decide) kw_260 rfl ?_
      refine g_get (C := "ThreePoints$Lane") (T := xT_Lane) (N := 3) (ci := 2) (k := 0) (v := vi (H7 2 2 0)) (by decide +kernel) (by decide) rfl rfl xi_Lane (by decide) kw_107 rfl ?_
      refine g_icmp_le (off := 6) (tgt := 48) (by decide +kernel) (by decide) (fun c => ?_) (fun c => ?_)
      · replace h := h.1 c
        refine g_iconst (n := (-1)) (v := (-1)) (by decide +kernel) (by decide) ?_
        refine g_istore (i := 8) (ls2 := [some (vr 21 0), some (vr 19 0), some (vi x2), some (vi x3), some (vi x4), some (vi z3), some (vi z4), some (vi (x2 + r8)), some (vi (-1)), none, none, none]) (by decide +kernel) (by decide) rfl rfl ?_
        refine g_drop (ls2 := [some (vr 21 0), some (vr 19 0), some (vi x2), some (vi x3), some (vi x4), some (vi z3), some (vi z4), some (vi (x2 + r8)), some (vi (-1)), none, none, none]) (And.intro rfl (And.intro rfl (And.intro rfl (And.intro rfl (And.intro rfl (And.intro rfl (And.intro rfl (And.intro rfl (And.intro rfl trivial))))))))) ?_
        obtain ⟨I9, μ9, h0, h⟩ := h
        refine xloop (σ := Int32 × Int32) (fun s H => I9 s.1 s.2 H) (fun s H => μ9 s.1 s.2 H) (fun s H => g_Search_least E (d + 1) 51 [some (vr 21 0), some (vr 19 0), some (vi x2), some (vi x3), some (vi x4), some (vi s.1), some (vi z4), some (vi (x2 + r8)), some (vi s.2), none, none, none] [] H (qi Q)) (fun s H12 hI ih9 => ?_) (z3, (-1)) H7 h0
        obtain ⟨z10, z11⟩ := s
        replace h := h z10 z11 H12 hI
        refine g_iload (i := 8) (by decide +kernel) rfl ?_
        refine g_iconst (n := 1) (v := 1) (by decide +kernel) (by decide) ?_
        refine g_icmp_gt (off := 123) (tgt := 177) (by decide +kernel) (by decide) (fun c => ?_) (fun c => ?_)
        · replace h := h.1 c
          refine g_iinc (i := 6) (n := 1) (v := (z4 + 1)) (ls2 := [some (vr 21 0), some (vr 19 0), some (vi x2), some (vi x3), some (vi x4), some (vi z10), some (vi (z4 + 1)), some (vi (x2 + r8)), some (vi z11), none, none, none]) (by decide +kernel) rfl rfl (by decide) rfl rfl ?_
          refine g_goto (off := (-168)) (tgt := 12) (by decide +kernel) (by decide) ?_
          obtain ⟨hI, hlt⟩ := h
          exact g_drop (ls2 := [some (vr 21 0), some (vr 19 0), some (vi x2), some (vi x3), some (vi x4), some (vi z10), some (vi (z4 + 1)), none, none, none, none, none]) (And.intro rfl (And.intro rfl (And.intro rfl (And.intro rfl (And.intro rfl (And.intro rfl (And.intro rfl trivial))))))) (ih2 (z10, (z4 + 1)) H12 hI hlt)
        · replace h := h.2 c
          refine g_aload_n (q := 0) (i := 0) (by decide +kernel) rfl rfl ?_
          refine g_get (C := "ThreePoints$Search") (T := xT_Search) (N := 8) (ci := 9) (k := 0) (v := vi (H12 21 0 0)) (by decide +kernel) (by decide) rfl rfl xi_Search (by decide) kw_283 rfl ?_
          suffices hj13 : g_Search_least E (d + 1) 70 [some (vr 21 0), some (vr 19 0), some (vi x2), some (vi x3), some (vi x4), some (vi z10), some (vi z4), some (vi (x2 + r8)), some (vi z11), none, none, none] [vi (if (H12 21 0 0) = 0 then z4 else 0 : Int32)] H12 (qi Q) by
            refine g_if_ne (off := 8) (tgt := 69) (by decide +kernel) (by decide) (fun c => ?_) (fun c => ?_)
            · rw [if_neg c] at hj13
              refine g_iconst (n := 0) (v := 0) (by decide +kernel) (by decide) ?_
              exact hj13
            · rw [if_pos c] at hj13
              refine g_iload (i := 6) (by decide +kernel) rfl ?_
              refine g_goto (off := 4) (tgt := 70) (by decide +kernel) (by decide) ?_
              exact hj13
          refine g_topi (fun v14 ev14 => ?_)
          replace h := h v14 ev14
          refine g_istore (i := 9) (ls2 := [some (vr 21 0), some (vr 19 0), some (vi x2), some (vi x3), some (vi x4), some (vi z10), some (vi z4), some (vi (x2 + r8)), some (vi z11), some (vi v14), none, none]) (by decide +kernel) (by decide) rfl rfl ?_
          refine g_aload_n (q := 0) (i := 0) (by decide +kernel) rfl rfl ?_
          refine g_get (C := "ThreePoints$Search") (T := xT_Search) (N := 8) (ci := 9) (k := 2) (v := vr 23 0) (by decide +kernel) (by decide) rfl rfl xi_Search (by decide) kw_285 rfl ?_
          refine g_iload (i := 7) (by decide +kernel) rfl ?_
          refine g_aload_n (q := 1) (i := 1) (by decide +kernel) rfl rfl ?_
          refine g_iload_n (q := 3) (i := 3) (by decide +kernel) rfl rfl ?_
          refine g_iload (i := 6) (by decide +kernel) rfl ?_
          refine g_iload (i := 8) (by decide +kernel) rfl ?_
          refine g_callV (kd := 19) (ix := 0) (ci := 8) (N := 4) (T := xT_Ride) (vs := [vi x3, vi z4, vi z11]) (st := [vi (x2 + r8), vr 23 0]) (by decide +kernel) xm_Ride_turnedBy kw_812 kw_749 kw_750 (by decide) rfl rfl rfl rfl (Nat.le_of_ble_eq_true rfl) (Nat.le_of_ble_eq_true rfl) h (fun vH15 H15 hq => ?_)
          obtain ⟨r16, rfl, h⟩ := hq
          refine g_iload (i := 9) (by decide +kernel) rfl ?_
          refine g_callS (vs := [vi (x2 + r8), vi r16, vi v14]) (st := [vr 23 0]) (by decide +kernel) xm_Search_state kw_783 kw_784 rfl rfl (Nat.le_of_ble_eq_true rfl) (Nat.le_of_ble_eq_true rfl) h (fun vH17 H17 hq => ?_)
          obtain ⟨r18, rfl, h⟩ := hq
          obtain ⟨hin, h⟩ := h
          refine g_iald (by decide +kernel) (by decide) rfl hin ?_
          refine g_topi (fun v19 ev19 => ?_)
          replace h := h v19 ev19
          refine g_istore (i := 10) (ls2 := [some (vr 21 0), some (vr 19 0), some (vi x2), some (vi x3), some (vi x4), some (vi z10), some (vi z4), some (vi (x2 + r8)), some (vi z11), some (vi v14), some (vi v19), none]) (by decide +kernel) (by decide) rfl rfl ?_
          refine g_iload (i := 10) (by decide +kernel) rfl ?_
          refine g_ldc (v := 2147483647) (by decide +kernel) kw_780 ?_
          refine g_icmp_ne (off := 6) (tgt := 105) (by decide +kernel) (by decide) (fun c => ?_) (fun c => ?_)
          · replace h := h.1 c
            refine g_iload (i := 6) (by decide +kernel) rfl ?_
            refine g_iload (i := 4) (by decide +kernel) rfl ?_
            suffices hj21 : g_Search_least E (d + 1) 117 [some (vr 21 0), some (vr 19 0), some (vi x2), some (vi x3), some (vi x4), some (vi z10), some (vi z4), some (vi (x2 + r8)), some (vi z11), some (vi v14), some (vi v19), none] [vi (if z4 = x4 then 0 else 1 : Int32)] H17 (qi Q) by
              refine g_icmp_ne (off := 7) (tgt := 116) (by decide +kernel) (by decide) (fun c => ?_) (fun c => ?_)
              · rw [if_neg c] at hj21
                refine g_iconst (n := 1) (v := 1) (by decide +kernel) (by decide) ?_
                exact hj21
              · rw [if_pos c] at hj21
                refine g_iconst (n := 0) (v := 0) (by decide +kernel) (by decide) ?_
                refine g_goto (off := 4) (tgt := 117) (by decide +kernel) (by decide) ?_
                exact hj21
            refine g_topi (fun v22 ev22 => ?_)
            replace h := h v22 ev22
            refine g_istore (i := 11) (ls2 := [some (vr 21 0), some (vr 19 0), some (vi x2), some (vi x3), some (vi x4), some (vi z10), some (vi z4), some (vi (x2 + r8)), some (vi z11), some (vi v14), some (vi v19), some (vi v22)]) (by decide +kernel) (by decide) rfl rfl ?_
            refine g_aload_n (q := 0) (i := 0) (by decide +kernel) rfl rfl ?_
            refine g_get (C := "ThreePoints$Search") (T := xT_Search) (N := 8) (ci := 9) (k := 0) (v := vi (H17 21 0 0)) (by decide +kernel) (by decide) rfl rfl xi_Search (by decide) kw_283 rfl ?_
            refine g_iconst (n := 1) (v := 1) (by decide +kernel) (by decide) ?_
            refine g_icmp_ne (off := 13) (tgt := 137) (by decide +kernel) (by decide) (fun c => ?_) (fun c => ?_)
            · replace h := h.1 c
              refine g_iload (i := 11) (by decide +kernel) rfl ?_
              refine g_iload (i := 10) (by decide +kernel) rfl ?_
              refine g_iadd (by decide +kernel) ?_
              refine g_iload (i := 5) (by decide +kernel) rfl ?_
              refine g_icmp_lt (off := 6) (tgt := 150) (by decide +kernel) (by decide) (fun c => ?_) (fun c => ?_)
              · replace h := h.1 c
                refine g_iload (i := 11) (by decide +kernel) rfl ?_
                refine g_iload (i := 10) (by decide +kernel) rfl ?_
                refine g_iadd (by decide +kernel) ?_
                refine g_istore (i := 5) (ls2 := [some (vr 21 0), some (vr 19 0), some (vi x2), some (vi x3), some (vi x4), some (vi (v22 + v19)), some (vi z4), some (vi (x2 + r8)), some (vi z11), some (vi v14), some (vi v19), some (vi v22)]) (by decide +kernel) (by decide) rfl rfl ?_
                refine g_aload_n (q := 0) (i := 0) (by decide +kernel) rfl rfl ?_
                refine g_bipush (n := 10) (v := 10) (by decide +kernel) (by decide) ?_
                refine g_iload (i := 6) (by decide +kernel) rfl ?_
                refine g_imul (by decide +kernel) ?_
                refine g_iload (i := 8) (by decide +kernel) rfl ?_
                refine g_iadd (by decide +kernel) ?_
                refine g_iconst (n := 1) (v := 1) (by decide +kernel) (by decide) ?_
                refine g_iadd (by decide +kernel) ?_
                refine g_put (C := "ThreePoints$Search") (T := xT_Search) (N := 8) (ci := 9) (k := 7) xy_Search (by decide +kernel) (by decide) rfl rfl xi_Search xy_Search_ok xn_Search (by decide) kw_290 rfl (by decide +kernel) (fun _ => rfl) ?_
                refine g_iinc (i := 8) (n := 1) (v := (z11 + 1)) (ls2 := [some (vr 21 0), some (vr 19 0), some (vi x2), some (vi x3), some (vi x4), some (vi (v22 + v19)), some (vi z4), some (vi (x2 + r8)), some (vi (z11 + 1)), some (vi v14), some (vi v19), some (vi v22)]) (by decide +kernel) rfl rfl (by decide) rfl rfl ?_
                refine g_goto (off := (-123)) (tgt := 51) (by decide +kernel) (by decide) ?_
                refine g_heap (fun H23 eH23 => ?_)
                replace h := h H23 eH23
                obtain ⟨hI, hlt⟩ := h
                exact g_drop (ls2 := [some (vr 21 0), some (vr 19 0), some (vi x2), some (vi x3), some (vi x4), some (vi (v22 + v19)), some (vi z4), some (vi (x2 + r8)), some (vi (z11 + 1)), none, none, none]) (And.intro rfl (And.intro rfl (And.intro rfl (And.intro rfl (And.intro rfl (And.intro rfl (And.intro rfl (And.intro rfl (And.intro rfl trivial))))))))) (ih9 ((v22 + v19), (z11 + 1)) H23 hI hlt)
              · replace h := h.2 c
                refine g_goto (off := 24) (tgt := 171) (by decide +kernel) (by decide) ?_
                refine g_iinc (i := 8) (n := 1) (v := (z11 + 1)) (ls2 := [some (vr 21 0), some (vr 19 0), some (vi x2), some (vi x3), some (vi x4), some (vi z10), some (vi z4), some (vi (x2 + r8)), some (vi (z11 + 1)), some (vi v14), some (vi v19), some (vi v22)]) (by decide +kernel) rfl rfl (by decide) rfl rfl ?_
                refine g_goto (off := (-123)) (tgt := 51) (by decide +kernel) (by decide) ?_
                obtain ⟨hI, hlt⟩ := h
                exact g_drop (ls2 := [some (vr 21 0), some (vr 19 0), some (vi x2), some (vi x3), some (vi x4), some (vi z10), some (vi z4), some (vi (x2 + r8)), some (vi (z11 + 1)), none, none, none]) (And.intro rfl (And.intro rfl (And.intro rfl (And.intro rfl (And.intro rfl (And.intro rfl (And.intro rfl (And.intro rfl (And.intro rfl trivial))))))))) (ih9 (z10, (z11 + 1)) H17 hI hlt)
            · replace h := h.2 c
              refine g_aload_n (q := 1) (i := 1) (by decide +kernel) rfl rfl ?_
              refine g_iload_n (q := 2) (i := 2) (by decide +kernel) rfl rfl ?_
              refine g_iload_n (q := 3) (i := 3) (by decide +kernel) rfl rfl ?_
              refine g_iload (i := 8) (by decide +kernel) rfl ?_
              refine g_callV (kd := 19) (ix := 0) (ci := 8) (N := 4) (T := xT_Ride) (vs := [vi x2, vi x3, vi z11]) (st := []) (by decide +kernel) xm_Ride_wears kw_803 kw_757 kw_758 (by decide) rfl rfl rfl rfl (Nat.le_of_ble_eq_true rfl) (Nat.le_of_ble_eq_true rfl) h (fun vH24 H24 hq => ?_)
              obtain ⟨r25, rfl, h⟩ := hq
              refine g_istore (i := 11) (ls2 := [some (vr 21 0), some (vr 19 0), some (vi x2), some (vi x3), some (vi x4), some (vi z10), some (vi z4), some (vi (x2 + r8)), some (vi z11), some (vi v14), some (vi v19), some (vi r25)]) (by decide +kernel) (by decide) rfl rfl ?_
              refine g_iload (i := 11) (by decide +kernel) rfl ?_
              refine g_iload (i := 10) (by decide +kernel) rfl ?_
              refine g_iadd (by decide +kernel) ?_
              refine g_iload (i := 5) (by decide +kernel) rfl ?_
              refine g_icmp_lt (off := 6) (tgt := 150) (by decide +kernel) (by decide) (fun c => ?_) (fun c => ?_)
              · replace h := h.1 c
                refine g_iload (i := 11) (by decide +kernel) rfl ?_
                refine g_iload (i := 10) (by decide +kernel) rfl ?_
                refine g_iadd (by decide +kernel) ?_
                refine g_istore (i := 5) (ls2 := [some (vr 21 0), some (vr 19 0), some (vi x2), some (vi x3), some (vi x4), some (vi (r25 + v19)), some (vi z4), some (vi (x2 + r8)), some (vi z11), some (vi v14), some (vi v19), some (vi r25)]) (by decide +kernel) (by decide) rfl rfl ?_
                refine g_aload_n (q := 0) (i := 0) (by decide +kernel) rfl rfl ?_
                refine g_bipush (n := 10) (v := 10) (by decide +kernel) (by decide) ?_
                refine g_iload (i := 6) (by decide +kernel) rfl ?_
                refine g_imul (by decide +kernel) ?_
                refine g_iload (i := 8) (by decide +kernel) rfl ?_
                refine g_iadd (by decide +kernel) ?_
                refine g_iconst (n := 1) (v := 1) (by decide +kernel) (by decide) ?_
                refine g_iadd (by decide +kernel) ?_
                refine g_put (C := "ThreePoints$Search") (T := xT_Search) (N := 8) (ci := 9) (k := 7) xy_Search (by decide +kernel) (by decide) rfl rfl xi_Search xy_Search_ok xn_Search (by decide) kw_290 rfl (by decide +kernel) (fun _ => rfl) ?_
                refine g_iinc (i := 8) (n := 1) (v := (z11 + 1)) (ls2 := [some (vr 21 0), some (vr 19 0), some (vi x2), some (vi x3), some (vi x4), some (vi (r25 + v19)), some (vi z4), some (vi (x2 + r8)), some (vi (z11 + 1)), some (vi v14), some (vi v19), some (vi r25)]) (by decide +kernel) rfl rfl (by decide) rfl rfl ?_
                refine g_goto (off := (-123)) (tgt := 51) (by decide +kernel) (by decide) ?_
                refine g_heap (fun H26 eH26 => ?_)
                replace h := h H26 eH26
                obtain ⟨hI, hlt⟩ := h
                exact g_drop (ls2 := [some (vr 21 0), some (vr 19 0), some (vi x2), some (vi x3), some (vi x4), some (vi (r25 + v19)), some (vi z4), some (vi (x2 + r8)), some (vi (z11 + 1)), none, none, none]) (And.intro rfl (And.intro rfl (And.intro rfl (And.intro rfl (And.intro rfl (And.intro rfl (And.intro rfl (And.intro rfl (And.intro rfl trivial))))))))) (ih9 ((r25 + v19), (z11 + 1)) H26 hI hlt)
              · replace h := h.2 c
                refine g_goto (off := 24) (tgt := 171) (by decide +kernel) (by decide) ?_
                refine g_iinc (i := 8) (n := 1) (v := (z11 + 1)) (ls2 := [some (vr 21 0), some (vr 19 0), some (vi x2), some (vi x3), some (vi x4), some (vi z10), some (vi z4), some (vi (x2 + r8)), some (vi (z11 + 1)), some (vi v14), some (vi v19), some (vi r25)]) (by decide +kernel) rfl rfl (by decide) rfl rfl ?_
                refine g_goto (off := (-123)) (tgt := 51) (by decide +kernel) (by decide) ?_
                obtain ⟨hI, hlt⟩ := h
                exact g_drop (ls2 := [some (vr 21 0), some (vr 19 0), some (vi x2), some (vi x3), some (vi x4), some (vi z10), some (vi z4), some (vi (x2 + r8)), some (vi (z11 + 1)), none, none, none]) (And.intro rfl (And.intro rfl (And.intro rfl (And.intro rfl (And.intro rfl (And.intro rfl (And.intro rfl (And.intro rfl (And.intro rfl trivial))))))))) (ih9 (z10, (z11 + 1)) H24 hI hlt)
          · replace h := h.2 c
            refine g_goto (off := 69) (tgt := 171) (by decide +kernel) (by decide) ?_
            refine g_iinc (i := 8) (n := 1) (v := (z11 + 1)) (ls2 := [some (vr 21 0), some (vr 19 0), some (vi x2), some (vi x3), some (vi x4), some (vi z10), some (vi z4), some (vi (x2 + r8)), some (vi (z11 + 1)), some (vi v14), some (vi v19), none]) (by decide +kernel) rfl rfl (by decide) rfl rfl ?_
            refine g_goto (off := (-123)) (tgt := 51) (by decide +kernel) (by decide) ?_
            obtain ⟨hI, hlt⟩ := h
            exact g_drop (ls2 := [some (vr 21 0), some (vr 19 0), some (vi x2), some (vi x3), some (vi x4), some (vi z10), some (vi z4), some (vi (x2 + r8)), some (vi (z11 + 1)), none, none, none]) (And.intro rfl (And.intro rfl (And.intro rfl (And.intro rfl (And.intro rfl (And.intro rfl (And.intro rfl (And.intro rfl (And.intro rfl trivial))))))))) (ih9 (z10, (z11 + 1)) H17 hI hlt)
      · replace h := h.2 c
        refine g_goto (off := 132) (tgt := 177) (by decide +kernel) (by decide) ?_
        refine g_iinc (i := 6) (n := 1) (v := (z4 + 1)) (ls2 := [some (vr 21 0), some (vr 19 0), some (vi x2), some (vi x3), some (vi x4), some (vi z3), some (vi (z4 + 1)), some (vi (x2 + r8)), none, none, none, none]) (by decide +kernel) rfl rfl (by decide) rfl rfl ?_
        refine g_goto (off := (-168)) (tgt := 12) (by decide +kernel) (by decide) ?_
        obtain ⟨hI, hlt⟩ := h
        exact g_drop (ls2 := [some (vr 21 0), some (vr 19 0), some (vi x2), some (vi x3), some (vi x4), some (vi z3), some (vi (z4 + 1)), none, none, none, none, none]) (And.intro rfl (And.intro rfl (And.intro rfl (And.intro rfl (And.intro rfl (And.intro rfl (And.intro rfl trivial))))))) (ih2 (z3, (z4 + 1)) H7 hI hlt)
def p_Search_leastFromNow (E : XE) (d : Nat)  (H : HH) (Q : Int32 → HH → Prop) : Prop := c_Search_least E d (H 3 8 2) (H 3 8 3) (H 3 8 6) H (fun r2 H1 => Q r2 H1)
set_option maxHeartbeats 4000000 in
theorem l_Search_leastFromNow {E : XE} {d : Nat}  {H : HH} {Q : Int32 → HH → Prop} (h : p_Search_leastFromNow E d  H Q) : c_Search_leastFromNow E (d + 1)  H Q := by
  show g_Search_leastFromNow E (d + 1) 0 (xent [vr 21 0, vr 19 0]) [] H (qi Q)
  refine g_drop (ls2 := [some (vr 21 0), some (vr 19 0)]) (And.intro rfl (And.intro rfl trivial)) ?_
  refine g_aload_n (q := 0) (i := 0) (by decide +kernel) rfl rfl ?_
  refine g_aload_n (q := 1) (i := 1) (by decide +kernel) rfl rfl ?_
  refine g_aload_n (q := 1) (i := 1) (by decide +kernel) rfl rfl ?_
  refine g_get (C := "ThreePoints$Ride") (T := xT_Ride) (N := 4) (ci := 8) (k := 1) (v := vr 3 8) (by decide +kernel) (by decide) rfl rfl xi_Ride (by decide) kw_263 rfl ?_
  refine g_get (C := "ThreePoints$Vehicle") (T := xT_Vehicle) (N := 7) (ci := 3) (k := 2) (v := vi (H 3 8 2)) (by decide +kernel) (by decide) rfl rfl xi_Vehicle (by decide) kw_134 rfl ?_
  refine g_aload_n (q := 1) (i := 1) (by decide +kernel) rfl rfl ?_
  refine g_get (C := "ThreePoints$Ride") (T := xT_Ride) (N := 4) (ci := 8) (k := 1) (v := vr 3 8) (by decide +kernel) (by decide) rfl rfl xi_Ride (by decide) kw_263 rfl ?_
  refine g_get (C := "ThreePoints$Vehicle") (T := xT_Vehicle) (N := 7) (ci := 3) (k := 3) (v := vi (H 3 8 3)) (by decide +kernel) (by decide) rfl rfl xi_Vehicle (by decide) kw_138 rfl ?_
  refine g_aload_n (q := 1) (i := 1) (by decide +kernel) rfl rfl ?_
  refine g_get (C := "ThreePoints$Ride") (T := xT_Ride) (N := 4) (ci := 8) (k := 1) (v := vr 3 8) (by decide +kernel) (by decide) rfl rfl xi_Ride (by decide) kw_263 rfl ?_
  refine g_get (C := "ThreePoints$Vehicle") (T := xT_Vehicle) (N := 7) (ci := 3) (k := 6) (v := vi (H 3 8 6)) (by decide +kernel) (by decide) rfl rfl xi_Vehicle (by decide) kw_145 rfl ?_
  refine g_callV (kd := 21) (ix := 0) (ci := 9) (N := 8) (T := xT_Search) (vs := [vr 19 0, vi (H 3 8 2), vi (H 3 8 3), vi (H 3 8 6)]) (st := []) (by decide +kernel) xm_Search_least kw_808 kw_809 kw_810 (by decide) rfl rfl rfl rfl (Nat.le_of_ble_eq_true rfl) (Nat.le_of_ble_eq_true rfl) h (fun vH1 H1 hq => ?_)
  obtain ⟨r2, rfl, h⟩ := hq
  exact g_iret (by decide +kernel) rfl ⟨_, rfl, h⟩
def p_Search_addBehind (E : XE) (d : Nat) (x2 : Int32) (x3 : Int32) (x4 : Int32) (H : HH) (Q : Int32 → HH → Prop) : Prop := ∃ (I1 : Int32 → Int32 → HH → Prop) (μ1 : Int32 → Int32 → HH → Nat), I1 x4 0 H ∧ ∀ (z2 : Int32) (z3 : Int32) (H4 : HH), I1 z2 z3 H4 → ((1 < z3 → (Q z2 H4)) ∧ (¬ 1 < z3 → (c_Ride_shift E d x3 z3 H4 (fun r6 H5 => ((x2 + r6) < 0 → (I1 z2 (z3 + 1) H5 ∧ μ1 z2 (z3 + 1) H5 < μ1 z2 z3 H4)) ∧ (¬ (x2 + r6) < 0 → (((x2 + r6) ≤ (H5 2 2 0) → (∃ (I7 : Int32 → Int32 → HH → Prop) (μ7 : Int32 → Int32 → HH → Nat), I7 z2 (-1) H5 ∧ ∀ (z8 : Int32) (z9 : Int32) (H10 : HH), I7 z8 z9 H10 → ((1 < z9 → (I1 z8 (z3 + 1) H10 ∧ μ1 z8 (z3 + 1) H10 < μ1 z2 z3 H4)) ∧ (¬ 1 < z9 → (c_Ride_turnedBy E d x3 z3 z9 H10 (fun r12 H11 => c_Search_state E d (x2 + r6) r12 0 H11 (fun r14 H13 => vp_in r14 1952 ∧ ((¬ (H13 23 0 (r14.toNatClampNeg)) = 2147483647 → (I7 z8 (z9 + 1) H13 ∧ μ7 z8 (z9 + 1) H13 < μ7 z8 z9 H10)) ∧ ((H13 23 0 (r14.toNatClampNeg)) = 2147483647 → ((z8 < 1952 → (vp_in r14 1952 ∧ (∀ H15 : HH, H15 = (hu H13 23 0 (r14.toNatClampNeg) 0) → (c_Ride_fits E d (x2 + r6) r12 H15 (fun r17 H16 => (¬ r17 = 0 → (vp_in z8 1952 ∧ (∀ H18 : HH, H18 = (hu H16 25 0 (z8.toNatClampNeg) r14) → (I7 (z8 + 1) (z9 + 1) H18 ∧ μ7 (z8 + 1) (z9 + 1) H18 < μ7 z8 z9 H10)))) ∧ (r17 = 0 → (I7 z8 (z9 + 1) H16 ∧ μ7 z8 (z9 + 1) H16 < μ7 z8 z9 H10))))))) ∧ (¬ z8 < 1952 → (I7 z8 (z9 + 1) H13 ∧ μ7 z8 (z9 + 1) H13 < μ7 z8 z9 H10)))))))))))) ∧ (¬ (x2 + r6) ≤ (H5 2 2 0) → (I1 z2 (z3 + 1) H5 ∧ μ1 z2 (z3 + 1) H5 < μ1 z2 z3 H4))))))))
set_option maxHeartbeats 4000000 in
theorem l_Search_addBehind {E : XE} {d : Nat} {x2 : Int32} {x3 : Int32} {x4 : Int32} {H : HH} {Q : Int32 → HH → Prop} (h : p_Search_addBehind E d x2 x3 x4 H Q) : c_Search_addBehind E (d + 1) x2 x3 x4 H Q := by
  show g_Search_addBehind E (d + 1) 0 (xent [vr 21 0, vr 19 0, vi x2, vi x3, vi x4]) [] H (qi Q)
  refine g_drop (ls2 := [some (vr 21 0), some (vr 19 0), some (vi x2), some (vi x3), some (vi x4), none, none, none, none, none, none]) (And.intro rfl (And.intro rfl (And.intro rfl (And.intro rfl (And.intro rfl trivial))))) ?_
  refine g_iload (i := 4) (by decide +kernel) rfl ?_
  refine g_istore (i := 5) (ls2 := [some (vr 21 0), some (vr 19 0), some (vi x2), some (vi x3), some (vi x4), some (vi x4), none, none, none, none, none]) (by decide +kernel) (by decide) rfl rfl ?_
  refine g_iconst (n := 0) (v := 0) (by decide +kernel) (by decide) ?_
  refine g_istore (i := 6) (ls2 := [some (vr 21 0), some (vr 19 0), some (vi x2), some (vi x3), some (vi x4), some (vi x4), some (vi 0), none, none, none, none]) (by decide +kernel) (by decide) rfl rfl ?_
  refine g_drop (ls2 := [some (vr 21 0), some (vr 19 0), some (vi x2), some (vi x3), none, some (vi x4), some (vi 0), none, none, none, none]) (And.intro rfl (And.intro rfl (And.intro rfl (And.intro rfl (And.intro rfl (And.intro rfl trivial)))))) ?_
  obtain ⟨I1, μ1, h0, h⟩ := h
  refine xloop (σ := Int32 × Int32) (fun s H => I1 s.1 s.2 H) (fun s H => μ1 s.1 s.2 H) (fun s H => g_Search_addBehind E (d + 1) 7 [some (vr 21 0), some (vr 19 0), some (vi x2), some (vi x3), none, some (vi s.1), some (vi s.2), none, none, none, none] [] H (qi Q)) (fun s H4 hI ih1 => ?_) (x4, 0) H h0
  obtain ⟨z2, z3⟩ := s
  replace h := h z2 z3 H4 hI
  refine g_iload (i := 6) (by decide +kernel) rfl ?_
  refine g_iconst (n := 1) (v := 1) (by decide +kernel) (by decide) ?_
  refine g_icmp_gt (off := 132) (tgt := 142) (by decide +kernel) (by decide) (fun c => ?_) (fun c => ?_)
  · replace h := h.1 c
    refine g_iload (i := 5) (by decide +kernel) rfl ?_
    exact g_iret (by decide +kernel) rfl ⟨_, rfl, h⟩
  · replace h := h.2 c
    refine g_iload_n (q := 2) (i := 2) (by decide +kernel) rfl rfl ?_
    refine g_iload_n (q := 3) (i := 3) (by decide +kernel) rfl rfl ?_
    refine g_iload (i := 6) (by decide +kernel) rfl ?_
    refine g_callS (vs := [vi x3, vi z3]) (st := [vi x2]) (by decide +kernel) xm_Ride_shift kw_802 kw_746 rfl rfl (Nat.le_of_ble_eq_true rfl) (Nat.le_of_ble_eq_true rfl) h (fun vH5 H5 hq => ?_)
    obtain ⟨r6, rfl, h⟩ := hq
    refine g_iadd (by decide +kernel) ?_
    refine g_istore (i := 7) (ls2 := [some (vr 21 0), some (vr 19 0), some (vi x2), some (vi x3), none, some (vi z2), some (vi z3), some (vi (x2 + r6)), none, none, none]) (by decide +kernel) (by decide) rfl rfl ?_
    refine g_iload (i := 7) (by decide +kernel) rfl ?_
    refine g_if_lt (off := 111) (tgt := 136) (by decide +kernel) (by decide) (fun c => ?_) (fun c => ?_)
    · replace h := h.1 c
      refine g_iinc (i := 6) (n := 1) (v := (z3 + 1)) (ls2 := [some (vr 21 0), some (vr 19 0), some (vi x2), some (vi x3), none, some (vi z2), some (vi (z3 + 1)), some (vi (x2 + r6)), none, none, none]) (by decide +kernel) rfl rfl (by decide) rfl rfl ?_
      refine g_goto (off := (-132)) (tgt := 7) (by decide +kernel) (by decide) ?_
      obtain ⟨hI, hlt⟩ := h
      exact g_drop (ls2 := [some (vr 21 0), some (vr 19 0), some (vi x2), some (vi x3), none, some (vi z2), some (vi (z3 + 1)), none, none, none, none]) (And.intro rfl (And.intro rfl (And.intro rfl (And.intro rfl (And.intro rfl (And.intro rfl trivial)))))) (ih1 (z2, (z3 + 1)) H5 hI hlt)
    · replace h := h.2 c
      refine g_iload (i := 7) (by decide +kernel) rfl ?_
      refine g_aload_n (q := 1) (i := 1) (by decide +kernel) rfl rfl ?_
      refine g_get (C := "ThreePoints$Ride") (T := xT_Ride) (N := 4) (ci := 8) (k := 0) (v := vr 2 2) (by decide +kernel) (by decide) rfl rfl xi_Ride (by decide) kw_260 rfl ?_
      refine g_get (C := "ThreePoints$Lane") (T := xT_Lane) (N := 3) (ci := 2) (k := 0) (v := vi (H5 2 2 0)) (by decide +kernel) (by decide) rfl rfl xi_Lane (by decide) kw_107 rfl ?_
      refine g_icmp_le (off := 6) (tgt := 43) (by decide +kernel) (by decide) (fun c => ?_) (fun c => ?_)
      · replace h := h.1 c
        refine g_iconst (n := (-1)) (v := (-1)) (by decide +kernel) (by decide) ?_
        refine g_istore (i := 8) (ls2 := [some (vr 21 0), some (vr 19 0), some (vi x2), some (vi x3), none, some (vi z2), some (vi z3), some (vi (x2 + r6)), some (vi (-1)), none, none]) (by decide +kernel) (by decide) rfl rfl ?_
        refine g_drop (ls2 := [some (vr 21 0), some (vr 19 0), some (vi x2), some (vi x3), none, some (vi z2), some (vi z3), some (vi (x2 + r6)), some (vi (-1)), none, none]) (And.intro rfl (And.intro rfl (And.intro rfl (And.intro rfl (And.intro rfl (And.intro rfl (And.intro rfl (And.intro rfl trivial)))))))) ?_
        obtain ⟨I7, μ7, h0, h⟩ := h
        refine xloop (σ := Int32 × Int32) (fun s H => I7 s.1 s.2 H) (fun s H => μ7 s.1 s.2 H) (fun s H => g_Search_addBehind E (d + 1) 46 [some (vr 21 0), some (vr 19 0), some (vi x2), some (vi x3), none, some (vi s.1), some (vi z3), some (vi (x2 + r6)), some (vi s.2), none, none] [] H (qi Q)) (fun s H10 hI ih7 => ?_) (z2, (-1)) H5 h0
        obtain ⟨z8, z9⟩ := s
        replace h := h z8 z9 H10 hI
        refine g_iload (i := 8) (by decide +kernel) rfl ?_
        refine g_iconst (n := 1) (v := 1) (by decide +kernel) (by decide) ?_
        refine g_icmp_gt (off := 87) (tgt := 136) (by decide +kernel) (by decide) (fun c => ?_) (fun c => ?_)
        · replace h := h.1 c
          refine g_iinc (i := 6) (n := 1) (v := (z3 + 1)) (ls2 := [some (vr 21 0), some (vr 19 0), some (vi x2), some (vi x3), none, some (vi z8), some (vi (z3 + 1)), some (vi (x2 + r6)), some (vi z9), none, none]) (by decide +kernel) rfl rfl (by decide) rfl rfl ?_
          refine g_goto (off := (-132)) (tgt := 7) (by decide +kernel) (by decide) ?_
          obtain ⟨hI, hlt⟩ := h
          exact g_drop (ls2 := [some (vr 21 0), some (vr 19 0), some (vi x2), some (vi x3), none, some (vi z8), some (vi (z3 + 1)), none, none, none, none]) (And.intro rfl (And.intro rfl (And.intro rfl (And.intro rfl (And.intro rfl (And.intro rfl trivial)))))) (ih1 (z8, (z3 + 1)) H10 hI hlt)
        · replace h := h.2 c
          refine g_aload_n (q := 1) (i := 1) (by decide +kernel) rfl rfl ?_
          refine g_iload_n (q := 3) (i := 3) (by decide +kernel) rfl rfl ?_
          refine g_iload (i := 6) (by decide +kernel) rfl ?_
          refine g_iload (i := 8) (by decide +kernel) rfl ?_
          refine g_callV (kd := 19) (ix := 0) (ci := 8) (N := 4) (T := xT_Ride) (vs := [vi x3, vi z3, vi z9]) (st := []) (by decide +kernel) xm_Ride_turnedBy kw_812 kw_749 kw_750 (by decide) rfl rfl rfl rfl (Nat.le_of_ble_eq_true rfl) (Nat.le_of_ble_eq_true rfl) h (fun vH11 H11 hq => ?_)
          obtain ⟨r12, rfl, h⟩ := hq
          refine g_istore (i := 9) (ls2 := [some (vr 21 0), some (vr 19 0), some (vi x2), some (vi x3), none, some (vi z8), some (vi z3), some (vi (x2 + r6)), some (vi z9), some (vi r12), none]) (by decide +kernel) (by decide) rfl rfl ?_
          refine g_iload (i := 7) (by decide +kernel) rfl ?_
          refine g_iload (i := 9) (by decide +kernel) rfl ?_
          refine g_iconst (n := 0) (v := 0) (by decide +kernel) (by decide) ?_
          refine g_callS (vs := [vi (x2 + r6), vi r12, vi 0]) (st := []) (by decide +kernel) xm_Search_state kw_783 kw_784 rfl rfl (Nat.le_of_ble_eq_true rfl) (Nat.le_of_ble_eq_true rfl) h (fun vH13 H13 hq => ?_)
          obtain ⟨r14, rfl, h⟩ := hq
          refine g_istore (i := 10) (ls2 := [some (vr 21 0), some (vr 19 0), some (vi x2), some (vi x3), none, some (vi z8), some (vi z3), some (vi (x2 + r6)), some (vi z9), some (vi r12), some (vi r14)]) (by decide +kernel) (by decide) rfl rfl ?_
          refine g_aload_n (q := 0) (i := 0) (by decide +kernel) rfl rfl ?_
          refine g_get (C := "ThreePoints$Search") (T := xT_Search) (N := 8) (ci := 9) (k := 2) (v := vr 23 0) (by decide +kernel) (by decide) rfl rfl xi_Search (by decide) kw_285 rfl ?_
          refine g_iload (i := 10) (by decide +kernel) rfl ?_
          obtain ⟨hin, h⟩ := h
          refine g_iald (by decide +kernel) (by decide) rfl hin ?_
          refine g_ldc (v := 2147483647) (by decide +kernel) kw_780 ?_
          refine g_icmp_ne (off := 48) (tgt := 130) (by decide +kernel) (by decide) (fun c => ?_) (fun c => ?_)
          · replace h := h.1 c
            refine g_iinc (i := 8) (n := 1) (v := (z9 + 1)) (ls2 := [some (vr 21 0), some (vr 19 0), some (vi x2), some (vi x3), none, some (vi z8), some (vi z3), some (vi (x2 + r6)), some (vi (z9 + 1)), some (vi r12), some (vi r14)]) (by decide +kernel) rfl rfl (by decide) rfl rfl ?_
            refine g_goto (off := (-87)) (tgt := 46) (by decide +kernel) (by decide) ?_
            obtain ⟨hI, hlt⟩ := h
            exact g_drop (ls2 := [some (vr 21 0), some (vr 19 0), some (vi x2), some (vi x3), none, some (vi z8), some (vi z3), some (vi (x2 + r6)), some (vi (z9 + 1)), none, none]) (And.intro rfl (And.intro rfl (And.intro rfl (And.intro rfl (And.intro rfl (And.intro rfl (And.intro rfl (And.intro rfl trivial)))))))) (ih7 (z8, (z9 + 1)) H13 hI hlt)
          · replace h := h.2 c
            refine g_iload (i := 5) (by decide +kernel) rfl ?_
            refine g_sipush (n := 1952) (v := 1952) (by decide +kernel) (by decide) ?_
            refine g_icmp_lt (off := 6) (tgt := 96) (by decide +kernel) (by decide) (fun c => ?_) (fun c => ?_)
            · replace h := h.1 c
              refine g_aload_n (q := 0) (i := 0) (by decide +kernel) rfl rfl ?_
              refine g_get (C := "ThreePoints$Search") (T := xT_Search) (N := 8) (ci := 9) (k := 2) (v := vr 23 0) (by decide +kernel) (by decide) rfl rfl xi_Search (by decide) kw_285 rfl ?_
              refine g_iload (i := 10) (by decide +kernel) rfl ?_
              refine g_iconst (n := 0) (v := 0) (by decide +kernel) (by decide) ?_
              obtain ⟨hin, h⟩ := h
              refine g_iast (by decide +kernel) (by decide) rfl hin ?_
              refine g_aload_n (q := 1) (i := 1) (by decide +kernel) rfl rfl ?_
              refine g_iload (i := 7) (by decide +kernel) rfl ?_
              refine g_iload (i := 9) (by decide +kernel) rfl ?_
              refine g_heap (fun H15 eH15 => ?_)
              replace h := h H15 eH15
              refine g_callV (kd := 19) (ix := 0) (ci := 8) (N := 4) (T := xT_Ride) (vs := [vi (x2 + r6), vi r12]) (st := []) (by decide +kernel) xm_Ride_fits kw_782 kw_643 kw_644 (by decide) rfl rfl rfl rfl (Nat.le_of_ble_eq_true rfl) (Nat.le_of_ble_eq_true rfl) h (fun vH16 H16 hq => ?_)
              obtain ⟨r17, rfl, h⟩ := hq
              refine g_if_ne (off := 6) (tgt := 118) (by decide +kernel) (by decide) (fun c => ?_) (fun c => ?_)
              · replace h := h.1 c
                refine g_aload_n (q := 0) (i := 0) (by decide +kernel) rfl rfl ?_
                refine g_get (C := "ThreePoints$Search") (T := xT_Search) (N := 8) (ci := 9) (k := 4) (v := vr 25 0) (by decide +kernel) (by decide) rfl rfl xi_Search (by decide) kw_287 rfl ?_
                refine g_iload (i := 5) (by decide +kernel) rfl ?_
                refine g_iload (i := 10) (by decide +kernel) rfl ?_
                obtain ⟨hin, h⟩ := h
                refine g_iast (by decide +kernel) (by decide) rfl hin ?_
                refine g_iinc (i := 5) (n := 1) (v := (z8 + 1)) (ls2 := [some (vr 21 0), some (vr 19 0), some (vi x2), some (vi x3), none, some (vi (z8 + 1)), some (vi z3), some (vi (x2 + r6)), some (vi z9), some (vi r12), some (vi r14)]) (by decide +kernel) rfl rfl (by decide) rfl rfl ?_
                refine g_iinc (i := 8) (n := 1) (v := (z9 + 1)) (ls2 := [some (vr 21 0), some (vr 19 0), some (vi x2), some (vi x3), none, some (vi (z8 + 1)), some (vi z3), some (vi (x2 + r6)), some (vi (z9 + 1)), some (vi r12), some (vi r14)]) (by decide +kernel) rfl rfl (by decide) rfl rfl ?_
                refine g_goto (off := (-87)) (tgt := 46) (by decide +kernel) (by decide) ?_
                refine g_heap (fun H18 eH18 => ?_)
                replace h := h H18 eH18
                obtain ⟨hI, hlt⟩ := h
                exact g_drop (ls2 := [some (vr 21 0), some (vr 19 0), some (vi x2), some (vi x3), none, some (vi (z8 + 1)), some (vi z3), some (vi (x2 + r6)), some (vi (z9 + 1)), none, none]) (And.intro rfl (And.intro rfl (And.intro rfl (And.intro rfl (And.intro rfl (And.intro rfl (And.intro rfl (And.intro rfl trivial)))))))) (ih7 ((z8 + 1), (z9 + 1)) H18 hI hlt)
              · replace h := h.2 c
                refine g_goto (off := 15) (tgt := 130) (by decide +kernel) (by decide) ?_
                refine g_iinc (i := 8) (n := 1) (v := (z9 + 1)) (ls2 := [some (vr 21 0), some (vr 19 0), some (vi x2), some (vi x3), none, some (vi z8), some (vi z3), some (vi (x2 + r6)), some (vi (z9 + 1)), some (vi r12), some (vi r14)]) (by decide +kernel) rfl rfl (by decide) rfl rfl ?_
                refine g_goto (off := (-87)) (tgt := 46) (by decide +kernel) (by decide) ?_
                obtain ⟨hI, hlt⟩ := h
                exact g_drop (ls2 := [some (vr 21 0), some (vr 19 0), some (vi x2), some (vi x3), none, some (vi z8), some (vi z3), some (vi (x2 + r6)), some (vi (z9 + 1)), none, none]) (And.intro rfl (And.intro rfl (And.intro rfl (And.intro rfl (And.intro rfl (And.intro rfl (And.intro rfl (And.intro rfl trivial)))))))) (ih7 (z8, (z9 + 1)) H16 hI hlt)
            · replace h := h.2 c
              refine g_goto (off := 37) (tgt := 130) (by decide +kernel) (by decide) ?_
              refine g_iinc (i := 8) (n := 1) (v := (z9 + 1)) (ls2 := [some (vr 21 0), some (vr 19 0), some (vi x2), some (vi x3), none, some (vi z8), some (vi z3), some (vi (x2 + r6)), some (vi (z9 + 1)), some (vi r12), some (vi r14)]) (by decide +kernel) rfl rfl (by decide) rfl rfl ?_
              refine g_goto (off := (-87)) (tgt := 46) (by decide +kernel) (by decide) ?_
              obtain ⟨hI, hlt⟩ := h
              exact g_drop (ls2 := [some (vr 21 0), some (vr 19 0), some (vi x2), some (vi x3), none, some (vi z8), some (vi z3), some (vi (x2 + r6)), some (vi (z9 + 1)), none, none]) (And.intro rfl (And.intro rfl (And.intro rfl (And.intro rfl (And.intro rfl (And.intro rfl (And.intro rfl (And.intro rfl trivial)))))))) (ih7 (z8, (z9 + 1)) H13 hI hlt)
      · replace h := h.2 c
        refine g_goto (off := 96) (tgt := 136) (by decide +kernel) (by decide) ?_
        refine g_iinc (i := 6) (n := 1) (v := (z3 + 1)) (ls2 := [some (vr 21 0), some (vr 19 0), some (vi x2), some (vi x3), none, some (vi z2), some (vi (z3 + 1)), some (vi (x2 + r6)), none, none, none]) (by decide +kernel) rfl rfl (by decide) rfl rfl ?_
        refine g_goto (off := (-132)) (tgt := 7) (by decide +kernel) (by decide) ?_
        obtain ⟨hI, hlt⟩ := h
        exact g_drop (ls2 := [some (vr 21 0), some (vr 19 0), some (vi x2), some (vi x3), none, some (vi z2), some (vi (z3 + 1)), none, none, none, none]) (And.intro rfl (And.intro rfl (And.intro rfl (And.intro rfl (And.intro rfl (And.intro rfl trivial)))))) (ih1 (z2, (z3 + 1)) H5 hI hlt)
def p_Search_headingsReached (E : XE) (d : Nat)  (H : HH) (Q : Int32 → HH → Prop) : Prop := c_fill E d 23 1952 0 2147483647 H (fun H1 => c_Search_state E d (H1 3 8 2) (H1 3 8 3) 0 H1 (fun r3 H2 => vp_in r3 1952 ∧ (∀ H4 : HH, H4 = (hu (hu H2 23 0 (r3.toNatClampNeg) 0) 25 0 0 r3) → (∃ (I5 : Int32 → Int32 → Int32 → HH → Prop) (μ5 : Int32 → Int32 → Int32 → HH → Nat), I5 1 0 0 H4 ∧ ∀ (z6 : Int32) (z7 : Int32) (z8 : Int32) (H9 : HH), I5 z6 z7 z8 H9 → ((z6 ≤ z8 → (Q z7 H9)) ∧ (¬ z6 ≤ z8 → ((1952 ≤ z8 → (Q z7 H9)) ∧ (¬ 1952 ≤ z8 → (vp_in z8 1952 ∧ (∀ v10 : Int32, v10 = (((H9 25 0 (z8.toNatClampNeg)) >>> (1 &&& 31)) &&& 15) → (∀ v11 : Int32, v11 = (z7 ||| (1 <<< (v10 &&& 31))) → (vp_in z8 1952 ∧ (c_Search_addBehind E d ((H9 25 0 (z8.toNatClampNeg)) >>> (5 &&& 31)) v10 z6 H9 (fun r13 H12 => I5 r13 v11 (z8 + 1) H12 ∧ μ5 r13 v11 (z8 + 1) H12 < μ5 z6 z7 z8 H9))))))))))))))
set_option maxHeartbeats 4000000 in
theorem l_Search_headingsReached {E : XE} {d : Nat}  {H : HH} {Q : Int32 → HH → Prop} (h : p_Search_headingsReached E d  H Q) : c_Search_headingsReached E (d + 1)  H Q := by
  show g_Search_headingsReached E (d + 1) 0 (xent [vr 21 0, vr 19 0]) [] H (qi Q)
  refine g_drop (ls2 := [some (vr 21 0), some (vr 19 0), none, none, none, none, none]) (And.intro rfl (And.intro rfl trivial)) ?_
  refine g_aload_n (q := 0) (i := 0) (by decide +kernel) rfl rfl ?_
  refine g_get (C := "ThreePoints$Search") (T := xT_Search) (N := 8) (ci := 9) (k := 2) (v := vr 23 0) (by decide +kernel) (by decide) rfl rfl xi_Search (by decide) kw_285 rfl ?_
  refine g_ldc (v := 2147483647) (by decide +kernel) kw_780 ?_
  refine g_callS (vs := [vr 23 0, vi 2147483647]) (st := []) (by decide +kernel) xm_fill kw_781 kw_509 rfl rfl (Nat.le_of_ble_eq_true rfl) (Nat.le_of_ble_eq_true rfl) h (fun vH1 H1 hq => ?_)
  replace h := hq
  refine g_aload_n (q := 1) (i := 1) (by decide +kernel) rfl rfl ?_
  refine g_get (C := "ThreePoints$Ride") (T := xT_Ride) (N := 4) (ci := 8) (k := 1) (v := vr 3 8) (by decide +kernel) (by decide) rfl rfl xi_Ride (by decide) kw_263 rfl ?_
  refine g_get (C := "ThreePoints$Vehicle") (T := xT_Vehicle) (N := 7) (ci := 3) (k := 2) (v := vi (H1 3 8 2)) (by decide +kernel) (by decide) rfl rfl xi_Vehicle (by decide) kw_134 rfl ?_
  refine g_aload_n (q := 1) (i := 1) (by decide +kernel) rfl rfl ?_
  refine g_get (C := "ThreePoints$Ride") (T := xT_Ride) (N := 4) (ci := 8) (k := 1) (v := vr 3 8) (by decide +kernel) (by decide) rfl rfl xi_Ride (by decide) kw_263 rfl ?_
  refine g_get (C := "ThreePoints$Vehicle") (T := xT_Vehicle) (N := 7) (ci := 3) (k := 3) (v := vi (H1 3 8 3)) (by decide +kernel) (by decide) rfl rfl xi_Vehicle (by decide) kw_138 rfl ?_
  refine g_iconst (n := 0) (v := 0) (by decide +kernel) (by decide) ?_
  refine g_callS (vs := [vi (H1 3 8 2), vi (H1 3 8 3), vi 0]) (st := []) (by decide +kernel) xm_Search_state kw_783 kw_784 rfl rfl (Nat.le_of_ble_eq_true rfl) (Nat.le_of_ble_eq_true rfl) h (fun vH2 H2 hq => ?_)
  obtain ⟨r3, rfl, h⟩ := hq
  refine g_istore_n (q := 2) (i := 2) (ls2 := [some (vr 21 0), some (vr 19 0), some (vi r3), none, none, none, none]) (by decide +kernel) rfl (by decide) rfl rfl ?_
  refine g_aload_n (q := 0) (i := 0) (by decide +kernel) rfl rfl ?_
  refine g_get (C := "ThreePoints$Search") (T := xT_Search) (N := 8) (ci := 9) (k := 2) (v := vr 23 0) (by decide +kernel) (by decide) rfl rfl xi_Search (by decide) kw_285 rfl ?_
  refine g_iload_n (q := 2) (i := 2) (by decide +kernel) rfl rfl ?_
  refine g_iconst (n := 0) (v := 0) (by decide +kernel) (by decide) ?_
  obtain ⟨hin, h⟩ := h
  refine g_iast (by decide +kernel) (by decide) rfl hin ?_
  refine g_aload_n (q := 0) (i := 0) (by decide +kernel) rfl rfl ?_
  refine g_get (C := "ThreePoints$Search") (T := xT_Search) (N := 8) (ci := 9) (k := 4) (v := vr 25 0) (by decide +kernel) (by decide) rfl rfl xi_Search (by decide) kw_287 rfl ?_
  refine g_iconst (n := 0) (v := 0) (by decide +kernel) (by decide) ?_
  refine g_iload_n (q := 2) (i := 2) (by decide +kernel) rfl rfl ?_
  refine g_iast (by decide +kernel) (by decide) rfl (vp_lit (by decide)) ?_
  refine g_heapE (H1 := (hu (hu H2 23 0 (r3.toNatClampNeg) 0) 25 0 0 r3)) rfl ?_
  refine g_iconst (n := 1) (v := 1) (by decide +kernel) (by decide) ?_
  refine g_istore_n (q := 3) (i := 3) (ls2 := [some (vr 21 0), some (vr 19 0), some (vi r3), some (vi 1), none, none, none]) (by decide +kernel) rfl (by decide) rfl rfl ?_
  refine g_iconst (n := 0) (v := 0) (by decide +kernel) (by decide) ?_
  refine g_istore (i := 4) (ls2 := [some (vr 21 0), some (vr 19 0), some (vi r3), some (vi 1), some (vi 0), none, none]) (by decide +kernel) (by decide) rfl rfl ?_
  refine g_iconst (n := 0) (v := 0) (by decide +kernel) (by decide) ?_
  refine g_istore (i := 5) (ls2 := [some (vr 21 0), some (vr 19 0), some (vi r3), some (vi 1), some (vi 0), some (vi 0), none]) (by decide +kernel) (by decide) rfl rfl ?_
  refine g_heap (fun H4 eH4 => ?_)
  replace h := h H4 eH4
  refine g_drop (ls2 := [some (vr 21 0), some (vr 19 0), none, some (vi 1), some (vi 0), some (vi 0), none]) (And.intro rfl (And.intro rfl (And.intro rfl (And.intro rfl (And.intro rfl trivial))))) ?_
  obtain ⟨I5, μ5, h0, h⟩ := h
  refine xloop (σ := Int32 × Int32 × Int32) (fun s H => I5 s.1 s.2.1 s.2.2 H) (fun s H => μ5 s.1 s.2.1 s.2.2 H) (fun s H => g_Search_headingsReached E (d + 1) 50 [some (vr 21 0), some (vr 19 0), none, some (vi s.1), some (vi s.2.1), some (vi s.2.2), none] [] H (qi Q)) (fun s H9 hI ih5 => ?_) (1, 0, 0) H4 h0
  obtain ⟨z6, z7, z8⟩ := s
  replace h := h z6 z7 z8 H9 hI
  refine g_iload (i := 5) (by decide +kernel) rfl ?_
  refine g_iload_n (q := 3) (i := 3) (by decide +kernel) rfl rfl ?_
  refine g_icmp_ge (off := 58) (tgt := 111) (by decide +kernel) (by decide) (fun c => ?_) (fun c => ?_)
  · replace h := h.1 c
    refine g_iload (i := 4) (by decide +kernel) rfl ?_
    exact g_iret (by decide +kernel) rfl ⟨_, rfl, h⟩
  · replace h := h.2 c
    refine g_iload (i := 5) (by decide +kernel) rfl ?_
    refine g_sipush (n := 1952) (v := 1952) (by decide +kernel) (by decide) ?_
    refine g_icmp_ge (off := 50) (tgt := 111) (by decide +kernel) (by decide) (fun c => ?_) (fun c => ?_)
    · replace h := h.1 c
      refine g_iload (i := 4) (by decide +kernel) rfl ?_
      exact g_iret (by decide +kernel) rfl ⟨_, rfl, h⟩
    · replace h := h.2 c
      refine g_aload_n (q := 0) (i := 0) (by decide +kernel) rfl rfl ?_
      refine g_get (C := "ThreePoints$Search") (T := xT_Search) (N := 8) (ci := 9) (k := 4) (v := vr 25 0) (by decide +kernel) (by decide) rfl rfl xi_Search (by decide) kw_287 rfl ?_
      refine g_iload (i := 5) (by decide +kernel) rfl ?_
      obtain ⟨hin, h⟩ := h
      refine g_iald (by decide +kernel) (by decide) rfl hin ?_
      refine g_iconst (n := 1) (v := 1) (by decide +kernel) (by decide) ?_
      refine g_ishr (by decide +kernel) ?_
      refine g_bipush (n := 15) (v := 15) (by decide +kernel) (by decide) ?_
      refine g_iand (by decide +kernel) ?_
      refine g_topi (fun v10 ev10 => ?_)
      replace h := h v10 ev10
      refine g_istore (i := 6) (ls2 := [some (vr 21 0), some (vr 19 0), none, some (vi z6), some (vi z7), some (vi z8), some (vi v10)]) (by decide +kernel) (by decide) rfl rfl ?_
      refine g_iload (i := 4) (by decide +kernel) rfl ?_
      refine g_iconst (n := 1) (v := 1) (by decide +kernel) (by decide) ?_
      refine g_iload (i := 6) (by decide +kernel) rfl ?_
      refine g_ishl (by decide +kernel) ?_
      refine g_ior (by decide +kernel) ?_
      refine g_topi (fun v11 ev11 => ?_)
      replace h := h v11 ev11
      refine g_istore (i := 4) (ls2 := [some (vr 21 0), some (vr 19 0), none, some (vi z6), some (vi v11), some (vi z8), some (vi v10)]) (by decide +kernel) (by decide) rfl rfl ?_
      refine g_aload_n (q := 0) (i := 0) (by decide +kernel) rfl rfl ?_
      refine g_aload_n (q := 1) (i := 1) (by decide +kernel) rfl rfl ?_
      refine g_aload_n (q := 0) (i := 0) (by decide +kernel) rfl rfl ?_
      refine g_get (C := "ThreePoints$Search") (T := xT_Search) (N := 8) (ci := 9) (k := 4) (v := vr 25 0) (by decide +kernel) (by decide) rfl rfl xi_Search (by decide) kw_287 rfl ?_
      refine g_iload (i := 5) (by decide +kernel) rfl ?_
      obtain ⟨hin, h⟩ := h
      refine g_iald (by decide +kernel) (by decide) rfl hin ?_
      refine g_iconst (n := 5) (v := 5) (by decide +kernel) (by decide) ?_
      refine g_ishr (by decide +kernel) ?_
      refine g_iload (i := 6) (by decide +kernel) rfl ?_
      refine g_iload_n (q := 3) (i := 3) (by decide +kernel) rfl rfl ?_
      refine g_callV (kd := 21) (ix := 0) (ci := 9) (N := 8) (T := xT_Search) (vs := [vr 19 0, vi ((H9 25 0 (z8.toNatClampNeg)) >>> (5 &&& 31)), vi v10, vi z6]) (st := []) (by decide +kernel) xm_Search_addBehind kw_834 kw_836 kw_25 (by decide) rfl rfl rfl rfl (Nat.le_of_ble_eq_true rfl) (Nat.le_of_ble_eq_true rfl) h (fun vH12 H12 hq => ?_)
      obtain ⟨r13, rfl, h⟩ := hq
      refine g_istore_n (q := 3) (i := 3) (ls2 := [some (vr 21 0), some (vr 19 0), none, some (vi r13), some (vi v11), some (vi z8), some (vi v10)]) (by decide +kernel) rfl (by decide) rfl rfl ?_
      refine g_iinc (i := 5) (n := 1) (v := (z8 + 1)) (ls2 := [some (vr 21 0), some (vr 19 0), none, some (vi r13), some (vi v11), some (vi (z8 + 1)), some (vi v10)]) (by decide +kernel) rfl rfl (by decide) rfl rfl ?_
      refine g_goto (off := (-58)) (tgt := 50) (by decide +kernel) (by decide) ?_
      obtain ⟨hI, hlt⟩ := h
      exact g_drop (ls2 := [some (vr 21 0), some (vr 19 0), none, some (vi r13), some (vi v11), some (vi (z8 + 1)), none]) (And.intro rfl (And.intro rfl (And.intro rfl (And.intro rfl (And.intro rfl trivial))))) (ih5 (r13, v11, (z8 + 1)) H12 hI hlt)
def p_Ride_through (E : XE) (d : Nat) (u : Nat) (H : HH) (Q : Int32 → HH → Prop) : Prop := ∃ (I1 : Int32 → HH → Prop) (μ1 : Int32 → HH → Nat), I1 0 H ∧ ∀ (z2 : Int32) (H3 : HH), I1 z2 H3 → ((((H3 16 u 2) / 3) ≤ z2 → (Q (-1) H3)) ∧ (¬ ((H3 16 u 2) / 3) ≤ z2 → (c_Sheet_get E d u ((3 * z2) + 2) H3 (fun r5 H4 => ∃ (I6 : Int32 → HH → Prop) (μ6 : Int32 → HH → Nat), I6 0 H4 ∧ ∀ (z7 : Int32) (H8 : HH), I6 z7 H8 → ((r5 ≤ z7 → (I1 (z2 + 1) H8 ∧ μ1 (z2 + 1) H8 < μ1 z2 H3)) ∧ (¬ r5 ≤ z7 → (c_Sheet_get E d u (3 * z2) H8 (fun r10 H9 => c_Sheet_get E d u ((3 * z2) + 1) H9 (fun r12 H11 => c_Ride_go E d r10 r12 H11 (fun r14 H13 => (¬ r14 = 0 → (I6 (z7 + 1) H13 ∧ μ6 (z7 + 1) H13 < μ6 z7 H8)) ∧ (r14 = 0 → (Q z2 H13))))))))))))
set_option maxHeartbeats 4000000 in
theorem l_Ride_through {E : XE} {d : Nat} {u : Nat} {H : HH} {Q : Int32 → HH → Prop} (h : p_Ride_through E d u H Q) : c_Ride_through E (d + 1) u H Q := by
  show g_Ride_through E (d + 1) 0 (xent [vr 19 0, vr 16 u]) [] H (qi Q)
  refine g_drop (ls2 := [some (vr 19 0), some (vr 16 u), none, none, none]) (And.intro rfl (And.intro rfl trivial)) ?_
  refine g_iconst (n := 0) (v := 0) (by decide +kernel) (by decide) ?_
  refine g_istore_n (q := 2) (i := 2) (ls2 := [some (vr 19 0), some (vr 16 u), some (vi 0), none, none]) (by decide +kernel) rfl (by decide) rfl rfl ?_
  refine g_drop (ls2 := [some (vr 19 0), some (vr 16 u), some (vi 0), none, none]) (And.intro rfl (And.intro rfl (And.intro rfl trivial))) ?_
  obtain ⟨I1, μ1, h0, h⟩ := h
  refine xloop (σ := Int32) (fun s H => I1 s H) (fun s H => μ1 s H) (fun s H => g_Ride_through E (d + 1) 2 [some (vr 19 0), some (vr 16 u), some (vi s), none, none] [] H (qi Q)) (fun s H3 hI ih1 => ?_) 0 H h0
  obtain ⟨z2, es⟩ : ∃ z, z = s := ⟨s, rfl⟩
  subst es
  replace h := h z2 H3 hI
  refine g_iload_n (q := 2) (i := 2) (by decide +kernel) rfl rfl ?_
  refine g_aload_n (q := 1) (i := 1) (by decide +kernel) rfl rfl ?_
  refine g_get (C := "ThreePoints$Sheet") (T := xT_Sheet) (N := 3) (ci := 7) (k := 2) (v := vi (H3 16 u 2)) (by decide +kernel) (by decide) rfl rfl xi_Sheet (by decide) kw_321 rfl ?_
  refine g_iconst (n := 3) (v := 3) (by decide +kernel) (by decide) ?_
  refine g_idiv (by decide +kernel) (by decide) ?_
  refine g_icmp_ge (off := 59) (tgt := 68) (by decide +kernel) (by decide) (fun c => ?_) (fun c => ?_)
  · replace h := h.1 c
    refine g_iconst (n := (-1)) (v := (-1)) (by decide +kernel) (by decide) ?_
    exact g_iret (by decide +kernel) rfl ⟨_, rfl, h⟩
  · replace h := h.2 c
    refine g_aload_n (q := 1) (i := 1) (by decide +kernel) rfl rfl ?_
    refine g_iconst (n := 3) (v := 3) (by decide +kernel) (by decide) ?_
    refine g_iload_n (q := 2) (i := 2) (by decide +kernel) rfl rfl ?_
    refine g_imul (by decide +kernel) ?_
    refine g_iconst (n := 2) (v := 2) (by decide +kernel) (by decide) ?_
    refine g_iadd (by decide +kernel) ?_
    refine g_callV (kd := 16) (ix := u) (ci := 7) (N := 3) (T := xT_Sheet) (vs := [vi ((3 * z2) + 2)]) (st := []) (by decide +kernel) xm_Sheet_get kw_866 kw_867 kw_868 (by decide) rfl rfl rfl rfl (Nat.le_of_ble_eq_true rfl) (Nat.le_of_ble_eq_true rfl) h (fun vH4 H4 hq => ?_)
    obtain ⟨r5, rfl, h⟩ := hq
    refine g_istore_n (q := 3) (i := 3) (ls2 := [some (vr 19 0), some (vr 16 u), some (vi z2), some (vi r5), none]) (by decide +kernel) rfl (by decide) rfl rfl ?_
    refine g_iconst (n := 0) (v := 0) (by decide +kernel) (by decide) ?_
    refine g_istore (i := 4) (ls2 := [some (vr 19 0), some (vr 16 u), some (vi z2), some (vi r5), some (vi 0)]) (by decide +kernel) (by decide) rfl rfl ?_
    refine g_drop (ls2 := [some (vr 19 0), some (vr 16 u), some (vi z2), some (vi r5), some (vi 0)]) (And.intro rfl (And.intro rfl (And.intro rfl (And.intro rfl (And.intro rfl trivial))))) ?_
    obtain ⟨I6, μ6, h0, h⟩ := h
    refine xloop (σ := Int32) (fun s H => I6 s H) (fun s H => μ6 s H) (fun s H => g_Ride_through E (d + 1) 25 [some (vr 19 0), some (vr 16 u), some (vi z2), some (vi r5), some (vi s)] [] H (qi Q)) (fun s H8 hI ih6 => ?_) 0 H4 h0
    obtain ⟨z7, es⟩ : ∃ z, z = s := ⟨s, rfl⟩
    subst es
    replace h := h z7 H8 hI
    refine g_iload (i := 4) (by decide +kernel) rfl ?_
    refine g_iload_n (q := 3) (i := 3) (by decide +kernel) rfl rfl ?_
    refine g_icmp_ge (off := 34) (tgt := 62) (by decide +kernel) (by decide) (fun c => ?_) (fun c => ?_)
    · replace h := h.1 c
      refine g_iinc (i := 2) (n := 1) (v := (z2 + 1)) (ls2 := [some (vr 19 0), some (vr 16 u), some (vi (z2 + 1)), some (vi r5), some (vi z7)]) (by decide +kernel) rfl rfl (by decide) rfl rfl ?_
      refine g_goto (off := (-63)) (tgt := 2) (by decide +kernel) (by decide) ?_
      obtain ⟨hI, hlt⟩ := h
      exact g_drop (ls2 := [some (vr 19 0), some (vr 16 u), some (vi (z2 + 1)), none, none]) (And.intro rfl (And.intro rfl (And.intro rfl trivial))) (ih1 (z2 + 1) H8 hI hlt)
    · replace h := h.2 c
      refine g_aload_n (q := 0) (i := 0) (by decide +kernel) rfl rfl ?_
      refine g_aload_n (q := 1) (i := 1) (by decide +kernel) rfl rfl ?_
      refine g_iconst (n := 3) (v := 3) (by decide +kernel) (by decide) ?_
      refine g_iload_n (q := 2) (i := 2) (by decide +kernel) rfl rfl ?_
      refine g_imul (by decide +kernel) ?_
      refine g_callV (kd := 16) (ix := u) (ci := 7) (N := 3) (T := xT_Sheet) (vs := [vi (3 * z2)]) (st := [vr 19 0]) (by decide +kernel) xm_Sheet_get kw_866 kw_867 kw_868 (by decide) rfl rfl rfl rfl (Nat.le_of_ble_eq_true rfl) (Nat.le_of_ble_eq_true rfl) h (fun vH9 H9 hq => ?_)
      obtain ⟨r10, rfl, h⟩ := hq
      refine g_aload_n (q := 1) (i := 1) (by decide +kernel) rfl rfl ?_
      refine g_iconst (n := 3) (v := 3) (by decide +kernel) (by decide) ?_
      refine g_iload_n (q := 2) (i := 2) (by decide +kernel) rfl rfl ?_
      refine g_imul (by decide +kernel) ?_
      refine g_iconst (n := 1) (v := 1) (by decide +kernel) (by decide) ?_
      refine g_iadd (by decide +kernel) ?_
      refine g_callV (kd := 16) (ix := u) (ci := 7) (N := 3) (T := xT_Sheet) (vs := [vi ((3 * z2) + 1)]) (st := [vi r10, vr 19 0]) (by decide +kernel) xm_Sheet_get kw_866 kw_867 kw_868 (by decide) rfl rfl rfl rfl (Nat.le_of_ble_eq_true rfl) (Nat.le_of_ble_eq_true rfl) h (fun vH11 H11 hq => ?_)
      obtain ⟨r12, rfl, h⟩ := hq
      refine g_callV (kd := 19) (ix := 0) (ci := 8) (N := 4) (T := xT_Ride) (vs := [vi r10, vi r12]) (st := []) (by decide +kernel) xm_Ride_go kw_874 kw_742 kw_743 (by decide) rfl rfl rfl rfl (Nat.le_of_ble_eq_true rfl) (Nat.le_of_ble_eq_true rfl) h (fun vH13 H13 hq => ?_)
      obtain ⟨r14, rfl, h⟩ := hq
      refine g_if_ne (off := 5) (tgt := 56) (by decide +kernel) (by decide) (fun c => ?_) (fun c => ?_)
      · replace h := h.1 c
        refine g_iinc (i := 4) (n := 1) (v := (z7 + 1)) (ls2 := [some (vr 19 0), some (vr 16 u), some (vi z2), some (vi r5), some (vi (z7 + 1))]) (by decide +kernel) rfl rfl (by decide) rfl rfl ?_
        refine g_goto (off := (-34)) (tgt := 25) (by decide +kernel) (by decide) ?_
        obtain ⟨hI, hlt⟩ := h
        exact g_drop (ls2 := [some (vr 19 0), some (vr 16 u), some (vi z2), some (vi r5), some (vi (z7 + 1))]) (And.intro rfl (And.intro rfl (And.intro rfl (And.intro rfl (And.intro rfl trivial))))) (ih6 (z7 + 1) H13 hI hlt)
      · replace h := h.2 c
        refine g_iload_n (q := 2) (i := 2) (by decide +kernel) rfl rfl ?_
        exact g_iret (by decide +kernel) rfl ⟨_, rfl, h⟩
def p_Ride_byLots (E : XE) (d : Nat) (x1 : Int32) (x2 : Int32) (H : HH) (Q : Int32 → HH → Prop) : Prop := ∀ v1 : Int64, v1 = ((x1.toInt64) + 1) → (∃ (I2 : Int64 → Int32 → HH → Prop) (μ2 : Int64 → Int32 → HH → Nat), I2 v1 0 H ∧ ∀ (z3 : Int64) (z4 : Int32) (H5 : HH), I2 z3 z4 H5 → ((x2 ≤ z4 → (Q (-1) H5)) ∧ (¬ x2 ≤ z4 → (∀ v6 : Int64, v6 = ((z3 * 48271) - (z3 * 48271) / 2147483647 * 2147483647) → (∀ v7 : Int64, v7 = (v6 - v6 / 2 * 2) → (∀ v9 : Int32, v9 = (if (lg_cmp v7 0) = 0 then 0 else 1 : Int32) → (∀ v10 : Int64, v10 = ((v6 / 2) - (v6 / 2) / 3 * 3) → (∀ v11 : Int32, v11 = ((v10.toInt32) - 1) → (c_Ride_go E d v9 v11 H5 (fun r13 H12 => (r13 = 0 → (c_Ride_says E d 2 (H12 3 8 2) (H12 3 8 3) 0 (if v11 = 0 then 0 else 1 : Int32) H12 (fun r16 H15 => ∀ v17 : Int64, v17 = ((v6 / 6) - (v6 / 6) / 100 * 100) → (((lg_cmp v17 (r16.toInt64)) < 0 → (I2 v6 (z4 + 1) H15 ∧ μ2 v6 (z4 + 1) H15 < μ2 z3 z4 H5)) ∧ (¬ (lg_cmp v17 (r16.toInt64)) < 0 → (Q z4 H15)))))) ∧ (¬ r13 = 0 → (I2 v6 (z4 + 1) H12 ∧ μ2 v6 (z4 + 1) H12 < μ2 z3 z4 H5))))))))))))
set_option maxHeartbeats 4000000 in
theorem l_Ride_byLots {E : XE} {d : Nat} {x1 : Int32} {x2 : Int32} {H : HH} {Q : Int32 → HH → Prop} (h : p_Ride_byLots E d x1 x2 H Q) : c_Ride_byLots E (d + 1) x1 x2 H Q := by
  show g_Ride_byLots E (d + 1) 0 (xent [vr 19 0, vi x1, vi x2]) [] H (qi Q)
  refine g_drop (ls2 := [some (vr 19 0), some (vi x1), some (vi x2), none, none, none, none, none, none]) (And.intro rfl (And.intro rfl (And.intro rfl trivial))) ?_
  refine g_iload_n (q := 1) (i := 1) (by decide +kernel) rfl rfl ?_
  refine g_i2l (by decide +kernel) ?_
  refine g_lconst (n := 1) (v := 1) (by decide +kernel) (by decide) ?_
  refine g_ladd (by decide +kernel) ?_
  refine g_topl (fun v1 ev1 => ?_)
  replace h := h v1 ev1
  refine g_lstore_n (q := 3) (i := 3) (ls2 := [some (vr 19 0), some (vi x1), some (vi x2), some (vl v1), none, none, none, none, none]) (by decide +kernel) rfl (by decide) rfl rfl ?_
  refine g_iconst (n := 0) (v := 0) (by decide +kernel) (by decide) ?_
  refine g_istore (i := 5) (ls2 := [some (vr 19 0), some (vi x1), some (vi x2), some (vl v1), none, some (vi 0), none, none, none]) (by decide +kernel) (by decide) rfl rfl ?_
  refine g_drop (ls2 := [some (vr 19 0), none, some (vi x2), some (vl v1), none, some (vi 0), none, none, none]) (And.intro rfl (And.intro rfl (And.intro rfl (And.intro rfl trivial)))) ?_
  obtain ⟨I2, μ2, h0, h⟩ := h
  refine xloop (σ := Int64 × Int32) (fun s H => I2 s.1 s.2 H) (fun s H => μ2 s.1 s.2 H) (fun s H => g_Ride_byLots E (d + 1) 8 [some (vr 19 0), none, some (vi x2), some (vl s.1), none, some (vi s.2), none, none, none] [] H (qi Q)) (fun s H5 hI ih2 => ?_) (v1, 0) H h0
  obtain ⟨z3, z4⟩ := s
  replace h := h z3 z4 H5 hI
  refine g_iload (i := 5) (by decide +kernel) rfl ?_
  refine g_iload_n (q := 2) (i := 2) (by decide +kernel) rfl rfl ?_
  refine g_icmp_ge (off := 115) (tgt := 126) (by decide +kernel) (by decide) (fun c => ?_) (fun c => ?_)
  · replace h := h.1 c
    refine g_iconst (n := (-1)) (v := (-1)) (by decide +kernel) (by decide) ?_
    exact g_iret (by decide +kernel) rfl ⟨_, rfl, h⟩
  · replace h := h.2 c
    refine g_lload_n (q := 3) (i := 3) (by decide +kernel) rfl rfl ?_
    refine g_ldc2 (v := 48271) (by decide +kernel) kw_900 ?_
    refine g_lmul (by decide +kernel) ?_
    refine g_ldc2 (v := 2147483647) (by decide +kernel) kw_901 ?_
    refine g_lrem (by decide +kernel) (by decide) ?_
    refine g_topl (fun v6 ev6 => ?_)
    replace h := h v6 ev6
    refine g_lstore_n (q := 3) (i := 3) (ls2 := [some (vr 19 0), none, some (vi x2), some (vl v6), none, some (vi z4), none, none, none]) (by decide +kernel) rfl (by decide) rfl rfl ?_
    refine g_lload_n (q := 3) (i := 3) (by decide +kernel) rfl rfl ?_
    refine g_ldc2 (v := 2) (by decide +kernel) kw_902 ?_
    refine g_lrem (by decide +kernel) (by decide) ?_
    refine g_topl (fun v7 ev7 => ?_)
    replace h := h v7 ev7
    refine g_lconst (n := 0) (v := 0) (by decide +kernel) (by decide) ?_
    refine g_lcmp (by decide +kernel) ?_
    suffices hj8 : g_Ride_byLots E (d + 1) 39 [some (vr 19 0), none, some (vi x2), some (vl v6), none, some (vi z4), none, none, none] [vi (if (lg_cmp v7 0) = 0 then 0 else 1 : Int32)] H5 (qi Q) by
      refine g_if_ne (off := 7) (tgt := 38) (by decide +kernel) (by decide) (fun c => ?_) (fun c => ?_)
      · rw [if_neg c] at hj8
        refine g_iconst (n := 1) (v := 1) (by decide +kernel) (by decide) ?_
        exact hj8
      · rw [if_pos c] at hj8
        refine g_iconst (n := 0) (v := 0) (by decide +kernel) (by decide) ?_
        refine g_goto (off := 4) (tgt := 39) (by decide +kernel) (by decide) ?_
        exact hj8
    refine g_topi (fun v9 ev9 => ?_)
    replace h := h v9 ev9
    refine g_istore (i := 6) (ls2 := [some (vr 19 0), none, some (vi x2), some (vl v6), none, some (vi z4), some (vi v9), none, none]) (by decide +kernel) (by decide) rfl rfl ?_
    refine g_lload_n (q := 3) (i := 3) (by decide +kernel) rfl rfl ?_
    refine g_ldc2 (v := 2) (by decide +kernel) kw_902 ?_
    refine g_ldiv (by decide +kernel) (by decide) ?_
    refine g_ldc2 (v := 3) (by decide +kernel) kw_903 ?_
    refine g_lrem (by decide +kernel) (by decide) ?_
    refine g_topl (fun v10 ev10 => ?_)
    replace h := h v10 ev10
    refine g_l2i (by decide +kernel) ?_
    refine g_iconst (n := 1) (v := 1) (by decide +kernel) (by decide) ?_
    refine g_isub (by decide +kernel) ?_
    refine g_topi (fun v11 ev11 => ?_)
    replace h := h v11 ev11
    refine g_istore (i := 7) (ls2 := [some (vr 19 0), none, some (vi x2), some (vl v6), none, some (vi z4), some (vi v9), some (vi v11), none]) (by decide +kernel) (by decide) rfl rfl ?_
    refine g_aload_n (q := 0) (i := 0) (by decide +kernel) rfl rfl ?_
    refine g_iload (i := 6) (by decide +kernel) rfl ?_
    refine g_iload (i := 7) (by decide +kernel) rfl ?_
    refine g_callV (kd := 19) (ix := 0) (ci := 8) (N := 4) (T := xT_Ride) (vs := [vi v9, vi v11]) (st := []) (by decide +kernel) xm_Ride_go kw_874 kw_742 kw_743 (by decide) rfl rfl rfl rfl (Nat.le_of_ble_eq_true rfl) (Nat.le_of_ble_eq_true rfl) h (fun vH12 H12 hq => ?_)
    obtain ⟨r13, rfl, h⟩ := hq
    refine g_if_eq (off := 6) (tgt := 69) (by decide +kernel) (by decide) (fun c => ?_) (fun c => ?_)
    · replace h := h.1 c
      refine g_aload_n (q := 0) (i := 0) (by decide +kernel) rfl rfl ?_
      refine g_iconst (n := 2) (v := 2) (by decide +kernel) (by decide) ?_
      refine g_aload_n (q := 0) (i := 0) (by decide +kernel) rfl rfl ?_
      refine g_get (C := "ThreePoints$Ride") (T := xT_Ride) (N := 4) (ci := 8) (k := 1) (v := vr 3 8) (by decide +kernel) (by decide) rfl rfl xi_Ride (by decide) kw_262 rfl ?_
      refine g_get (C := "ThreePoints$Vehicle") (T := xT_Vehicle) (N := 7) (ci := 3) (k := 2) (v := vi (H12 3 8 2)) (by decide +kernel) (by decide) rfl rfl xi_Vehicle (by decide) kw_133 rfl ?_
      refine g_aload_n (q := 0) (i := 0) (by decide +kernel) rfl rfl ?_
      refine g_get (C := "ThreePoints$Ride") (T := xT_Ride) (N := 4) (ci := 8) (k := 1) (v := vr 3 8) (by decide +kernel) (by decide) rfl rfl xi_Ride (by decide) kw_262 rfl ?_
      refine g_get (C := "ThreePoints$Vehicle") (T := xT_Vehicle) (N := 7) (ci := 3) (k := 3) (v := vi (H12 3 8 3)) (by decide +kernel) (by decide) rfl rfl xi_Vehicle (by decide) kw_137 rfl ?_
      refine g_iconst (n := 0) (v := 0) (by decide +kernel) (by decide) ?_
      refine g_iload (i := 7) (by decide +kernel) rfl ?_
      suffices hj14 : g_Ride_byLots E (d + 1) 96 [some (vr 19 0), none, some (vi x2), some (vl v6), none, some (vi z4), some (vi v9), some (vi v11), none] [vi (if v11 = 0 then 0 else 1 : Int32), vi 0, vi (H12 3 8 3), vi (H12 3 8 2), vi 2, vr 19 0] H12 (qi Q) by
        refine g_if_ne (off := 7) (tgt := 95) (by decide +kernel) (by decide) (fun c => ?_) (fun c => ?_)
        · rw [if_neg c] at hj14
          refine g_iconst (n := 1) (v := 1) (by decide +kernel) (by decide) ?_
          exact hj14
        · rw [if_pos c] at hj14
          refine g_iconst (n := 0) (v := 0) (by decide +kernel) (by decide) ?_
          refine g_goto (off := 4) (tgt := 96) (by decide +kernel) (by decide) ?_
          exact hj14
      refine g_callV (kd := 19) (ix := 0) (ci := 8) (N := 4) (T := xT_Ride) (vs := [vi 2, vi (H12 3 8 2), vi (H12 3 8 3), vi 0, vi (if v11 = 0 then 0 else 1 : Int32)]) (st := []) (by decide +kernel) xm_Ride_says kw_660 kw_661 kw_662 (by decide) rfl rfl rfl rfl (Nat.le_of_ble_eq_true rfl) (Nat.le_of_ble_eq_true rfl) h (fun vH15 H15 hq => ?_)
      obtain ⟨r16, rfl, h⟩ := hq
      refine g_istore (i := 8) (ls2 := [some (vr 19 0), none, some (vi x2), some (vl v6), none, some (vi z4), some (vi v9), some (vi v11), some (vi r16)]) (by decide +kernel) (by decide) rfl rfl ?_
      refine g_lload_n (q := 3) (i := 3) (by decide +kernel) rfl rfl ?_
      refine g_ldc2 (v := 6) (by decide +kernel) kw_904 ?_
      refine g_ldiv (by decide +kernel) (by decide) ?_
      refine g_ldc2 (v := 100) (by decide +kernel) kw_905 ?_
      refine g_lrem (by decide +kernel) (by decide) ?_
      refine g_topl (fun v17 ev17 => ?_)
      replace h := h v17 ev17
      refine g_iload (i := 8) (by decide +kernel) rfl ?_
      refine g_i2l (by decide +kernel) ?_
      refine g_lcmp (by decide +kernel) ?_
      refine g_if_lt (off := 6) (tgt := 120) (by decide +kernel) (by decide) (fun c => ?_) (fun c => ?_)
      · replace h := h.1 c
        refine g_iinc (i := 5) (n := 1) (v := (z4 + 1)) (ls2 := [some (vr 19 0), none, some (vi x2), some (vl v6), none, some (vi (z4 + 1)), some (vi v9), some (vi v11), some (vi r16)]) (by decide +kernel) rfl rfl (by decide) rfl rfl ?_
        refine g_goto (off := (-115)) (tgt := 8) (by decide +kernel) (by decide) ?_
        obtain ⟨hI, hlt⟩ := h
        exact g_drop (ls2 := [some (vr 19 0), none, some (vi x2), some (vl v6), none, some (vi (z4 + 1)), none, none, none]) (And.intro rfl (And.intro rfl (And.intro rfl (And.intro rfl trivial)))) (ih2 (v6, (z4 + 1)) H15 hI hlt)
      · replace h := h.2 c
        refine g_iload (i := 5) (by decide +kernel) rfl ?_
        exact g_iret (by decide +kernel) rfl ⟨_, rfl, h⟩
    · replace h := h.2 c
      refine g_goto (off := 54) (tgt := 120) (by decide +kernel) (by decide) ?_
      refine g_iinc (i := 5) (n := 1) (v := (z4 + 1)) (ls2 := [some (vr 19 0), none, some (vi x2), some (vl v6), none, some (vi (z4 + 1)), some (vi v9), some (vi v11), none]) (by decide +kernel) rfl rfl (by decide) rfl rfl ?_
      refine g_goto (off := (-115)) (tgt := 8) (by decide +kernel) (by decide) ?_
      obtain ⟨hI, hlt⟩ := h
      exact g_drop (ls2 := [some (vr 19 0), none, some (vi x2), some (vl v6), none, some (vi (z4 + 1)), none, none, none]) (And.intro rfl (And.intro rfl (And.intro rfl (And.intro rfl trivial)))) (ih2 (v6, (z4 + 1)) H12 hI hlt)
end
