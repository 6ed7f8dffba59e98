/-! words of the tables, by their places; printed by wip/gen/emitall.py -/
set_option maxRecDepth 20000 in
theorem kw_0 : Cond.selects "ThreePoints$Tape" ⟨"ThreePoints$Tape", "endOfToken", "(I)I"⟩ ⟨"ThreePoints$Tape", "endOfToken", "(I)I"⟩ ∈ xtbl := xtbl_at 0 (by decide +kernel) (by decide +kernel)
set_option maxRecDepth 20000 in
theorem kw_1 : Cond.selects "ThreePoints$Tape" ⟨"ThreePoints$Tape", "byteAt", "(I)I"⟩ ⟨"ThreePoints$Tape", "byteAt", "(I)I"⟩ ∈ xtbl := xtbl_at 1 (by decide +kernel) (by decide +kernel)
set_option maxRecDepth 20000 in
theorem kw_2 : Cond.selects "ThreePoints$Tape" ⟨"ThreePoints$Tape", "numberAt", "(II)I"⟩ ⟨"ThreePoints$Tape", "numberAt", "(II)I"⟩ ∈ xtbl := xtbl_at 2 (by decide +kernel) (by decide +kernel)
set_option maxRecDepth 20000 in
theorem kw_3 : Cond.selects "ThreePoints$Tape" ⟨"ThreePoints$Tape", "nameAt", "(II)I"⟩ ⟨"ThreePoints$Tape", "nameAt", "(II)I"⟩ ∈ xtbl := xtbl_at 3 (by decide +kernel) (by decide +kernel)
set_option maxRecDepth 20000 in
theorem kw_4 : Cond.selects "ThreePoints$Tape" ⟨"ThreePoints$Tape", "spells", "(IILjava/lang/String;)Z"⟩ ⟨"ThreePoints$Tape", "spells", "(IILjava/lang/String;)Z"⟩ ∈ xtbl := xtbl_at 4 (by decide +kernel) (by decide +kernel)
set_option maxRecDepth 20000 in
theorem kw_5 : Cond.selects "ThreePoints$Tape" ⟨"ThreePoints$Tape", "kindAt", "(II)I"⟩ ⟨"ThreePoints$Tape", "kindAt", "(II)I"⟩ ∈ xtbl := xtbl_at 5 (by decide +kernel) (by decide +kernel)
set_option maxRecDepth 20000 in
theorem kw_6 : Cond.selects "ThreePoints$Tape" ⟨"ThreePoints$Tape", "wordKindAt", "(II)I"⟩ ⟨"ThreePoints$Tape", "wordKindAt", "(II)I"⟩ ∈ xtbl := xtbl_at 6 (by decide +kernel) (by decide +kernel)
set_option maxRecDepth 20000 in
theorem kw_7 : Cond.selects "ThreePoints$Reader" ⟨"ThreePoints$Reader", "goTo", "(I)V"⟩ ⟨"ThreePoints$Reader", "goTo", "(I)V"⟩ ∈ xtbl := xtbl_at 7 (by decide +kernel) (by decide +kernel)
set_option maxRecDepth 20000 in
theorem kw_8 : Cond.selects "ThreePoints$Reader" ⟨"ThreePoints$Reader", "readPart", "(II)Z"⟩ ⟨"ThreePoints$Reader", "readPart", "(II)Z"⟩ ∈ xtbl := xtbl_at 8 (by decide +kernel) (by decide +kernel)
set_option maxRecDepth 20000 in
theorem kw_9 : Cond.selects "ThreePoints$Reader" ⟨"ThreePoints$Reader", "readOr", "()Z"⟩ ⟨"ThreePoints$Reader", "readOr", "()Z"⟩ ∈ xtbl := xtbl_at 9 (by decide +kernel) (by decide +kernel)
set_option maxRecDepth 20000 in
theorem kw_10 : Cond.selects "ThreePoints$Reader" ⟨"ThreePoints$Reader", "readAnd", "()Z"⟩ ⟨"ThreePoints$Reader", "readAnd", "()Z"⟩ ∈ xtbl := xtbl_at 10 (by decide +kernel) (by decide +kernel)
set_option maxRecDepth 20000 in
theorem kw_11 : Cond.selects "ThreePoints$Reader" ⟨"ThreePoints$Reader", "readNot", "()Z"⟩ ⟨"ThreePoints$Reader", "readNot", "()Z"⟩ ∈ xtbl := xtbl_at 11 (by decide +kernel) (by decide +kernel)
set_option maxRecDepth 20000 in
theorem kw_12 : Cond.selects "ThreePoints$Reader" ⟨"ThreePoints$Reader", "readComparison", "()Z"⟩ ⟨"ThreePoints$Reader", "readComparison", "()Z"⟩ ∈ xtbl := xtbl_at 12 (by decide +kernel) (by decide +kernel)
set_option maxRecDepth 20000 in
theorem kw_13 : Cond.selects "ThreePoints$Reader" ⟨"ThreePoints$Reader", "readSum", "()Z"⟩ ⟨"ThreePoints$Reader", "readSum", "()Z"⟩ ∈ xtbl := xtbl_at 13 (by decide +kernel) (by decide +kernel)
set_option maxRecDepth 20000 in
theorem kw_14 : Cond.selects "ThreePoints$Reader" ⟨"ThreePoints$Reader", "readTerm", "()Z"⟩ ⟨"ThreePoints$Reader", "readTerm", "()Z"⟩ ∈ xtbl := xtbl_at 14 (by decide +kernel) (by decide +kernel)
set_option maxRecDepth 20000 in
theorem kw_15 : Cond.selects "ThreePoints$Reader" ⟨"ThreePoints$Reader", "readOne", "()Z"⟩ ⟨"ThreePoints$Reader", "readOne", "()Z"⟩ ∈ xtbl := xtbl_at 15 (by decide +kernel) (by decide +kernel)
set_option maxRecDepth 20000 in
theorem kw_16 : Cond.selects "ThreePoints$Reader" ⟨"ThreePoints$Reader", "mayOpen", "()Z"⟩ ⟨"ThreePoints$Reader", "mayOpen", "()Z"⟩ ∈ xtbl := xtbl_at 16 (by decide +kernel) (by decide +kernel)
set_option maxRecDepth 20000 in
theorem kw_17 : Cond.selects "ThreePoints" ⟨"ThreePoints", "think", "(I)V"⟩ ⟨"ThreePoints", "think", "(I)V"⟩ ∈ xtbl := xtbl_at 17 (by decide +kernel) (by decide +kernel)
set_option maxRecDepth 20000 in
theorem kw_18 : Cond.selects "ThreePoints" ⟨"ThreePoints", "isVehicle", "(I)Z"⟩ ⟨"ThreePoints", "isVehicle", "(I)Z"⟩ ∈ xtbl := xtbl_at 18 (by decide +kernel) (by decide +kernel)
set_option maxRecDepth 20000 in
theorem kw_19 : Cond.selects "ThreePoints" ⟨"ThreePoints", "isPlaceHeading", "(I)Z"⟩ ⟨"ThreePoints", "isPlaceHeading", "(I)Z"⟩ ∈ xtbl := xtbl_at 19 (by decide +kernel) (by decide +kernel)
set_option maxRecDepth 20000 in
theorem kw_20 : Cond.selects "ThreePoints" ⟨"ThreePoints", "isPlace", "(I)Z"⟩ ⟨"ThreePoints", "isPlace", "(I)Z"⟩ ∈ xtbl := xtbl_at 20 (by decide +kernel) (by decide +kernel)
set_option maxRecDepth 20000 in
theorem kw_21 : Cond.selects "ThreePoints" ⟨"ThreePoints", "addVehicle", "(II)I"⟩ ⟨"ThreePoints", "addVehicle", "(II)I"⟩ ∈ xtbl := xtbl_at 21 (by decide +kernel) (by decide +kernel)
set_option maxRecDepth 20000 in
theorem kw_22 : Cond.selects "ThreePoints$Search" ⟨"ThreePoints$Search", "lower", "(II)V"⟩ ⟨"ThreePoints$Search", "lower", "(II)V"⟩ ∈ xtbl := xtbl_at 22 (by decide +kernel) (by decide +kernel)
set_option maxRecDepth 20000 in
theorem kw_23 : Cond.selects "ThreePoints$Search" ⟨"ThreePoints$Search", "unlink", "(I)V"⟩ ⟨"ThreePoints$Search", "unlink", "(I)V"⟩ ∈ xtbl := xtbl_at 23 (by decide +kernel) (by decide +kernel)
set_option maxRecDepth 20000 in
theorem kw_24 : Cond.selects "ThreePoints$Search" ⟨"ThreePoints$Search", "lowerAhead", "(LThreePoints$Ride;II)V"⟩ ⟨"ThreePoints$Search", "lowerAhead", "(LThreePoints$Ride;II)V"⟩ ∈ xtbl := xtbl_at 24 (by decide +kernel) (by decide +kernel)
set_option maxRecDepth 20000 in
theorem kw_25 : Cond.selects "ThreePoints$Search" ⟨"ThreePoints$Search", "addBehind", "(LThreePoints$Ride;III)I"⟩ ⟨"ThreePoints$Search", "addBehind", "(LThreePoints$Ride;III)I"⟩ ∈ xtbl := xtbl_at 25 (by decide +kernel) (by decide +kernel)
set_option maxRecDepth 20000 in
theorem kw_26 : Cond.selects "ThreePoints" ⟨"ThreePoints", "refusalOfMoves", "(II)I"⟩ ⟨"ThreePoints", "refusalOfMoves", "(II)I"⟩ ∈ xtbl := xtbl_at 26 (by decide +kernel) (by decide +kernel)
set_option maxRecDepth 20000 in
theorem kw_27 : Cond.selects "ThreePointsModel" ⟨"ThreePointsModel", "next", "()V"⟩ ⟨"ThreePointsModel", "next", "()V"⟩ ∈ xtbl := xtbl_at 27 (by decide +kernel) (by decide +kernel)
set_option maxRecDepth 20000 in
theorem kw_28 : Cond.selects "ThreePointsModel" ⟨"ThreePointsModel", "wordFrom", "(II)I"⟩ ⟨"ThreePointsModel", "wordFrom", "(II)I"⟩ ∈ xtbl := xtbl_at 28 (by decide +kernel) (by decide +kernel)
set_option maxRecDepth 20000 in
theorem kw_29 : Cond.selects "ThreePointsModel" ⟨"ThreePointsModel", "eRead", "()Z"⟩ ⟨"ThreePointsModel", "eRead", "()Z"⟩ ∈ xtbl := xtbl_at 29 (by decide +kernel) (by decide +kernel)
set_option maxRecDepth 20000 in
theorem kw_30 : Cond.selects "ThreePointsModel" ⟨"ThreePointsModel", "puts", "(I)V"⟩ ⟨"ThreePointsModel", "puts", "(I)V"⟩ ∈ xtbl := xtbl_at 30 (by decide +kernel) (by decide +kernel)
set_option maxRecDepth 20000 in
theorem kw_31 : Cond.selects "ThreePointsModel" ⟨"ThreePointsModel", "unwinds", "(I)V"⟩ ⟨"ThreePointsModel", "unwinds", "(I)V"⟩ ∈ xtbl := xtbl_at 31 (by decide +kernel) (by decide +kernel)
set_option maxRecDepth 20000 in
theorem kw_32 : Cond.selects "ThreePointsModel" ⟨"ThreePointsModel", "opensOne", "(I)Z"⟩ ⟨"ThreePointsModel", "opensOne", "(I)Z"⟩ ∈ xtbl := xtbl_at 32 (by decide +kernel) (by decide +kernel)
set_option maxRecDepth 20000 in
theorem kw_33 : Cond.selects "ThreePointsModel" ⟨"ThreePointsModel", "holds", "(I)V"⟩ ⟨"ThreePointsModel", "holds", "(I)V"⟩ ∈ xtbl := xtbl_at 33 (by decide +kernel) (by decide +kernel)
set_option maxRecDepth 20000 in
theorem kw_34 : Cond.selects "ThreePointsModel" ⟨"ThreePointsModel", "signOf", "()I"⟩ ⟨"ThreePointsModel", "signOf", "()I"⟩ ∈ xtbl := xtbl_at 34 (by decide +kernel) (by decide +kernel)
set_option maxRecDepth 20000 in
theorem kw_35 : Cond.selects "ThreePointsModel" ⟨"ThreePointsModel", "between", "(I)Z"⟩ ⟨"ThreePointsModel", "between", "(I)Z"⟩ ∈ xtbl := xtbl_at 35 (by decide +kernel) (by decide +kernel)
set_option maxRecDepth 20000 in
theorem kw_36 : Cond.selects "ThreePointsModel" ⟨"ThreePointsModel", "doAllFit", "()Z"⟩ ⟨"ThreePointsModel", "doAllFit", "()Z"⟩ ∈ xtbl := xtbl_at 36 (by decide +kernel) (by decide +kernel)
set_option maxRecDepth 20000 in
theorem kw_37 : Cond.selects "ThreePointsModel" ⟨"ThreePointsModel", "isPlace", "(I)Z"⟩ ⟨"ThreePointsModel", "isPlace", "(I)Z"⟩ ∈ xtbl := xtbl_at 37 (by decide +kernel) (by decide +kernel)
set_option maxRecDepth 20000 in
theorem kw_38 : Cond.selects "ThreePointsModel" ⟨"ThreePointsModel", "fitsAt", "(III)Z"⟩ ⟨"ThreePointsModel", "fitsAt", "(III)Z"⟩ ∈ xtbl := xtbl_at 38 (by decide +kernel) (by decide +kernel)
set_option maxRecDepth 20000 in
theorem kw_39 : Cond.selects "ThreePointsModel" ⟨"ThreePointsModel", "frontOf", "(I)I"⟩ ⟨"ThreePointsModel", "frontOf", "(I)I"⟩ ∈ xtbl := xtbl_at 39 (by decide +kernel) (by decide +kernel)
set_option maxRecDepth 20000 in
theorem kw_40 : Cond.selects "ThreePointsModel" ⟨"ThreePointsModel", "backOf", "(I)I"⟩ ⟨"ThreePointsModel", "backOf", "(I)I"⟩ ∈ xtbl := xtbl_at 40 (by decide +kernel) (by decide +kernel)
set_option maxRecDepth 20000 in
theorem kw_41 : Cond.selects "ThreePointsModel" ⟨"ThreePointsModel", "asksOf", "(IIIIII)I"⟩ ⟨"ThreePointsModel", "asksOf", "(IIIIII)I"⟩ ∈ xtbl := xtbl_at 41 (by decide +kernel) (by decide +kernel)
set_option maxRecDepth 20000 in
theorem kw_42 : Cond.selects "ThreePointsModel" ⟨"ThreePointsModel", "says", "(I)I"⟩ ⟨"ThreePointsModel", "says", "(I)I"⟩ ∈ xtbl := xtbl_at 42 (by decide +kernel) (by decide +kernel)
set_option maxRecDepth 20000 in
theorem kw_43 : Cond.selects "ThreePointsModel" ⟨"ThreePointsModel", "isVehicle", "(I)Z"⟩ ⟨"ThreePointsModel", "isVehicle", "(I)Z"⟩ ∈ xtbl := xtbl_at 43 (by decide +kernel) (by decide +kernel)
set_option maxRecDepth 20000 in
theorem kw_44 : Cond.selects "ThreePointsModel" ⟨"ThreePointsModel", "isBoth", "(I)Z"⟩ ⟨"ThreePointsModel", "isBoth", "(I)Z"⟩ ∈ xtbl := xtbl_at 44 (by decide +kernel) (by decide +kernel)
set_option maxRecDepth 20000 in
theorem kw_45 : Cond.selects "ThreePointsModel" ⟨"ThreePointsModel", "canGo", "(III)Z"⟩ ⟨"ThreePointsModel", "canGo", "(III)Z"⟩ ∈ xtbl := xtbl_at 45 (by decide +kernel) (by decide +kernel)
set_option maxRecDepth 20000 in
theorem kw_46 : Cond.selects "ThreePointsModel" ⟨"ThreePointsModel", "placeBy", "(III)I"⟩ ⟨"ThreePointsModel", "placeBy", "(III)I"⟩ ∈ xtbl := xtbl_at 46 (by decide +kernel) (by decide +kernel)
set_option maxRecDepth 20000 in
theorem kw_47 : Cond.selects "ThreePointsModel" ⟨"ThreePointsModel", "headingBy", "(IIII)I"⟩ ⟨"ThreePointsModel", "headingBy", "(IIII)I"⟩ ∈ xtbl := xtbl_at 47 (by decide +kernel) (by decide +kernel)
set_option maxRecDepth 20000 in
theorem kw_48 : Cond.selects "ThreePointsModel" ⟨"ThreePointsModel", "turnsOf", "(III)I"⟩ ⟨"ThreePointsModel", "turnsOf", "(III)I"⟩ ∈ xtbl := xtbl_at 48 (by decide +kernel) (by decide +kernel)
set_option maxRecDepth 20000 in
theorem kw_49 : Cond.selects "ThreePointsModel" ⟨"ThreePointsModel", "goes", "(III)V"⟩ ⟨"ThreePointsModel", "goes", "(III)V"⟩ ∈ xtbl := xtbl_at 49 (by decide +kernel) (by decide +kernel)
set_option maxRecDepth 20000 in
theorem kw_50 : Cond.selects "ThreePointsModel" ⟨"ThreePointsModel", "tellsLane", "(IZ)V"⟩ ⟨"ThreePointsModel", "tellsLane", "(IZ)V"⟩ ∈ xtbl := xtbl_at 50 (by decide +kernel) (by decide +kernel)
set_option maxRecDepth 20000 in
theorem kw_51 : Cond.selects "ThreePointsModel" ⟨"ThreePointsModel", "firstStep", "(II)I"⟩ ⟨"ThreePointsModel", "firstStep", "(II)I"⟩ ∈ xtbl := xtbl_at 51 (by decide +kernel) (by decide +kernel)
set_option maxRecDepth 20000 in
theorem kw_52 : Cond.selects "ThreePointsModel" ⟨"ThreePointsModel", "stateOf", "(I)I"⟩ ⟨"ThreePointsModel", "stateOf", "(I)I"⟩ ∈ xtbl := xtbl_at 52 (by decide +kernel) (by decide +kernel)
set_option maxRecDepth 20000 in
theorem kw_53 : Cond.selects "ThreePointsModel" ⟨"ThreePointsModel", "stateBehind", "(IIII)I"⟩ ⟨"ThreePointsModel", "stateBehind", "(IIII)I"⟩ ∈ xtbl := xtbl_at 53 (by decide +kernel) (by decide +kernel)
set_option maxRecDepth 20000 in
theorem kw_54 : Cond.selects "ThreePointsModel" ⟨"ThreePointsModel", "seeks", "(III)V"⟩ ⟨"ThreePointsModel", "seeks", "(III)V"⟩ ∈ xtbl := xtbl_at 54 (by decide +kernel) (by decide +kernel)
set_option maxRecDepth 20000 in
theorem kw_55 : Cond.selects "ThreePointsModel" ⟨"ThreePointsModel", "costsStep", "(IIII)I"⟩ ⟨"ThreePointsModel", "costsStep", "(IIII)I"⟩ ∈ xtbl := xtbl_at 55 (by decide +kernel) (by decide +kernel)
set_option maxRecDepth 20000 in
theorem kw_56 : Cond.selects "ThreePointsModel" ⟨"ThreePointsModel", "otherOf", "(I)I"⟩ ⟨"ThreePointsModel", "otherOf", "(I)I"⟩ ∈ xtbl := xtbl_at 56 (by decide +kernel) (by decide +kernel)
set_option maxRecDepth 20000 in
theorem kw_57 : Cond.selects "ThreePointsModel" ⟨"ThreePointsModel", "leastTo", "(I)I"⟩ ⟨"ThreePointsModel", "leastTo", "(I)I"⟩ ∈ xtbl := xtbl_at 57 (by decide +kernel) (by decide +kernel)
set_option maxRecDepth 20000 in
theorem kw_58 : Cond.selects "ThreePointsModel" ⟨"ThreePointsModel", "fromBegin", "(III)I"⟩ ⟨"ThreePointsModel", "fromBegin", "(III)I"⟩ ∈ xtbl := xtbl_at 58 (by decide +kernel) (by decide +kernel)
set_option maxRecDepth 20000 in
theorem kw_59 : Cond.selects "ThreePointsModel" ⟨"ThreePointsModel", "sheetWrong", "(II)I"⟩ ⟨"ThreePointsModel", "sheetWrong", "(II)I"⟩ ∈ xtbl := xtbl_at 59 (by decide +kernel) (by decide +kernel)
set_option maxRecDepth 20000 in
theorem kw_60 : Cond.selects "ThreePointsModel" ⟨"ThreePointsModel", "firstWrong", "(II)I"⟩ ⟨"ThreePointsModel", "firstWrong", "(II)I"⟩ ∈ xtbl := xtbl_at 60 (by decide +kernel) (by decide +kernel)
set_option maxRecDepth 20000 in
theorem kw_61 : Cond.selects "ThreePointsModel" ⟨"ThreePointsModel", "keeps", "(I)V"⟩ ⟨"ThreePointsModel", "keeps", "(I)V"⟩ ∈ xtbl := xtbl_at 61 (by decide +kernel) (by decide +kernel)
set_option maxRecDepth 20000 in
theorem kw_62 : Cond.selects "ThreePointsModel" ⟨"ThreePointsModel", "laysBack", "(I)V"⟩ ⟨"ThreePointsModel", "laysBack", "(I)V"⟩ ∈ xtbl := xtbl_at 62 (by decide +kernel) (by decide +kernel)
set_option maxRecDepth 20000 in
theorem kw_63 : Cond.selects "ThreePointsModel" ⟨"ThreePointsModel", "driveBy", "(III)V"⟩ ⟨"ThreePointsModel", "driveBy", "(III)V"⟩ ∈ xtbl := xtbl_at 63 (by decide +kernel) (by decide +kernel)
set_option maxRecDepth 20000 in
theorem kw_65 : Cond.initialized "ThreePoints" ∈ xtbl := xtbl_at 65 (by decide +kernel) (by decide +kernel)
set_option maxRecDepth 20000 in
theorem kw_66 : Cond.initialized "ThreePoints$Yard" ∈ xtbl := xtbl_at 66 (by decide +kernel) (by decide +kernel)
set_option maxRecDepth 20000 in
theorem kw_67 : Cond.initialized "ThreePoints$Lane" ∈ xtbl := xtbl_at 67 (by decide +kernel) (by decide +kernel)
set_option maxRecDepth 20000 in
theorem kw_68 : Cond.initialized "ThreePoints$Vehicle" ∈ xtbl := xtbl_at 68 (by decide +kernel) (by decide +kernel)
set_option maxRecDepth 20000 in
theorem kw_69 : Cond.initialized "ThreePoints$Reader" ∈ xtbl := xtbl_at 69 (by decide +kernel) (by decide +kernel)
set_option maxRecDepth 20000 in
theorem kw_70 : Cond.initialized "ThreePoints$Tape" ∈ xtbl := xtbl_at 70 (by decide +kernel) (by decide +kernel)
set_option maxRecDepth 20000 in
theorem kw_71 : Cond.initialized "ThreePoints$Text" ∈ xtbl := xtbl_at 71 (by decide +kernel) (by decide +kernel)
set_option maxRecDepth 20000 in
theorem kw_72 : Cond.initialized "ThreePoints$Ride" ∈ xtbl := xtbl_at 72 (by decide +kernel) (by decide +kernel)
set_option maxRecDepth 20000 in
theorem kw_73 : Cond.initialized "ThreePoints$Search" ∈ xtbl := xtbl_at 73 (by decide +kernel) (by decide +kernel)
set_option maxRecDepth 20000 in
theorem kw_74 : Cond.initialized "ThreePoints$Sheet" ∈ xtbl := xtbl_at 74 (by decide +kernel) (by decide +kernel)
set_option maxRecDepth 20000 in
theorem kw_75 : Cond.initialized "java/lang/String" ∈ xtbl := xtbl_at 75 (by decide +kernel) (by decide +kernel)
set_option maxRecDepth 20000 in
theorem kw_76 : Cond.initialized "java/lang/StringLatin1" ∈ xtbl := xtbl_at 76 (by decide +kernel) (by decide +kernel)
set_option maxRecDepth 20000 in
theorem kw_77 : Cond.initialized "jdk/internal/util/Preconditions" ∈ xtbl := xtbl_at 77 (by decide +kernel) (by decide +kernel)
set_option maxRecDepth 20000 in
theorem kw_79 : Cond.initialized "java/lang/Math" ∈ xtbl := xtbl_at 79 (by decide +kernel) (by decide +kernel)
set_option maxRecDepth 20000 in
theorem kw_81 : Cond.initialized "java/util/Arrays" ∈ xtbl := xtbl_at 81 (by decide +kernel) (by decide +kernel)
set_option maxRecDepth 20000 in
theorem kw_82 : Cond.initialized "java/lang/System" ∈ xtbl := xtbl_at 82 (by decide +kernel) (by decide +kernel)
set_option maxRecDepth 20000 in
theorem kw_83 : Cond.initialized "ThreePointsModel" ∈ xtbl := xtbl_at 83 (by decide +kernel) (by decide +kernel)
set_option maxRecDepth 20000 in
theorem kw_104 : Cond.fieldLink "ThreePoints$Lane" 7 "ThreePoints$Lane" "width" "I" ∈ xtbl := xtbl_at 104 (by decide +kernel) (by decide +kernel)
set_option maxRecDepth 20000 in
theorem kw_105 : Cond.fieldLink "ThreePoints$Ride" 39 "ThreePoints$Lane" "width" "I" ∈ xtbl := xtbl_at 105 (by decide +kernel) (by decide +kernel)
set_option maxRecDepth 20000 in
theorem kw_106 : Cond.fieldLink "ThreePoints" 92 "ThreePoints$Lane" "width" "I" ∈ xtbl := xtbl_at 106 (by decide +kernel) (by decide +kernel)
set_option maxRecDepth 20000 in
theorem kw_107 : Cond.fieldLink "ThreePoints$Search" 57 "ThreePoints$Lane" "width" "I" ∈ xtbl := xtbl_at 107 (by decide +kernel) (by decide +kernel)
set_option maxRecDepth 20000 in
theorem kw_108 : Cond.fieldLink "ThreePoints$Lane" 13 "ThreePoints$Lane" "opening" "I" ∈ xtbl := xtbl_at 108 (by decide +kernel) (by decide +kernel)
set_option maxRecDepth 20000 in
theorem kw_109 : Cond.fieldLink "ThreePoints" 97 "ThreePoints$Lane" "opening" "I" ∈ xtbl := xtbl_at 109 (by decide +kernel) (by decide +kernel)
set_option maxRecDepth 20000 in
theorem kw_110 : Cond.fieldLink "ThreePoints$Ride" 73 "ThreePoints$Lane" "opening" "I" ∈ xtbl := xtbl_at 110 (by decide +kernel) (by decide +kernel)
set_option maxRecDepth 20000 in
theorem kw_111 : Cond.fieldLink "ThreePoints$Lane" 16 "ThreePoints$Lane" "law" "I" ∈ xtbl := xtbl_at 111 (by decide +kernel) (by decide +kernel)
set_option maxRecDepth 20000 in
theorem kw_112 : Cond.fieldLink "ThreePoints" 100 "ThreePoints$Lane" "law" "I" ∈ xtbl := xtbl_at 112 (by decide +kernel) (by decide +kernel)
set_option maxRecDepth 20000 in
theorem kw_127 : Cond.fieldLink "ThreePoints$Vehicle" 15 "ThreePoints$Vehicle" "kind" "I" ∈ xtbl := xtbl_at 127 (by decide +kernel) (by decide +kernel)
set_option maxRecDepth 20000 in
theorem kw_128 : Cond.fieldLink "ThreePoints" 147 "ThreePoints$Vehicle" "kind" "I" ∈ xtbl := xtbl_at 128 (by decide +kernel) (by decide +kernel)
set_option maxRecDepth 20000 in
theorem kw_129 : Cond.fieldLink "ThreePoints$Vehicle" 18 "ThreePoints$Vehicle" "more" "I" ∈ xtbl := xtbl_at 129 (by decide +kernel) (by decide +kernel)
set_option maxRecDepth 20000 in
theorem kw_130 : Cond.fieldLink "ThreePoints$Ride" 35 "ThreePoints$Vehicle" "more" "I" ∈ xtbl := xtbl_at 130 (by decide +kernel) (by decide +kernel)
set_option maxRecDepth 20000 in
theorem kw_131 : Cond.fieldLink "ThreePoints" 152 "ThreePoints$Vehicle" "more" "I" ∈ xtbl := xtbl_at 131 (by decide +kernel) (by decide +kernel)
set_option maxRecDepth 20000 in
theorem kw_132 : Cond.fieldLink "ThreePoints$Vehicle" 21 "ThreePoints$Vehicle" "place" "I" ∈ xtbl := xtbl_at 132 (by decide +kernel) (by decide +kernel)
set_option maxRecDepth 20000 in
theorem kw_133 : Cond.fieldLink "ThreePoints$Ride" 76 "ThreePoints$Vehicle" "place" "I" ∈ xtbl := xtbl_at 133 (by decide +kernel) (by decide +kernel)
set_option maxRecDepth 20000 in
theorem kw_134 : Cond.fieldLink "ThreePoints$Search" 104 "ThreePoints$Vehicle" "place" "I" ∈ xtbl := xtbl_at 134 (by decide +kernel) (by decide +kernel)
set_option maxRecDepth 20000 in
theorem kw_135 : Cond.fieldLink "ThreePoints" 155 "ThreePoints$Vehicle" "place" "I" ∈ xtbl := xtbl_at 135 (by decide +kernel) (by decide +kernel)
set_option maxRecDepth 20000 in
theorem kw_136 : Cond.fieldLink "ThreePoints$Vehicle" 24 "ThreePoints$Vehicle" "heading" "I" ∈ xtbl := xtbl_at 136 (by decide +kernel) (by decide +kernel)
set_option maxRecDepth 20000 in
theorem kw_137 : Cond.fieldLink "ThreePoints$Ride" 79 "ThreePoints$Vehicle" "heading" "I" ∈ xtbl := xtbl_at 137 (by decide +kernel) (by decide +kernel)
set_option maxRecDepth 20000 in
theorem kw_138 : Cond.fieldLink "ThreePoints$Search" 107 "ThreePoints$Vehicle" "heading" "I" ∈ xtbl := xtbl_at 138 (by decide +kernel) (by decide +kernel)
set_option maxRecDepth 20000 in
theorem kw_139 : Cond.fieldLink "ThreePoints" 158 "ThreePoints$Vehicle" "heading" "I" ∈ xtbl := xtbl_at 139 (by decide +kernel) (by decide +kernel)
set_option maxRecDepth 20000 in
theorem kw_140 : Cond.fieldLink "ThreePoints$Vehicle" 27 "ThreePoints$Vehicle" "points" "I" ∈ xtbl := xtbl_at 140 (by decide +kernel) (by decide +kernel)
set_option maxRecDepth 20000 in
theorem kw_141 : Cond.fieldLink "ThreePoints" 161 "ThreePoints$Vehicle" "points" "I" ∈ xtbl := xtbl_at 141 (by decide +kernel) (by decide +kernel)
set_option maxRecDepth 20000 in
theorem kw_142 : Cond.fieldLink "ThreePoints$Vehicle" 30 "ThreePoints$Vehicle" "wear" "I" ∈ xtbl := xtbl_at 142 (by decide +kernel) (by decide +kernel)
set_option maxRecDepth 20000 in
theorem kw_143 : Cond.fieldLink "ThreePoints" 164 "ThreePoints$Vehicle" "wear" "I" ∈ xtbl := xtbl_at 143 (by decide +kernel) (by decide +kernel)
set_option maxRecDepth 20000 in
theorem kw_144 : Cond.fieldLink "ThreePoints$Vehicle" 9 "ThreePoints$Vehicle" "last" "I" ∈ xtbl := xtbl_at 144 (by decide +kernel) (by decide +kernel)
set_option maxRecDepth 20000 in
theorem kw_145 : Cond.fieldLink "ThreePoints$Search" 110 "ThreePoints$Vehicle" "last" "I" ∈ xtbl := xtbl_at 145 (by decide +kernel) (by decide +kernel)
set_option maxRecDepth 20000 in
theorem kw_146 : Cond.fieldLink "ThreePoints" 167 "ThreePoints$Vehicle" "last" "I" ∈ xtbl := xtbl_at 146 (by decide +kernel) (by decide +kernel)
set_option maxRecDepth 20000 in
theorem kw_162 : Cond.fieldLink "ThreePoints$Yard" 12 "ThreePoints$Yard" "lane" "LThreePoints$Lane;" ∈ xtbl := xtbl_at 162 (by decide +kernel) (by decide +kernel)
set_option maxRecDepth 20000 in
theorem kw_163 : Cond.fieldLink "ThreePoints" 88 "ThreePoints$Yard" "lane" "LThreePoints$Lane;" ∈ xtbl := xtbl_at 163 (by decide +kernel) (by decide +kernel)
set_option maxRecDepth 20000 in
theorem kw_164 : Cond.fieldLink "ThreePoints$Yard" 20 "ThreePoints$Yard" "vehicles" "[LThreePoints$Vehicle;" ∈ xtbl := xtbl_at 164 (by decide +kernel) (by decide +kernel)
set_option maxRecDepth 20000 in
theorem kw_165 : Cond.fieldLink "ThreePoints" 143 "ThreePoints$Yard" "vehicles" "[LThreePoints$Vehicle;" ∈ xtbl := xtbl_at 165 (by decide +kernel) (by decide +kernel)
set_option maxRecDepth 20000 in
theorem kw_166 : Cond.fieldLink "ThreePoints$Yard" 32 "ThreePoints$Yard" "count" "I" ∈ xtbl := xtbl_at 166 (by decide +kernel) (by decide +kernel)
set_option maxRecDepth 20000 in
theorem kw_167 : Cond.fieldLink "ThreePoints" 85 "ThreePoints$Yard" "count" "I" ∈ xtbl := xtbl_at 167 (by decide +kernel) (by decide +kernel)
set_option maxRecDepth 20000 in
theorem kw_187 : Cond.fieldLink "ThreePoints$Tape" 11 "ThreePoints$Tape" "bytes" "[I" ∈ xtbl := xtbl_at 187 (by decide +kernel) (by decide +kernel)
set_option maxRecDepth 20000 in
theorem kw_188 : Cond.fieldLink "ThreePoints$Tape" 24 "ThreePoints$Tape" "size" "I" ∈ xtbl := xtbl_at 188 (by decide +kernel) (by decide +kernel)
set_option maxRecDepth 20000 in
theorem kw_189 : Cond.fieldLink "ThreePoints" 103 "ThreePoints$Tape" "size" "I" ∈ xtbl := xtbl_at 189 (by decide +kernel) (by decide +kernel)
set_option maxRecDepth 20000 in
theorem kw_190 : Cond.fieldLink "ThreePoints$Tape" 15 "ThreePoints$Tape" "kinds" "[I" ∈ xtbl := xtbl_at 190 (by decide +kernel) (by decide +kernel)
set_option maxRecDepth 20000 in
theorem kw_191 : Cond.fieldLink "ThreePoints$Tape" 18 "ThreePoints$Tape" "starts" "[I" ∈ xtbl := xtbl_at 191 (by decide +kernel) (by decide +kernel)
set_option maxRecDepth 20000 in
theorem kw_192 : Cond.fieldLink "ThreePoints$Tape" 21 "ThreePoints$Tape" "values" "[I" ∈ xtbl := xtbl_at 192 (by decide +kernel) (by decide +kernel)
set_option maxRecDepth 20000 in
theorem kw_193 : Cond.fieldLink "ThreePoints$Tape" 42 "ThreePoints$Tape" "tokens" "I" ∈ xtbl := xtbl_at 193 (by decide +kernel) (by decide +kernel)
set_option maxRecDepth 20000 in
theorem kw_214 : Cond.fieldLink "ThreePoints$Text" 9 "ThreePoints$Text" "code" "[I" ∈ xtbl := xtbl_at 214 (by decide +kernel) (by decide +kernel)
set_option maxRecDepth 20000 in
theorem kw_215 : Cond.fieldLink "ThreePoints$Text" 21 "ThreePoints$Text" "size" "I" ∈ xtbl := xtbl_at 215 (by decide +kernel) (by decide +kernel)
set_option maxRecDepth 20000 in
theorem kw_216 : Cond.fieldLink "ThreePoints$Text" 15 "ThreePoints$Text" "partEnds" "[I" ∈ xtbl := xtbl_at 216 (by decide +kernel) (by decide +kernel)
set_option maxRecDepth 20000 in
theorem kw_217 : Cond.fieldLink "ThreePoints$Text" 18 "ThreePoints$Text" "stack" "[I" ∈ xtbl := xtbl_at 217 (by decide +kernel) (by decide +kernel)
set_option maxRecDepth 20000 in
theorem kw_227 : Cond.fieldLink "ThreePoints$Reader" 12 "ThreePoints$Reader" "tape" "LThreePoints$Tape;" ∈ xtbl := xtbl_at 227 (by decide +kernel) (by decide +kernel)
set_option maxRecDepth 20000 in
theorem kw_228 : Cond.fieldLink "ThreePoints" 54 "ThreePoints$Reader" "tape" "LThreePoints$Tape;" ∈ xtbl := xtbl_at 228 (by decide +kernel) (by decide +kernel)
set_option maxRecDepth 20000 in
theorem kw_229 : Cond.fieldLink "ThreePoints$Reader" 21 "ThreePoints$Reader" "draft" "LThreePoints$Text;" ∈ xtbl := xtbl_at 229 (by decide +kernel) (by decide +kernel)
set_option maxRecDepth 20000 in
theorem kw_230 : Cond.fieldLink "ThreePoints" 70 "ThreePoints$Reader" "draft" "LThreePoints$Text;" ∈ xtbl := xtbl_at 230 (by decide +kernel) (by decide +kernel)
set_option maxRecDepth 20000 in
theorem kw_231 : Cond.fieldLink "ThreePoints$Reader" 46 "ThreePoints$Reader" "now" "I" ∈ xtbl := xtbl_at 231 (by decide +kernel) (by decide +kernel)
set_option maxRecDepth 20000 in
theorem kw_232 : Cond.fieldLink "ThreePoints$Reader" 43 "ThreePoints$Reader" "token" "I" ∈ xtbl := xtbl_at 232 (by decide +kernel) (by decide +kernel)
set_option maxRecDepth 20000 in
theorem kw_233 : Cond.fieldLink "ThreePoints$Reader" 31 "ThreePoints$Reader" "open" "I" ∈ xtbl := xtbl_at 233 (by decide +kernel) (by decide +kernel)
set_option maxRecDepth 20000 in
theorem kw_254 : Cond.methodLink "ThreePoints$Ride" 3 ⟨"java/lang/Object", "<init>", "()V"⟩ ∈ xtbl := xtbl_at 254 (by decide +kernel) (by decide +kernel)
set_option maxRecDepth 20000 in
theorem kw_259 : Cond.fieldLink "ThreePoints$Ride" 12 "ThreePoints$Ride" "lane" "LThreePoints$Lane;" ∈ xtbl := xtbl_at 259 (by decide +kernel) (by decide +kernel)
set_option maxRecDepth 20000 in
theorem kw_260 : Cond.fieldLink "ThreePoints$Search" 51 "ThreePoints$Ride" "lane" "LThreePoints$Lane;" ∈ xtbl := xtbl_at 260 (by decide +kernel) (by decide +kernel)
set_option maxRecDepth 20000 in
theorem kw_261 : Cond.fieldLink "ThreePoints" 114 "ThreePoints$Ride" "lane" "LThreePoints$Lane;" ∈ xtbl := xtbl_at 261 (by decide +kernel) (by decide +kernel)
set_option maxRecDepth 20000 in
theorem kw_262 : Cond.fieldLink "ThreePoints$Ride" 21 "ThreePoints$Ride" "vehicle" "LThreePoints$Vehicle;" ∈ xtbl := xtbl_at 262 (by decide +kernel) (by decide +kernel)
set_option maxRecDepth 20000 in
theorem kw_263 : Cond.fieldLink "ThreePoints$Search" 83 "ThreePoints$Ride" "vehicle" "LThreePoints$Vehicle;" ∈ xtbl := xtbl_at 263 (by decide +kernel) (by decide +kernel)
set_option maxRecDepth 20000 in
theorem kw_264 : Cond.fieldLink "ThreePoints" 183 "ThreePoints$Ride" "vehicle" "LThreePoints$Vehicle;" ∈ xtbl := xtbl_at 264 (by decide +kernel) (by decide +kernel)
set_option maxRecDepth 20000 in
theorem kw_265 : Cond.fieldLink "ThreePoints$Ride" 31 "ThreePoints$Ride" "law" "LThreePoints$Text;" ∈ xtbl := xtbl_at 265 (by decide +kernel) (by decide +kernel)
set_option maxRecDepth 20000 in
theorem kw_266 : Cond.fieldLink "ThreePoints" 225 "ThreePoints$Ride" "law" "LThreePoints$Text;" ∈ xtbl := xtbl_at 266 (by decide +kernel) (by decide +kernel)
set_option maxRecDepth 20000 in
theorem kw_267 : Cond.fieldLink "ThreePoints$Ride" 27 "ThreePoints$Ride" "names" "[I" ∈ xtbl := xtbl_at 267 (by decide +kernel) (by decide +kernel)
set_option maxRecDepth 20000 in
theorem kw_283 : Cond.fieldLink "ThreePoints$Search" 37 "ThreePoints$Search" "goal" "I" ∈ xtbl := xtbl_at 283 (by decide +kernel) (by decide +kernel)
set_option maxRecDepth 20000 in
theorem kw_284 : Cond.fieldLink "ThreePoints$Search" 11 "ThreePoints$Search" "fitting" "[Z" ∈ xtbl := xtbl_at 284 (by decide +kernel) (by decide +kernel)
set_option maxRecDepth 20000 in
theorem kw_285 : Cond.fieldLink "ThreePoints$Search" 15 "ThreePoints$Search" "costs" "[I" ∈ xtbl := xtbl_at 285 (by decide +kernel) (by decide +kernel)
set_option maxRecDepth 20000 in
theorem kw_286 : Cond.fieldLink "ThreePoints$Search" 19 "ThreePoints$Search" "heads" "[I" ∈ xtbl := xtbl_at 286 (by decide +kernel) (by decide +kernel)
set_option maxRecDepth 20000 in
theorem kw_287 : Cond.fieldLink "ThreePoints$Search" 22 "ThreePoints$Search" "nexts" "[I" ∈ xtbl := xtbl_at 287 (by decide +kernel) (by decide +kernel)
set_option maxRecDepth 20000 in
theorem kw_288 : Cond.fieldLink "ThreePoints$Search" 25 "ThreePoints$Search" "previous" "[I" ∈ xtbl := xtbl_at 288 (by decide +kernel) (by decide +kernel)
set_option maxRecDepth 20000 in
theorem kw_289 : Cond.fieldLink "ThreePoints$Search" 41 "ThreePoints$Search" "waiting" "I" ∈ xtbl := xtbl_at 289 (by decide +kernel) (by decide +kernel)
set_option maxRecDepth 20000 in
theorem kw_290 : Cond.fieldLink "ThreePoints$Search" 98 "ThreePoints$Search" "firstStep" "I" ∈ xtbl := xtbl_at 290 (by decide +kernel) (by decide +kernel)
set_option maxRecDepth 20000 in
theorem kw_291 : Cond.fieldLink "ThreePoints" 208 "ThreePoints$Search" "firstStep" "I" ∈ xtbl := xtbl_at 291 (by decide +kernel) (by decide +kernel)
set_option maxRecDepth 20000 in
theorem kw_316 : Cond.fieldLink "ThreePoints$Sheet" 11 "ThreePoints$Sheet" "numbers" "[I" ∈ xtbl := xtbl_at 316 (by decide +kernel) (by decide +kernel)
set_option maxRecDepth 20000 in
theorem kw_317 : Cond.fieldLink "ThreePoints" 265 "ThreePoints$Sheet" "numbers" "[I" ∈ xtbl := xtbl_at 317 (by decide +kernel) (by decide +kernel)
set_option maxRecDepth 20000 in
theorem kw_318 : Cond.fieldLink "ThreePoints$Sheet" 15 "ThreePoints$Sheet" "sort" "I" ∈ xtbl := xtbl_at 318 (by decide +kernel) (by decide +kernel)
set_option maxRecDepth 20000 in
theorem kw_319 : Cond.fieldLink "ThreePoints" 259 "ThreePoints$Sheet" "sort" "I" ∈ xtbl := xtbl_at 319 (by decide +kernel) (by decide +kernel)
set_option maxRecDepth 20000 in
theorem kw_320 : Cond.fieldLink "ThreePoints$Sheet" 28 "ThreePoints$Sheet" "size" "I" ∈ xtbl := xtbl_at 320 (by decide +kernel) (by decide +kernel)
set_option maxRecDepth 20000 in
theorem kw_321 : Cond.fieldLink "ThreePoints$Ride" 103 "ThreePoints$Sheet" "size" "I" ∈ xtbl := xtbl_at 321 (by decide +kernel) (by decide +kernel)
set_option maxRecDepth 20000 in
theorem kw_333 : Cond.code ⟨"ThreePoints$Tape", "write", "(Ljava/lang/String;)V"⟩ prog_7_method_4_code 3 none ∈ xtbl := xtbl_at 333 rfl rfl
set_option maxRecDepth 20000 in
theorem kw_334 : Cond.methodLink "ThreePoints$Tape" 28 ⟨"java/lang/String", "length", "()I"⟩ ∈ xtbl := xtbl_at 334 (by decide +kernel) (by decide +kernel)
set_option maxRecDepth 20000 in
theorem kw_335 : Cond.instanceMethod ⟨"java/lang/String", "length", "()I"⟩ ∈ xtbl := xtbl_at 335 (by decide +kernel) (by decide +kernel)
set_option maxRecDepth 20000 in
theorem kw_336 : Cond.selects "java/lang/String" ⟨"java/lang/String", "length", "()I"⟩ ⟨"java/lang/String", "length", "()I"⟩ ∈ xtbl := xtbl_at 336 (by decide +kernel) (by decide +kernel)
set_option maxRecDepth 20000 in
theorem kw_337 : Cond.code ⟨"java/lang/String", "length", "()I"⟩ prog_15_method_54_code 1 (some .int) ∈ xtbl := xtbl_at 337 rfl rfl
set_option maxRecDepth 20000 in
theorem kw_338 : Cond.methodLink "java/lang/String" 335 ⟨"java/lang/String", "coder", "()B"⟩ ∈ xtbl := xtbl_at 338 (by decide +kernel) (by decide +kernel)
set_option maxRecDepth 20000 in
theorem kw_339 : Cond.instanceMethod ⟨"java/lang/String", "coder", "()B"⟩ ∈ xtbl := xtbl_at 339 (by decide +kernel) (by decide +kernel)
set_option maxRecDepth 20000 in
theorem kw_340 : Cond.selects "java/lang/String" ⟨"java/lang/String", "coder", "()B"⟩ ⟨"java/lang/String", "coder", "()B"⟩ ∈ xtbl := xtbl_at 340 (by decide +kernel) (by decide +kernel)
set_option maxRecDepth 20000 in
theorem kw_341 : Cond.code ⟨"java/lang/String", "coder", "()B"⟩ prog_15_method_152_code 1 (some .byte) ∈ xtbl := xtbl_at 341 rfl rfl
set_option maxRecDepth 20000 in
theorem kw_342 : Cond.fieldLink "java/lang/String" 38 "java/lang/String" "COMPACT_STRINGS" "Z" ∈ xtbl := xtbl_at 342 (by decide +kernel) (by decide +kernel)
set_option maxRecDepth 20000 in
theorem kw_344 : Cond.methodLink "ThreePoints$Tape" 34 ⟨"java/lang/String", "charAt", "(I)C"⟩ ∈ xtbl := xtbl_at 344 (by decide +kernel) (by decide +kernel)
set_option maxRecDepth 20000 in
theorem kw_345 : Cond.instanceMethod ⟨"java/lang/String", "charAt", "(I)C"⟩ ∈ xtbl := xtbl_at 345 (by decide +kernel) (by decide +kernel)
set_option maxRecDepth 20000 in
theorem kw_346 : Cond.selects "java/lang/String" ⟨"java/lang/String", "charAt", "(I)C"⟩ ⟨"java/lang/String", "charAt", "(I)C"⟩ ∈ xtbl := xtbl_at 346 (by decide +kernel) (by decide +kernel)
set_option maxRecDepth 20000 in
theorem kw_347 : Cond.code ⟨"java/lang/String", "charAt", "(I)C"⟩ prog_15_method_56_code 2 (some .char) ∈ xtbl := xtbl_at 347 rfl rfl
set_option maxRecDepth 20000 in
theorem kw_348 : Cond.methodLink "java/lang/String" 492 ⟨"java/lang/String", "isLatin1", "()Z"⟩ ∈ xtbl := xtbl_at 348 (by decide +kernel) (by decide +kernel)
set_option maxRecDepth 20000 in
theorem kw_349 : Cond.instanceMethod ⟨"java/lang/String", "isLatin1", "()Z"⟩ ∈ xtbl := xtbl_at 349 (by decide +kernel) (by decide +kernel)
set_option maxRecDepth 20000 in
theorem kw_350 : Cond.selects "java/lang/String" ⟨"java/lang/String", "isLatin1", "()Z"⟩ ⟨"java/lang/String", "isLatin1", "()Z"⟩ ∈ xtbl := xtbl_at 350 (by decide +kernel) (by decide +kernel)
set_option maxRecDepth 20000 in
theorem kw_351 : Cond.code ⟨"java/lang/String", "isLatin1", "()Z"⟩ prog_15_method_154_code 1 (some .boolean) ∈ xtbl := xtbl_at 351 rfl rfl
set_option maxRecDepth 20000 in
theorem kw_352 : Cond.methodLink "java/lang/String" 495 ⟨"java/lang/StringLatin1", "charAt", "([BI)C"⟩ ∈ xtbl := xtbl_at 352 (by decide +kernel) (by decide +kernel)
set_option maxRecDepth 20000 in
theorem kw_353 : Cond.static ⟨"java/lang/StringLatin1", "charAt", "([BI)C"⟩ ∈ xtbl := xtbl_at 353 (by decide +kernel) (by decide +kernel)
set_option maxRecDepth 20000 in
theorem kw_354 : Cond.code ⟨"java/lang/StringLatin1", "charAt", "([BI)C"⟩ prog_16_method_2_code 2 (some .char) ∈ xtbl := xtbl_at 354 rfl rfl
set_option maxRecDepth 20000 in
theorem kw_355 : Cond.methodLink "java/lang/StringLatin1" 9 ⟨"java/lang/String", "checkIndex", "(II)V"⟩ ∈ xtbl := xtbl_at 355 (by decide +kernel) (by decide +kernel)
set_option maxRecDepth 20000 in
theorem kw_356 : Cond.static ⟨"java/lang/String", "checkIndex", "(II)V"⟩ ∈ xtbl := xtbl_at 356 (by decide +kernel) (by decide +kernel)
set_option maxRecDepth 20000 in
theorem kw_357 : Cond.code ⟨"java/lang/String", "checkIndex", "(II)V"⟩ prog_15_method_155_code 2 none ∈ xtbl := xtbl_at 357 rfl rfl
set_option maxRecDepth 20000 in
theorem kw_358 : Cond.fieldLink "java/lang/String" 1053 "jdk/internal/util/Preconditions" "SIOOBE_FORMATTER" "Ljava/util/function/BiFunction;" ∈ xtbl := xtbl_at 358 (by decide +kernel) (by decide +kernel)
set_option maxRecDepth 20000 in
theorem kw_360 : Cond.methodLink "java/lang/String" 1059 ⟨"jdk/internal/util/Preconditions", "checkIndex", "(IILjava/util/function/BiFunction;)I"⟩ ∈ xtbl := xtbl_at 360 (by decide +kernel) (by decide +kernel)
set_option maxRecDepth 20000 in
theorem kw_361 : Cond.static ⟨"jdk/internal/util/Preconditions", "checkIndex", "(IILjava/util/function/BiFunction;)I"⟩ ∈ xtbl := xtbl_at 361 (by decide +kernel) (by decide +kernel)
set_option maxRecDepth 20000 in
theorem kw_362 : Cond.code ⟨"jdk/internal/util/Preconditions", "checkIndex", "(IILjava/util/function/BiFunction;)I"⟩ prog_20_method_11_code 3 (some .int) ∈ xtbl := xtbl_at 362 rfl rfl
set_option maxRecDepth 20000 in
theorem kw_382 : Cond.methodLink "ThreePoints$Tape" 38 ⟨"ThreePoints$Tape", "add", "(I)V"⟩ ∈ xtbl := xtbl_at 382 (by decide +kernel) (by decide +kernel)
set_option maxRecDepth 20000 in
theorem kw_383 : Cond.instanceMethod ⟨"ThreePoints$Tape", "add", "(I)V"⟩ ∈ xtbl := xtbl_at 383 (by decide +kernel) (by decide +kernel)
set_option maxRecDepth 20000 in
theorem kw_384 : Cond.selects "ThreePoints$Tape" ⟨"ThreePoints$Tape", "add", "(I)V"⟩ ⟨"ThreePoints$Tape", "add", "(I)V"⟩ ∈ xtbl := xtbl_at 384 (by decide +kernel) (by decide +kernel)
set_option maxRecDepth 20000 in
theorem kw_385 : Cond.code ⟨"ThreePoints$Tape", "add", "(I)V"⟩ prog_7_method_3_code 2 none ∈ xtbl := xtbl_at 385 rfl rfl
set_option maxRecDepth 20000 in
theorem kw_386 : Cond.methodLink "ThreePoints" 66 ⟨"ThreePoints$Reader", "faultOfTape", "()I"⟩ ∈ xtbl := xtbl_at 386 (by decide +kernel) (by decide +kernel)
set_option maxRecDepth 20000 in
theorem kw_387 : Cond.instanceMethod ⟨"ThreePoints$Reader", "faultOfTape", "()I"⟩ ∈ xtbl := xtbl_at 387 (by decide +kernel) (by decide +kernel)
set_option maxRecDepth 20000 in
theorem kw_388 : Cond.selects "ThreePoints$Reader" ⟨"ThreePoints$Reader", "faultOfTape", "()I"⟩ ⟨"ThreePoints$Reader", "faultOfTape", "()I"⟩ ∈ xtbl := xtbl_at 388 (by decide +kernel) (by decide +kernel)
set_option maxRecDepth 20000 in
theorem kw_389 : Cond.code ⟨"ThreePoints$Reader", "faultOfTape", "()I"⟩ prog_3_method_2_code 2 (some .int) ∈ xtbl := xtbl_at 389 rfl rfl
set_option maxRecDepth 20000 in
theorem kw_390 : Cond.methodLink "ThreePoints$Reader" 25 ⟨"ThreePoints$Tape", "split", "()V"⟩ ∈ xtbl := xtbl_at 390 (by decide +kernel) (by decide +kernel)
set_option maxRecDepth 20000 in
theorem kw_391 : Cond.instanceMethod ⟨"ThreePoints$Tape", "split", "()V"⟩ ∈ xtbl := xtbl_at 391 (by decide +kernel) (by decide +kernel)
set_option maxRecDepth 20000 in
theorem kw_392 : Cond.selects "ThreePoints$Tape" ⟨"ThreePoints$Tape", "split", "()V"⟩ ⟨"ThreePoints$Tape", "split", "()V"⟩ ∈ xtbl := xtbl_at 392 (by decide +kernel) (by decide +kernel)
set_option maxRecDepth 20000 in
theorem kw_393 : Cond.code ⟨"ThreePoints$Tape", "split", "()V"⟩ prog_7_method_8_code 3 none ∈ xtbl := xtbl_at 393 rfl rfl
set_option maxRecDepth 20000 in
theorem kw_394 : Cond.methodLink "ThreePoints$Tape" 45 ⟨"ThreePoints$Tape", "endOfToken", "(I)I"⟩ ∈ xtbl := xtbl_at 394 (by decide +kernel) (by decide +kernel)
set_option maxRecDepth 20000 in
theorem kw_396 : Cond.instanceMethod ⟨"ThreePoints$Tape", "endOfToken", "(I)I"⟩ ∈ xtbl := xtbl_at 396 (by decide +kernel) (by decide +kernel)
set_option maxRecDepth 20000 in
theorem kw_397 : Cond.code ⟨"ThreePoints$Tape", "endOfToken", "(I)I"⟩ prog_7_method_13_code 3 (some .int) ∈ xtbl := xtbl_at 397 rfl rfl
set_option maxRecDepth 20000 in
theorem kw_398 : Cond.methodLink "ThreePoints$Tape" 49 ⟨"ThreePoints$Tape", "byteAt", "(I)I"⟩ ∈ xtbl := xtbl_at 398 (by decide +kernel) (by decide +kernel)
set_option maxRecDepth 20000 in
theorem kw_400 : Cond.instanceMethod ⟨"ThreePoints$Tape", "byteAt", "(I)I"⟩ ∈ xtbl := xtbl_at 400 (by decide +kernel) (by decide +kernel)
set_option maxRecDepth 20000 in
theorem kw_401 : Cond.code ⟨"ThreePoints$Tape", "byteAt", "(I)I"⟩ prog_7_method_9_code 2 (some .int) ∈ xtbl := xtbl_at 401 rfl rfl
set_option maxRecDepth 20000 in
theorem kw_402 : Cond.methodLink "ThreePoints$Tape" 74 ⟨"ThreePoints$Tape", "isLetter", "(I)Z"⟩ ∈ xtbl := xtbl_at 402 (by decide +kernel) (by decide +kernel)
set_option maxRecDepth 20000 in
theorem kw_403 : Cond.static ⟨"ThreePoints$Tape", "isLetter", "(I)Z"⟩ ∈ xtbl := xtbl_at 403 (by decide +kernel) (by decide +kernel)
set_option maxRecDepth 20000 in
theorem kw_404 : Cond.code ⟨"ThreePoints$Tape", "isLetter", "(I)Z"⟩ prog_7_method_11_code 1 (some .boolean) ∈ xtbl := xtbl_at 404 rfl rfl
set_option maxRecDepth 20000 in
theorem kw_405 : Cond.methodLink "ThreePoints$Tape" 56 ⟨"ThreePoints$Tape", "isDigit", "(I)Z"⟩ ∈ xtbl := xtbl_at 405 (by decide +kernel) (by decide +kernel)
set_option maxRecDepth 20000 in
theorem kw_406 : Cond.static ⟨"ThreePoints$Tape", "isDigit", "(I)Z"⟩ ∈ xtbl := xtbl_at 406 (by decide +kernel) (by decide +kernel)
set_option maxRecDepth 20000 in
theorem kw_407 : Cond.code ⟨"ThreePoints$Tape", "isDigit", "(I)Z"⟩ prog_7_method_12_code 1 (some .boolean) ∈ xtbl := xtbl_at 407 rfl rfl
set_option maxRecDepth 20000 in
theorem kw_408 : Cond.methodLink "ThreePoints$Tape" 52 ⟨"ThreePoints$Tape", "isBlank", "(I)Z"⟩ ∈ xtbl := xtbl_at 408 (by decide +kernel) (by decide +kernel)
set_option maxRecDepth 20000 in
theorem kw_409 : Cond.static ⟨"ThreePoints$Tape", "isBlank", "(I)Z"⟩ ∈ xtbl := xtbl_at 409 (by decide +kernel) (by decide +kernel)
set_option maxRecDepth 20000 in
theorem kw_410 : Cond.code ⟨"ThreePoints$Tape", "isBlank", "(I)Z"⟩ prog_7_method_10_code 1 (some .boolean) ∈ xtbl := xtbl_at 410 rfl rfl
set_option maxRecDepth 20000 in
theorem kw_411 : Cond.methodLink "ThreePoints$Tape" 59 ⟨"ThreePoints$Tape", "numberAt", "(II)I"⟩ ∈ xtbl := xtbl_at 411 (by decide +kernel) (by decide +kernel)
set_option maxRecDepth 20000 in
theorem kw_413 : Cond.instanceMethod ⟨"ThreePoints$Tape", "numberAt", "(II)I"⟩ ∈ xtbl := xtbl_at 413 (by decide +kernel) (by decide +kernel)
set_option maxRecDepth 20000 in
theorem kw_414 : Cond.code ⟨"ThreePoints$Tape", "numberAt", "(II)I"⟩ prog_7_method_15_code 5 (some .int) ∈ xtbl := xtbl_at 414 rfl rfl
set_option maxRecDepth 20000 in
theorem kw_415 : Cond.methodLink "ThreePoints$Tape" 63 ⟨"ThreePoints$Tape", "nameAt", "(II)I"⟩ ∈ xtbl := xtbl_at 415 (by decide +kernel) (by decide +kernel)
set_option maxRecDepth 20000 in
theorem kw_417 : Cond.instanceMethod ⟨"ThreePoints$Tape", "nameAt", "(II)I"⟩ ∈ xtbl := xtbl_at 417 (by decide +kernel) (by decide +kernel)
set_option maxRecDepth 20000 in
theorem kw_418 : Cond.code ⟨"ThreePoints$Tape", "nameAt", "(II)I"⟩ prog_7_method_17_code 3 (some .int) ∈ xtbl := xtbl_at 418 rfl rfl
set_option maxRecDepth 20000 in
theorem kw_420 : Cond.methodLink "ThreePoints$Tape" 87 ⟨"ThreePoints$Tape", "spells", "(IILjava/lang/String;)Z"⟩ ∈ xtbl := xtbl_at 420 (by decide +kernel) (by decide +kernel)
set_option maxRecDepth 20000 in
theorem kw_422 : Cond.instanceMethod ⟨"ThreePoints$Tape", "spells", "(IILjava/lang/String;)Z"⟩ ∈ xtbl := xtbl_at 422 (by decide +kernel) (by decide +kernel)
set_option maxRecDepth 20000 in
theorem kw_423 : Cond.code ⟨"ThreePoints$Tape", "spells", "(IILjava/lang/String;)Z"⟩ prog_7_method_18_code 5 (some .boolean) ∈ xtbl := xtbl_at 423 rfl rfl
set_option maxRecDepth 20000 in
theorem kw_429 : Cond.methodLink "ThreePoints$Tape" 66 ⟨"ThreePoints$Tape", "kindAt", "(II)I"⟩ ∈ xtbl := xtbl_at 429 (by decide +kernel) (by decide +kernel)
set_option maxRecDepth 20000 in
theorem kw_431 : Cond.instanceMethod ⟨"ThreePoints$Tape", "kindAt", "(II)I"⟩ ∈ xtbl := xtbl_at 431 (by decide +kernel) (by decide +kernel)
set_option maxRecDepth 20000 in
theorem kw_432 : Cond.code ⟨"ThreePoints$Tape", "kindAt", "(II)I"⟩ prog_7_method_14_code 4 (some .int) ∈ xtbl := xtbl_at 432 rfl rfl
set_option maxRecDepth 20000 in
theorem kw_433 : Cond.methodLink "ThreePoints$Tape" 77 ⟨"ThreePoints$Tape", "wordKindAt", "(II)I"⟩ ∈ xtbl := xtbl_at 433 (by decide +kernel) (by decide +kernel)
set_option maxRecDepth 20000 in
theorem kw_435 : Cond.instanceMethod ⟨"ThreePoints$Tape", "wordKindAt", "(II)I"⟩ ∈ xtbl := xtbl_at 435 (by decide +kernel) (by decide +kernel)
set_option maxRecDepth 20000 in
theorem kw_436 : Cond.code ⟨"ThreePoints$Tape", "wordKindAt", "(II)I"⟩ prog_7_method_16_code 3 (some .int) ∈ xtbl := xtbl_at 436 rfl rfl
set_option maxRecDepth 20000 in
theorem kw_444 : Cond.methodLink "ThreePoints$Tape" 82 ⟨"java/lang/String", "indexOf", "(I)I"⟩ ∈ xtbl := xtbl_at 444 (by decide +kernel) (by decide +kernel)
set_option maxRecDepth 20000 in
theorem kw_445 : Cond.instanceMethod ⟨"java/lang/String", "indexOf", "(I)I"⟩ ∈ xtbl := xtbl_at 445 (by decide +kernel) (by decide +kernel)
set_option maxRecDepth 20000 in
theorem kw_446 : Cond.selects "java/lang/String" ⟨"java/lang/String", "indexOf", "(I)I"⟩ ⟨"java/lang/String", "indexOf", "(I)I"⟩ ∈ xtbl := xtbl_at 446 (by decide +kernel) (by decide +kernel)
set_option maxRecDepth 20000 in
theorem kw_447 : Cond.code ⟨"java/lang/String", "indexOf", "(I)I"⟩ prog_15_method_79_code 2 (some .int) ∈ xtbl := xtbl_at 447 rfl rfl
set_option maxRecDepth 20000 in
theorem kw_448 : Cond.methodLink "java/lang/String" 633 ⟨"java/lang/String", "indexOf", "(II)I"⟩ ∈ xtbl := xtbl_at 448 (by decide +kernel) (by decide +kernel)
set_option maxRecDepth 20000 in
theorem kw_449 : Cond.instanceMethod ⟨"java/lang/String", "indexOf", "(II)I"⟩ ∈ xtbl := xtbl_at 449 (by decide +kernel) (by decide +kernel)
set_option maxRecDepth 20000 in
theorem kw_450 : Cond.selects "java/lang/String" ⟨"java/lang/String", "indexOf", "(II)I"⟩ ⟨"java/lang/String", "indexOf", "(II)I"⟩ ∈ xtbl := xtbl_at 450 (by decide +kernel) (by decide +kernel)
set_option maxRecDepth 20000 in
theorem kw_451 : Cond.code ⟨"java/lang/String", "indexOf", "(II)I"⟩ prog_15_method_80_code 3 (some .int) ∈ xtbl := xtbl_at 451 rfl rfl
set_option maxRecDepth 20000 in
theorem kw_452 : Cond.methodLink "java/lang/String" 505 ⟨"java/lang/String", "length", "()I"⟩ ∈ xtbl := xtbl_at 452 (by decide +kernel) (by decide +kernel)
set_option maxRecDepth 20000 in
theorem kw_453 : Cond.methodLink "java/lang/String" 637 ⟨"java/lang/StringLatin1", "indexOf", "([BIII)I"⟩ ∈ xtbl := xtbl_at 453 (by decide +kernel) (by decide +kernel)
set_option maxRecDepth 20000 in
theorem kw_454 : Cond.static ⟨"java/lang/StringLatin1", "indexOf", "([BIII)I"⟩ ∈ xtbl := xtbl_at 454 (by decide +kernel) (by decide +kernel)
set_option maxRecDepth 20000 in
theorem kw_455 : Cond.code ⟨"java/lang/StringLatin1", "indexOf", "([BIII)I"⟩ prog_16_method_22_code 4 (some .int) ∈ xtbl := xtbl_at 455 rfl rfl
set_option maxRecDepth 20000 in
theorem kw_456 : Cond.methodLink "java/lang/StringLatin1" 88 ⟨"java/lang/StringLatin1", "canEncode", "(I)Z"⟩ ∈ xtbl := xtbl_at 456 (by decide +kernel) (by decide +kernel)
set_option maxRecDepth 20000 in
theorem kw_457 : Cond.static ⟨"java/lang/StringLatin1", "canEncode", "(I)Z"⟩ ∈ xtbl := xtbl_at 457 (by decide +kernel) (by decide +kernel)
set_option maxRecDepth 20000 in
theorem kw_458 : Cond.code ⟨"java/lang/StringLatin1", "canEncode", "(I)Z"⟩ prog_16_method_4_code 1 (some .boolean) ∈ xtbl := xtbl_at 458 rfl rfl
set_option maxRecDepth 20000 in
theorem kw_459 : Cond.methodLink "java/lang/StringLatin1" 92 ⟨"java/lang/Math", "max", "(II)I"⟩ ∈ xtbl := xtbl_at 459 (by decide +kernel) (by decide +kernel)
set_option maxRecDepth 20000 in
theorem kw_460 : Cond.static ⟨"java/lang/Math", "max", "(II)I"⟩ ∈ xtbl := xtbl_at 460 (by decide +kernel) (by decide +kernel)
set_option maxRecDepth 20000 in
theorem kw_461 : Cond.code ⟨"java/lang/Math", "max", "(II)I"⟩ prog_14_method_65_code 2 (some .int) ∈ xtbl := xtbl_at 461 rfl rfl
set_option maxRecDepth 20000 in
theorem kw_462 : Cond.methodLink "java/lang/StringLatin1" 38 ⟨"java/lang/Math", "min", "(II)I"⟩ ∈ xtbl := xtbl_at 462 (by decide +kernel) (by decide +kernel)
set_option maxRecDepth 20000 in
theorem kw_463 : Cond.static ⟨"java/lang/Math", "min", "(II)I"⟩ ∈ xtbl := xtbl_at 463 (by decide +kernel) (by decide +kernel)
set_option maxRecDepth 20000 in
theorem kw_464 : Cond.code ⟨"java/lang/Math", "min", "(II)I"⟩ prog_14_method_69_code 2 (some .int) ∈ xtbl := xtbl_at 464 rfl rfl
set_option maxRecDepth 20000 in
theorem kw_465 : Cond.methodLink "java/lang/StringLatin1" 95 ⟨"java/lang/StringLatin1", "indexOfChar", "([BIII)I"⟩ ∈ xtbl := xtbl_at 465 (by decide +kernel) (by decide +kernel)
set_option maxRecDepth 20000 in
theorem kw_466 : Cond.static ⟨"java/lang/StringLatin1", "indexOfChar", "([BIII)I"⟩ ∈ xtbl := xtbl_at 466 (by decide +kernel) (by decide +kernel)
set_option maxRecDepth 20000 in
theorem kw_467 : Cond.code ⟨"java/lang/StringLatin1", "indexOfChar", "([BIII)I"⟩ prog_16_method_23_code 6 (some .int) ∈ xtbl := xtbl_at 467 rfl rfl
set_option maxRecDepth 20000 in
theorem kw_503 : Cond.methodLink "ThreePoints$Tape" 69 ⟨"java/lang/Math", "max", "(II)I"⟩ ∈ xtbl := xtbl_at 503 (by decide +kernel) (by decide +kernel)
set_option maxRecDepth 20000 in
theorem kw_504 : Cond.methodLink "ThreePoints$Reader" 28 ⟨"ThreePoints$Text", "clear", "()V"⟩ ∈ xtbl := xtbl_at 504 (by decide +kernel) (by decide +kernel)
set_option maxRecDepth 20000 in
theorem kw_505 : Cond.instanceMethod ⟨"ThreePoints$Text", "clear", "()V"⟩ ∈ xtbl := xtbl_at 505 (by decide +kernel) (by decide +kernel)
set_option maxRecDepth 20000 in
theorem kw_506 : Cond.selects "ThreePoints$Text" ⟨"ThreePoints$Text", "clear", "()V"⟩ ⟨"ThreePoints$Text", "clear", "()V"⟩ ∈ xtbl := xtbl_at 506 (by decide +kernel) (by decide +kernel)
set_option maxRecDepth 20000 in
theorem kw_507 : Cond.code ⟨"ThreePoints$Text", "clear", "()V"⟩ prog_8_method_2_code 1 none ∈ xtbl := xtbl_at 507 rfl rfl
set_option maxRecDepth 20000 in
theorem kw_508 : Cond.methodLink "ThreePoints$Text" 25 ⟨"java/util/Arrays", "fill", "([II)V"⟩ ∈ xtbl := xtbl_at 508 (by decide +kernel) (by decide +kernel)
set_option maxRecDepth 20000 in
theorem kw_509 : Cond.static ⟨"java/util/Arrays", "fill", "([II)V"⟩ ∈ xtbl := xtbl_at 509 (by decide +kernel) (by decide +kernel)
set_option maxRecDepth 20000 in
theorem kw_510 : Cond.code ⟨"java/util/Arrays", "fill", "([II)V"⟩ prog_19_method_103_code 4 none ∈ xtbl := xtbl_at 510 rfl rfl
set_option maxRecDepth 20000 in
theorem kw_511 : Cond.methodLink "ThreePoints$Reader" 35 ⟨"ThreePoints$Reader", "goTo", "(I)V"⟩ ∈ xtbl := xtbl_at 511 (by decide +kernel) (by decide +kernel)
set_option maxRecDepth 20000 in
theorem kw_513 : Cond.instanceMethod ⟨"ThreePoints$Reader", "goTo", "(I)V"⟩ ∈ xtbl := xtbl_at 513 (by decide +kernel) (by decide +kernel)
set_option maxRecDepth 20000 in
theorem kw_514 : Cond.code ⟨"ThreePoints$Reader", "goTo", "(I)V"⟩ prog_3_method_3_code 2 none ∈ xtbl := xtbl_at 514 rfl rfl
set_option maxRecDepth 20000 in
theorem kw_515 : Cond.methodLink "ThreePoints$Reader" 53 ⟨"ThreePoints$Tape", "kindOf", "(I)I"⟩ ∈ xtbl := xtbl_at 515 (by decide +kernel) (by decide +kernel)
set_option maxRecDepth 20000 in
theorem kw_516 : Cond.instanceMethod ⟨"ThreePoints$Tape", "kindOf", "(I)I"⟩ ∈ xtbl := xtbl_at 516 (by decide +kernel) (by decide +kernel)
set_option maxRecDepth 20000 in
theorem kw_517 : Cond.selects "ThreePoints$Tape" ⟨"ThreePoints$Tape", "kindOf", "(I)I"⟩ ⟨"ThreePoints$Tape", "kindOf", "(I)I"⟩ ∈ xtbl := xtbl_at 517 (by decide +kernel) (by decide +kernel)
set_option maxRecDepth 20000 in
theorem kw_518 : Cond.code ⟨"ThreePoints$Tape", "kindOf", "(I)I"⟩ prog_7_method_5_code 2 (some .int) ∈ xtbl := xtbl_at 518 rfl rfl
set_option maxRecDepth 20000 in
theorem kw_519 : Cond.methodLink "ThreePoints$Reader" 39 ⟨"ThreePoints$Reader", "readPart", "(II)Z"⟩ ∈ xtbl := xtbl_at 519 (by decide +kernel) (by decide +kernel)
set_option maxRecDepth 20000 in
theorem kw_521 : Cond.instanceMethod ⟨"ThreePoints$Reader", "readPart", "(II)Z"⟩ ∈ xtbl := xtbl_at 521 (by decide +kernel) (by decide +kernel)
set_option maxRecDepth 20000 in
theorem kw_522 : Cond.code ⟨"ThreePoints$Reader", "readPart", "(II)Z"⟩ prog_3_method_4_code 3 (some .boolean) ∈ xtbl := xtbl_at 522 rfl rfl
set_option maxRecDepth 20000 in
theorem kw_523 : Cond.methodLink "ThreePoints$Reader" 56 ⟨"ThreePoints$Reader", "readOr", "()Z"⟩ ∈ xtbl := xtbl_at 523 (by decide +kernel) (by decide +kernel)
set_option maxRecDepth 20000 in
theorem kw_525 : Cond.instanceMethod ⟨"ThreePoints$Reader", "readOr", "()Z"⟩ ∈ xtbl := xtbl_at 525 (by decide +kernel) (by decide +kernel)
set_option maxRecDepth 20000 in
theorem kw_526 : Cond.code ⟨"ThreePoints$Reader", "readOr", "()Z"⟩ prog_3_method_5_code 2 (some .boolean) ∈ xtbl := xtbl_at 526 rfl rfl
set_option maxRecDepth 20000 in
theorem kw_527 : Cond.methodLink "ThreePoints$Reader" 63 ⟨"ThreePoints$Reader", "readAnd", "()Z"⟩ ∈ xtbl := xtbl_at 527 (by decide +kernel) (by decide +kernel)
set_option maxRecDepth 20000 in
theorem kw_529 : Cond.instanceMethod ⟨"ThreePoints$Reader", "readAnd", "()Z"⟩ ∈ xtbl := xtbl_at 529 (by decide +kernel) (by decide +kernel)
set_option maxRecDepth 20000 in
theorem kw_530 : Cond.code ⟨"ThreePoints$Reader", "readAnd", "()Z"⟩ prog_3_method_6_code 2 (some .boolean) ∈ xtbl := xtbl_at 530 rfl rfl
set_option maxRecDepth 20000 in
theorem kw_531 : Cond.methodLink "ThreePoints$Reader" 69 ⟨"ThreePoints$Reader", "readNot", "()Z"⟩ ∈ xtbl := xtbl_at 531 (by decide +kernel) (by decide +kernel)
set_option maxRecDepth 20000 in
theorem kw_533 : Cond.instanceMethod ⟨"ThreePoints$Reader", "readNot", "()Z"⟩ ∈ xtbl := xtbl_at 533 (by decide +kernel) (by decide +kernel)
set_option maxRecDepth 20000 in
theorem kw_534 : Cond.code ⟨"ThreePoints$Reader", "readNot", "()Z"⟩ prog_3_method_7_code 1 (some .boolean) ∈ xtbl := xtbl_at 534 rfl rfl
set_option maxRecDepth 20000 in
theorem kw_535 : Cond.methodLink "ThreePoints$Reader" 72 ⟨"ThreePoints$Reader", "readComparison", "()Z"⟩ ∈ xtbl := xtbl_at 535 (by decide +kernel) (by decide +kernel)
set_option maxRecDepth 20000 in
theorem kw_537 : Cond.instanceMethod ⟨"ThreePoints$Reader", "readComparison", "()Z"⟩ ∈ xtbl := xtbl_at 537 (by decide +kernel) (by decide +kernel)
set_option maxRecDepth 20000 in
theorem kw_538 : Cond.code ⟨"ThreePoints$Reader", "readComparison", "()Z"⟩ prog_3_method_8_code 2 (some .boolean) ∈ xtbl := xtbl_at 538 rfl rfl
set_option maxRecDepth 20000 in
theorem kw_539 : Cond.methodLink "ThreePoints$Reader" 78 ⟨"ThreePoints$Reader", "readSum", "()Z"⟩ ∈ xtbl := xtbl_at 539 (by decide +kernel) (by decide +kernel)
set_option maxRecDepth 20000 in
theorem kw_541 : Cond.instanceMethod ⟨"ThreePoints$Reader", "readSum", "()Z"⟩ ∈ xtbl := xtbl_at 541 (by decide +kernel) (by decide +kernel)
set_option maxRecDepth 20000 in
theorem kw_542 : Cond.code ⟨"ThreePoints$Reader", "readSum", "()Z"⟩ prog_3_method_9_code 3 (some .boolean) ∈ xtbl := xtbl_at 542 rfl rfl
set_option maxRecDepth 20000 in
theorem kw_543 : Cond.methodLink "ThreePoints$Reader" 81 ⟨"ThreePoints$Reader", "readTerm", "()Z"⟩ ∈ xtbl := xtbl_at 543 (by decide +kernel) (by decide +kernel)
set_option maxRecDepth 20000 in
theorem kw_545 : Cond.instanceMethod ⟨"ThreePoints$Reader", "readTerm", "()Z"⟩ ∈ xtbl := xtbl_at 545 (by decide +kernel) (by decide +kernel)
set_option maxRecDepth 20000 in
theorem kw_546 : Cond.code ⟨"ThreePoints$Reader", "readTerm", "()Z"⟩ prog_3_method_10_code 2 (some .boolean) ∈ xtbl := xtbl_at 546 rfl rfl
set_option maxRecDepth 20000 in
theorem kw_547 : Cond.methodLink "ThreePoints$Reader" 84 ⟨"ThreePoints$Reader", "readOne", "()Z"⟩ ∈ xtbl := xtbl_at 547 (by decide +kernel) (by decide +kernel)
set_option maxRecDepth 20000 in
theorem kw_549 : Cond.instanceMethod ⟨"ThreePoints$Reader", "readOne", "()Z"⟩ ∈ xtbl := xtbl_at 549 (by decide +kernel) (by decide +kernel)
set_option maxRecDepth 20000 in
theorem kw_550 : Cond.code ⟨"ThreePoints$Reader", "readOne", "()Z"⟩ prog_3_method_11_code 1 (some .boolean) ∈ xtbl := xtbl_at 550 rfl rfl
set_option maxRecDepth 20000 in
theorem kw_551 : Cond.methodLink "ThreePoints$Reader" 87 ⟨"ThreePoints$Tape", "valueOf", "(I)I"⟩ ∈ xtbl := xtbl_at 551 (by decide +kernel) (by decide +kernel)
set_option maxRecDepth 20000 in
theorem kw_552 : Cond.instanceMethod ⟨"ThreePoints$Tape", "valueOf", "(I)I"⟩ ∈ xtbl := xtbl_at 552 (by decide +kernel) (by decide +kernel)
set_option maxRecDepth 20000 in
theorem kw_553 : Cond.selects "ThreePoints$Tape" ⟨"ThreePoints$Tape", "valueOf", "(I)I"⟩ ⟨"ThreePoints$Tape", "valueOf", "(I)I"⟩ ∈ xtbl := xtbl_at 553 (by decide +kernel) (by decide +kernel)
set_option maxRecDepth 20000 in
theorem kw_554 : Cond.code ⟨"ThreePoints$Tape", "valueOf", "(I)I"⟩ prog_7_method_6_code 2 (some .int) ∈ xtbl := xtbl_at 554 rfl rfl
set_option maxRecDepth 20000 in
theorem kw_555 : Cond.methodLink "ThreePoints$Reader" 66 ⟨"ThreePoints$Text", "put", "(I)V"⟩ ∈ xtbl := xtbl_at 555 (by decide +kernel) (by decide +kernel)
set_option maxRecDepth 20000 in
theorem kw_556 : Cond.instanceMethod ⟨"ThreePoints$Text", "put", "(I)V"⟩ ∈ xtbl := xtbl_at 556 (by decide +kernel) (by decide +kernel)
set_option maxRecDepth 20000 in
theorem kw_557 : Cond.selects "ThreePoints$Text" ⟨"ThreePoints$Text", "put", "(I)V"⟩ ⟨"ThreePoints$Text", "put", "(I)V"⟩ ∈ xtbl := xtbl_at 557 (by decide +kernel) (by decide +kernel)
set_option maxRecDepth 20000 in
theorem kw_558 : Cond.code ⟨"ThreePoints$Text", "put", "(I)V"⟩ prog_8_method_4_code 2 none ∈ xtbl := xtbl_at 558 rfl rfl
set_option maxRecDepth 20000 in
theorem kw_559 : Cond.methodLink "ThreePoints$Reader" 75 ⟨"ThreePoints$Reader", "mayOpen", "()Z"⟩ ∈ xtbl := xtbl_at 559 (by decide +kernel) (by decide +kernel)
set_option maxRecDepth 20000 in
theorem kw_561 : Cond.instanceMethod ⟨"ThreePoints$Reader", "mayOpen", "()Z"⟩ ∈ xtbl := xtbl_at 561 (by decide +kernel) (by decide +kernel)
set_option maxRecDepth 20000 in
theorem kw_562 : Cond.code ⟨"ThreePoints$Reader", "mayOpen", "()Z"⟩ prog_3_method_12_code 1 (some .boolean) ∈ xtbl := xtbl_at 562 rfl rfl
set_option maxRecDepth 20000 in
theorem kw_563 : Cond.methodLink "ThreePoints$Reader" 60 ⟨"ThreePoints$Text", "endPart", "(I)V"⟩ ∈ xtbl := xtbl_at 563 (by decide +kernel) (by decide +kernel)
set_option maxRecDepth 20000 in
theorem kw_564 : Cond.instanceMethod ⟨"ThreePoints$Text", "endPart", "(I)V"⟩ ∈ xtbl := xtbl_at 564 (by decide +kernel) (by decide +kernel)
set_option maxRecDepth 20000 in
theorem kw_565 : Cond.selects "ThreePoints$Text" ⟨"ThreePoints$Text", "endPart", "(I)V"⟩ ⟨"ThreePoints$Text", "endPart", "(I)V"⟩ ∈ xtbl := xtbl_at 565 (by decide +kernel) (by decide +kernel)
set_option maxRecDepth 20000 in
theorem kw_566 : Cond.code ⟨"ThreePoints$Text", "endPart", "(I)V"⟩ prog_8_method_5_code 2 none ∈ xtbl := xtbl_at 566 rfl rfl
set_option maxRecDepth 20000 in
theorem kw_567 : Cond.methodLink "ThreePoints$Reader" 49 ⟨"ThreePoints$Tape", "startOf", "(I)I"⟩ ∈ xtbl := xtbl_at 567 (by decide +kernel) (by decide +kernel)
set_option maxRecDepth 20000 in
theorem kw_568 : Cond.instanceMethod ⟨"ThreePoints$Tape", "startOf", "(I)I"⟩ ∈ xtbl := xtbl_at 568 (by decide +kernel) (by decide +kernel)
set_option maxRecDepth 20000 in
theorem kw_569 : Cond.selects "ThreePoints$Tape" ⟨"ThreePoints$Tape", "startOf", "(I)I"⟩ ⟨"ThreePoints$Tape", "startOf", "(I)I"⟩ ∈ xtbl := xtbl_at 569 (by decide +kernel) (by decide +kernel)
set_option maxRecDepth 20000 in
theorem kw_570 : Cond.code ⟨"ThreePoints$Tape", "startOf", "(I)I"⟩ prog_7_method_7_code 2 (some .int) ∈ xtbl := xtbl_at 570 rfl rfl
set_option maxRecDepth 20000 in
theorem kw_571 : Cond.methodLink "ThreePoints" 74 ⟨"ThreePoints$Text", "become", "(LThreePoints$Text;)V"⟩ ∈ xtbl := xtbl_at 571 (by decide +kernel) (by decide +kernel)
set_option maxRecDepth 20000 in
theorem kw_572 : Cond.instanceMethod ⟨"ThreePoints$Text", "become", "(LThreePoints$Text;)V"⟩ ∈ xtbl := xtbl_at 572 (by decide +kernel) (by decide +kernel)
set_option maxRecDepth 20000 in
theorem kw_573 : Cond.selects "ThreePoints$Text" ⟨"ThreePoints$Text", "become", "(LThreePoints$Text;)V"⟩ ⟨"ThreePoints$Text", "become", "(LThreePoints$Text;)V"⟩ ∈ xtbl := xtbl_at 573 (by decide +kernel) (by decide +kernel)
set_option maxRecDepth 20000 in
theorem kw_574 : Cond.code ⟨"ThreePoints$Text", "become", "(LThreePoints$Text;)V"⟩ prog_8_method_3_code 2 none ∈ xtbl := xtbl_at 574 rfl rfl
set_option maxRecDepth 20000 in
theorem kw_575 : Cond.methodLink "ThreePoints$Text" 31 arraycopyName ∈ xtbl := xtbl_at 575 (by decide +kernel) (by decide +kernel)
set_option maxRecDepth 20000 in
theorem kw_576 : Cond.static arraycopyName ∈ xtbl := xtbl_at 576 (by decide +kernel) (by decide +kernel)
set_option maxRecDepth 20000 in
theorem kw_577 : Cond.native arraycopyName ∈ xtbl := xtbl_at 577 (by decide +kernel) (by decide +kernel)
set_option maxRecDepth 20000 in
theorem kw_578 : Cond.methodLink "ThreePoints" 78 ⟨"ThreePoints$Tape", "clear", "()V"⟩ ∈ xtbl := xtbl_at 578 (by decide +kernel) (by decide +kernel)
set_option maxRecDepth 20000 in
theorem kw_579 : Cond.instanceMethod ⟨"ThreePoints$Tape", "clear", "()V"⟩ ∈ xtbl := xtbl_at 579 (by decide +kernel) (by decide +kernel)
set_option maxRecDepth 20000 in
theorem kw_580 : Cond.selects "ThreePoints$Tape" ⟨"ThreePoints$Tape", "clear", "()V"⟩ ⟨"ThreePoints$Tape", "clear", "()V"⟩ ∈ xtbl := xtbl_at 580 (by decide +kernel) (by decide +kernel)
set_option maxRecDepth 20000 in
theorem kw_581 : Cond.code ⟨"ThreePoints$Tape", "clear", "()V"⟩ prog_7_method_2_code 1 none ∈ xtbl := xtbl_at 581 rfl rfl
set_option maxRecDepth 20000 in
theorem kw_582 : Cond.fieldLink "ThreePoints" 10 "ThreePoints" "yard" "LThreePoints$Yard;" ∈ xtbl := xtbl_at 582 (by decide +kernel) (by decide +kernel)
set_option maxRecDepth 20000 in
theorem kw_583 : Cond.fieldLink "ThreePoints" 16 "ThreePoints" "kept" "LThreePoints$Yard;" ∈ xtbl := xtbl_at 583 (by decide +kernel) (by decide +kernel)
set_option maxRecDepth 20000 in
theorem kw_584 : Cond.fieldLink "ThreePoints" 239 "ThreePoints" "hasImage" "Z" ∈ xtbl := xtbl_at 584 (by decide +kernel) (by decide +kernel)
set_option maxRecDepth 20000 in
theorem kw_585 : Cond.fieldLink "ThreePoints" 22 "ThreePoints" "reader" "LThreePoints$Reader;" ∈ xtbl := xtbl_at 585 (by decide +kernel) (by decide +kernel)
set_option maxRecDepth 20000 in
theorem kw_586 : Cond.fieldLink "ThreePoints" 28 "ThreePoints" "texts" "[LThreePoints$Text;" ∈ xtbl := xtbl_at 586 (by decide +kernel) (by decide +kernel)
set_option maxRecDepth 20000 in
theorem kw_587 : Cond.fieldLink "ThreePoints" 81 "ThreePoints" "textCount" "I" ∈ xtbl := xtbl_at 587 (by decide +kernel) (by decide +kernel)
set_option maxRecDepth 20000 in
theorem kw_588 : Cond.fieldLink "ThreePoints" 34 "ThreePoints" "sheets" "[LThreePoints$Sheet;" ∈ xtbl := xtbl_at 588 (by decide +kernel) (by decide +kernel)
set_option maxRecDepth 20000 in
theorem kw_589 : Cond.fieldLink "ThreePoints" 41 "ThreePoints" "ride" "LThreePoints$Ride;" ∈ xtbl := xtbl_at 589 (by decide +kernel) (by decide +kernel)
set_option maxRecDepth 20000 in
theorem kw_590 : Cond.fieldLink "ThreePoints" 48 "ThreePoints" "search" "LThreePoints$Search;" ∈ xtbl := xtbl_at 590 (by decide +kernel) (by decide +kernel)
set_option maxRecDepth 20000 in
theorem kw_614 : Cond.code ⟨"ThreePoints", "count", "(I)I"⟩ prog_1_method_2_code 2 (some .int) ∈ xtbl := xtbl_at 614 rfl rfl
set_option maxRecDepth 20000 in
theorem kw_618 : Cond.code ⟨"ThreePoints", "set", "(II)I"⟩ prog_1_method_3_code 5 (some .int) ∈ xtbl := xtbl_at 618 rfl rfl
set_option maxRecDepth 20000 in
theorem kw_619 : Cond.methodLink "ThreePoints" 106 ⟨"ThreePoints", "isWithin", "(III)Z"⟩ ∈ xtbl := xtbl_at 619 (by decide +kernel) (by decide +kernel)
set_option maxRecDepth 20000 in
theorem kw_620 : Cond.static ⟨"ThreePoints", "isWithin", "(III)Z"⟩ ∈ xtbl := xtbl_at 620 (by decide +kernel) (by decide +kernel)
set_option maxRecDepth 20000 in
theorem kw_621 : Cond.code ⟨"ThreePoints", "isWithin", "(III)Z"⟩ prog_1_method_33_code 3 (some .boolean) ∈ xtbl := xtbl_at 621 rfl rfl
set_option maxRecDepth 20000 in
theorem kw_622 : Cond.methodLink "ThreePoints" 110 ⟨"ThreePoints", "think", "(I)V"⟩ ∈ xtbl := xtbl_at 622 (by decide +kernel) (by decide +kernel)
set_option maxRecDepth 20000 in
theorem kw_624 : Cond.instanceMethod ⟨"ThreePoints", "think", "(I)V"⟩ ∈ xtbl := xtbl_at 624 (by decide +kernel) (by decide +kernel)
set_option maxRecDepth 20000 in
theorem kw_625 : Cond.code ⟨"ThreePoints", "think", "(I)V"⟩ prog_1_method_43_code 2 none ∈ xtbl := xtbl_at 625 rfl rfl
set_option maxRecDepth 20000 in
theorem kw_626 : Cond.methodLink "ThreePoints" 287 ⟨"ThreePoints$Lane", "become", "(LThreePoints$Lane;)V"⟩ ∈ xtbl := xtbl_at 626 (by decide +kernel) (by decide +kernel)
set_option maxRecDepth 20000 in
theorem kw_627 : Cond.instanceMethod ⟨"ThreePoints$Lane", "become", "(LThreePoints$Lane;)V"⟩ ∈ xtbl := xtbl_at 627 (by decide +kernel) (by decide +kernel)
set_option maxRecDepth 20000 in
theorem kw_628 : Cond.selects "ThreePoints$Lane" ⟨"ThreePoints$Lane", "become", "(LThreePoints$Lane;)V"⟩ ⟨"ThreePoints$Lane", "become", "(LThreePoints$Lane;)V"⟩ ∈ xtbl := xtbl_at 628 (by decide +kernel) (by decide +kernel)
set_option maxRecDepth 20000 in
theorem kw_629 : Cond.code ⟨"ThreePoints$Lane", "become", "(LThreePoints$Lane;)V"⟩ prog_2_method_2_code 2 none ∈ xtbl := xtbl_at 629 rfl rfl
set_option maxRecDepth 20000 in
theorem kw_630 : Cond.methodLink "ThreePoints" 126 ⟨"ThreePoints", "isVehicle", "(I)Z"⟩ ∈ xtbl := xtbl_at 630 (by decide +kernel) (by decide +kernel)
set_option maxRecDepth 20000 in
theorem kw_632 : Cond.instanceMethod ⟨"ThreePoints", "isVehicle", "(I)Z"⟩ ∈ xtbl := xtbl_at 632 (by decide +kernel) (by decide +kernel)
set_option maxRecDepth 20000 in
theorem kw_633 : Cond.code ⟨"ThreePoints", "isVehicle", "(I)Z"⟩ prog_1_method_39_code 2 (some .boolean) ∈ xtbl := xtbl_at 633 rfl rfl
set_option maxRecDepth 20000 in
theorem kw_634 : Cond.methodLink "ThreePoints" 187 ⟨"ThreePoints$Vehicle", "become", "(LThreePoints$Vehicle;)V"⟩ ∈ xtbl := xtbl_at 634 (by decide +kernel) (by decide +kernel)
set_option maxRecDepth 20000 in
theorem kw_635 : Cond.instanceMethod ⟨"ThreePoints$Vehicle", "become", "(LThreePoints$Vehicle;)V"⟩ ∈ xtbl := xtbl_at 635 (by decide +kernel) (by decide +kernel)
set_option maxRecDepth 20000 in
theorem kw_636 : Cond.selects "ThreePoints$Vehicle" ⟨"ThreePoints$Vehicle", "become", "(LThreePoints$Vehicle;)V"⟩ ⟨"ThreePoints$Vehicle", "become", "(LThreePoints$Vehicle;)V"⟩ ∈ xtbl := xtbl_at 636 (by decide +kernel) (by decide +kernel)
set_option maxRecDepth 20000 in
theorem kw_637 : Cond.code ⟨"ThreePoints$Vehicle", "become", "(LThreePoints$Vehicle;)V"⟩ prog_9_method_2_code 2 none ∈ xtbl := xtbl_at 637 rfl rfl
set_option maxRecDepth 20000 in
theorem kw_638 : Cond.methodLink "ThreePoints" 115 ⟨"ThreePoints$Ride", "fitsNow", "()Z"⟩ ∈ xtbl := xtbl_at 638 (by decide +kernel) (by decide +kernel)
set_option maxRecDepth 20000 in
theorem kw_639 : Cond.instanceMethod ⟨"ThreePoints$Ride", "fitsNow", "()Z"⟩ ∈ xtbl := xtbl_at 639 (by decide +kernel) (by decide +kernel)
set_option maxRecDepth 20000 in
theorem kw_640 : Cond.selects "ThreePoints$Ride" ⟨"ThreePoints$Ride", "fitsNow", "()Z"⟩ ⟨"ThreePoints$Ride", "fitsNow", "()Z"⟩ ∈ xtbl := xtbl_at 640 (by decide +kernel) (by decide +kernel)
set_option maxRecDepth 20000 in
theorem kw_641 : Cond.code ⟨"ThreePoints$Ride", "fitsNow", "()Z"⟩ prog_4_method_5_code 1 (some .boolean) ∈ xtbl := xtbl_at 641 rfl rfl
set_option maxRecDepth 20000 in
theorem kw_642 : Cond.methodLink "ThreePoints$Ride" 82 ⟨"ThreePoints$Ride", "fits", "(II)Z"⟩ ∈ xtbl := xtbl_at 642 (by decide +kernel) (by decide +kernel)
set_option maxRecDepth 20000 in
theorem kw_643 : Cond.instanceMethod ⟨"ThreePoints$Ride", "fits", "(II)Z"⟩ ∈ xtbl := xtbl_at 643 (by decide +kernel) (by decide +kernel)
set_option maxRecDepth 20000 in
theorem kw_644 : Cond.selects "ThreePoints$Ride" ⟨"ThreePoints$Ride", "fits", "(II)Z"⟩ ⟨"ThreePoints$Ride", "fits", "(II)Z"⟩ ∈ xtbl := xtbl_at 644 (by decide +kernel) (by decide +kernel)
set_option maxRecDepth 20000 in
theorem kw_645 : Cond.code ⟨"ThreePoints$Ride", "fits", "(II)Z"⟩ prog_4_method_4_code 8 (some .boolean) ∈ xtbl := xtbl_at 645 rfl rfl
set_option maxRecDepth 20000 in
theorem kw_647 : Cond.static ⟨"ThreePoints", "across", "(I)I"⟩ ∈ xtbl := xtbl_at 647 (by decide +kernel) (by decide +kernel)
set_option maxRecDepth 20000 in
theorem kw_648 : Cond.code ⟨"ThreePoints", "across", "(I)I"⟩ prog_1_method_36_code 1 (some .int) ∈ xtbl := xtbl_at 648 rfl rfl
set_option maxRecDepth 20000 in
theorem kw_649 : Cond.fieldLink "ThreePoints" 284 "ThreePoints" "ACROSS" "[I" ∈ xtbl := xtbl_at 649 (by decide +kernel) (by decide +kernel)
set_option maxRecDepth 20000 in
theorem kw_651 : Cond.methodLink "ThreePoints$Ride" 53 ⟨"ThreePoints$Vehicle", "front", "()I"⟩ ∈ xtbl := xtbl_at 651 (by decide +kernel) (by decide +kernel)
set_option maxRecDepth 20000 in
theorem kw_652 : Cond.instanceMethod ⟨"ThreePoints$Vehicle", "front", "()I"⟩ ∈ xtbl := xtbl_at 652 (by decide +kernel) (by decide +kernel)
set_option maxRecDepth 20000 in
theorem kw_653 : Cond.selects "ThreePoints$Vehicle" ⟨"ThreePoints$Vehicle", "front", "()I"⟩ ⟨"ThreePoints$Vehicle", "front", "()I"⟩ ∈ xtbl := xtbl_at 653 (by decide +kernel) (by decide +kernel)
set_option maxRecDepth 20000 in
theorem kw_654 : Cond.code ⟨"ThreePoints$Vehicle", "front", "()I"⟩ prog_9_method_5_code 1 (some .int) ∈ xtbl := xtbl_at 654 rfl rfl
set_option maxRecDepth 20000 in
theorem kw_655 : Cond.methodLink "ThreePoints$Ride" 57 ⟨"ThreePoints$Vehicle", "behind", "()I"⟩ ∈ xtbl := xtbl_at 655 (by decide +kernel) (by decide +kernel)
set_option maxRecDepth 20000 in
theorem kw_656 : Cond.instanceMethod ⟨"ThreePoints$Vehicle", "behind", "()I"⟩ ∈ xtbl := xtbl_at 656 (by decide +kernel) (by decide +kernel)
set_option maxRecDepth 20000 in
theorem kw_657 : Cond.selects "ThreePoints$Vehicle" ⟨"ThreePoints$Vehicle", "behind", "()I"⟩ ⟨"ThreePoints$Vehicle", "behind", "()I"⟩ ∈ xtbl := xtbl_at 657 (by decide +kernel) (by decide +kernel)
set_option maxRecDepth 20000 in
theorem kw_658 : Cond.code ⟨"ThreePoints$Vehicle", "behind", "()I"⟩ prog_9_method_6_code 1 (some .int) ∈ xtbl := xtbl_at 658 rfl rfl
set_option maxRecDepth 20000 in
theorem kw_659 : Cond.methodLink "ThreePoints$Ride" 60 ⟨"java/lang/Math", "min", "(II)I"⟩ ∈ xtbl := xtbl_at 659 (by decide +kernel) (by decide +kernel)
set_option maxRecDepth 20000 in
theorem kw_660 : Cond.methodLink "ThreePoints$Ride" 46 ⟨"ThreePoints$Ride", "says", "(IIIII)I"⟩ ∈ xtbl := xtbl_at 660 (by decide +kernel) (by decide +kernel)
set_option maxRecDepth 20000 in
theorem kw_661 : Cond.instanceMethod ⟨"ThreePoints$Ride", "says", "(IIIII)I"⟩ ∈ xtbl := xtbl_at 661 (by decide +kernel) (by decide +kernel)
set_option maxRecDepth 20000 in
theorem kw_662 : Cond.selects "ThreePoints$Ride" ⟨"ThreePoints$Ride", "says", "(IIIII)I"⟩ ⟨"ThreePoints$Ride", "says", "(IIIII)I"⟩ ∈ xtbl := xtbl_at 662 (by decide +kernel) (by decide +kernel)
set_option maxRecDepth 20000 in
theorem kw_663 : Cond.code ⟨"ThreePoints$Ride", "says", "(IIIII)I"⟩ prog_4_method_2_code 6 (some .int) ∈ xtbl := xtbl_at 663 rfl rfl
set_option maxRecDepth 20000 in
theorem kw_664 : Cond.methodLink "ThreePoints$Ride" 42 ⟨"ThreePoints$Text", "says", "(I[I)I"⟩ ∈ xtbl := xtbl_at 664 (by decide +kernel) (by decide +kernel)
set_option maxRecDepth 20000 in
theorem kw_665 : Cond.instanceMethod ⟨"ThreePoints$Text", "says", "(I[I)I"⟩ ∈ xtbl := xtbl_at 665 (by decide +kernel) (by decide +kernel)
set_option maxRecDepth 20000 in
theorem kw_666 : Cond.selects "ThreePoints$Text" ⟨"ThreePoints$Text", "says", "(I[I)I"⟩ ⟨"ThreePoints$Text", "says", "(I[I)I"⟩ ∈ xtbl := xtbl_at 666 (by decide +kernel) (by decide +kernel)
set_option maxRecDepth 20000 in
theorem kw_667 : Cond.code ⟨"ThreePoints$Text", "says", "(I[I)I"⟩ prog_8_method_6_code 7 (some .int) ∈ xtbl := xtbl_at 667 rfl rfl
set_option maxRecDepth 20000 in
theorem kw_668 : Cond.methodLink "ThreePoints$Text" 37 ⟨"ThreePoints$Text", "operand", "(I[I)I"⟩ ∈ xtbl := xtbl_at 668 (by decide +kernel) (by decide +kernel)
set_option maxRecDepth 20000 in
theorem kw_669 : Cond.static ⟨"ThreePoints$Text", "operand", "(I[I)I"⟩ ∈ xtbl := xtbl_at 669 (by decide +kernel) (by decide +kernel)
set_option maxRecDepth 20000 in
theorem kw_670 : Cond.code ⟨"ThreePoints$Text", "operand", "(I[I)I"⟩ prog_8_method_7_code 3 (some .int) ∈ xtbl := xtbl_at 670 rfl rfl
set_option maxRecDepth 20000 in
theorem kw_671 : Cond.methodLink "ThreePoints$Text" 41 ⟨"ThreePoints$Text", "joined", "(III)I"⟩ ∈ xtbl := xtbl_at 671 (by decide +kernel) (by decide +kernel)
set_option maxRecDepth 20000 in
theorem kw_672 : Cond.static ⟨"ThreePoints$Text", "joined", "(III)I"⟩ ∈ xtbl := xtbl_at 672 (by decide +kernel) (by decide +kernel)
set_option maxRecDepth 20000 in
theorem kw_673 : Cond.code ⟨"ThreePoints$Text", "joined", "(III)I"⟩ prog_8_method_8_code 3 (some .int) ∈ xtbl := xtbl_at 673 rfl rfl
set_option maxRecDepth 20000 in
theorem kw_674 : Cond.fieldLink "ThreePoints$Text" 45 "ThreePoints$Text" "BOUNDS" "[I" ∈ xtbl := xtbl_at 674 (by decide +kernel) (by decide +kernel)
set_option maxRecDepth 20000 in
theorem kw_676 : Cond.methodLink "ThreePoints$Text" 48 ⟨"java/lang/Math", "min", "(II)I"⟩ ∈ xtbl := xtbl_at 676 (by decide +kernel) (by decide +kernel)
set_option maxRecDepth 20000 in
theorem kw_677 : Cond.methodLink "ThreePoints$Text" 54 ⟨"java/lang/Math", "max", "(II)I"⟩ ∈ xtbl := xtbl_at 677 (by decide +kernel) (by decide +kernel)
set_option maxRecDepth 20000 in
theorem kw_678 : Cond.methodLink "ThreePoints$Ride" 66 ⟨"java/lang/Math", "max", "(II)I"⟩ ∈ xtbl := xtbl_at 678 (by decide +kernel) (by decide +kernel)
set_option maxRecDepth 20000 in
theorem kw_679 : Cond.methodLink "ThreePoints$Ride" 69 ⟨"ThreePoints$Ride", "isAtOpening", "(I)Z"⟩ ∈ xtbl := xtbl_at 679 (by decide +kernel) (by decide +kernel)
set_option maxRecDepth 20000 in
theorem kw_680 : Cond.static ⟨"ThreePoints$Ride", "isAtOpening", "(I)Z"⟩ ∈ xtbl := xtbl_at 680 (by decide +kernel) (by decide +kernel)
set_option maxRecDepth 20000 in
theorem kw_681 : Cond.code ⟨"ThreePoints$Ride", "isAtOpening", "(I)Z"⟩ prog_4_method_6_code 2 (some .boolean) ∈ xtbl := xtbl_at 681 rfl rfl
set_option maxRecDepth 20000 in
theorem kw_685 : Cond.code ⟨"ThreePoints", "feed", "(IIIIII)I"⟩ prog_1_method_4_code 8 (some .int) ∈ xtbl := xtbl_at 685 rfl rfl
set_option maxRecDepth 20000 in
theorem kw_686 : Cond.methodLink "ThreePoints" 119 ⟨"ThreePoints", "isByte", "(I)Z"⟩ ∈ xtbl := xtbl_at 686 (by decide +kernel) (by decide +kernel)
set_option maxRecDepth 20000 in
theorem kw_687 : Cond.static ⟨"ThreePoints", "isByte", "(I)Z"⟩ ∈ xtbl := xtbl_at 687 (by decide +kernel) (by decide +kernel)
set_option maxRecDepth 20000 in
theorem kw_688 : Cond.code ⟨"ThreePoints", "isByte", "(I)Z"⟩ prog_1_method_34_code 1 (some .boolean) ∈ xtbl := xtbl_at 688 rfl rfl
set_option maxRecDepth 20000 in
theorem kw_689 : Cond.methodLink "ThreePoints" 123 ⟨"ThreePoints$Tape", "add", "(I)V"⟩ ∈ xtbl := xtbl_at 689 (by decide +kernel) (by decide +kernel)
set_option maxRecDepth 20000 in
theorem kw_693 : Cond.code ⟨"ThreePoints", "text", "()I"⟩ prog_1_method_5_code 2 (some .int) ∈ xtbl := xtbl_at 693 rfl rfl
set_option maxRecDepth 20000 in
theorem kw_697 : Cond.code ⟨"ThreePoints", "force", "(I)I"⟩ prog_1_method_6_code 3 (some .int) ∈ xtbl := xtbl_at 697 rfl rfl
set_option maxRecDepth 20000 in
theorem kw_701 : Cond.code ⟨"ThreePoints", "asks", "(IIII)I"⟩ prog_1_method_7_code 5 (some .int) ∈ xtbl := xtbl_at 701 rfl rfl
set_option maxRecDepth 20000 in
theorem kw_702 : Cond.methodLink "ThreePoints" 129 ⟨"ThreePoints", "isPlaceHeading", "(I)Z"⟩ ∈ xtbl := xtbl_at 702 (by decide +kernel) (by decide +kernel)
set_option maxRecDepth 20000 in
theorem kw_704 : Cond.instanceMethod ⟨"ThreePoints", "isPlaceHeading", "(I)Z"⟩ ∈ xtbl := xtbl_at 704 (by decide +kernel) (by decide +kernel)
set_option maxRecDepth 20000 in
theorem kw_705 : Cond.code ⟨"ThreePoints", "isPlaceHeading", "(I)Z"⟩ prog_1_method_42_code 2 (some .boolean) ∈ xtbl := xtbl_at 705 rfl rfl
set_option maxRecDepth 20000 in
theorem kw_706 : Cond.methodLink "ThreePoints" 190 ⟨"ThreePoints", "isPlace", "(I)Z"⟩ ∈ xtbl := xtbl_at 706 (by decide +kernel) (by decide +kernel)
set_option maxRecDepth 20000 in
theorem kw_708 : Cond.instanceMethod ⟨"ThreePoints", "isPlace", "(I)Z"⟩ ∈ xtbl := xtbl_at 708 (by decide +kernel) (by decide +kernel)
set_option maxRecDepth 20000 in
theorem kw_709 : Cond.code ⟨"ThreePoints", "isPlace", "(I)Z"⟩ prog_1_method_41_code 2 (some .boolean) ∈ xtbl := xtbl_at 709 rfl rfl
set_option maxRecDepth 20000 in
theorem kw_710 : Cond.methodLink "ThreePoints" 132 ⟨"ThreePoints", "isTwoFlags", "(I)Z"⟩ ∈ xtbl := xtbl_at 710 (by decide +kernel) (by decide +kernel)
set_option maxRecDepth 20000 in
theorem kw_711 : Cond.static ⟨"ThreePoints", "isTwoFlags", "(I)Z"⟩ ∈ xtbl := xtbl_at 711 (by decide +kernel) (by decide +kernel)
set_option maxRecDepth 20000 in
theorem kw_712 : Cond.code ⟨"ThreePoints", "isTwoFlags", "(I)Z"⟩ prog_1_method_35_code 1 (some .boolean) ∈ xtbl := xtbl_at 712 rfl rfl
set_option maxRecDepth 20000 in
theorem kw_713 : Cond.methodLink "ThreePoints" 135 ⟨"ThreePoints$Ride", "says", "(IIIII)I"⟩ ∈ xtbl := xtbl_at 713 (by decide +kernel) (by decide +kernel)
set_option maxRecDepth 20000 in
theorem kw_717 : Cond.code ⟨"ThreePoints", "vehicle", "(II)I"⟩ prog_1_method_8_code 3 (some .int) ∈ xtbl := xtbl_at 717 rfl rfl
set_option maxRecDepth 20000 in
theorem kw_718 : Cond.methodLink "ThreePoints" 139 ⟨"ThreePoints", "addVehicle", "(II)I"⟩ ∈ xtbl := xtbl_at 718 (by decide +kernel) (by decide +kernel)
set_option maxRecDepth 20000 in
theorem kw_720 : Cond.instanceMethod ⟨"ThreePoints", "addVehicle", "(II)I"⟩ ∈ xtbl := xtbl_at 720 (by decide +kernel) (by decide +kernel)
set_option maxRecDepth 20000 in
theorem kw_721 : Cond.code ⟨"ThreePoints", "addVehicle", "(II)I"⟩ prog_1_method_44_code 3 (some .int) ∈ xtbl := xtbl_at 721 rfl rfl
set_option maxRecDepth 20000 in
theorem kw_722 : Cond.methodLink "ThreePoints" 193 ⟨"ThreePoints$Vehicle", "startAt", "(I)V"⟩ ∈ xtbl := xtbl_at 722 (by decide +kernel) (by decide +kernel)
set_option maxRecDepth 20000 in
theorem kw_723 : Cond.instanceMethod ⟨"ThreePoints$Vehicle", "startAt", "(I)V"⟩ ∈ xtbl := xtbl_at 723 (by decide +kernel) (by decide +kernel)
set_option maxRecDepth 20000 in
theorem kw_724 : Cond.selects "ThreePoints$Vehicle" ⟨"ThreePoints$Vehicle", "startAt", "(I)V"⟩ ⟨"ThreePoints$Vehicle", "startAt", "(I)V"⟩ ∈ xtbl := xtbl_at 724 (by decide +kernel) (by decide +kernel)
set_option maxRecDepth 20000 in
theorem kw_725 : Cond.code ⟨"ThreePoints$Vehicle", "startAt", "(I)V"⟩ prog_9_method_3_code 2 none ∈ xtbl := xtbl_at 725 rfl rfl
set_option maxRecDepth 20000 in
theorem kw_729 : Cond.code ⟨"ThreePoints", "told", "(II)I"⟩ prog_1_method_9_code 4 (some .int) ∈ xtbl := xtbl_at 729 rfl rfl
set_option maxRecDepth 20000 in
theorem kw_730 : Cond.methodLink "ThreePoints" 170 ⟨"ThreePoints$Vehicle", "front", "()I"⟩ ∈ xtbl := xtbl_at 730 (by decide +kernel) (by decide +kernel)
set_option maxRecDepth 20000 in
theorem kw_731 : Cond.methodLink "ThreePoints" 173 ⟨"ThreePoints$Vehicle", "behind", "()I"⟩ ∈ xtbl := xtbl_at 731 (by decide +kernel) (by decide +kernel)
set_option maxRecDepth 20000 in
theorem kw_735 : Cond.code ⟨"ThreePoints", "fit", "(II)I"⟩ prog_1_method_10_code 3 (some .int) ∈ xtbl := xtbl_at 735 rfl rfl
set_option maxRecDepth 20000 in
theorem kw_736 : Cond.methodLink "ThreePoints" 176 ⟨"ThreePoints$Ride", "fits", "(II)Z"⟩ ∈ xtbl := xtbl_at 736 (by decide +kernel) (by decide +kernel)
set_option maxRecDepth 20000 in
theorem kw_740 : Cond.code ⟨"ThreePoints", "drive", "(III)I"⟩ prog_1_method_11_code 4 (some .int) ∈ xtbl := xtbl_at 740 rfl rfl
set_option maxRecDepth 20000 in
theorem kw_741 : Cond.methodLink "ThreePoints" 180 ⟨"ThreePoints$Ride", "go", "(II)Z"⟩ ∈ xtbl := xtbl_at 741 (by decide +kernel) (by decide +kernel)
set_option maxRecDepth 20000 in
theorem kw_742 : Cond.instanceMethod ⟨"ThreePoints$Ride", "go", "(II)Z"⟩ ∈ xtbl := xtbl_at 742 (by decide +kernel) (by decide +kernel)
set_option maxRecDepth 20000 in
theorem kw_743 : Cond.selects "ThreePoints$Ride" ⟨"ThreePoints$Ride", "go", "(II)Z"⟩ ⟨"ThreePoints$Ride", "go", "(II)Z"⟩ ∈ xtbl := xtbl_at 743 (by decide +kernel) (by decide +kernel)
set_option maxRecDepth 20000 in
theorem kw_744 : Cond.code ⟨"ThreePoints$Ride", "go", "(II)Z"⟩ prog_4_method_9_code 5 (some .boolean) ∈ xtbl := xtbl_at 744 rfl rfl
set_option maxRecDepth 20000 in
theorem kw_745 : Cond.methodLink "ThreePoints$Ride" 89 ⟨"ThreePoints$Ride", "shift", "(II)I"⟩ ∈ xtbl := xtbl_at 745 (by decide +kernel) (by decide +kernel)
set_option maxRecDepth 20000 in
theorem kw_746 : Cond.static ⟨"ThreePoints$Ride", "shift", "(II)I"⟩ ∈ xtbl := xtbl_at 746 (by decide +kernel) (by decide +kernel)
set_option maxRecDepth 20000 in
theorem kw_747 : Cond.code ⟨"ThreePoints$Ride", "shift", "(II)I"⟩ prog_4_method_7_code 3 (some .int) ∈ xtbl := xtbl_at 747 rfl rfl
set_option maxRecDepth 20000 in
theorem kw_748 : Cond.methodLink "ThreePoints$Ride" 92 ⟨"ThreePoints$Ride", "turnedBy", "(III)I"⟩ ∈ xtbl := xtbl_at 748 (by decide +kernel) (by decide +kernel)
set_option maxRecDepth 20000 in
theorem kw_749 : Cond.instanceMethod ⟨"ThreePoints$Ride", "turnedBy", "(III)I"⟩ ∈ xtbl := xtbl_at 749 (by decide +kernel) (by decide +kernel)
set_option maxRecDepth 20000 in
theorem kw_750 : Cond.selects "ThreePoints$Ride" ⟨"ThreePoints$Ride", "turnedBy", "(III)I"⟩ ⟨"ThreePoints$Ride", "turnedBy", "(III)I"⟩ ∈ xtbl := xtbl_at 750 (by decide +kernel) (by decide +kernel)
set_option maxRecDepth 20000 in
theorem kw_751 : Cond.code ⟨"ThreePoints$Ride", "turnedBy", "(III)I"⟩ prog_4_method_8_code 4 (some .int) ∈ xtbl := xtbl_at 751 rfl rfl
set_option maxRecDepth 20000 in
theorem kw_752 : Cond.methodLink "ThreePoints$Ride" 86 ⟨"ThreePoints$Vehicle", "turns", "(II)I"⟩ ∈ xtbl := xtbl_at 752 (by decide +kernel) (by decide +kernel)
set_option maxRecDepth 20000 in
theorem kw_753 : Cond.instanceMethod ⟨"ThreePoints$Vehicle", "turns", "(II)I"⟩ ∈ xtbl := xtbl_at 753 (by decide +kernel) (by decide +kernel)
set_option maxRecDepth 20000 in
theorem kw_754 : Cond.selects "ThreePoints$Vehicle" ⟨"ThreePoints$Vehicle", "turns", "(II)I"⟩ ⟨"ThreePoints$Vehicle", "turns", "(II)I"⟩ ∈ xtbl := xtbl_at 754 (by decide +kernel) (by decide +kernel)
set_option maxRecDepth 20000 in
theorem kw_755 : Cond.code ⟨"ThreePoints$Vehicle", "turns", "(II)I"⟩ prog_9_method_7_code 4 (some .int) ∈ xtbl := xtbl_at 755 rfl rfl
set_option maxRecDepth 20000 in
theorem kw_756 : Cond.methodLink "ThreePoints$Ride" 96 ⟨"ThreePoints$Ride", "wears", "(III)I"⟩ ∈ xtbl := xtbl_at 756 (by decide +kernel) (by decide +kernel)
set_option maxRecDepth 20000 in
theorem kw_757 : Cond.instanceMethod ⟨"ThreePoints$Ride", "wears", "(III)I"⟩ ∈ xtbl := xtbl_at 757 (by decide +kernel) (by decide +kernel)
set_option maxRecDepth 20000 in
theorem kw_758 : Cond.selects "ThreePoints$Ride" ⟨"ThreePoints$Ride", "wears", "(III)I"⟩ ⟨"ThreePoints$Ride", "wears", "(III)I"⟩ ∈ xtbl := xtbl_at 758 (by decide +kernel) (by decide +kernel)
set_option maxRecDepth 20000 in
theorem kw_759 : Cond.code ⟨"ThreePoints$Ride", "wears", "(III)I"⟩ prog_4_method_3_code 4 (some .int) ∈ xtbl := xtbl_at 759 rfl rfl
set_option maxRecDepth 20000 in
theorem kw_760 : Cond.methodLink "ThreePoints$Ride" 99 ⟨"ThreePoints$Vehicle", "stepTo", "(IIII)V"⟩ ∈ xtbl := xtbl_at 760 (by decide +kernel) (by decide +kernel)
set_option maxRecDepth 20000 in
theorem kw_761 : Cond.instanceMethod ⟨"ThreePoints$Vehicle", "stepTo", "(IIII)V"⟩ ∈ xtbl := xtbl_at 761 (by decide +kernel) (by decide +kernel)
set_option maxRecDepth 20000 in
theorem kw_762 : Cond.selects "ThreePoints$Vehicle" ⟨"ThreePoints$Vehicle", "stepTo", "(IIII)V"⟩ ⟨"ThreePoints$Vehicle", "stepTo", "(IIII)V"⟩ ∈ xtbl := xtbl_at 762 (by decide +kernel) (by decide +kernel)
set_option maxRecDepth 20000 in
theorem kw_763 : Cond.code ⟨"ThreePoints$Vehicle", "stepTo", "(IIII)V"⟩ prog_9_method_8_code 5 none ∈ xtbl := xtbl_at 763 rfl rfl
set_option maxRecDepth 20000 in
theorem kw_764 : Cond.methodLink "ThreePoints$Vehicle" 37 ⟨"java/lang/Math", "min", "(II)I"⟩ ∈ xtbl := xtbl_at 764 (by decide +kernel) (by decide +kernel)
set_option maxRecDepth 20000 in
theorem kw_768 : Cond.code ⟨"ThreePoints", "begin", "(II)I"⟩ prog_1_method_12_code 4 (some .int) ∈ xtbl := xtbl_at 768 rfl rfl
set_option maxRecDepth 20000 in
theorem kw_772 : Cond.code ⟨"ThreePoints", "turned", "(II)I"⟩ prog_1_method_13_code 4 (some .int) ∈ xtbl := xtbl_at 772 rfl rfl
set_option maxRecDepth 20000 in
theorem kw_773 : Cond.methodLink "ThreePoints" 196 ⟨"ThreePoints", "otherHeading", "(I)I"⟩ ∈ xtbl := xtbl_at 773 (by decide +kernel) (by decide +kernel)
set_option maxRecDepth 20000 in
theorem kw_774 : Cond.static ⟨"ThreePoints", "otherHeading", "(I)I"⟩ ∈ xtbl := xtbl_at 774 (by decide +kernel) (by decide +kernel)
set_option maxRecDepth 20000 in
theorem kw_775 : Cond.code ⟨"ThreePoints", "otherHeading", "(I)I"⟩ prog_1_method_37_code 1 (some .int) ∈ xtbl := xtbl_at 775 rfl rfl
set_option maxRecDepth 20000 in
theorem kw_776 : Cond.methodLink "ThreePoints" 200 ⟨"ThreePoints$Search", "toHeading", "(LThreePoints$Ride;II)V"⟩ ∈ xtbl := xtbl_at 776 (by decide +kernel) (by decide +kernel)
set_option maxRecDepth 20000 in
theorem kw_777 : Cond.instanceMethod ⟨"ThreePoints$Search", "toHeading", "(LThreePoints$Ride;II)V"⟩ ∈ xtbl := xtbl_at 777 (by decide +kernel) (by decide +kernel)
set_option maxRecDepth 20000 in
theorem kw_778 : Cond.selects "ThreePoints$Search" ⟨"ThreePoints$Search", "toHeading", "(LThreePoints$Ride;II)V"⟩ ⟨"ThreePoints$Search", "toHeading", "(LThreePoints$Ride;II)V"⟩ ∈ xtbl := xtbl_at 778 (by decide +kernel) (by decide +kernel)
set_option maxRecDepth 20000 in
theorem kw_779 : Cond.code ⟨"ThreePoints$Search", "toHeading", "(LThreePoints$Ride;II)V"⟩ prog_5_method_3_code 7 none ∈ xtbl := xtbl_at 779 rfl rfl
set_option maxRecDepth 20000 in
theorem kw_780 : Cond.constant "ThreePoints$Search" 44 (2147483647) ∈ xtbl := xtbl_at 780 (by decide +kernel) (by decide +kernel)
set_option maxRecDepth 20000 in
theorem kw_781 : Cond.methodLink "ThreePoints$Search" 45 ⟨"java/util/Arrays", "fill", "([II)V"⟩ ∈ xtbl := xtbl_at 781 (by decide +kernel) (by decide +kernel)
set_option maxRecDepth 20000 in
theorem kw_782 : Cond.methodLink "ThreePoints$Search" 62 ⟨"ThreePoints$Ride", "fits", "(II)Z"⟩ ∈ xtbl := xtbl_at 782 (by decide +kernel) (by decide +kernel)
set_option maxRecDepth 20000 in
theorem kw_783 : Cond.methodLink "ThreePoints$Search" 66 ⟨"ThreePoints$Search", "state", "(III)I"⟩ ∈ xtbl := xtbl_at 783 (by decide +kernel) (by decide +kernel)
set_option maxRecDepth 20000 in
theorem kw_784 : Cond.static ⟨"ThreePoints$Search", "state", "(III)I"⟩ ∈ xtbl := xtbl_at 784 (by decide +kernel) (by decide +kernel)
set_option maxRecDepth 20000 in
theorem kw_785 : Cond.code ⟨"ThreePoints$Search", "state", "(III)I"⟩ prog_5_method_2_code 4 (some .int) ∈ xtbl := xtbl_at 785 rfl rfl
set_option maxRecDepth 20000 in
theorem kw_786 : Cond.methodLink "ThreePoints$Search" 28 ⟨"java/lang/Math", "min", "(II)I"⟩ ∈ xtbl := xtbl_at 786 (by decide +kernel) (by decide +kernel)
set_option maxRecDepth 20000 in
theorem kw_787 : Cond.methodLink "ThreePoints$Search" 34 ⟨"java/lang/Math", "max", "(II)I"⟩ ∈ xtbl := xtbl_at 787 (by decide +kernel) (by decide +kernel)
set_option maxRecDepth 20000 in
theorem kw_788 : Cond.methodLink "ThreePoints$Search" 70 ⟨"ThreePoints$Search", "lower", "(II)V"⟩ ∈ xtbl := xtbl_at 788 (by decide +kernel) (by decide +kernel)
set_option maxRecDepth 20000 in
theorem kw_790 : Cond.instanceMethod ⟨"ThreePoints$Search", "lower", "(II)V"⟩ ∈ xtbl := xtbl_at 790 (by decide +kernel) (by decide +kernel)
set_option maxRecDepth 20000 in
theorem kw_791 : Cond.code ⟨"ThreePoints$Search", "lower", "(II)V"⟩ prog_5_method_5_code 4 none ∈ xtbl := xtbl_at 791 rfl rfl
set_option maxRecDepth 20000 in
theorem kw_792 : Cond.methodLink "ThreePoints$Search" 75 ⟨"ThreePoints$Search", "unlink", "(I)V"⟩ ∈ xtbl := xtbl_at 792 (by decide +kernel) (by decide +kernel)
set_option maxRecDepth 20000 in
theorem kw_794 : Cond.instanceMethod ⟨"ThreePoints$Search", "unlink", "(I)V"⟩ ∈ xtbl := xtbl_at 794 (by decide +kernel) (by decide +kernel)
set_option maxRecDepth 20000 in
theorem kw_795 : Cond.code ⟨"ThreePoints$Search", "unlink", "(I)V"⟩ prog_5_method_6_code 4 none ∈ xtbl := xtbl_at 795 rfl rfl
set_option maxRecDepth 20000 in
theorem kw_796 : Cond.constant "ThreePoints$Search" 74 (193248) ∈ xtbl := xtbl_at 796 (by decide +kernel) (by decide +kernel)
set_option maxRecDepth 20000 in
theorem kw_797 : Cond.methodLink "ThreePoints$Search" 79 ⟨"ThreePoints$Search", "lowerAhead", "(LThreePoints$Ride;II)V"⟩ ∈ xtbl := xtbl_at 797 (by decide +kernel) (by decide +kernel)
set_option maxRecDepth 20000 in
theorem kw_799 : Cond.instanceMethod ⟨"ThreePoints$Search", "lowerAhead", "(LThreePoints$Ride;II)V"⟩ ∈ xtbl := xtbl_at 799 (by decide +kernel) (by decide +kernel)
set_option maxRecDepth 20000 in
theorem kw_800 : Cond.code ⟨"ThreePoints$Search", "lowerAhead", "(LThreePoints$Ride;II)V"⟩ prog_5_method_4_code 11 none ∈ xtbl := xtbl_at 800 rfl rfl
set_option maxRecDepth 20000 in
theorem kw_801 : Cond.methodLink "ThreePoints$Search" 87 ⟨"ThreePoints$Vehicle", "turns", "(II)I"⟩ ∈ xtbl := xtbl_at 801 (by decide +kernel) (by decide +kernel)
set_option maxRecDepth 20000 in
theorem kw_802 : Cond.methodLink "ThreePoints$Search" 92 ⟨"ThreePoints$Ride", "shift", "(II)I"⟩ ∈ xtbl := xtbl_at 802 (by decide +kernel) (by decide +kernel)
set_option maxRecDepth 20000 in
theorem kw_803 : Cond.methodLink "ThreePoints$Search" 95 ⟨"ThreePoints$Ride", "wears", "(III)I"⟩ ∈ xtbl := xtbl_at 803 (by decide +kernel) (by decide +kernel)
set_option maxRecDepth 20000 in
theorem kw_804 : Cond.methodLink "ThreePoints" 204 ⟨"ThreePoints$Search", "leastFromNow", "(LThreePoints$Ride;)I"⟩ ∈ xtbl := xtbl_at 804 (by decide +kernel) (by decide +kernel)
set_option maxRecDepth 20000 in
theorem kw_805 : Cond.instanceMethod ⟨"ThreePoints$Search", "leastFromNow", "(LThreePoints$Ride;)I"⟩ ∈ xtbl := xtbl_at 805 (by decide +kernel) (by decide +kernel)
set_option maxRecDepth 20000 in
theorem kw_806 : Cond.selects "ThreePoints$Search" ⟨"ThreePoints$Search", "leastFromNow", "(LThreePoints$Ride;)I"⟩ ⟨"ThreePoints$Search", "leastFromNow", "(LThreePoints$Ride;)I"⟩ ∈ xtbl := xtbl_at 806 (by decide +kernel) (by decide +kernel)
set_option maxRecDepth 20000 in
theorem kw_807 : Cond.code ⟨"ThreePoints$Search", "leastFromNow", "(LThreePoints$Ride;)I"⟩ prog_5_method_8_code 2 (some .int) ∈ xtbl := xtbl_at 807 rfl rfl
set_option maxRecDepth 20000 in
theorem kw_808 : Cond.methodLink "ThreePoints$Search" 113 ⟨"ThreePoints$Search", "least", "(LThreePoints$Ride;III)I"⟩ ∈ xtbl := xtbl_at 808 (by decide +kernel) (by decide +kernel)
set_option maxRecDepth 20000 in
theorem kw_809 : Cond.instanceMethod ⟨"ThreePoints$Search", "least", "(LThreePoints$Ride;III)I"⟩ ∈ xtbl := xtbl_at 809 (by decide +kernel) (by decide +kernel)
set_option maxRecDepth 20000 in
theorem kw_810 : Cond.selects "ThreePoints$Search" ⟨"ThreePoints$Search", "least", "(LThreePoints$Ride;III)I"⟩ ⟨"ThreePoints$Search", "least", "(LThreePoints$Ride;III)I"⟩ ∈ xtbl := xtbl_at 810 (by decide +kernel) (by decide +kernel)
set_option maxRecDepth 20000 in
theorem kw_811 : Cond.code ⟨"ThreePoints$Search", "least", "(LThreePoints$Ride;III)I"⟩ prog_5_method_7_code 12 (some .int) ∈ xtbl := xtbl_at 811 rfl rfl
set_option maxRecDepth 20000 in
theorem kw_812 : Cond.methodLink "ThreePoints$Search" 101 ⟨"ThreePoints$Ride", "turnedBy", "(III)I"⟩ ∈ xtbl := xtbl_at 812 (by decide +kernel) (by decide +kernel)
set_option maxRecDepth 20000 in
theorem kw_816 : Cond.code ⟨"ThreePoints", "where", "(II)I"⟩ prog_1_method_14_code 7 (some .int) ∈ xtbl := xtbl_at 816 rfl rfl
set_option maxRecDepth 20000 in
theorem kw_817 : Cond.methodLink "ThreePoints" 211 ⟨"ThreePoints$Search", "least", "(LThreePoints$Ride;III)I"⟩ ∈ xtbl := xtbl_at 817 (by decide +kernel) (by decide +kernel)
set_option maxRecDepth 20000 in
theorem kw_821 : Cond.code ⟨"ThreePoints", "narrow", "(II)I"⟩ prog_1_method_15_code 4 (some .int) ∈ xtbl := xtbl_at 821 rfl rfl
set_option maxRecDepth 20000 in
theorem kw_825 : Cond.code ⟨"ThreePoints", "cut", "(II)I"⟩ prog_1_method_16_code 4 (some .int) ∈ xtbl := xtbl_at 825 rfl rfl
set_option maxRecDepth 20000 in
theorem kw_829 : Cond.code ⟨"ThreePoints", "headings", "(I)I"⟩ prog_1_method_17_code 2 (some .int) ∈ xtbl := xtbl_at 829 rfl rfl
set_option maxRecDepth 20000 in
theorem kw_830 : Cond.methodLink "ThreePoints" 215 ⟨"ThreePoints$Search", "headingsReached", "(LThreePoints$Ride;)I"⟩ ∈ xtbl := xtbl_at 830 (by decide +kernel) (by decide +kernel)
set_option maxRecDepth 20000 in
theorem kw_831 : Cond.instanceMethod ⟨"ThreePoints$Search", "headingsReached", "(LThreePoints$Ride;)I"⟩ ∈ xtbl := xtbl_at 831 (by decide +kernel) (by decide +kernel)
set_option maxRecDepth 20000 in
theorem kw_832 : Cond.selects "ThreePoints$Search" ⟨"ThreePoints$Search", "headingsReached", "(LThreePoints$Ride;)I"⟩ ⟨"ThreePoints$Search", "headingsReached", "(LThreePoints$Ride;)I"⟩ ∈ xtbl := xtbl_at 832 (by decide +kernel) (by decide +kernel)
set_option maxRecDepth 20000 in
theorem kw_833 : Cond.code ⟨"ThreePoints$Search", "headingsReached", "(LThreePoints$Ride;)I"⟩ prog_5_method_9_code 7 (some .int) ∈ xtbl := xtbl_at 833 rfl rfl
set_option maxRecDepth 20000 in
theorem kw_834 : Cond.methodLink "ThreePoints$Search" 117 ⟨"ThreePoints$Search", "addBehind", "(LThreePoints$Ride;III)I"⟩ ∈ xtbl := xtbl_at 834 (by decide +kernel) (by decide +kernel)
set_option maxRecDepth 20000 in
theorem kw_836 : Cond.instanceMethod ⟨"ThreePoints$Search", "addBehind", "(LThreePoints$Ride;III)I"⟩ ∈ xtbl := xtbl_at 836 (by decide +kernel) (by decide +kernel)
set_option maxRecDepth 20000 in
theorem kw_837 : Cond.code ⟨"ThreePoints$Search", "addBehind", "(LThreePoints$Ride;III)I"⟩ prog_5_method_10_code 11 (some .int) ∈ xtbl := xtbl_at 837 rfl rfl
set_option maxRecDepth 20000 in
theorem kw_841 : Cond.code ⟨"ThreePoints", "best", "(I)I"⟩ prog_1_method_18_code 6 (some .int) ∈ xtbl := xtbl_at 841 rfl rfl
set_option maxRecDepth 20000 in
theorem kw_845 : Cond.code ⟨"ThreePoints", "judge", "(II)I"⟩ prog_1_method_19_code 4 (some .int) ∈ xtbl := xtbl_at 845 rfl rfl
set_option maxRecDepth 20000 in
theorem kw_846 : Cond.methodLink "ThreePoints" 218 ⟨"ThreePoints", "refusalOfMoves", "(II)I"⟩ ∈ xtbl := xtbl_at 846 (by decide +kernel) (by decide +kernel)
set_option maxRecDepth 20000 in
theorem kw_848 : Cond.instanceMethod ⟨"ThreePoints", "refusalOfMoves", "(II)I"⟩ ∈ xtbl := xtbl_at 848 (by decide +kernel) (by decide +kernel)
set_option maxRecDepth 20000 in
theorem kw_849 : Cond.code ⟨"ThreePoints", "refusalOfMoves", "(II)I"⟩ prog_1_method_45_code 3 (some .int) ∈ xtbl := xtbl_at 849 rfl rfl
set_option maxRecDepth 20000 in
theorem kw_850 : Cond.methodLink "ThreePoints" 243 ⟨"ThreePoints", "isSheet", "(I)Z"⟩ ∈ xtbl := xtbl_at 850 (by decide +kernel) (by decide +kernel)
set_option maxRecDepth 20000 in
theorem kw_851 : Cond.static ⟨"ThreePoints", "isSheet", "(I)Z"⟩ ∈ xtbl := xtbl_at 851 (by decide +kernel) (by decide +kernel)
set_option maxRecDepth 20000 in
theorem kw_852 : Cond.code ⟨"ThreePoints", "isSheet", "(I)Z"⟩ prog_1_method_40_code 1 (some .boolean) ∈ xtbl := xtbl_at 852 rfl rfl
set_option maxRecDepth 20000 in
theorem kw_853 : Cond.methodLink "ThreePoints" 250 ⟨"ThreePoints$Sheet", "isMissing", "()Z"⟩ ∈ xtbl := xtbl_at 853 (by decide +kernel) (by decide +kernel)
set_option maxRecDepth 20000 in
theorem kw_854 : Cond.instanceMethod ⟨"ThreePoints$Sheet", "isMissing", "()Z"⟩ ∈ xtbl := xtbl_at 854 (by decide +kernel) (by decide +kernel)
set_option maxRecDepth 20000 in
theorem kw_855 : Cond.selects "ThreePoints$Sheet" ⟨"ThreePoints$Sheet", "isMissing", "()Z"⟩ ⟨"ThreePoints$Sheet", "isMissing", "()Z"⟩ ∈ xtbl := xtbl_at 855 (by decide +kernel) (by decide +kernel)
set_option maxRecDepth 20000 in
theorem kw_856 : Cond.code ⟨"ThreePoints$Sheet", "isMissing", "()Z"⟩ prog_6_method_2_code 1 (some .boolean) ∈ xtbl := xtbl_at 856 rfl rfl
set_option maxRecDepth 20000 in
theorem kw_857 : Cond.methodLink "ThreePoints" 290 ⟨"ThreePoints$Sheet", "tellsMoves", "()Z"⟩ ∈ xtbl := xtbl_at 857 (by decide +kernel) (by decide +kernel)
set_option maxRecDepth 20000 in
theorem kw_858 : Cond.instanceMethod ⟨"ThreePoints$Sheet", "tellsMoves", "()Z"⟩ ∈ xtbl := xtbl_at 858 (by decide +kernel) (by decide +kernel)
set_option maxRecDepth 20000 in
theorem kw_859 : Cond.selects "ThreePoints$Sheet" ⟨"ThreePoints$Sheet", "tellsMoves", "()Z"⟩ ⟨"ThreePoints$Sheet", "tellsMoves", "()Z"⟩ ∈ xtbl := xtbl_at 859 (by decide +kernel) (by decide +kernel)
set_option maxRecDepth 20000 in
theorem kw_860 : Cond.code ⟨"ThreePoints$Sheet", "tellsMoves", "()Z"⟩ prog_6_method_8_code 2 (some .boolean) ∈ xtbl := xtbl_at 860 rfl rfl
set_option maxRecDepth 20000 in
theorem kw_862 : Cond.methodLink "ThreePoints" 221 ⟨"ThreePoints$Ride", "through", "(LThreePoints$Sheet;)I"⟩ ∈ xtbl := xtbl_at 862 (by decide +kernel) (by decide +kernel)
set_option maxRecDepth 20000 in
theorem kw_863 : Cond.instanceMethod ⟨"ThreePoints$Ride", "through", "(LThreePoints$Sheet;)I"⟩ ∈ xtbl := xtbl_at 863 (by decide +kernel) (by decide +kernel)
set_option maxRecDepth 20000 in
theorem kw_864 : Cond.selects "ThreePoints$Ride" ⟨"ThreePoints$Ride", "through", "(LThreePoints$Sheet;)I"⟩ ⟨"ThreePoints$Ride", "through", "(LThreePoints$Sheet;)I"⟩ ∈ xtbl := xtbl_at 864 (by decide +kernel) (by decide +kernel)
set_option maxRecDepth 20000 in
theorem kw_865 : Cond.code ⟨"ThreePoints$Ride", "through", "(LThreePoints$Sheet;)I"⟩ prog_4_method_10_code 5 (some .int) ∈ xtbl := xtbl_at 865 rfl rfl
set_option maxRecDepth 20000 in
theorem kw_866 : Cond.methodLink "ThreePoints$Ride" 108 ⟨"ThreePoints$Sheet", "get", "(I)I"⟩ ∈ xtbl := xtbl_at 866 (by decide +kernel) (by decide +kernel)
set_option maxRecDepth 20000 in
theorem kw_867 : Cond.instanceMethod ⟨"ThreePoints$Sheet", "get", "(I)I"⟩ ∈ xtbl := xtbl_at 867 (by decide +kernel) (by decide +kernel)
set_option maxRecDepth 20000 in
theorem kw_868 : Cond.selects "ThreePoints$Sheet" ⟨"ThreePoints$Sheet", "get", "(I)I"⟩ ⟨"ThreePoints$Sheet", "get", "(I)I"⟩ ∈ xtbl := xtbl_at 868 (by decide +kernel) (by decide +kernel)
set_option maxRecDepth 20000 in
theorem kw_869 : Cond.code ⟨"ThreePoints$Sheet", "get", "(I)I"⟩ prog_6_method_6_code 2 (some .int) ∈ xtbl := xtbl_at 869 rfl rfl
set_option maxRecDepth 20000 in
theorem kw_870 : Cond.methodLink "ThreePoints$Sheet" 37 ⟨"ThreePoints$Sheet", "has", "(I)Z"⟩ ∈ xtbl := xtbl_at 870 (by decide +kernel) (by decide +kernel)
set_option maxRecDepth 20000 in
theorem kw_871 : Cond.instanceMethod ⟨"ThreePoints$Sheet", "has", "(I)Z"⟩ ∈ xtbl := xtbl_at 871 (by decide +kernel) (by decide +kernel)
set_option maxRecDepth 20000 in
theorem kw_872 : Cond.selects "ThreePoints$Sheet" ⟨"ThreePoints$Sheet", "has", "(I)Z"⟩ ⟨"ThreePoints$Sheet", "has", "(I)Z"⟩ ∈ xtbl := xtbl_at 872 (by decide +kernel) (by decide +kernel)
set_option maxRecDepth 20000 in
theorem kw_873 : Cond.code ⟨"ThreePoints$Sheet", "has", "(I)Z"⟩ prog_6_method_4_code 2 (some .boolean) ∈ xtbl := xtbl_at 873 rfl rfl
set_option maxRecDepth 20000 in
theorem kw_874 : Cond.methodLink "ThreePoints$Ride" 111 ⟨"ThreePoints$Ride", "go", "(II)Z"⟩ ∈ xtbl := xtbl_at 874 (by decide +kernel) (by decide +kernel)
set_option maxRecDepth 20000 in
theorem kw_878 : Cond.code ⟨"ThreePoints", "ends", "(III)I"⟩ prog_1_method_20_code 5 (some .int) ∈ xtbl := xtbl_at 878 rfl rfl
set_option maxRecDepth 20000 in
theorem kw_882 : Cond.code ⟨"ThreePoints", "kinds", "(III)I"⟩ prog_1_method_21_code 9 (some .int) ∈ xtbl := xtbl_at 882 rfl rfl
set_option maxRecDepth 20000 in
theorem kw_886 : Cond.code ⟨"ThreePoints", "widths", "(III)I"⟩ prog_1_method_22_code 8 (some .int) ∈ xtbl := xtbl_at 886 rfl rfl
set_option maxRecDepth 20000 in
theorem kw_890 : Cond.code ⟨"ThreePoints", "laws", "(II)I"⟩ prog_1_method_23_code 6 (some .int) ∈ xtbl := xtbl_at 890 rfl rfl
set_option maxRecDepth 20000 in
theorem kw_894 : Cond.code ⟨"ThreePoints", "drawn", "(IIII)I"⟩ prog_1_method_24_code 6 (some .int) ∈ xtbl := xtbl_at 894 rfl rfl
set_option maxRecDepth 20000 in
theorem kw_895 : Cond.constant "ThreePoints" 227 (99999) ∈ xtbl := xtbl_at 895 (by decide +kernel) (by decide +kernel)
set_option maxRecDepth 20000 in
theorem kw_896 : Cond.methodLink "ThreePoints" 228 ⟨"ThreePoints$Ride", "byLots", "(II)I"⟩ ∈ xtbl := xtbl_at 896 (by decide +kernel) (by decide +kernel)
set_option maxRecDepth 20000 in
theorem kw_897 : Cond.instanceMethod ⟨"ThreePoints$Ride", "byLots", "(II)I"⟩ ∈ xtbl := xtbl_at 897 (by decide +kernel) (by decide +kernel)
set_option maxRecDepth 20000 in
theorem kw_898 : Cond.selects "ThreePoints$Ride" ⟨"ThreePoints$Ride", "byLots", "(II)I"⟩ ⟨"ThreePoints$Ride", "byLots", "(II)I"⟩ ∈ xtbl := xtbl_at 898 (by decide +kernel) (by decide +kernel)
set_option maxRecDepth 20000 in
theorem kw_899 : Cond.code ⟨"ThreePoints$Ride", "byLots", "(II)I"⟩ prog_4_method_11_code 9 (some .int) ∈ xtbl := xtbl_at 899 rfl rfl
set_option maxRecDepth 20000 in
theorem kw_900 : Cond.constantLong "ThreePoints$Ride" 114 (48271) ∈ xtbl := xtbl_at 900 (by decide +kernel) (by decide +kernel)
set_option maxRecDepth 20000 in
theorem kw_901 : Cond.constantLong "ThreePoints$Ride" 116 (2147483647) ∈ xtbl := xtbl_at 901 (by decide +kernel) (by decide +kernel)
set_option maxRecDepth 20000 in
theorem kw_902 : Cond.constantLong "ThreePoints$Ride" 118 (2) ∈ xtbl := xtbl_at 902 (by decide +kernel) (by decide +kernel)
set_option maxRecDepth 20000 in
theorem kw_903 : Cond.constantLong "ThreePoints$Ride" 120 (3) ∈ xtbl := xtbl_at 903 (by decide +kernel) (by decide +kernel)
set_option maxRecDepth 20000 in
theorem kw_904 : Cond.constantLong "ThreePoints$Ride" 122 (6) ∈ xtbl := xtbl_at 904 (by decide +kernel) (by decide +kernel)
set_option maxRecDepth 20000 in
theorem kw_905 : Cond.constantLong "ThreePoints$Ride" 124 (100) ∈ xtbl := xtbl_at 905 (by decide +kernel) (by decide +kernel)
set_option maxRecDepth 20000 in
theorem kw_909 : Cond.code ⟨"ThreePoints", "odds", "(IIII)J"⟩ prog_1_method_25_code 9 (some .long) ∈ xtbl := xtbl_at 909 rfl rfl
set_option maxRecDepth 20000 in
theorem kw_910 : Cond.constantLong "ThreePoints" 231 (-4611686018427387904) ∈ xtbl := xtbl_at 910 (by decide +kernel) (by decide +kernel)
set_option maxRecDepth 20000 in
theorem kw_911 : Cond.methodLink "ThreePoints" 233 ⟨"ThreePoints", "inLowestTerms", "(II)I"⟩ ∈ xtbl := xtbl_at 911 (by decide +kernel) (by decide +kernel)
set_option maxRecDepth 20000 in
theorem kw_912 : Cond.static ⟨"ThreePoints", "inLowestTerms", "(II)I"⟩ ∈ xtbl := xtbl_at 912 (by decide +kernel) (by decide +kernel)
set_option maxRecDepth 20000 in
theorem kw_913 : Cond.code ⟨"ThreePoints", "inLowestTerms", "(II)I"⟩ prog_1_method_38_code 3 (some .int) ∈ xtbl := xtbl_at 913 rfl rfl
set_option maxRecDepth 20000 in
theorem kw_917 : Cond.code ⟨"ThreePoints", "image", "()I"⟩ prog_1_method_26_code 1 (some .int) ∈ xtbl := xtbl_at 917 rfl rfl
set_option maxRecDepth 20000 in
theorem kw_918 : Cond.methodLink "ThreePoints" 236 ⟨"ThreePoints$Yard", "become", "(LThreePoints$Yard;)V"⟩ ∈ xtbl := xtbl_at 918 (by decide +kernel) (by decide +kernel)
set_option maxRecDepth 20000 in
theorem kw_919 : Cond.instanceMethod ⟨"ThreePoints$Yard", "become", "(LThreePoints$Yard;)V"⟩ ∈ xtbl := xtbl_at 919 (by decide +kernel) (by decide +kernel)
set_option maxRecDepth 20000 in
theorem kw_920 : Cond.selects "ThreePoints$Yard" ⟨"ThreePoints$Yard", "become", "(LThreePoints$Yard;)V"⟩ ⟨"ThreePoints$Yard", "become", "(LThreePoints$Yard;)V"⟩ ∈ xtbl := xtbl_at 920 (by decide +kernel) (by decide +kernel)
set_option maxRecDepth 20000 in
theorem kw_921 : Cond.code ⟨"ThreePoints$Yard", "become", "(LThreePoints$Yard;)V"⟩ prog_10_method_2_code 3 none ∈ xtbl := xtbl_at 921 rfl rfl
set_option maxRecDepth 20000 in
theorem kw_922 : Cond.methodLink "ThreePoints$Yard" 25 ⟨"ThreePoints$Lane", "become", "(LThreePoints$Lane;)V"⟩ ∈ xtbl := xtbl_at 922 (by decide +kernel) (by decide +kernel)
set_option maxRecDepth 20000 in
theorem kw_923 : Cond.methodLink "ThreePoints$Yard" 29 ⟨"ThreePoints$Vehicle", "become", "(LThreePoints$Vehicle;)V"⟩ ∈ xtbl := xtbl_at 923 (by decide +kernel) (by decide +kernel)
set_option maxRecDepth 20000 in
theorem kw_927 : Cond.code ⟨"ThreePoints", "back", "()I"⟩ prog_1_method_27_code 1 (some .int) ∈ xtbl := xtbl_at 927 rfl rfl
set_option maxRecDepth 20000 in
theorem kw_931 : Cond.code ⟨"ThreePoints", "sheet", "(III)I"⟩ prog_1_method_28_code 4 (some .int) ∈ xtbl := xtbl_at 931 rfl rfl
set_option maxRecDepth 20000 in
theorem kw_932 : Cond.methodLink "ThreePoints" 246 ⟨"ThreePoints$Sheet", "renew", "(II)V"⟩ ∈ xtbl := xtbl_at 932 (by decide +kernel) (by decide +kernel)
set_option maxRecDepth 20000 in
theorem kw_933 : Cond.instanceMethod ⟨"ThreePoints$Sheet", "renew", "(II)V"⟩ ∈ xtbl := xtbl_at 933 (by decide +kernel) (by decide +kernel)
set_option maxRecDepth 20000 in
theorem kw_934 : Cond.selects "ThreePoints$Sheet" ⟨"ThreePoints$Sheet", "renew", "(II)V"⟩ ⟨"ThreePoints$Sheet", "renew", "(II)V"⟩ ∈ xtbl := xtbl_at 934 (by decide +kernel) (by decide +kernel)
set_option maxRecDepth 20000 in
theorem kw_935 : Cond.code ⟨"ThreePoints$Sheet", "renew", "(II)V"⟩ prog_6_method_3_code 3 none ∈ xtbl := xtbl_at 935 rfl rfl
set_option maxRecDepth 20000 in
theorem kw_936 : Cond.methodLink "ThreePoints$Sheet" 19 ⟨"java/lang/Math", "min", "(II)I"⟩ ∈ xtbl := xtbl_at 936 (by decide +kernel) (by decide +kernel)
set_option maxRecDepth 20000 in
theorem kw_937 : Cond.methodLink "ThreePoints$Sheet" 25 ⟨"java/lang/Math", "max", "(II)I"⟩ ∈ xtbl := xtbl_at 937 (by decide +kernel) (by decide +kernel)
set_option maxRecDepth 20000 in
theorem kw_938 : Cond.methodLink "ThreePoints$Sheet" 31 ⟨"java/util/Arrays", "fill", "([II)V"⟩ ∈ xtbl := xtbl_at 938 (by decide +kernel) (by decide +kernel)
set_option maxRecDepth 20000 in
theorem kw_942 : Cond.code ⟨"ThreePoints", "cell", "(III)I"⟩ prog_1_method_29_code 4 (some .int) ∈ xtbl := xtbl_at 942 rfl rfl
set_option maxRecDepth 20000 in
theorem kw_943 : Cond.methodLink "ThreePoints" 253 ⟨"ThreePoints$Sheet", "has", "(I)Z"⟩ ∈ xtbl := xtbl_at 943 (by decide +kernel) (by decide +kernel)
set_option maxRecDepth 20000 in
theorem kw_944 : Cond.methodLink "ThreePoints" 256 ⟨"ThreePoints$Sheet", "put", "(II)V"⟩ ∈ xtbl := xtbl_at 944 (by decide +kernel) (by decide +kernel)
set_option maxRecDepth 20000 in
theorem kw_945 : Cond.instanceMethod ⟨"ThreePoints$Sheet", "put", "(II)V"⟩ ∈ xtbl := xtbl_at 945 (by decide +kernel) (by decide +kernel)
set_option maxRecDepth 20000 in
theorem kw_946 : Cond.selects "ThreePoints$Sheet" ⟨"ThreePoints$Sheet", "put", "(II)V"⟩ ⟨"ThreePoints$Sheet", "put", "(II)V"⟩ ∈ xtbl := xtbl_at 946 (by decide +kernel) (by decide +kernel)
set_option maxRecDepth 20000 in
theorem kw_947 : Cond.code ⟨"ThreePoints$Sheet", "put", "(II)V"⟩ prog_6_method_7_code 3 none ∈ xtbl := xtbl_at 947 rfl rfl
set_option maxRecDepth 20000 in
theorem kw_951 : Cond.code ⟨"ThreePoints", "copy", "(IIIII)I"⟩ prog_1_method_30_code 8 (some .int) ∈ xtbl := xtbl_at 951 rfl rfl
set_option maxRecDepth 20000 in
theorem kw_952 : Cond.methodLink "ThreePoints" 262 ⟨"ThreePoints$Sheet", "hasRow", "(II)Z"⟩ ∈ xtbl := xtbl_at 952 (by decide +kernel) (by decide +kernel)
set_option maxRecDepth 20000 in
theorem kw_953 : Cond.instanceMethod ⟨"ThreePoints$Sheet", "hasRow", "(II)Z"⟩ ∈ xtbl := xtbl_at 953 (by decide +kernel) (by decide +kernel)
set_option maxRecDepth 20000 in
theorem kw_954 : Cond.selects "ThreePoints$Sheet" ⟨"ThreePoints$Sheet", "hasRow", "(II)Z"⟩ ⟨"ThreePoints$Sheet", "hasRow", "(II)Z"⟩ ∈ xtbl := xtbl_at 954 (by decide +kernel) (by decide +kernel)
set_option maxRecDepth 20000 in
theorem kw_955 : Cond.code ⟨"ThreePoints$Sheet", "hasRow", "(II)Z"⟩ prog_6_method_5_code 3 (some .boolean) ∈ xtbl := xtbl_at 955 rfl rfl
set_option maxRecDepth 20000 in
theorem kw_956 : Cond.methodLink "ThreePoints" 269 arraycopyName ∈ xtbl := xtbl_at 956 (by decide +kernel) (by decide +kernel)
set_option maxRecDepth 20000 in
theorem kw_960 : Cond.code ⟨"ThreePoints", "vehiclesBy", "(IIII)I"⟩ prog_1_method_31_code 9 (some .int) ∈ xtbl := xtbl_at 960 rfl rfl
set_option maxRecDepth 20000 in
theorem kw_961 : Cond.methodLink "ThreePoints" 275 ⟨"ThreePoints$Sheet", "get", "(I)I"⟩ ∈ xtbl := xtbl_at 961 (by decide +kernel) (by decide +kernel)
set_option maxRecDepth 20000 in
theorem kw_965 : Cond.code ⟨"ThreePoints", "taken", "(II)I"⟩ prog_1_method_32_code 3 (some .int) ∈ xtbl := xtbl_at 965 rfl rfl
set_option maxRecDepth 20000 in
theorem kw_966 : Cond.methodLink "ThreePoints" 278 ⟨"ThreePoints", "across", "(I)I"⟩ ∈ xtbl := xtbl_at 966 (by decide +kernel) (by decide +kernel)
set_option maxRecDepth 20000 in
theorem kw_967 : Cond.methodLink "ThreePoints" 281 ⟨"ThreePoints$Vehicle", "isA", "(I)Z"⟩ ∈ xtbl := xtbl_at 967 (by decide +kernel) (by decide +kernel)
set_option maxRecDepth 20000 in
theorem kw_968 : Cond.instanceMethod ⟨"ThreePoints$Vehicle", "isA", "(I)Z"⟩ ∈ xtbl := xtbl_at 968 (by decide +kernel) (by decide +kernel)
set_option maxRecDepth 20000 in
theorem kw_969 : Cond.selects "ThreePoints$Vehicle" ⟨"ThreePoints$Vehicle", "isA", "(I)Z"⟩ ⟨"ThreePoints$Vehicle", "isA", "(I)Z"⟩ ∈ xtbl := xtbl_at 969 (by decide +kernel) (by decide +kernel)
set_option maxRecDepth 20000 in
theorem kw_970 : Cond.code ⟨"ThreePoints$Vehicle", "isA", "(I)Z"⟩ prog_9_method_4_code 4 (some .boolean) ∈ xtbl := xtbl_at 970 rfl rfl
set_option maxRecDepth 20000 in
theorem kw_971 : Cond.fieldLink "ThreePoints$Vehicle" 33 "ThreePoints$Vehicle" "ABOVE" "[I" ∈ xtbl := xtbl_at 971 (by decide +kernel) (by decide +kernel)
set_option maxRecDepth 20000 in
theorem kw_982 : Cond.code ⟨"ThreePointsModel", "text", "()I"⟩ prog_12_method_23_code 3 (some .int) ∈ xtbl := xtbl_at 982 rfl rfl
set_option maxRecDepth 20000 in
theorem kw_983 : Cond.methodLink "ThreePointsModel" 163 ⟨"ThreePointsModel", "next", "()V"⟩ ∈ xtbl := xtbl_at 983 (by decide +kernel) (by decide +kernel)
set_option maxRecDepth 20000 in
theorem kw_985 : Cond.instanceMethod ⟨"ThreePointsModel", "next", "()V"⟩ ∈ xtbl := xtbl_at 985 (by decide +kernel) (by decide +kernel)
set_option maxRecDepth 20000 in
theorem kw_986 : Cond.code ⟨"ThreePointsModel", "next", "()V"⟩ prog_12_method_14_code 3 none ∈ xtbl := xtbl_at 986 rfl rfl
set_option maxRecDepth 20000 in
theorem kw_987 : Cond.methodLink "ThreePointsModel" 97 ⟨"ThreePointsModel", "in", "(III)Z"⟩ ∈ xtbl := xtbl_at 987 (by decide +kernel) (by decide +kernel)
set_option maxRecDepth 20000 in
theorem kw_988 : Cond.static ⟨"ThreePointsModel", "in", "(III)Z"⟩ ∈ xtbl := xtbl_at 988 (by decide +kernel) (by decide +kernel)
set_option maxRecDepth 20000 in
theorem kw_989 : Cond.code ⟨"ThreePointsModel", "in", "(III)Z"⟩ prog_12_method_3_code 3 (some .boolean) ∈ xtbl := xtbl_at 989 rfl rfl
set_option maxRecDepth 20000 in
theorem kw_990 : Cond.methodLink "ThreePointsModel" 136 ⟨"ThreePointsModel", "wordFrom", "(II)I"⟩ ∈ xtbl := xtbl_at 990 (by decide +kernel) (by decide +kernel)
set_option maxRecDepth 20000 in
theorem kw_992 : Cond.instanceMethod ⟨"ThreePointsModel", "wordFrom", "(II)I"⟩ ∈ xtbl := xtbl_at 992 (by decide +kernel) (by decide +kernel)
set_option maxRecDepth 20000 in
theorem kw_993 : Cond.code ⟨"ThreePointsModel", "wordFrom", "(II)I"⟩ prog_12_method_13_code 6 (some .int) ∈ xtbl := xtbl_at 993 rfl rfl
set_option maxRecDepth 20000 in
theorem kw_994 : Cond.methodLink "ThreePointsModel" 176 ⟨"ThreePointsModel", "eRead", "()Z"⟩ ∈ xtbl := xtbl_at 994 (by decide +kernel) (by decide +kernel)
set_option maxRecDepth 20000 in
theorem kw_996 : Cond.instanceMethod ⟨"ThreePointsModel", "eRead", "()Z"⟩ ∈ xtbl := xtbl_at 996 (by decide +kernel) (by decide +kernel)
set_option maxRecDepth 20000 in
theorem kw_997 : Cond.code ⟨"ThreePointsModel", "eRead", "()Z"⟩ prog_12_method_22_code 4 (some .boolean) ∈ xtbl := xtbl_at 997 rfl rfl
set_option maxRecDepth 20000 in
theorem kw_998 : Cond.constant "ThreePointsModel" 166 (100000) ∈ xtbl := xtbl_at 998 (by decide +kernel) (by decide +kernel)
set_option maxRecDepth 20000 in
theorem kw_999 : Cond.methodLink "ThreePointsModel" 153 ⟨"ThreePointsModel", "puts", "(I)V"⟩ ∈ xtbl := xtbl_at 999 (by decide +kernel) (by decide +kernel)
set_option maxRecDepth 20000 in
theorem kw_1001 : Cond.instanceMethod ⟨"ThreePointsModel", "puts", "(I)V"⟩ ∈ xtbl := xtbl_at 1001 (by decide +kernel) (by decide +kernel)
set_option maxRecDepth 20000 in
theorem kw_1002 : Cond.code ⟨"ThreePointsModel", "puts", "(I)V"⟩ prog_12_method_16_code 2 none ∈ xtbl := xtbl_at 1002 rfl rfl
set_option maxRecDepth 20000 in
theorem kw_1003 : Cond.methodLink "ThreePointsModel" 160 ⟨"ThreePointsModel", "unwinds", "(I)V"⟩ ∈ xtbl := xtbl_at 1003 (by decide +kernel) (by decide +kernel)
set_option maxRecDepth 20000 in
theorem kw_1005 : Cond.instanceMethod ⟨"ThreePointsModel", "unwinds", "(I)V"⟩ ∈ xtbl := xtbl_at 1005 (by decide +kernel) (by decide +kernel)
set_option maxRecDepth 20000 in
theorem kw_1006 : Cond.code ⟨"ThreePointsModel", "unwinds", "(I)V"⟩ prog_12_method_17_code 3 none ∈ xtbl := xtbl_at 1006 rfl rfl
set_option maxRecDepth 20000 in
theorem kw_1007 : Cond.methodLink "ThreePointsModel" 146 ⟨"ThreePointsModel", "rank", "(I)I"⟩ ∈ xtbl := xtbl_at 1007 (by decide +kernel) (by decide +kernel)
set_option maxRecDepth 20000 in
theorem kw_1008 : Cond.static ⟨"ThreePointsModel", "rank", "(I)I"⟩ ∈ xtbl := xtbl_at 1008 (by decide +kernel) (by decide +kernel)
set_option maxRecDepth 20000 in
theorem kw_1009 : Cond.code ⟨"ThreePointsModel", "rank", "(I)I"⟩ prog_12_method_15_code 1 (some .int) ∈ xtbl := xtbl_at 1009 rfl rfl
set_option maxRecDepth 20000 in
theorem kw_1010 : Cond.methodLink "ThreePointsModel" 167 ⟨"ThreePointsModel", "opensOne", "(I)Z"⟩ ∈ xtbl := xtbl_at 1010 (by decide +kernel) (by decide +kernel)
set_option maxRecDepth 20000 in
theorem kw_1012 : Cond.instanceMethod ⟨"ThreePointsModel", "opensOne", "(I)Z"⟩ ∈ xtbl := xtbl_at 1012 (by decide +kernel) (by decide +kernel)
set_option maxRecDepth 20000 in
theorem kw_1013 : Cond.code ⟨"ThreePointsModel", "opensOne", "(I)Z"⟩ prog_12_method_19_code 2 (some .boolean) ∈ xtbl := xtbl_at 1013 rfl rfl
set_option maxRecDepth 20000 in
theorem kw_1014 : Cond.methodLink "ThreePointsModel" 157 ⟨"ThreePointsModel", "holds", "(I)V"⟩ ∈ xtbl := xtbl_at 1014 (by decide +kernel) (by decide +kernel)
set_option maxRecDepth 20000 in
theorem kw_1016 : Cond.instanceMethod ⟨"ThreePointsModel", "holds", "(I)V"⟩ ∈ xtbl := xtbl_at 1016 (by decide +kernel) (by decide +kernel)
set_option maxRecDepth 20000 in
theorem kw_1017 : Cond.code ⟨"ThreePointsModel", "holds", "(I)V"⟩ prog_12_method_18_code 2 none ∈ xtbl := xtbl_at 1017 rfl rfl
set_option maxRecDepth 20000 in
theorem kw_1018 : Cond.methodLink "ThreePointsModel" 170 ⟨"ThreePointsModel", "signOf", "()I"⟩ ∈ xtbl := xtbl_at 1018 (by decide +kernel) (by decide +kernel)
set_option maxRecDepth 20000 in
theorem kw_1020 : Cond.instanceMethod ⟨"ThreePointsModel", "signOf", "()I"⟩ ∈ xtbl := xtbl_at 1020 (by decide +kernel) (by decide +kernel)
set_option maxRecDepth 20000 in
theorem kw_1021 : Cond.code ⟨"ThreePointsModel", "signOf", "()I"⟩ prog_12_method_21_code 1 (some .int) ∈ xtbl := xtbl_at 1021 rfl rfl
set_option maxRecDepth 20000 in
theorem kw_1022 : Cond.methodLink "ThreePointsModel" 173 ⟨"ThreePointsModel", "between", "(I)Z"⟩ ∈ xtbl := xtbl_at 1022 (by decide +kernel) (by decide +kernel)
set_option maxRecDepth 20000 in
theorem kw_1024 : Cond.instanceMethod ⟨"ThreePointsModel", "between", "(I)Z"⟩ ∈ xtbl := xtbl_at 1024 (by decide +kernel) (by decide +kernel)
set_option maxRecDepth 20000 in
theorem kw_1025 : Cond.code ⟨"ThreePointsModel", "between", "(I)Z"⟩ prog_12_method_20_code 2 (some .boolean) ∈ xtbl := xtbl_at 1025 rfl rfl
set_option maxRecDepth 20000 in
theorem kw_1026 : Cond.fieldLink "ThreePointsModel" 7 "ThreePointsModel" "across" "[I" ∈ xtbl := xtbl_at 1026 (by decide +kernel) (by decide +kernel)
set_option maxRecDepth 20000 in
theorem kw_1027 : Cond.fieldLink "ThreePointsModel" 13 "ThreePointsModel" "width" "I" ∈ xtbl := xtbl_at 1027 (by decide +kernel) (by decide +kernel)
set_option maxRecDepth 20000 in
theorem kw_1028 : Cond.fieldLink "ThreePointsModel" 105 "ThreePointsModel" "opening" "I" ∈ xtbl := xtbl_at 1028 (by decide +kernel) (by decide +kernel)
set_option maxRecDepth 20000 in
theorem kw_1029 : Cond.fieldLink "ThreePointsModel" 94 "ThreePointsModel" "vehicles" "I" ∈ xtbl := xtbl_at 1029 (by decide +kernel) (by decide +kernel)
set_option maxRecDepth 20000 in
theorem kw_1030 : Cond.fieldLink "ThreePointsModel" 17 "ThreePointsModel" "kind" "[I" ∈ xtbl := xtbl_at 1030 (by decide +kernel) (by decide +kernel)
set_option maxRecDepth 20000 in
theorem kw_1031 : Cond.fieldLink "ThreePointsModel" 20 "ThreePointsModel" "moreOf" "[I" ∈ xtbl := xtbl_at 1031 (by decide +kernel) (by decide +kernel)
set_option maxRecDepth 20000 in
theorem kw_1032 : Cond.fieldLink "ThreePointsModel" 23 "ThreePointsModel" "rows" "[I" ∈ xtbl := xtbl_at 1032 (by decide +kernel) (by decide +kernel)
set_option maxRecDepth 20000 in
theorem kw_1033 : Cond.fieldLink "ThreePointsModel" 26 "ThreePointsModel" "tape" "[I" ∈ xtbl := xtbl_at 1033 (by decide +kernel) (by decide +kernel)
set_option maxRecDepth 20000 in
theorem kw_1034 : Cond.fieldLink "ThreePointsModel" 87 "ThreePointsModel" "taped" "I" ∈ xtbl := xtbl_at 1034 (by decide +kernel) (by decide +kernel)
set_option maxRecDepth 20000 in
theorem kw_1035 : Cond.fieldLink "ThreePointsModel" 29 "ThreePointsModel" "codes" "[I" ∈ xtbl := xtbl_at 1035 (by decide +kernel) (by decide +kernel)
set_option maxRecDepth 20000 in
theorem kw_1036 : Cond.fieldLink "ThreePointsModel" 32 "ThreePointsModel" "starts" "[I" ∈ xtbl := xtbl_at 1036 (by decide +kernel) (by decide +kernel)
set_option maxRecDepth 20000 in
theorem kw_1037 : Cond.fieldLink "ThreePointsModel" 108 "ThreePointsModel" "texts" "I" ∈ xtbl := xtbl_at 1037 (by decide +kernel) (by decide +kernel)
set_option maxRecDepth 20000 in
theorem kw_1038 : Cond.fieldLink "ThreePointsModel" 111 "ThreePointsModel" "rule" "I" ∈ xtbl := xtbl_at 1038 (by decide +kernel) (by decide +kernel)
set_option maxRecDepth 20000 in
theorem kw_1039 : Cond.fieldLink "ThreePointsModel" 294 "ThreePointsModel" "hasImage" "Z" ∈ xtbl := xtbl_at 1039 (by decide +kernel) (by decide +kernel)
set_option maxRecDepth 20000 in
theorem kw_1040 : Cond.fieldLink "ThreePointsModel" 35 "ThreePointsModel" "imageRows" "[I" ∈ xtbl := xtbl_at 1040 (by decide +kernel) (by decide +kernel)
set_option maxRecDepth 20000 in
theorem kw_1041 : Cond.fieldLink "ThreePointsModel" 38 "ThreePointsModel" "imageHeld" "[I" ∈ xtbl := xtbl_at 1041 (by decide +kernel) (by decide +kernel)
set_option maxRecDepth 20000 in
theorem kw_1042 : Cond.fieldLink "ThreePointsModel" 41 "ThreePointsModel" "sheetSort" "[I" ∈ xtbl := xtbl_at 1042 (by decide +kernel) (by decide +kernel)
set_option maxRecDepth 20000 in
theorem kw_1043 : Cond.fieldLink "ThreePointsModel" 44 "ThreePointsModel" "sheetSize" "[I" ∈ xtbl := xtbl_at 1043 (by decide +kernel) (by decide +kernel)
set_option maxRecDepth 20000 in
theorem kw_1044 : Cond.fieldLink "ThreePointsModel" 47 "ThreePointsModel" "cells" "[I" ∈ xtbl := xtbl_at 1044 (by decide +kernel) (by decide +kernel)
set_option maxRecDepth 20000 in
theorem kw_1046 : Cond.fieldLink "ThreePointsModel" 124 "ThreePointsModel" "at" "I" ∈ xtbl := xtbl_at 1046 (by decide +kernel) (by decide +kernel)
set_option maxRecDepth 20000 in
theorem kw_1047 : Cond.fieldLink "ThreePointsModel" 127 "ThreePointsModel" "begun" "I" ∈ xtbl := xtbl_at 1047 (by decide +kernel) (by decide +kernel)
set_option maxRecDepth 20000 in
theorem kw_1048 : Cond.fieldLink "ThreePointsModel" 130 "ThreePointsModel" "token" "I" ∈ xtbl := xtbl_at 1048 (by decide +kernel) (by decide +kernel)
set_option maxRecDepth 20000 in
theorem kw_1049 : Cond.fieldLink "ThreePointsModel" 133 "ThreePointsModel" "value" "I" ∈ xtbl := xtbl_at 1049 (by decide +kernel) (by decide +kernel)
set_option maxRecDepth 20000 in
theorem kw_1050 : Cond.fieldLink "ThreePointsModel" 53 "ThreePointsModel" "words" "[I" ∈ xtbl := xtbl_at 1050 (by decide +kernel) (by decide +kernel)
set_option maxRecDepth 20000 in
theorem kw_1051 : Cond.fieldLink "ThreePointsModel" 56 "ThreePointsModel" "held" "[I" ∈ xtbl := xtbl_at 1051 (by decide +kernel) (by decide +kernel)
set_option maxRecDepth 20000 in
theorem kw_1052 : Cond.fieldLink "ThreePointsModel" 143 "ThreePointsModel" "heldMany" "I" ∈ xtbl := xtbl_at 1052 (by decide +kernel) (by decide +kernel)
set_option maxRecDepth 20000 in
theorem kw_1053 : Cond.fieldLink "ThreePointsModel" 150 "ThreePointsModel" "opens" "I" ∈ xtbl := xtbl_at 1053 (by decide +kernel) (by decide +kernel)
set_option maxRecDepth 20000 in
theorem kw_1054 : Cond.fieldLink "ThreePointsModel" 140 "ThreePointsModel" "out" "I" ∈ xtbl := xtbl_at 1054 (by decide +kernel) (by decide +kernel)
set_option maxRecDepth 20000 in
theorem kw_1055 : Cond.fieldLink "ThreePointsModel" 59 "ThreePointsModel" "stack" "[I" ∈ xtbl := xtbl_at 1055 (by decide +kernel) (by decide +kernel)
set_option maxRecDepth 20000 in
theorem kw_1056 : Cond.fieldLink "ThreePointsModel" 62 "ThreePointsModel" "named" "[I" ∈ xtbl := xtbl_at 1056 (by decide +kernel) (by decide +kernel)
set_option maxRecDepth 20000 in
theorem kw_1057 : Cond.fieldLink "ThreePointsModel" 65 "ThreePointsModel" "fitsIn" "[Z" ∈ xtbl := xtbl_at 1057 (by decide +kernel) (by decide +kernel)
set_option maxRecDepth 20000 in
theorem kw_1058 : Cond.fieldLink "ThreePointsModel" 69 "ThreePointsModel" "wearIn" "[I" ∈ xtbl := xtbl_at 1058 (by decide +kernel) (by decide +kernel)
set_option maxRecDepth 20000 in
theorem kw_1059 : Cond.fieldLink "ThreePointsModel" 72 "ThreePointsModel" "dist" "[I" ∈ xtbl := xtbl_at 1059 (by decide +kernel) (by decide +kernel)
set_option maxRecDepth 20000 in
theorem kw_1060 : Cond.fieldLink "ThreePointsModel" 75 "ThreePointsModel" "queued" "[Z" ∈ xtbl := xtbl_at 1060 (by decide +kernel) (by decide +kernel)
set_option maxRecDepth 20000 in
theorem kw_1061 : Cond.fieldLink "ThreePointsModel" 78 "ThreePointsModel" "queue" "[I" ∈ xtbl := xtbl_at 1061 (by decide +kernel) (by decide +kernel)
set_option maxRecDepth 20000 in
theorem kw_1062 : Cond.fieldLink "ThreePointsModel" 81 "ThreePointsModel" "kept" "[I" ∈ xtbl := xtbl_at 1062 (by decide +kernel) (by decide +kernel)
set_option maxRecDepth 20000 in
theorem kw_1063 : Cond.fieldLink "ThreePointsModel" 84 "ThreePointsModel" "last" "[I" ∈ xtbl := xtbl_at 1063 (by decide +kernel) (by decide +kernel)
set_option maxRecDepth 20000 in
theorem kw_1064 : Cond.fieldLink "ThreePointsModel" 269 "ThreePointsModel" "hitsIn" "I" ∈ xtbl := xtbl_at 1064 (by decide +kernel) (by decide +kernel)
set_option maxRecDepth 20000 in
theorem kw_1147 : Cond.code ⟨"ThreePointsModel", "count", "(I)I"⟩ prog_12_method_8_code 2 (some .int) ∈ xtbl := xtbl_at 1147 rfl rfl
set_option maxRecDepth 20000 in
theorem kw_1151 : Cond.code ⟨"ThreePointsModel", "set", "(II)I"⟩ prog_12_method_10_code 5 (some .int) ∈ xtbl := xtbl_at 1151 rfl rfl
set_option maxRecDepth 20000 in
theorem kw_1152 : Cond.methodLink "ThreePointsModel" 117 ⟨"ThreePointsModel", "doAllFit", "()Z"⟩ ∈ xtbl := xtbl_at 1152 (by decide +kernel) (by decide +kernel)
set_option maxRecDepth 20000 in
theorem kw_1154 : Cond.instanceMethod ⟨"ThreePointsModel", "doAllFit", "()Z"⟩ ∈ xtbl := xtbl_at 1154 (by decide +kernel) (by decide +kernel)
set_option maxRecDepth 20000 in
theorem kw_1155 : Cond.code ⟨"ThreePointsModel", "doAllFit", "()Z"⟩ prog_12_method_9_code 3 (some .boolean) ∈ xtbl := xtbl_at 1155 rfl rfl
set_option maxRecDepth 20000 in
theorem kw_1156 : Cond.methodLink "ThreePointsModel" 101 ⟨"ThreePointsModel", "isPlace", "(I)Z"⟩ ∈ xtbl := xtbl_at 1156 (by decide +kernel) (by decide +kernel)
set_option maxRecDepth 20000 in
theorem kw_1158 : Cond.instanceMethod ⟨"ThreePointsModel", "isPlace", "(I)Z"⟩ ∈ xtbl := xtbl_at 1158 (by decide +kernel) (by decide +kernel)
set_option maxRecDepth 20000 in
theorem kw_1159 : Cond.code ⟨"ThreePointsModel", "isPlace", "(I)Z"⟩ prog_12_method_6_code 2 (some .boolean) ∈ xtbl := xtbl_at 1159 rfl rfl
set_option maxRecDepth 20000 in
theorem kw_1160 : Cond.methodLink "ThreePointsModel" 114 ⟨"ThreePointsModel", "fitsAt", "(III)Z"⟩ ∈ xtbl := xtbl_at 1160 (by decide +kernel) (by decide +kernel)
set_option maxRecDepth 20000 in
theorem kw_1162 : Cond.instanceMethod ⟨"ThreePointsModel", "fitsAt", "(III)Z"⟩ ∈ xtbl := xtbl_at 1162 (by decide +kernel) (by decide +kernel)
set_option maxRecDepth 20000 in
theorem kw_1163 : Cond.code ⟨"ThreePointsModel", "fitsAt", "(III)Z"⟩ prog_12_method_32_code 9 (some .boolean) ∈ xtbl := xtbl_at 1163 rfl rfl
set_option maxRecDepth 20000 in
theorem kw_1164 : Cond.methodLink "ThreePointsModel" 199 ⟨"ThreePointsModel", "frontOf", "(I)I"⟩ ∈ xtbl := xtbl_at 1164 (by decide +kernel) (by decide +kernel)
set_option maxRecDepth 20000 in
theorem kw_1166 : Cond.instanceMethod ⟨"ThreePointsModel", "frontOf", "(I)I"⟩ ∈ xtbl := xtbl_at 1166 (by decide +kernel) (by decide +kernel)
set_option maxRecDepth 20000 in
theorem kw_1167 : Cond.code ⟨"ThreePointsModel", "frontOf", "(I)I"⟩ prog_12_method_29_code 2 (some .int) ∈ xtbl := xtbl_at 1167 rfl rfl
set_option maxRecDepth 20000 in
theorem kw_1168 : Cond.methodLink "ThreePointsModel" 202 ⟨"ThreePointsModel", "backOf", "(I)I"⟩ ∈ xtbl := xtbl_at 1168 (by decide +kernel) (by decide +kernel)
set_option maxRecDepth 20000 in
theorem kw_1170 : Cond.instanceMethod ⟨"ThreePointsModel", "backOf", "(I)I"⟩ ∈ xtbl := xtbl_at 1170 (by decide +kernel) (by decide +kernel)
set_option maxRecDepth 20000 in
theorem kw_1171 : Cond.code ⟨"ThreePointsModel", "backOf", "(I)I"⟩ prog_12_method_30_code 2 (some .int) ∈ xtbl := xtbl_at 1171 rfl rfl
set_option maxRecDepth 20000 in
theorem kw_1172 : Cond.methodLink "ThreePointsModel" 195 ⟨"ThreePointsModel", "asksOf", "(IIIIII)I"⟩ ∈ xtbl := xtbl_at 1172 (by decide +kernel) (by decide +kernel)
set_option maxRecDepth 20000 in
theorem kw_1174 : Cond.instanceMethod ⟨"ThreePointsModel", "asksOf", "(IIIIII)I"⟩ ∈ xtbl := xtbl_at 1174 (by decide +kernel) (by decide +kernel)
set_option maxRecDepth 20000 in
theorem kw_1175 : Cond.code ⟨"ThreePointsModel", "asksOf", "(IIIIII)I"⟩ prog_12_method_27_code 7 (some .int) ∈ xtbl := xtbl_at 1175 rfl rfl
set_option maxRecDepth 20000 in
theorem kw_1176 : Cond.methodLink "ThreePointsModel" 183 ⟨"ThreePointsModel", "says", "(I)I"⟩ ∈ xtbl := xtbl_at 1176 (by decide +kernel) (by decide +kernel)
set_option maxRecDepth 20000 in
theorem kw_1178 : Cond.instanceMethod ⟨"ThreePointsModel", "says", "(I)I"⟩ ∈ xtbl := xtbl_at 1178 (by decide +kernel) (by decide +kernel)
set_option maxRecDepth 20000 in
theorem kw_1179 : Cond.code ⟨"ThreePointsModel", "says", "(I)I"⟩ prog_12_method_25_code 5 (some .int) ∈ xtbl := xtbl_at 1179 rfl rfl
set_option maxRecDepth 20000 in
theorem kw_1180 : Cond.methodLink "ThreePointsModel" 179 ⟨"ThreePointsModel", "two", "(III)I"⟩ ∈ xtbl := xtbl_at 1180 (by decide +kernel) (by decide +kernel)
set_option maxRecDepth 20000 in
theorem kw_1181 : Cond.static ⟨"ThreePointsModel", "two", "(III)I"⟩ ∈ xtbl := xtbl_at 1181 (by decide +kernel) (by decide +kernel)
set_option maxRecDepth 20000 in
theorem kw_1182 : Cond.code ⟨"ThreePointsModel", "two", "(III)I"⟩ prog_12_method_24_code 3 (some .int) ∈ xtbl := xtbl_at 1182 rfl rfl
set_option maxRecDepth 20000 in
theorem kw_1183 : Cond.methodLink "ThreePointsModel" 186 ⟨"ThreePointsModel", "within", "(III)I"⟩ ∈ xtbl := xtbl_at 1183 (by decide +kernel) (by decide +kernel)
set_option maxRecDepth 20000 in
theorem kw_1184 : Cond.static ⟨"ThreePointsModel", "within", "(III)I"⟩ ∈ xtbl := xtbl_at 1184 (by decide +kernel) (by decide +kernel)
set_option maxRecDepth 20000 in
theorem kw_1185 : Cond.code ⟨"ThreePointsModel", "within", "(III)I"⟩ prog_12_method_4_code 3 (some .int) ∈ xtbl := xtbl_at 1185 rfl rfl
set_option maxRecDepth 20000 in
theorem kw_1189 : Cond.code ⟨"ThreePointsModel", "feed", "(IIIIII)I"⟩ prog_12_method_12_code 8 (some .int) ∈ xtbl := xtbl_at 1189 rfl rfl
set_option maxRecDepth 20000 in
theorem kw_1190 : Cond.methodLink "ThreePointsModel" 121 ⟨"ThreePointsModel", "isByte", "(I)Z"⟩ ∈ xtbl := xtbl_at 1190 (by decide +kernel) (by decide +kernel)
set_option maxRecDepth 20000 in
theorem kw_1191 : Cond.static ⟨"ThreePointsModel", "isByte", "(I)Z"⟩ ∈ xtbl := xtbl_at 1191 (by decide +kernel) (by decide +kernel)
set_option maxRecDepth 20000 in
theorem kw_1192 : Cond.code ⟨"ThreePointsModel", "isByte", "(I)Z"⟩ prog_12_method_11_code 1 (some .boolean) ∈ xtbl := xtbl_at 1192 rfl rfl
set_option maxRecDepth 20000 in
theorem kw_1197 : Cond.code ⟨"ThreePointsModel", "force", "(I)I"⟩ prog_12_method_26_code 3 (some .int) ∈ xtbl := xtbl_at 1197 rfl rfl
set_option maxRecDepth 20000 in
theorem kw_1201 : Cond.code ⟨"ThreePointsModel", "asks", "(IIII)I"⟩ prog_12_method_28_code 6 (some .int) ∈ xtbl := xtbl_at 1201 rfl rfl
set_option maxRecDepth 20000 in
theorem kw_1202 : Cond.methodLink "ThreePointsModel" 189 ⟨"ThreePointsModel", "isVehicle", "(I)Z"⟩ ∈ xtbl := xtbl_at 1202 (by decide +kernel) (by decide +kernel)
set_option maxRecDepth 20000 in
theorem kw_1204 : Cond.instanceMethod ⟨"ThreePointsModel", "isVehicle", "(I)Z"⟩ ∈ xtbl := xtbl_at 1204 (by decide +kernel) (by decide +kernel)
set_option maxRecDepth 20000 in
theorem kw_1205 : Cond.code ⟨"ThreePointsModel", "isVehicle", "(I)Z"⟩ prog_12_method_5_code 2 (some .boolean) ∈ xtbl := xtbl_at 1205 rfl rfl
set_option maxRecDepth 20000 in
theorem kw_1206 : Cond.methodLink "ThreePointsModel" 192 ⟨"ThreePointsModel", "isBoth", "(I)Z"⟩ ∈ xtbl := xtbl_at 1206 (by decide +kernel) (by decide +kernel)
set_option maxRecDepth 20000 in
theorem kw_1208 : Cond.instanceMethod ⟨"ThreePointsModel", "isBoth", "(I)Z"⟩ ∈ xtbl := xtbl_at 1208 (by decide +kernel) (by decide +kernel)
set_option maxRecDepth 20000 in
theorem kw_1209 : Cond.code ⟨"ThreePointsModel", "isBoth", "(I)Z"⟩ prog_12_method_7_code 2 (some .boolean) ∈ xtbl := xtbl_at 1209 rfl rfl
set_option maxRecDepth 20000 in
theorem kw_1211 : Cond.instanceMethod ⟨"ThreePointsModel", "vehicle", "(II)I"⟩ ∈ xtbl := xtbl_at 1211 (by decide +kernel) (by decide +kernel)
set_option maxRecDepth 20000 in
theorem kw_1212 : Cond.selects "ThreePointsModel" ⟨"ThreePointsModel", "vehicle", "(II)I"⟩ ⟨"ThreePointsModel", "vehicle", "(II)I"⟩ ∈ xtbl := xtbl_at 1212 (by decide +kernel) (by decide +kernel)
set_option maxRecDepth 20000 in
theorem kw_1213 : Cond.code ⟨"ThreePointsModel", "vehicle", "(II)I"⟩ prog_12_method_33_code 4 (some .int) ∈ xtbl := xtbl_at 1213 rfl rfl
set_option maxRecDepth 20000 in
theorem kw_1217 : Cond.code ⟨"ThreePointsModel", "told", "(II)I"⟩ prog_12_method_34_code 3 (some .int) ∈ xtbl := xtbl_at 1217 rfl rfl
set_option maxRecDepth 20000 in
theorem kw_1221 : Cond.code ⟨"ThreePointsModel", "fit", "(II)I"⟩ prog_12_method_35_code 3 (some .int) ∈ xtbl := xtbl_at 1221 rfl rfl
set_option maxRecDepth 20000 in
theorem kw_1225 : Cond.code ⟨"ThreePointsModel", "drive", "(III)I"⟩ prog_12_method_40_code 4 (some .int) ∈ xtbl := xtbl_at 1225 rfl rfl
set_option maxRecDepth 20000 in
theorem kw_1226 : Cond.methodLink "ThreePointsModel" 215 ⟨"ThreePointsModel", "canGo", "(III)Z"⟩ ∈ xtbl := xtbl_at 1226 (by decide +kernel) (by decide +kernel)
set_option maxRecDepth 20000 in
theorem kw_1228 : Cond.instanceMethod ⟨"ThreePointsModel", "canGo", "(III)Z"⟩ ∈ xtbl := xtbl_at 1228 (by decide +kernel) (by decide +kernel)
set_option maxRecDepth 20000 in
theorem kw_1229 : Cond.code ⟨"ThreePointsModel", "canGo", "(III)Z"⟩ prog_12_method_38_code 5 (some .boolean) ∈ xtbl := xtbl_at 1229 rfl rfl
set_option maxRecDepth 20000 in
theorem kw_1230 : Cond.methodLink "ThreePointsModel" 208 ⟨"ThreePointsModel", "placeBy", "(III)I"⟩ ∈ xtbl := xtbl_at 1230 (by decide +kernel) (by decide +kernel)
set_option maxRecDepth 20000 in
theorem kw_1232 : Cond.instanceMethod ⟨"ThreePointsModel", "placeBy", "(III)I"⟩ ∈ xtbl := xtbl_at 1232 (by decide +kernel) (by decide +kernel)
set_option maxRecDepth 20000 in
theorem kw_1233 : Cond.code ⟨"ThreePointsModel", "placeBy", "(III)I"⟩ prog_12_method_36_code 4 (some .int) ∈ xtbl := xtbl_at 1233 rfl rfl
set_option maxRecDepth 20000 in
theorem kw_1234 : Cond.methodLink "ThreePointsModel" 211 ⟨"ThreePointsModel", "headingBy", "(IIII)I"⟩ ∈ xtbl := xtbl_at 1234 (by decide +kernel) (by decide +kernel)
set_option maxRecDepth 20000 in
theorem kw_1236 : Cond.instanceMethod ⟨"ThreePointsModel", "headingBy", "(IIII)I"⟩ ∈ xtbl := xtbl_at 1236 (by decide +kernel) (by decide +kernel)
set_option maxRecDepth 20000 in
theorem kw_1237 : Cond.code ⟨"ThreePointsModel", "headingBy", "(IIII)I"⟩ prog_12_method_37_code 5 (some .int) ∈ xtbl := xtbl_at 1237 rfl rfl
set_option maxRecDepth 20000 in
theorem kw_1238 : Cond.methodLink "ThreePointsModel" 205 ⟨"ThreePointsModel", "turnsOf", "(III)I"⟩ ∈ xtbl := xtbl_at 1238 (by decide +kernel) (by decide +kernel)
set_option maxRecDepth 20000 in
theorem kw_1240 : Cond.instanceMethod ⟨"ThreePointsModel", "turnsOf", "(III)I"⟩ ∈ xtbl := xtbl_at 1240 (by decide +kernel) (by decide +kernel)
set_option maxRecDepth 20000 in
theorem kw_1241 : Cond.code ⟨"ThreePointsModel", "turnsOf", "(III)I"⟩ prog_12_method_31_code 5 (some .int) ∈ xtbl := xtbl_at 1241 rfl rfl
set_option maxRecDepth 20000 in
theorem kw_1242 : Cond.methodLink "ThreePointsModel" 218 ⟨"ThreePointsModel", "goes", "(III)V"⟩ ∈ xtbl := xtbl_at 1242 (by decide +kernel) (by decide +kernel)
set_option maxRecDepth 20000 in
theorem kw_1244 : Cond.instanceMethod ⟨"ThreePointsModel", "goes", "(III)V"⟩ ∈ xtbl := xtbl_at 1244 (by decide +kernel) (by decide +kernel)
set_option maxRecDepth 20000 in
theorem kw_1245 : Cond.code ⟨"ThreePointsModel", "goes", "(III)V"⟩ prog_12_method_39_code 6 none ∈ xtbl := xtbl_at 1245 rfl rfl
set_option maxRecDepth 20000 in
theorem kw_1249 : Cond.code ⟨"ThreePointsModel", "begin", "(II)I"⟩ prog_12_method_41_code 5 (some .int) ∈ xtbl := xtbl_at 1249 rfl rfl
set_option maxRecDepth 20000 in
theorem kw_1253 : Cond.code ⟨"ThreePointsModel", "turned", "(II)I"⟩ prog_12_method_52_code 3 (some .int) ∈ xtbl := xtbl_at 1253 rfl rfl
set_option maxRecDepth 20000 in
theorem kw_1254 : Cond.methodLink "ThreePointsModel" 241 ⟨"ThreePointsModel", "isGoal", "(I)Z"⟩ ∈ xtbl := xtbl_at 1254 (by decide +kernel) (by decide +kernel)
set_option maxRecDepth 20000 in
theorem kw_1255 : Cond.static ⟨"ThreePointsModel", "isGoal", "(I)Z"⟩ ∈ xtbl := xtbl_at 1255 (by decide +kernel) (by decide +kernel)
set_option maxRecDepth 20000 in
theorem kw_1256 : Cond.code ⟨"ThreePointsModel", "isGoal", "(I)Z"⟩ prog_12_method_49_code 1 (some .boolean) ∈ xtbl := xtbl_at 1256 rfl rfl
set_option maxRecDepth 20000 in
theorem kw_1257 : Cond.methodLink "ThreePointsModel" 244 ⟨"ThreePointsModel", "tellsLane", "(IZ)V"⟩ ∈ xtbl := xtbl_at 1257 (by decide +kernel) (by decide +kernel)
set_option maxRecDepth 20000 in
theorem kw_1259 : Cond.instanceMethod ⟨"ThreePointsModel", "tellsLane", "(IZ)V"⟩ ∈ xtbl := xtbl_at 1259 (by decide +kernel) (by decide +kernel)
set_option maxRecDepth 20000 in
theorem kw_1260 : Cond.code ⟨"ThreePointsModel", "tellsLane", "(IZ)V"⟩ prog_12_method_42_code 5 none ∈ xtbl := xtbl_at 1260 rfl rfl
set_option maxRecDepth 20000 in
theorem kw_1261 : Cond.methodLink "ThreePointsModel" 248 ⟨"ThreePointsModel", "firstStep", "(II)I"⟩ ∈ xtbl := xtbl_at 1261 (by decide +kernel) (by decide +kernel)
set_option maxRecDepth 20000 in
theorem kw_1263 : Cond.instanceMethod ⟨"ThreePointsModel", "firstStep", "(II)I"⟩ ∈ xtbl := xtbl_at 1263 (by decide +kernel) (by decide +kernel)
set_option maxRecDepth 20000 in
theorem kw_1264 : Cond.code ⟨"ThreePointsModel", "firstStep", "(II)I"⟩ prog_12_method_50_code 9 (some .int) ∈ xtbl := xtbl_at 1264 rfl rfl
set_option maxRecDepth 20000 in
theorem kw_1265 : Cond.constant "ThreePointsModel" 222 (1000000000) ∈ xtbl := xtbl_at 1265 (by decide +kernel) (by decide +kernel)
set_option maxRecDepth 20000 in
theorem kw_1266 : Cond.methodLink "ThreePointsModel" 229 ⟨"ThreePointsModel", "stateOf", "(I)I"⟩ ∈ xtbl := xtbl_at 1266 (by decide +kernel) (by decide +kernel)
set_option maxRecDepth 20000 in
theorem kw_1268 : Cond.instanceMethod ⟨"ThreePointsModel", "stateOf", "(I)I"⟩ ∈ xtbl := xtbl_at 1268 (by decide +kernel) (by decide +kernel)
set_option maxRecDepth 20000 in
theorem kw_1269 : Cond.code ⟨"ThreePointsModel", "stateOf", "(I)I"⟩ prog_12_method_47_code 2 (some .int) ∈ xtbl := xtbl_at 1269 rfl rfl
set_option maxRecDepth 20000 in
theorem kw_1270 : Cond.methodLink "ThreePointsModel" 223 ⟨"ThreePointsModel", "stateBehind", "(IIII)I"⟩ ∈ xtbl := xtbl_at 1270 (by decide +kernel) (by decide +kernel)
set_option maxRecDepth 20000 in
theorem kw_1272 : Cond.instanceMethod ⟨"ThreePointsModel", "stateBehind", "(IIII)I"⟩ ∈ xtbl := xtbl_at 1272 (by decide +kernel) (by decide +kernel)
set_option maxRecDepth 20000 in
theorem kw_1273 : Cond.code ⟨"ThreePointsModel", "stateBehind", "(IIII)I"⟩ prog_12_method_44_code 8 (some .int) ∈ xtbl := xtbl_at 1273 rfl rfl
set_option maxRecDepth 20000 in
theorem kw_1274 : Cond.methodLink "ThreePointsModel" 232 ⟨"ThreePointsModel", "seeks", "(III)V"⟩ ∈ xtbl := xtbl_at 1274 (by decide +kernel) (by decide +kernel)
set_option maxRecDepth 20000 in
theorem kw_1276 : Cond.instanceMethod ⟨"ThreePointsModel", "seeks", "(III)V"⟩ ∈ xtbl := xtbl_at 1276 (by decide +kernel) (by decide +kernel)
set_option maxRecDepth 20000 in
theorem kw_1277 : Cond.code ⟨"ThreePointsModel", "seeks", "(III)V"⟩ prog_12_method_45_code 11 none ∈ xtbl := xtbl_at 1277 rfl rfl
set_option maxRecDepth 20000 in
theorem kw_1278 : Cond.methodLink "ThreePointsModel" 226 ⟨"ThreePointsModel", "costsStep", "(IIII)I"⟩ ∈ xtbl := xtbl_at 1278 (by decide +kernel) (by decide +kernel)
set_option maxRecDepth 20000 in
theorem kw_1280 : Cond.instanceMethod ⟨"ThreePointsModel", "costsStep", "(IIII)I"⟩ ∈ xtbl := xtbl_at 1280 (by decide +kernel) (by decide +kernel)
set_option maxRecDepth 20000 in
theorem kw_1281 : Cond.code ⟨"ThreePointsModel", "costsStep", "(IIII)I"⟩ prog_12_method_43_code 5 (some .int) ∈ xtbl := xtbl_at 1281 rfl rfl
set_option maxRecDepth 20000 in
theorem kw_1282 : Cond.methodLink "ThreePointsModel" 235 ⟨"ThreePointsModel", "otherOf", "(I)I"⟩ ∈ xtbl := xtbl_at 1282 (by decide +kernel) (by decide +kernel)
set_option maxRecDepth 20000 in
theorem kw_1284 : Cond.instanceMethod ⟨"ThreePointsModel", "otherOf", "(I)I"⟩ ∈ xtbl := xtbl_at 1284 (by decide +kernel) (by decide +kernel)
set_option maxRecDepth 20000 in
theorem kw_1285 : Cond.code ⟨"ThreePointsModel", "otherOf", "(I)I"⟩ prog_12_method_48_code 2 (some .int) ∈ xtbl := xtbl_at 1285 rfl rfl
set_option maxRecDepth 20000 in
theorem kw_1286 : Cond.methodLink "ThreePointsModel" 238 ⟨"ThreePointsModel", "leastTo", "(I)I"⟩ ∈ xtbl := xtbl_at 1286 (by decide +kernel) (by decide +kernel)
set_option maxRecDepth 20000 in
theorem kw_1288 : Cond.instanceMethod ⟨"ThreePointsModel", "leastTo", "(I)I"⟩ ∈ xtbl := xtbl_at 1288 (by decide +kernel) (by decide +kernel)
set_option maxRecDepth 20000 in
theorem kw_1289 : Cond.code ⟨"ThreePointsModel", "leastTo", "(I)I"⟩ prog_12_method_46_code 6 (some .int) ∈ xtbl := xtbl_at 1289 rfl rfl
set_option maxRecDepth 20000 in
theorem kw_1290 : Cond.methodLink "ThreePointsModel" 251 ⟨"ThreePointsModel", "orNone", "(I)I"⟩ ∈ xtbl := xtbl_at 1290 (by decide +kernel) (by decide +kernel)
set_option maxRecDepth 20000 in
theorem kw_1291 : Cond.static ⟨"ThreePointsModel", "orNone", "(I)I"⟩ ∈ xtbl := xtbl_at 1291 (by decide +kernel) (by decide +kernel)
set_option maxRecDepth 20000 in
theorem kw_1292 : Cond.code ⟨"ThreePointsModel", "orNone", "(I)I"⟩ prog_12_method_51_code 1 (some .int) ∈ xtbl := xtbl_at 1292 rfl rfl
set_option maxRecDepth 20000 in
theorem kw_1296 : Cond.code ⟨"ThreePointsModel", "where", "(II)I"⟩ prog_12_method_54_code 7 (some .int) ∈ xtbl := xtbl_at 1296 rfl rfl
set_option maxRecDepth 20000 in
theorem kw_1297 : Cond.methodLink "ThreePointsModel" 254 ⟨"ThreePointsModel", "fromBegin", "(III)I"⟩ ∈ xtbl := xtbl_at 1297 (by decide +kernel) (by decide +kernel)
set_option maxRecDepth 20000 in
theorem kw_1299 : Cond.instanceMethod ⟨"ThreePointsModel", "fromBegin", "(III)I"⟩ ∈ xtbl := xtbl_at 1299 (by decide +kernel) (by decide +kernel)
set_option maxRecDepth 20000 in
theorem kw_1300 : Cond.code ⟨"ThreePointsModel", "fromBegin", "(III)I"⟩ prog_12_method_53_code 4 (some .int) ∈ xtbl := xtbl_at 1300 rfl rfl
set_option maxRecDepth 20000 in
theorem kw_1304 : Cond.code ⟨"ThreePointsModel", "narrow", "(II)I"⟩ prog_12_method_55_code 6 (some .int) ∈ xtbl := xtbl_at 1304 rfl rfl
set_option maxRecDepth 20000 in
theorem kw_1308 : Cond.code ⟨"ThreePointsModel", "cut", "(II)I"⟩ prog_12_method_56_code 6 (some .int) ∈ xtbl := xtbl_at 1308 rfl rfl
set_option maxRecDepth 20000 in
theorem kw_1312 : Cond.code ⟨"ThreePointsModel", "headings", "(I)I"⟩ prog_12_method_57_code 4 (some .int) ∈ xtbl := xtbl_at 1312 rfl rfl
set_option maxRecDepth 20000 in
theorem kw_1316 : Cond.code ⟨"ThreePointsModel", "best", "(I)I"⟩ prog_12_method_58_code 6 (some .int) ∈ xtbl := xtbl_at 1316 rfl rfl
set_option maxRecDepth 20000 in
theorem kw_1320 : Cond.code ⟨"ThreePointsModel", "judge", "(II)I"⟩ prog_12_method_63_code 4 (some .int) ∈ xtbl := xtbl_at 1320 rfl rfl
set_option maxRecDepth 20000 in
theorem kw_1321 : Cond.methodLink "ThreePointsModel" 263 ⟨"ThreePointsModel", "sheetWrong", "(II)I"⟩ ∈ xtbl := xtbl_at 1321 (by decide +kernel) (by decide +kernel)
set_option maxRecDepth 20000 in
theorem kw_1323 : Cond.instanceMethod ⟨"ThreePointsModel", "sheetWrong", "(II)I"⟩ ∈ xtbl := xtbl_at 1323 (by decide +kernel) (by decide +kernel)
set_option maxRecDepth 20000 in
theorem kw_1324 : Cond.code ⟨"ThreePointsModel", "sheetWrong", "(II)I"⟩ prog_12_method_59_code 6 (some .int) ∈ xtbl := xtbl_at 1324 rfl rfl
set_option maxRecDepth 20000 in
theorem kw_1325 : Cond.methodLink "ThreePointsModel" 266 ⟨"ThreePointsModel", "firstWrong", "(II)I"⟩ ∈ xtbl := xtbl_at 1325 (by decide +kernel) (by decide +kernel)
set_option maxRecDepth 20000 in
theorem kw_1327 : Cond.instanceMethod ⟨"ThreePointsModel", "firstWrong", "(II)I"⟩ ∈ xtbl := xtbl_at 1327 (by decide +kernel) (by decide +kernel)
set_option maxRecDepth 20000 in
theorem kw_1328 : Cond.code ⟨"ThreePointsModel", "firstWrong", "(II)I"⟩ prog_12_method_62_code 7 (some .int) ∈ xtbl := xtbl_at 1328 rfl rfl
set_option maxRecDepth 20000 in
theorem kw_1329 : Cond.methodLink "ThreePointsModel" 257 ⟨"ThreePointsModel", "keeps", "(I)V"⟩ ∈ xtbl := xtbl_at 1329 (by decide +kernel) (by decide +kernel)
set_option maxRecDepth 20000 in
theorem kw_1331 : Cond.instanceMethod ⟨"ThreePointsModel", "keeps", "(I)V"⟩ ∈ xtbl := xtbl_at 1331 (by decide +kernel) (by decide +kernel)
set_option maxRecDepth 20000 in
theorem kw_1332 : Cond.code ⟨"ThreePointsModel", "keeps", "(I)V"⟩ prog_12_method_60_code 3 none ∈ xtbl := xtbl_at 1332 rfl rfl
set_option maxRecDepth 20000 in
theorem kw_1333 : Cond.methodLink "ThreePointsModel" 260 ⟨"ThreePointsModel", "laysBack", "(I)V"⟩ ∈ xtbl := xtbl_at 1333 (by decide +kernel) (by decide +kernel)
set_option maxRecDepth 20000 in
theorem kw_1335 : Cond.instanceMethod ⟨"ThreePointsModel", "laysBack", "(I)V"⟩ ∈ xtbl := xtbl_at 1335 (by decide +kernel) (by decide +kernel)
set_option maxRecDepth 20000 in
theorem kw_1336 : Cond.code ⟨"ThreePointsModel", "laysBack", "(I)V"⟩ prog_12_method_61_code 3 none ∈ xtbl := xtbl_at 1336 rfl rfl
set_option maxRecDepth 20000 in
theorem kw_1340 : Cond.code ⟨"ThreePointsModel", "ends", "(III)I"⟩ prog_12_method_64_code 5 (some .int) ∈ xtbl := xtbl_at 1340 rfl rfl
set_option maxRecDepth 20000 in
theorem kw_1344 : Cond.code ⟨"ThreePointsModel", "kinds", "(III)I"⟩ prog_12_method_65_code 10 (some .int) ∈ xtbl := xtbl_at 1344 rfl rfl
set_option maxRecDepth 20000 in
theorem kw_1348 : Cond.code ⟨"ThreePointsModel", "widths", "(III)I"⟩ prog_12_method_66_code 10 (some .int) ∈ xtbl := xtbl_at 1348 rfl rfl
set_option maxRecDepth 20000 in
theorem kw_1352 : Cond.code ⟨"ThreePointsModel", "laws", "(II)I"⟩ prog_12_method_67_code 7 (some .int) ∈ xtbl := xtbl_at 1352 rfl rfl
set_option maxRecDepth 20000 in
theorem kw_1356 : Cond.code ⟨"ThreePointsModel", "drawn", "(IIII)I"⟩ prog_12_method_69_code 5 (some .int) ∈ xtbl := xtbl_at 1356 rfl rfl
set_option maxRecDepth 20000 in
theorem kw_1357 : Cond.constant "ThreePointsModel" 284 (99999) ∈ xtbl := xtbl_at 1357 (by decide +kernel) (by decide +kernel)
set_option maxRecDepth 20000 in
theorem kw_1358 : Cond.methodLink "ThreePointsModel" 285 ⟨"ThreePointsModel", "driveBy", "(III)V"⟩ ∈ xtbl := xtbl_at 1358 (by decide +kernel) (by decide +kernel)
set_option maxRecDepth 20000 in
theorem kw_1360 : Cond.instanceMethod ⟨"ThreePointsModel", "driveBy", "(III)V"⟩ ∈ xtbl := xtbl_at 1360 (by decide +kernel) (by decide +kernel)
set_option maxRecDepth 20000 in
theorem kw_1361 : Cond.code ⟨"ThreePointsModel", "driveBy", "(III)V"⟩ prog_12_method_68_code 9 none ∈ xtbl := xtbl_at 1361 rfl rfl
set_option maxRecDepth 20000 in
theorem kw_1362 : Cond.constantLong "ThreePointsModel" 272 (48271) ∈ xtbl := xtbl_at 1362 (by decide +kernel) (by decide +kernel)
set_option maxRecDepth 20000 in
theorem kw_1363 : Cond.constantLong "ThreePointsModel" 274 (2147483647) ∈ xtbl := xtbl_at 1363 (by decide +kernel) (by decide +kernel)
set_option maxRecDepth 20000 in
theorem kw_1364 : Cond.constantLong "ThreePointsModel" 276 (2) ∈ xtbl := xtbl_at 1364 (by decide +kernel) (by decide +kernel)
set_option maxRecDepth 20000 in
theorem kw_1365 : Cond.constantLong "ThreePointsModel" 278 (3) ∈ xtbl := xtbl_at 1365 (by decide +kernel) (by decide +kernel)
set_option maxRecDepth 20000 in
theorem kw_1366 : Cond.constantLong "ThreePointsModel" 280 (6) ∈ xtbl := xtbl_at 1366 (by decide +kernel) (by decide +kernel)
set_option maxRecDepth 20000 in
theorem kw_1367 : Cond.constantLong "ThreePointsModel" 282 (100) ∈ xtbl := xtbl_at 1367 (by decide +kernel) (by decide +kernel)
set_option maxRecDepth 20000 in
theorem kw_1371 : Cond.code ⟨"ThreePointsModel", "odds", "(IIII)J"⟩ prog_12_method_71_code 9 (some .long) ∈ xtbl := xtbl_at 1371 rfl rfl
set_option maxRecDepth 20000 in
theorem kw_1372 : Cond.constantLong "ThreePointsModel" 288 (-4611686018427387904) ∈ xtbl := xtbl_at 1372 (by decide +kernel) (by decide +kernel)
set_option maxRecDepth 20000 in
theorem kw_1373 : Cond.methodLink "ThreePointsModel" 290 ⟨"ThreePointsModel", "lowest", "(JJI)J"⟩ ∈ xtbl := xtbl_at 1373 (by decide +kernel) (by decide +kernel)
set_option maxRecDepth 20000 in
theorem kw_1374 : Cond.static ⟨"ThreePointsModel", "lowest", "(JJI)J"⟩ ∈ xtbl := xtbl_at 1374 (by decide +kernel) (by decide +kernel)
set_option maxRecDepth 20000 in
theorem kw_1375 : Cond.code ⟨"ThreePointsModel", "lowest", "(JJI)J"⟩ prog_12_method_70_code 11 (some .long) ∈ xtbl := xtbl_at 1375 rfl rfl
set_option maxRecDepth 20000 in
theorem kw_1379 : Cond.code ⟨"ThreePointsModel", "image", "()I"⟩ prog_12_method_72_code 2 (some .int) ∈ xtbl := xtbl_at 1379 rfl rfl
set_option maxRecDepth 20000 in
theorem kw_1383 : Cond.code ⟨"ThreePointsModel", "back", "()I"⟩ prog_12_method_73_code 2 (some .int) ∈ xtbl := xtbl_at 1383 rfl rfl
set_option maxRecDepth 20000 in
theorem kw_1387 : Cond.code ⟨"ThreePointsModel", "sheet", "(III)I"⟩ prog_12_method_74_code 5 (some .int) ∈ xtbl := xtbl_at 1387 rfl rfl
set_option maxRecDepth 20000 in
theorem kw_1391 : Cond.code ⟨"ThreePointsModel", "cell", "(III)I"⟩ prog_12_method_75_code 4 (some .int) ∈ xtbl := xtbl_at 1391 rfl rfl
set_option maxRecDepth 20000 in
theorem kw_1395 : Cond.code ⟨"ThreePointsModel", "copy", "(IIIII)I"⟩ prog_12_method_76_code 10 (some .int) ∈ xtbl := xtbl_at 1395 rfl rfl
set_option maxRecDepth 20000 in
theorem kw_1399 : Cond.code ⟨"ThreePointsModel", "vehiclesBy", "(IIII)I"⟩ prog_12_method_77_code 9 (some .int) ∈ xtbl := xtbl_at 1399 rfl rfl
set_option maxRecDepth 20000 in
theorem kw_1400 : Cond.methodLink "ThreePointsModel" 298 ⟨"ThreePointsModel", "vehicle", "(II)I"⟩ ∈ xtbl := xtbl_at 1400 (by decide +kernel) (by decide +kernel)
set_option maxRecDepth 20000 in
theorem kw_1404 : Cond.code ⟨"ThreePointsModel", "taken", "(II)I"⟩ prog_12_method_79_code 3 (some .int) ∈ xtbl := xtbl_at 1404 rfl rfl
set_option maxRecDepth 20000 in
theorem kw_1405 : Cond.methodLink "ThreePointsModel" 301 ⟨"ThreePointsModel", "isUnder", "(II)Z"⟩ ∈ xtbl := xtbl_at 1405 (by decide +kernel) (by decide +kernel)
set_option maxRecDepth 20000 in
theorem kw_1406 : Cond.static ⟨"ThreePointsModel", "isUnder", "(II)Z"⟩ ∈ xtbl := xtbl_at 1406 (by decide +kernel) (by decide +kernel)
set_option maxRecDepth 20000 in
theorem kw_1407 : Cond.code ⟨"ThreePointsModel", "isUnder", "(II)Z"⟩ prog_12_method_78_code 2 (some .boolean) ∈ xtbl := xtbl_at 1407 rfl rfl
set_option maxRecDepth 20000 in
theorem kw_1408 : Cond.fieldLink "java/lang/String" 9 "java/lang/String" "value" "[B" ∈ xtbl := xtbl_at 1408 (by decide +kernel) (by decide +kernel)
set_option maxRecDepth 20000 in
theorem kw_1409 : Cond.fieldLink "java/lang/String" 15 "java/lang/String" "coder" "B" ∈ xtbl := xtbl_at 1409 (by decide +kernel) (by decide +kernel)
