/-! a method: its place, its formula, the walk that proves it; printed by wip/gen/emitall.py -/
abbrev g_Model_vehicle (E : XE) (d pc : Nat) (ls : List (Option AV)) (st : List AV) (H : HH) (Q : AV → HH → Prop) : Prop := Gp E.1 E.2.1 E.2.2.1 E.2.2.2 xTX xRF xLM d "ThreePointsModel" prog_12_method_33_code 4 (some .int) pc ls st H Q
def c_Model_vehicle (E : XE) (d : Nat) (x1 : Int32) (x2 : Int32) (H : HH) (Q : Int32 → HH → Prop) : Prop := g_Model_vehicle E d 0 (xent [vr 30 0, vi x1, vi x2]) [] H (qi Q)
theorem xm_Model_vehicle : xM ⟨"ThreePointsModel", "vehicle", "(II)I"⟩ prog_12_method_33_code 4 (some .int) 2 := ⟨kw_1213, kw_83, by decide +kernel, by decide +kernel, by decide⟩
abbrev g_Model_told (E : XE) (d pc : Nat) (ls : List (Option AV)) (st : List AV) (H : HH) (Q : AV → HH → Prop) : Prop := Gp E.1 E.2.1 E.2.2.1 E.2.2.2 xTX xRF xLM d "ThreePointsModel" prog_12_method_34_code 3 (some .int) pc ls st H Q
def c_Model_told (E : XE) (d : Nat) (x1 : Int32) (x2 : Int32) (H : HH) (Q : Int32 → HH → Prop) : Prop := g_Model_told E d 0 (xent [vr 30 0, vi x1, vi x2]) [] H (qi Q)
theorem xm_Model_told : xM ⟨"ThreePointsModel", "told", "(II)I"⟩ prog_12_method_34_code 3 (some .int) 2 := ⟨kw_1217, kw_83, by decide +kernel, by decide +kernel, by decide⟩
abbrev g_Model_fit (E : XE) (d pc : Nat) (ls : List (Option AV)) (st : List AV) (H : HH) (Q : AV → HH → Prop) : Prop := Gp E.1 E.2.1 E.2.2.1 E.2.2.2 xTX xRF xLM d "ThreePointsModel" prog_12_method_35_code 3 (some .int) pc ls st H Q
def c_Model_fit (E : XE) (d : Nat) (x1 : Int32) (x2 : Int32) (H : HH) (Q : Int32 → HH → Prop) : Prop := g_Model_fit E d 0 (xent [vr 30 0, vi x1, vi x2]) [] H (qi Q)
theorem xm_Model_fit : xM ⟨"ThreePointsModel", "fit", "(II)I"⟩ prog_12_method_35_code 3 (some .int) 2 := ⟨kw_1221, kw_83, by decide +kernel, by decide +kernel, by decide⟩
abbrev g_Model_drive (E : XE) (d pc : Nat) (ls : List (Option AV)) (st : List AV) (H : HH) (Q : AV → HH → Prop) : Prop := Gp E.1 E.2.1 E.2.2.1 E.2.2.2 xTX xRF xLM d "ThreePointsModel" prog_12_method_40_code 4 (some .int) pc ls st H Q
def c_Model_drive (E : XE) (d : Nat) (x1 : Int32) (x2 : Int32) (x3 : Int32) (H : HH) (Q : Int32 → HH → Prop) : Prop := g_Model_drive E d 0 (xent [vr 30 0, vi x1, vi x2, vi x3]) [] H (qi Q)
theorem xm_Model_drive : xM ⟨"ThreePointsModel", "drive", "(III)I"⟩ prog_12_method_40_code 4 (some .int) 3 := ⟨kw_1225, kw_83, by decide +kernel, by decide +kernel, by decide⟩
abbrev g_Model_begin (E : XE) (d pc : Nat) (ls : List (Option AV)) (st : List AV) (H : HH) (Q : AV → HH → Prop) : Prop := Gp E.1 E.2.1 E.2.2.1 E.2.2.2 xTX xRF xLM d "ThreePointsModel" prog_12_method_41_code 5 (some .int) pc ls st H Q
def c_Model_begin (E : XE) (d : Nat) (x1 : Int32) (x2 : Int32) (H : HH) (Q : Int32 → HH → Prop) : Prop := g_Model_begin E d 0 (xent [vr 30 0, vi x1, vi x2]) [] H (qi Q)
theorem xm_Model_begin : xM ⟨"ThreePointsModel", "begin", "(II)I"⟩ prog_12_method_41_code 5 (some .int) 2 := ⟨kw_1249, kw_83, by decide +kernel, by decide +kernel, by decide⟩
abbrev g_Model_isGoal (E : XE) (d pc : Nat) (ls : List (Option AV)) (st : List AV) (H : HH) (Q : AV → HH → Prop) : Prop := Gp E.1 E.2.1 E.2.2.1 E.2.2.2 xTX xRF xLM d "ThreePointsModel" prog_12_method_49_code 1 (some .boolean) pc ls st H Q
def c_Model_isGoal (E : XE) (d : Nat) (x0 : Int32) (H : HH) (Q : Int32 → HH → Prop) : Prop := g_Model_isGoal E d 0 (xent [vi x0]) [] H (qi Q)
theorem xm_Model_isGoal : xM ⟨"ThreePointsModel", "isGoal", "(I)Z"⟩ prog_12_method_49_code 1 (some .boolean) 1 := ⟨kw_1256, kw_83, by decide +kernel, by decide +kernel, by decide⟩
abbrev g_Model_tellsLane (E : XE) (d pc : Nat) (ls : List (Option AV)) (st : List AV) (H : HH) (Q : AV → HH → Prop) : Prop := Gp E.1 E.2.1 E.2.2.1 E.2.2.2 xTX xRF xLM d "ThreePointsModel" prog_12_method_42_code 5 none pc ls st H Q
def c_Model_tellsLane (E : XE) (d : Nat) (x1 : Int32) (x2 : Int32) (H : HH) (Q : HH → Prop) : Prop := g_Model_tellsLane E d 0 (xent [vr 30 0, vi x1, vi x2]) [] H (qv Q)
theorem xm_Model_tellsLane : xM ⟨"ThreePointsModel", "tellsLane", "(IZ)V"⟩ prog_12_method_42_code 5 none 2 := ⟨kw_1260, kw_83, by decide +kernel, by decide +kernel, by decide⟩
abbrev g_Model_stateOf (E : XE) (d pc : Nat) (ls : List (Option AV)) (st : List AV) (H : HH) (Q : AV → HH → Prop) : Prop := Gp E.1 E.2.1 E.2.2.1 E.2.2.2 xTX xRF xLM d "ThreePointsModel" prog_12_method_47_code 2 (some .int) pc ls st H Q
def c_Model_stateOf (E : XE) (d : Nat) (x1 : Int32) (H : HH) (Q : Int32 → HH → Prop) : Prop := g_Model_stateOf E d 0 (xent [vr 30 0, vi x1]) [] H (qi Q)
theorem xm_Model_stateOf : xM ⟨"ThreePointsModel", "stateOf", "(I)I"⟩ prog_12_method_47_code 2 (some .int) 1 := ⟨kw_1269, kw_83, by decide +kernel, by decide +kernel, by decide⟩
abbrev g_Model_stateBehind (E : XE) (d pc : Nat) (ls : List (Option AV)) (st : List AV) (H : HH) (Q : AV → HH → Prop) : Prop := Gp E.1 E.2.1 E.2.2.1 E.2.2.2 xTX xRF xLM d "ThreePointsModel" prog_12_method_44_code 8 (some .int) pc ls st H Q
def c_Model_stateBehind (E : XE) (d : Nat) (x1 : Int32) (x2 : Int32) (x3 : Int32) (x4 : Int32) (H : HH) (Q : Int32 → HH → Prop) : Prop := g_Model_stateBehind E d 0 (xent [vr 30 0, vi x1, vi x2, vi x3, vi x4]) [] H (qi Q)
theorem xm_Model_stateBehind : xM ⟨"ThreePointsModel", "stateBehind", "(IIII)I"⟩ prog_12_method_44_code 8 (some .int) 4 := ⟨kw_1273, kw_83, by decide +kernel, by decide +kernel, by decide⟩
abbrev g_Model_costsStep (E : XE) (d pc : Nat) (ls : List (Option AV)) (st : List AV) (H : HH) (Q : AV → HH → Prop) : Prop := Gp E.1 E.2.1 E.2.2.1 E.2.2.2 xTX xRF xLM d "ThreePointsModel" prog_12_method_43_code 5 (some .int) pc ls st H Q
def c_Model_costsStep (E : XE) (d : Nat) (x1 : Int32) (x2 : Int32) (x3 : Int32) (x4 : Int32) (H : HH) (Q : Int32 → HH → Prop) : Prop := g_Model_costsStep E d 0 (xent [vr 30 0, vi x1, vi x2, vi x3, vi x4]) [] H (qi Q)
theorem xm_Model_costsStep : xM ⟨"ThreePointsModel", "costsStep", "(IIII)I"⟩ prog_12_method_43_code 5 (some .int) 4 := ⟨kw_1281, kw_83, by decide +kernel, by decide +kernel, by decide⟩
abbrev g_Model_seeks (E : XE) (d pc : Nat) (ls : List (Option AV)) (st : List AV) (H : HH) (Q : AV → HH → Prop) : Prop := Gp E.1 E.2.1 E.2.2.1 E.2.2.2 xTX xRF xLM d "ThreePointsModel" prog_12_method_45_code 11 none pc ls st H Q
def c_Model_seeks (E : XE) (d : Nat) (x1 : Int32) (x2 : Int32) (x3 : Int32) (H : HH) (Q : HH → Prop) : Prop := g_Model_seeks E d 0 (xent [vr 30 0, vi x1, vi x2, vi x3]) [] H (qv Q)
theorem xm_Model_seeks : xM ⟨"ThreePointsModel", "seeks", "(III)V"⟩ prog_12_method_45_code 11 none 3 := ⟨kw_1277, kw_83, by decide +kernel, by decide +kernel, by decide⟩
abbrev g_Model_otherOf (E : XE) (d pc : Nat) (ls : List (Option AV)) (st : List AV) (H : HH) (Q : AV → HH → Prop) : Prop := Gp E.1 E.2.1 E.2.2.1 E.2.2.2 xTX xRF xLM d "ThreePointsModel" prog_12_method_48_code 2 (some .int) pc ls st H Q
def c_Model_otherOf (E : XE) (d : Nat) (x1 : Int32) (H : HH) (Q : Int32 → HH → Prop) : Prop := g_Model_otherOf E d 0 (xent [vr 30 0, vi x1]) [] H (qi Q)
theorem xm_Model_otherOf : xM ⟨"ThreePointsModel", "otherOf", "(I)I"⟩ prog_12_method_48_code 2 (some .int) 1 := ⟨kw_1285, kw_83, by decide +kernel, by decide +kernel, by decide⟩
abbrev g_Model_leastTo (E : XE) (d pc : Nat) (ls : List (Option AV)) (st : List AV) (H : HH) (Q : AV → HH → Prop) : Prop := Gp E.1 E.2.1 E.2.2.1 E.2.2.2 xTX xRF xLM d "ThreePointsModel" prog_12_method_46_code 6 (some .int) pc ls st H Q
def c_Model_leastTo (E : XE) (d : Nat) (x1 : Int32) (H : HH) (Q : Int32 → HH → Prop) : Prop := g_Model_leastTo E d 0 (xent [vr 30 0, vi x1]) [] H (qi Q)
theorem xm_Model_leastTo : xM ⟨"ThreePointsModel", "leastTo", "(I)I"⟩ prog_12_method_46_code 6 (some .int) 1 := ⟨kw_1289, kw_83, by decide +kernel, by decide +kernel, by decide⟩
abbrev g_Model_firstStep (E : XE) (d pc : Nat) (ls : List (Option AV)) (st : List AV) (H : HH) (Q : AV → HH → Prop) : Prop := Gp E.1 E.2.1 E.2.2.1 E.2.2.2 xTX xRF xLM d "ThreePointsModel" prog_12_method_50_code 9 (some .int) pc ls st H Q
def c_Model_firstStep (E : XE) (d : Nat) (x1 : Int32) (x2 : Int32) (H : HH) (Q : Int32 → HH → Prop) : Prop := g_Model_firstStep E d 0 (xent [vr 30 0, vi x1, vi x2]) [] H (qi Q)
theorem xm_Model_firstStep : xM ⟨"ThreePointsModel", "firstStep", "(II)I"⟩ prog_12_method_50_code 9 (some .int) 2 := ⟨kw_1264, kw_83, by decide +kernel, by decide +kernel, by decide⟩
abbrev g_Model_orNone (E : XE) (d pc : Nat) (ls : List (Option AV)) (st : List AV) (H : HH) (Q : AV → HH → Prop) : Prop := Gp E.1 E.2.1 E.2.2.1 E.2.2.2 xTX xRF xLM d "ThreePointsModel" prog_12_method_51_code 1 (some .int) pc ls st H Q
def c_Model_orNone (E : XE) (d : Nat) (x0 : Int32) (H : HH) (Q : Int32 → HH → Prop) : Prop := g_Model_orNone E d 0 (xent [vi x0]) [] H (qi Q)
theorem xm_Model_orNone : xM ⟨"ThreePointsModel", "orNone", "(I)I"⟩ prog_12_method_51_code 1 (some .int) 1 := ⟨kw_1292, kw_83, by decide +kernel, by decide +kernel, by decide⟩
abbrev g_Model_turned (E : XE) (d pc : Nat) (ls : List (Option AV)) (st : List AV) (H : HH) (Q : AV → HH → Prop) : Prop := Gp E.1 E.2.1 E.2.2.1 E.2.2.2 xTX xRF xLM d "ThreePointsModel" prog_12_method_52_code 3 (some .int) pc ls st H Q
def c_Model_turned (E : XE) (d : Nat) (x1 : Int32) (x2 : Int32) (H : HH) (Q : Int32 → HH → Prop) : Prop := g_Model_turned E d 0 (xent [vr 30 0, vi x1, vi x2]) [] H (qi Q)
theorem xm_Model_turned : xM ⟨"ThreePointsModel", "turned", "(II)I"⟩ prog_12_method_52_code 3 (some .int) 2 := ⟨kw_1253, kw_83, by decide +kernel, by decide +kernel, by decide⟩
abbrev g_Model_fromBegin (E : XE) (d pc : Nat) (ls : List (Option AV)) (st : List AV) (H : HH) (Q : AV → HH → Prop) : Prop := Gp E.1 E.2.1 E.2.2.1 E.2.2.2 xTX xRF xLM d "ThreePointsModel" prog_12_method_53_code 4 (some .int) pc ls st H Q
def c_Model_fromBegin (E : XE) (d : Nat) (x1 : Int32) (x2 : Int32) (x3 : Int32) (H : HH) (Q : Int32 → HH → Prop) : Prop := g_Model_fromBegin E d 0 (xent [vr 30 0, vi x1, vi x2, vi x3]) [] H (qi Q)
theorem xm_Model_fromBegin : xM ⟨"ThreePointsModel", "fromBegin", "(III)I"⟩ prog_12_method_53_code 4 (some .int) 3 := ⟨kw_1300, kw_83, by decide +kernel, by decide +kernel, by decide⟩
abbrev g_Model_where (E : XE) (d pc : Nat) (ls : List (Option AV)) (st : List AV) (H : HH) (Q : AV → HH → Prop) : Prop := Gp E.1 E.2.1 E.2.2.1 E.2.2.2 xTX xRF xLM d "ThreePointsModel" prog_12_method_54_code 7 (some .int) pc ls st H Q
def c_Model_where (E : XE) (d : Nat) (x1 : Int32) (x2 : Int32) (H : HH) (Q : Int32 → HH → Prop) : Prop := g_Model_where E d 0 (xent [vr 30 0, vi x1, vi x2]) [] H (qi Q)
theorem xm_Model_where : xM ⟨"ThreePointsModel", "where", "(II)I"⟩ prog_12_method_54_code 7 (some .int) 2 := ⟨kw_1296, kw_83, by decide +kernel, by decide +kernel, by decide⟩
abbrev g_Model_narrow (E : XE) (d pc : Nat) (ls : List (Option AV)) (st : List AV) (H : HH) (Q : AV → HH → Prop) : Prop := Gp E.1 E.2.1 E.2.2.1 E.2.2.2 xTX xRF xLM d "ThreePointsModel" prog_12_method_55_code 6 (some .int) pc ls st H Q
def c_Model_narrow (E : XE) (d : Nat) (x1 : Int32) (x2 : Int32) (H : HH) (Q : Int32 → HH → Prop) : Prop := g_Model_narrow E d 0 (xent [vr 30 0, vi x1, vi x2]) [] H (qi Q)
theorem xm_Model_narrow : xM ⟨"ThreePointsModel", "narrow", "(II)I"⟩ prog_12_method_55_code 6 (some .int) 2 := ⟨kw_1304, kw_83, by decide +kernel, by decide +kernel, by decide⟩
abbrev g_Model_cut (E : XE) (d pc : Nat) (ls : List (Option AV)) (st : List AV) (H : HH) (Q : AV → HH → Prop) : Prop := Gp E.1 E.2.1 E.2.2.1 E.2.2.2 xTX xRF xLM d "ThreePointsModel" prog_12_method_56_code 6 (some .int) pc ls st H Q
def c_Model_cut (E : XE) (d : Nat) (x1 : Int32) (x2 : Int32) (H : HH) (Q : Int32 → HH → Prop) : Prop := g_Model_cut E d 0 (xent [vr 30 0, vi x1, vi x2]) [] H (qi Q)
theorem xm_Model_cut : xM ⟨"ThreePointsModel", "cut", "(II)I"⟩ prog_12_method_56_code 6 (some .int) 2 := ⟨kw_1308, kw_83, by decide +kernel, by decide +kernel, by decide⟩
abbrev g_Model_headings (E : XE) (d pc : Nat) (ls : List (Option AV)) (st : List AV) (H : HH) (Q : AV → HH → Prop) : Prop := Gp E.1 E.2.1 E.2.2.1 E.2.2.2 xTX xRF xLM d "ThreePointsModel" prog_12_method_57_code 4 (some .int) pc ls st H Q
def c_Model_headings (E : XE) (d : Nat) (x1 : Int32) (H : HH) (Q : Int32 → HH → Prop) : Prop := g_Model_headings E d 0 (xent [vr 30 0, vi x1]) [] H (qi Q)
theorem xm_Model_headings : xM ⟨"ThreePointsModel", "headings", "(I)I"⟩ prog_12_method_57_code 4 (some .int) 1 := ⟨kw_1312, kw_83, by decide +kernel, by decide +kernel, by decide⟩
abbrev g_Model_best (E : XE) (d pc : Nat) (ls : List (Option AV)) (st : List AV) (H : HH) (Q : AV → HH → Prop) : Prop := Gp E.1 E.2.1 E.2.2.1 E.2.2.2 xTX xRF xLM d "ThreePointsModel" prog_12_method_58_code 6 (some .int) pc ls st H Q
def c_Model_best (E : XE) (d : Nat) (x1 : Int32) (H : HH) (Q : Int32 → HH → Prop) : Prop := g_Model_best E d 0 (xent [vr 30 0, vi x1]) [] H (qi Q)
theorem xm_Model_best : xM ⟨"ThreePointsModel", "best", "(I)I"⟩ prog_12_method_58_code 6 (some .int) 1 := ⟨kw_1316, kw_83, by decide +kernel, by decide +kernel, by decide⟩
abbrev g_Model_sheetWrong (E : XE) (d pc : Nat) (ls : List (Option AV)) (st : List AV) (H : HH) (Q : AV → HH → Prop) : Prop := Gp E.1 E.2.1 E.2.2.1 E.2.2.2 xTX xRF xLM d "ThreePointsModel" prog_12_method_59_code 6 (some .int) pc ls st H Q
def c_Model_sheetWrong (E : XE) (d : Nat) (x1 : Int32) (x2 : Int32) (H : HH) (Q : Int32 → HH → Prop) : Prop := g_Model_sheetWrong E d 0 (xent [vr 30 0, vi x1, vi x2]) [] H (qi Q)
theorem xm_Model_sheetWrong : xM ⟨"ThreePointsModel", "sheetWrong", "(II)I"⟩ prog_12_method_59_code 6 (some .int) 2 := ⟨kw_1324, kw_83, by decide +kernel, by decide +kernel, by decide⟩
abbrev g_Model_keeps (E : XE) (d pc : Nat) (ls : List (Option AV)) (st : List AV) (H : HH) (Q : AV → HH → Prop) : Prop := Gp E.1 E.2.1 E.2.2.1 E.2.2.2 xTX xRF xLM d "ThreePointsModel" prog_12_method_60_code 3 none pc ls st H Q
def c_Model_keeps (E : XE) (d : Nat) (x1 : Int32) (H : HH) (Q : HH → Prop) : Prop := g_Model_keeps E d 0 (xent [vr 30 0, vi x1]) [] H (qv Q)
theorem xm_Model_keeps : xM ⟨"ThreePointsModel", "keeps", "(I)V"⟩ prog_12_method_60_code 3 none 1 := ⟨kw_1332, kw_83, by decide +kernel, by decide +kernel, by decide⟩
abbrev g_Model_laysBack (E : XE) (d pc : Nat) (ls : List (Option AV)) (st : List AV) (H : HH) (Q : AV → HH → Prop) : Prop := Gp E.1 E.2.1 E.2.2.1 E.2.2.2 xTX xRF xLM d "ThreePointsModel" prog_12_method_61_code 3 none pc ls st H Q
def c_Model_laysBack (E : XE) (d : Nat) (x1 : Int32) (H : HH) (Q : HH → Prop) : Prop := g_Model_laysBack E d 0 (xent [vr 30 0, vi x1]) [] H (qv Q)
theorem xm_Model_laysBack : xM ⟨"ThreePointsModel", "laysBack", "(I)V"⟩ prog_12_method_61_code 3 none 1 := ⟨kw_1336, kw_83, by decide +kernel, by decide +kernel, by decide⟩
abbrev g_Model_firstWrong (E : XE) (d pc : Nat) (ls : List (Option AV)) (st : List AV) (H : HH) (Q : AV → HH → Prop) : Prop := Gp E.1 E.2.1 E.2.2.1 E.2.2.2 xTX xRF xLM d "ThreePointsModel" prog_12_method_62_code 7 (some .int) pc ls st H Q
def c_Model_firstWrong (E : XE) (d : Nat) (x1 : Int32) (x2 : Int32) (H : HH) (Q : Int32 → HH → Prop) : Prop := g_Model_firstWrong E d 0 (xent [vr 30 0, vi x1, vi x2]) [] H (qi Q)
theorem xm_Model_firstWrong : xM ⟨"ThreePointsModel", "firstWrong", "(II)I"⟩ prog_12_method_62_code 7 (some .int) 2 := ⟨kw_1328, kw_83, by decide +kernel, by decide +kernel, by decide⟩
abbrev g_Model_judge (E : XE) (d pc : Nat) (ls : List (Option AV)) (st : List AV) (H : HH) (Q : AV → HH → Prop) : Prop := Gp E.1 E.2.1 E.2.2.1 E.2.2.2 xTX xRF xLM d "ThreePointsModel" prog_12_method_63_code 4 (some .int) pc ls st H Q
def c_Model_judge (E : XE) (d : Nat) (x1 : Int32) (x2 : Int32) (H : HH) (Q : Int32 → HH → Prop) : Prop := g_Model_judge E d 0 (xent [vr 30 0, vi x1, vi x2]) [] H (qi Q)
theorem xm_Model_judge : xM ⟨"ThreePointsModel", "judge", "(II)I"⟩ prog_12_method_63_code 4 (some .int) 2 := ⟨kw_1320, kw_83, by decide +kernel, by decide +kernel, by decide⟩
abbrev g_Model_ends (E : XE) (d pc : Nat) (ls : List (Option AV)) (st : List AV) (H : HH) (Q : AV → HH → Prop) : Prop := Gp E.1 E.2.1 E.2.2.1 E.2.2.2 xTX xRF xLM d "ThreePointsModel" prog_12_method_64_code 5 (some .int) pc ls st H Q
def c_Model_ends (E : XE) (d : Nat) (x1 : Int32) (x2 : Int32) (x3 : Int32) (H : HH) (Q : Int32 → HH → Prop) : Prop := g_Model_ends E d 0 (xent [vr 30 0, vi x1, vi x2, vi x3]) [] H (qi Q)
theorem xm_Model_ends : xM ⟨"ThreePointsModel", "ends", "(III)I"⟩ prog_12_method_64_code 5 (some .int) 3 := ⟨kw_1340, kw_83, by decide +kernel, by decide +kernel, by decide⟩
abbrev g_Model_kinds (E : XE) (d pc : Nat) (ls : List (Option AV)) (st : List AV) (H : HH) (Q : AV → HH → Prop) : Prop := Gp E.1 E.2.1 E.2.2.1 E.2.2.2 xTX xRF xLM d "ThreePointsModel" prog_12_method_65_code 10 (some .int) pc ls st H Q
def c_Model_kinds (E : XE) (d : Nat) (x1 : Int32) (x2 : Int32) (x3 : Int32) (H : HH) (Q : Int32 → HH → Prop) : Prop := g_Model_kinds E d 0 (xent [vr 30 0, vi x1, vi x2, vi x3]) [] H (qi Q)
theorem xm_Model_kinds : xM ⟨"ThreePointsModel", "kinds", "(III)I"⟩ prog_12_method_65_code 10 (some .int) 3 := ⟨kw_1344, kw_83, by decide +kernel, by decide +kernel, by decide⟩
abbrev g_Model_widths (E : XE) (d pc : Nat) (ls : List (Option AV)) (st : List AV) (H : HH) (Q : AV → HH → Prop) : Prop := Gp E.1 E.2.1 E.2.2.1 E.2.2.2 xTX xRF xLM d "ThreePointsModel" prog_12_method_66_code 10 (some .int) pc ls st H Q
def c_Model_widths (E : XE) (d : Nat) (x1 : Int32) (x2 : Int32) (x3 : Int32) (H : HH) (Q : Int32 → HH → Prop) : Prop := g_Model_widths E d 0 (xent [vr 30 0, vi x1, vi x2, vi x3]) [] H (qi Q)
theorem xm_Model_widths : xM ⟨"ThreePointsModel", "widths", "(III)I"⟩ prog_12_method_66_code 10 (some .int) 3 := ⟨kw_1348, kw_83, by decide +kernel, by decide +kernel, by decide⟩
abbrev g_Model_laws (E : XE) (d pc : Nat) (ls : List (Option AV)) (st : List AV) (H : HH) (Q : AV → HH → Prop) : Prop := Gp E.1 E.2.1 E.2.2.1 E.2.2.2 xTX xRF xLM d "ThreePointsModel" prog_12_method_67_code 7 (some .int) pc ls st H Q
def c_Model_laws (E : XE) (d : Nat) (x1 : Int32) (x2 : Int32) (H : HH) (Q : Int32 → HH → Prop) : Prop := g_Model_laws E d 0 (xent [vr 30 0, vi x1, vi x2]) [] H (qi Q)
theorem xm_Model_laws : xM ⟨"ThreePointsModel", "laws", "(II)I"⟩ prog_12_method_67_code 7 (some .int) 2 := ⟨kw_1352, kw_83, by decide +kernel, by decide +kernel, by decide⟩
abbrev g_Model_driveBy (E : XE) (d pc : Nat) (ls : List (Option AV)) (st : List AV) (H : HH) (Q : AV → HH → Prop) : Prop := Gp E.1 E.2.1 E.2.2.1 E.2.2.2 xTX xRF xLM d "ThreePointsModel" prog_12_method_68_code 9 none pc ls st H Q
def c_Model_driveBy (E : XE) (d : Nat) (x1 : Int32) (x2 : Int32) (x3 : Int32) (H : HH) (Q : HH → Prop) : Prop := g_Model_driveBy E d 0 (xent [vr 30 0, vi x1, vi x2, vi x3]) [] H (qv Q)
theorem xm_Model_driveBy : xM ⟨"ThreePointsModel", "driveBy", "(III)V"⟩ prog_12_method_68_code 9 none 3 := ⟨kw_1361, kw_83, by decide +kernel, by decide +kernel, by decide⟩
abbrev g_Model_drawn (E : XE) (d pc : Nat) (ls : List (Option AV)) (st : List AV) (H : HH) (Q : AV → HH → Prop) : Prop := Gp E.1 E.2.1 E.2.2.1 E.2.2.2 xTX xRF xLM d "ThreePointsModel" prog_12_method_69_code 5 (some .int) pc ls st H Q
def c_Model_drawn (E : XE) (d : Nat) (x1 : Int32) (x2 : Int32) (x3 : Int32) (x4 : Int32) (H : HH) (Q : Int32 → HH → Prop) : Prop := g_Model_drawn E d 0 (xent [vr 30 0, vi x1, vi x2, vi x3, vi x4]) [] H (qi Q)
theorem xm_Model_drawn : xM ⟨"ThreePointsModel", "drawn", "(IIII)I"⟩ prog_12_method_69_code 5 (some .int) 4 := ⟨kw_1356, kw_83, by decide +kernel, by decide +kernel, by decide⟩
abbrev g_Model_lowest (E : XE) (d pc : Nat) (ls : List (Option AV)) (st : List AV) (H : HH) (Q : AV → HH → Prop) : Prop := Gp E.1 E.2.1 E.2.2.1 E.2.2.2 xTX xRF xLM d "ThreePointsModel" prog_12_method_70_code 11 (some .long) pc ls st H Q
def c_Model_lowest (E : XE) (d : Nat) (x0 : Int64) (x2 : Int64) (x4 : Int32) (H : HH) (Q : Int64 → HH → Prop) : Prop := g_Model_lowest E d 0 (xent [vl x0, vl x2, vi x4]) [] H (ql Q)
theorem xm_Model_lowest : xM ⟨"ThreePointsModel", "lowest", "(JJI)J"⟩ prog_12_method_70_code 11 (some .long) 3 := ⟨kw_1375, kw_83, by decide +kernel, by decide +kernel, by decide⟩
abbrev g_Model_odds (E : XE) (d pc : Nat) (ls : List (Option AV)) (st : List AV) (H : HH) (Q : AV → HH → Prop) : Prop := Gp E.1 E.2.1 E.2.2.1 E.2.2.2 xTX xRF xLM d "ThreePointsModel" prog_12_method_71_code 9 (some .long) pc ls st H Q
def c_Model_odds (E : XE) (d : Nat) (x1 : Int32) (x2 : Int32) (x3 : Int32) (x4 : Int32) (H : HH) (Q : Int64 → HH → Prop) : Prop := g_Model_odds E d 0 (xent [vr 30 0, vi x1, vi x2, vi x3, vi x4]) [] H (ql Q)
theorem xm_Model_odds : xM ⟨"ThreePointsModel", "odds", "(IIII)J"⟩ prog_12_method_71_code 9 (some .long) 4 := ⟨kw_1371, kw_83, by decide +kernel, by decide +kernel, by decide⟩
abbrev g_Model_image (E : XE) (d pc : Nat) (ls : List (Option AV)) (st : List AV) (H : HH) (Q : AV → HH → Prop) : Prop := Gp E.1 E.2.1 E.2.2.1 E.2.2.2 xTX xRF xLM d "ThreePointsModel" prog_12_method_72_code 2 (some .int) pc ls st H Q
def c_Model_image (E : XE) (d : Nat)  (H : HH) (Q : Int32 → HH → Prop) : Prop := g_Model_image E d 0 (xent [vr 30 0]) [] H (qi Q)
theorem xm_Model_image : xM ⟨"ThreePointsModel", "image", "()I"⟩ prog_12_method_72_code 2 (some .int) 0 := ⟨kw_1379, kw_83, by decide +kernel, by decide +kernel, by decide⟩
abbrev g_Model_back (E : XE) (d pc : Nat) (ls : List (Option AV)) (st : List AV) (H : HH) (Q : AV → HH → Prop) : Prop := Gp E.1 E.2.1 E.2.2.1 E.2.2.2 xTX xRF xLM d "ThreePointsModel" prog_12_method_73_code 2 (some .int) pc ls st H Q
def c_Model_back (E : XE) (d : Nat)  (H : HH) (Q : Int32 → HH → Prop) : Prop := g_Model_back E d 0 (xent [vr 30 0]) [] H (qi Q)
theorem xm_Model_back : xM ⟨"ThreePointsModel", "back", "()I"⟩ prog_12_method_73_code 2 (some .int) 0 := ⟨kw_1383, kw_83, by decide +kernel, by decide +kernel, by decide⟩
abbrev g_Model_sheet (E : XE) (d pc : Nat) (ls : List (Option AV)) (st : List AV) (H : HH) (Q : AV → HH → Prop) : Prop := Gp E.1 E.2.1 E.2.2.1 E.2.2.2 xTX xRF xLM d "ThreePointsModel" prog_12_method_74_code 5 (some .int) pc ls st H Q
def c_Model_sheet (E : XE) (d : Nat) (x1 : Int32) (x2 : Int32) (x3 : Int32) (H : HH) (Q : Int32 → HH → Prop) : Prop := g_Model_sheet E d 0 (xent [vr 30 0, vi x1, vi x2, vi x3]) [] H (qi Q)
theorem xm_Model_sheet : xM ⟨"ThreePointsModel", "sheet", "(III)I"⟩ prog_12_method_74_code 5 (some .int) 3 := ⟨kw_1387, kw_83, by decide +kernel, by decide +kernel, by decide⟩
abbrev g_Model_cell (E : XE) (d pc : Nat) (ls : List (Option AV)) (st : List AV) (H : HH) (Q : AV → HH → Prop) : Prop := Gp E.1 E.2.1 E.2.2.1 E.2.2.2 xTX xRF xLM d "ThreePointsModel" prog_12_method_75_code 4 (some .int) pc ls st H Q
def c_Model_cell (E : XE) (d : Nat) (x1 : Int32) (x2 : Int32) (x3 : Int32) (H : HH) (Q : Int32 → HH → Prop) : Prop := g_Model_cell E d 0 (xent [vr 30 0, vi x1, vi x2, vi x3]) [] H (qi Q)
theorem xm_Model_cell : xM ⟨"ThreePointsModel", "cell", "(III)I"⟩ prog_12_method_75_code 4 (some .int) 3 := ⟨kw_1391, kw_83, by decide +kernel, by decide +kernel, by decide⟩
abbrev g_Model_copy (E : XE) (d pc : Nat) (ls : List (Option AV)) (st : List AV) (H : HH) (Q : AV → HH → Prop) : Prop := Gp E.1 E.2.1 E.2.2.1 E.2.2.2 xTX xRF xLM d "ThreePointsModel" prog_12_method_76_code 10 (some .int) pc ls st H Q
def c_Model_copy (E : XE) (d : Nat) (x1 : Int32) (x2 : Int32) (x3 : Int32) (x4 : Int32) (x5 : Int32) (H : HH) (Q : Int32 → HH → Prop) : Prop := g_Model_copy E d 0 (xent [vr 30 0, vi x1, vi x2, vi x3, vi x4, vi x5]) [] H (qi Q)
theorem xm_Model_copy : xM ⟨"ThreePointsModel", "copy", "(IIIII)I"⟩ prog_12_method_76_code 10 (some .int) 5 := ⟨kw_1395, kw_83, by decide +kernel, by decide +kernel, by decide⟩
abbrev g_Model_vehiclesBy (E : XE) (d pc : Nat) (ls : List (Option AV)) (st : List AV) (H : HH) (Q : AV → HH → Prop) : Prop := Gp E.1 E.2.1 E.2.2.1 E.2.2.2 xTX xRF xLM d "ThreePointsModel" prog_12_method_77_code 9 (some .int) pc ls st H Q
def c_Model_vehiclesBy (E : XE) (d : Nat) (x1 : Int32) (x2 : Int32) (x3 : Int32) (x4 : Int32) (H : HH) (Q : Int32 → HH → Prop) : Prop := g_Model_vehiclesBy E d 0 (xent [vr 30 0, vi x1, vi x2, vi x3, vi x4]) [] H (qi Q)
theorem xm_Model_vehiclesBy : xM ⟨"ThreePointsModel", "vehiclesBy", "(IIII)I"⟩ prog_12_method_77_code 9 (some .int) 4 := ⟨kw_1399, kw_83, by decide +kernel, by decide +kernel, by decide⟩
abbrev g_Model_isUnder (E : XE) (d pc : Nat) (ls : List (Option AV)) (st : List AV) (H : HH) (Q : AV → HH → Prop) : Prop := Gp E.1 E.2.1 E.2.2.1 E.2.2.2 xTX xRF xLM d "ThreePointsModel" prog_12_method_78_code 2 (some .boolean) pc ls st H Q
def c_Model_isUnder (E : XE) (d : Nat) (x0 : Int32) (x1 : Int32) (H : HH) (Q : Int32 → HH → Prop) : Prop := g_Model_isUnder E d 0 (xent [vi x0, vi x1]) [] H (qi Q)
theorem xm_Model_isUnder : xM ⟨"ThreePointsModel", "isUnder", "(II)Z"⟩ prog_12_method_78_code 2 (some .boolean) 2 := ⟨kw_1407, kw_83, by decide +kernel, by decide +kernel, by decide⟩
abbrev g_Model_taken (E : XE) (d pc : Nat) (ls : List (Option AV)) (st : List AV) (H : HH) (Q : AV → HH → Prop) : Prop := Gp E.1 E.2.1 E.2.2.1 E.2.2.2 xTX xRF xLM d "ThreePointsModel" prog_12_method_79_code 3 (some .int) pc ls st H Q
def c_Model_taken (E : XE) (d : Nat) (x1 : Int32) (x2 : Int32) (H : HH) (Q : Int32 → HH → Prop) : Prop := g_Model_taken E d 0 (xent [vr 30 0, vi x1, vi x2]) [] H (qi Q)
theorem xm_Model_taken : xM ⟨"ThreePointsModel", "taken", "(II)I"⟩ prog_12_method_79_code 3 (some .int) 2 := ⟨kw_1404, kw_83, by decide +kernel, by decide +kernel, by decide⟩
def p_Model_vehicle (E : XE) (d : Nat) (x1 : Int32) (x2 : Int32) (H : HH) (Q : Int32 → HH → Prop) : Prop := c_Model_in E d x1 0 59 H (fun r2 H1 => (r2 = 0 → (Q (-2) H1)) ∧ (¬ r2 = 0 → (c_Model_isPlace E d x2 H1 (fun r4 H3 => (¬ r4 = 0 → ((¬ (H3 30 0 3) = 4 → (vp_in (H3 30 0 3) 4 ∧ (∀ H5 : HH, H5 = (hu H3 32 0 ((H3 30 0 3).toNatClampNeg) (x1 / 10)) → (vp_in (H5 30 0 3) 4 ∧ (∀ H6 : HH, H6 = (hu H5 33 0 ((H5 30 0 3).toNatClampNeg) (xrem x1 10)) → (c_Model_fitsAt E d (H6 30 0 3) x2 0 H6 (fun r8 H7 => (¬ r8 = 0 → (vp_in ((5 * (H7 30 0 3)) + 0) 20 ∧ (∀ H9 : HH, H9 = (hu H7 34 0 (((5 * (H7 30 0 3)) + 0).toNatClampNeg) x2) → (vp_in ((5 * (H9 30 0 3)) + 1) 20 ∧ (∀ H10 : HH, H10 = (hu H9 34 0 (((5 * (H9 30 0 3)) + 1).toNatClampNeg) 0) → (vp_in ((5 * (H10 30 0 3)) + 2) 20 ∧ (∀ H11 : HH, H11 = (hu H10 34 0 (((5 * (H10 30 0 3)) + 2).toNatClampNeg) 0) → (vp_in ((5 * (H11 30 0 3)) + 3) 20 ∧ (∀ H12 : HH, H12 = (hu H11 34 0 (((5 * (H11 30 0 3)) + 3).toNatClampNeg) 0) → (vp_in ((5 * (H12 30 0 3)) + 4) 20 ∧ (∀ H13 : HH, H13 = (hu H12 34 0 (((5 * (H12 30 0 3)) + 4).toNatClampNeg) (-1)) → (∀ H14 : HH, H14 = (hu H13 30 0 3 ((H13 30 0 3) + 1)) → (Q ((H14 30 0 3) - 1) H14))))))))))))) ∧ (r8 = 0 → (Q (-3) H7))))))))) ∧ ((H3 30 0 3) = 4 → (Q (-4) H3)))) ∧ (r4 = 0 → (Q (-2) H3))))))
set_option maxHeartbeats 4000000 in
theorem l_Model_vehicle {E : XE} {d : Nat} {x1 : Int32} {x2 : Int32} {H : HH} {Q : Int32 → HH → Prop} (h : p_Model_vehicle E d x1 x2 H Q) : c_Model_vehicle E (d + 1) x1 x2 H Q := by
  show g_Model_vehicle E (d + 1) 0 (xent [vr 30 0, vi x1, vi x2]) [] H (qi Q)
  refine g_drop (ls2 := [some (vr 30 0), some (vi x1), some (vi x2), none]) (And.intro rfl (And.intro rfl (And.intro rfl trivial))) ?_
  refine g_iload_n (q := 1) (i := 1) (by decide +kernel) rfl rfl ?_
  refine g_iconst (n := 0) (v := 0) (by decide +kernel) (by decide) ?_
  refine g_bipush (n := 59) (v := 59) (by decide +kernel) (by decide) ?_
  refine g_callS (vs := [vi x1, vi 0, vi 59]) (st := []) (by decide +kernel) xm_Model_in kw_987 kw_988 rfl rfl (Nat.le_of_ble_eq_true rfl) (Nat.le_of_ble_eq_true rfl) h (fun vH1 H1 hq => ?_)
  obtain ⟨r2, rfl, h⟩ := hq
  refine g_if_eq (off := 11) (tgt := 18) (by decide +kernel) (by decide) (fun c => ?_) (fun c => ?_)
  · replace h := h.1 c
    refine g_bipush (n := (-2)) (v := (-2)) (by decide +kernel) (by decide) ?_
    exact g_iret (by decide +kernel) rfl ⟨_, rfl, h⟩
  · replace h := h.2 c
    refine g_aload_n (q := 0) (i := 0) (by decide +kernel) rfl rfl ?_
    refine g_iload_n (q := 2) (i := 2) (by decide +kernel) rfl rfl ?_
    refine g_callV (kd := 30) (ix := 0) (ci := 10) (N := 39) (T := xT_Model) (vs := [vi x2]) (st := []) (by decide +kernel) xm_Model_isPlace kw_1156 kw_1158 kw_37 (by decide) rfl rfl rfl rfl (Nat.le_of_ble_eq_true rfl) (Nat.le_of_ble_eq_true rfl) h (fun vH3 H3 hq => ?_)
    obtain ⟨r4, rfl, h⟩ := hq
    refine g_if_ne (off := 6) (tgt := 21) (by decide +kernel) (by decide) (fun c => ?_) (fun c => ?_)
    · replace h := h.1 c
      refine g_aload_n (q := 0) (i := 0) (by decide +kernel) rfl rfl ?_
      refine g_get (C := "ThreePointsModel") (T := xT_Model) (N := 39) (ci := 10) (k := 3) (v := vi (H3 30 0 3)) (by decide +kernel) (by decide) rfl rfl xi_Model (by decide) kw_1029 rfl ?_
      refine g_iconst (n := 4) (v := 4) (by decide +kernel) (by decide) ?_
      refine g_icmp_ne (off := 6) (tgt := 32) (by decide +kernel) (by decide) (fun c => ?_) (fun c => ?_)
      · replace h := h.1 c
        refine g_aload_n (q := 0) (i := 0) (by decide +kernel) rfl rfl ?_
        refine g_get (C := "ThreePointsModel") (T := xT_Model) (N := 39) (ci := 10) (k := 4) (v := vr 32 0) (by decide +kernel) (by decide) rfl rfl xi_Model (by decide) kw_1030 rfl ?_
        refine g_aload_n (q := 0) (i := 0) (by decide +kernel) rfl rfl ?_
        refine g_get (C := "ThreePointsModel") (T := xT_Model) (N := 39) (ci := 10) (k := 3) (v := vi (H3 30 0 3)) (by decide +kernel) (by decide) rfl rfl xi_Model (by decide) kw_1029 rfl ?_
        refine g_iload_n (q := 1) (i := 1) (by decide +kernel) rfl rfl ?_
        refine g_bipush (n := 10) (v := 10) (by decide +kernel) (by decide) ?_
        refine g_idiv (by decide +kernel) (by decide) ?_
        obtain ⟨hin, h⟩ := h
        refine g_iast (by decide +kernel) (by decide) rfl hin ?_
        refine g_aload_n (q := 0) (i := 0) (by decide +kernel) rfl rfl ?_
        refine g_get (C := "ThreePointsModel") (T := xT_Model) (N := 39) (ci := 10) (k := 5) (v := vr 33 0) (by decide +kernel) (by decide) rfl rfl xi_Model (by decide) kw_1031 rfl ?_
        refine g_aload_n (q := 0) (i := 0) (by decide +kernel) rfl rfl ?_
        refine g_heap (fun H5 eH5 => ?_)
        replace h := h H5 eH5
        refine g_get (C := "ThreePointsModel") (T := xT_Model) (N := 39) (ci := 10) (k := 3) (v := vi (H5 30 0 3)) (by decide +kernel) (by decide) rfl rfl xi_Model (by decide) kw_1029 rfl ?_
        refine g_iload_n (q := 1) (i := 1) (by decide +kernel) rfl rfl ?_
        refine g_bipush (n := 10) (v := 10) (by decide +kernel) (by decide) ?_
        refine g_irem (by decide +kernel) (by decide) ?_
        obtain ⟨hin, h⟩ := h
        refine g_iast (by decide +kernel) (by decide) rfl hin ?_
        refine g_aload_n (q := 0) (i := 0) (by decide +kernel) rfl rfl ?_
        refine g_aload_n (q := 0) (i := 0) (by decide +kernel) rfl rfl ?_
        refine g_heap (fun H6 eH6 => ?_)
        replace h := h H6 eH6
        refine g_get (C := "ThreePointsModel") (T := xT_Model) (N := 39) (ci := 10) (k := 3) (v := vi (H6 30 0 3)) (by decide +kernel) (by decide) rfl rfl xi_Model (by decide) kw_1029 rfl ?_
        refine g_iload_n (q := 2) (i := 2) (by decide +kernel) rfl rfl ?_
        refine g_iconst (n := 0) (v := 0) (by decide +kernel) (by decide) ?_
        refine g_callV (kd := 30) (ix := 0) (ci := 10) (N := 39) (T := xT_Model) (vs := [vi (H6 30 0 3), vi x2, vi 0]) (st := []) (by decide +kernel) xm_Model_fitsAt kw_1160 kw_1162 kw_38 (by decide) rfl rfl rfl rfl (Nat.le_of_ble_eq_true rfl) (Nat.le_of_ble_eq_true rfl) h (fun vH7 H7 hq => ?_)
        obtain ⟨r8, rfl, h⟩ := hq
        refine g_if_ne (off := 6) (tgt := 74) (by decide +kernel) (by decide) (fun c => ?_) (fun c => ?_)
        · replace h := h.1 c
          refine g_iconst (n := 0) (v := 0) (by decide +kernel) (by decide) ?_
          refine g_istore_n (q := 3) (i := 3) (ls2 := [some (vr 30 0), some (vi x1), some (vi x2), some (vi 0)]) (by decide +kernel) rfl (by decide) rfl rfl ?_
          refine g_iload_n (q := 3) (i := 3) (by decide +kernel) rfl rfl ?_
          refine g_iconst (n := 5) (v := 5) (by decide +kernel) (by decide) ?_
          refine g_icmp_ge (off := 40) (tgt := 118) (by decide +kernel) (by decide) (fun c => absurd c (by decide)) (fun c => ?_)
          refine g_aload_n (q := 0) (i := 0) (by decide +kernel) rfl rfl ?_
          refine g_get (C := "ThreePointsModel") (T := xT_Model) (N := 39) (ci := 10) (k := 6) (v := vr 34 0) (by decide +kernel) (by decide) rfl rfl xi_Model (by decide) kw_1032 rfl ?_
          refine g_iconst (n := 5) (v := 5) (by decide +kernel) (by decide) ?_
          refine g_aload_n (q := 0) (i := 0) (by decide +kernel) rfl rfl ?_
          refine g_get (C := "ThreePointsModel") (T := xT_Model) (N := 39) (ci := 10) (k := 3) (v := vi (H7 30 0 3)) (by decide +kernel) (by decide) rfl rfl xi_Model (by decide) kw_1029 rfl ?_
          refine g_imul (by decide +kernel) ?_
          refine g_iload_n (q := 3) (i := 3) (by decide +kernel) rfl rfl ?_
          refine g_iadd (by decide +kernel) ?_
          refine g_iload_n (q := 3) (i := 3) (by decide +kernel) rfl rfl ?_
          refine g_if_ne (off := 7) (tgt := 101) (by decide +kernel) (by decide) (fun c => absurd c (by decide)) (fun c => ?_)
          refine g_iload_n (q := 2) (i := 2) (by decide +kernel) rfl rfl ?_
          refine g_goto (off := 13) (tgt := 111) (by decide +kernel) (by decide) ?_
          obtain ⟨hin, h⟩ := h
          refine g_iast (by decide +kernel) (by decide) rfl hin ?_
          refine g_iinc (i := 3) (n := 1) (v := 1) (ls2 := [some (vr 30 0), some (vi x1), some (vi x2), some (vi 1)]) (by decide +kernel) rfl (by decide) (by decide) rfl rfl ?_
          refine g_goto (off := (-39)) (tgt := 76) (by decide +kernel) (by decide) ?_
          refine g_iload_n (q := 3) (i := 3) (by decide +kernel) rfl rfl ?_
          refine g_iconst (n := 5) (v := 5) (by decide +kernel) (by decide) ?_
          refine g_icmp_ge (off := 40) (tgt := 118) (by decide +kernel) (by decide) (fun c => absurd c (by decide)) (fun c => ?_)
          refine g_aload_n (q := 0) (i := 0) (by decide +kernel) rfl rfl ?_
          refine g_get (C := "ThreePointsModel") (T := xT_Model) (N := 39) (ci := 10) (k := 6) (v := vr 34 0) (by decide +kernel) (by decide) rfl rfl xi_Model (by decide) kw_1032 rfl ?_
          refine g_iconst (n := 5) (v := 5) (by decide +kernel) (by decide) ?_
          refine g_aload_n (q := 0) (i := 0) (by decide +kernel) rfl rfl ?_
          refine g_heap (fun H9 eH9 => ?_)
          replace h := h H9 eH9
          refine g_get (C := "ThreePointsModel") (T := xT_Model) (N := 39) (ci := 10) (k := 3) (v := vi (H9 30 0 3)) (by decide +kernel) (by decide) rfl rfl xi_Model (by decide) kw_1029 rfl ?_
          refine g_imul (by decide +kernel) ?_
          refine g_iload_n (q := 3) (i := 3) (by decide +kernel) rfl rfl ?_
          refine g_iadd (by decide +kernel) ?_
          refine g_iload_n (q := 3) (i := 3) (by decide +kernel) rfl rfl ?_
          refine g_if_ne (off := 7) (tgt := 101) (by decide +kernel) (by decide) (fun c => ?_) (fun c => absurd c (by decide))
          refine g_iload_n (q := 3) (i := 3) (by decide +kernel) rfl rfl ?_
          refine g_iconst (n := 4) (v := 4) (by decide +kernel) (by decide) ?_
          refine g_icmp_ne (off := 7) (tgt := 110) (by decide +kernel) (by decide) (fun c => ?_) (fun c => absurd c (by decide))
          refine g_iconst (n := 0) (v := 0) (by decide +kernel) (by decide) ?_
          obtain ⟨hin, h⟩ := h
          refine g_iast (by decide +kernel) (by decide) rfl hin ?_
          refine g_iinc (i := 3) (n := 1) (v := 2) (ls2 := [some (vr 30 0), some (vi x1), some (vi x2), some (vi 2)]) (by decide +kernel) rfl (by decide) (by decide) rfl rfl ?_
          refine g_goto (off := (-39)) (tgt := 76) (by decide +kernel) (by decide) ?_
          refine g_iload_n (q := 3) (i := 3) (by decide +kernel) rfl rfl ?_
          refine g_iconst (n := 5) (v := 5) (by decide +kernel) (by decide) ?_
          refine g_icmp_ge (off := 40) (tgt := 118) (by decide +kernel) (by decide) (fun c => absurd c (by decide)) (fun c => ?_)
          refine g_aload_n (q := 0) (i := 0) (by decide +kernel) rfl rfl ?_
          refine g_get (C := "ThreePointsModel") (T := xT_Model) (N := 39) (ci := 10) (k := 6) (v := vr 34 0) (by decide +kernel) (by decide) rfl rfl xi_Model (by decide) kw_1032 rfl ?_
          refine g_iconst (n := 5) (v := 5) (by decide +kernel) (by decide) ?_
          refine g_aload_n (q := 0) (i := 0) (by decide +kernel) rfl rfl ?_
          refine g_heap (fun H10 eH10 => ?_)
          replace h := h H10 eH10
          refine g_get (C := "ThreePointsModel") (T := xT_Model) (N := 39) (ci := 10) (k := 3) (v := vi (H10 30 0 3)) (by decide +kernel) (by decide) rfl rfl xi_Model (by decide) kw_1029 rfl ?_
          refine g_imul (by decide +kernel) ?_
          refine g_iload_n (q := 3) (i := 3) (by decide +kernel) rfl rfl ?_
          refine g_iadd (by decide +kernel) ?_
          refine g_iload_n (q := 3) (i := 3) (by decide +kernel) rfl rfl ?_
          refine g_if_ne (off := 7) (tgt := 101) (by decide +kernel) (by decide) (fun c => ?_) (fun c => absurd c (by decide))
          refine g_iload_n (q := 3) (i := 3) (by decide +kernel) rfl rfl ?_
          refine g_iconst (n := 4) (v := 4) (by decide +kernel) (by decide) ?_
          refine g_icmp_ne (off := 7) (tgt := 110) (by decide +kernel) (by decide) (fun c => ?_) (fun c => absurd c (by decide))
          refine g_iconst (n := 0) (v := 0) (by decide +kernel) (by decide) ?_
          obtain ⟨hin, h⟩ := h
          refine g_iast (by decide +kernel) (by decide) rfl hin ?_
          refine g_iinc (i := 3) (n := 1) (v := 3) (ls2 := [some (vr 30 0), some (vi x1), some (vi x2), some (vi 3)]) (by decide +kernel) rfl (by decide) (by decide) rfl rfl ?_
          refine g_goto (off := (-39)) (tgt := 76) (by decide +kernel) (by decide) ?_
          refine g_iload_n (q := 3) (i := 3) (by decide +kernel) rfl rfl ?_
          refine g_iconst (n := 5) (v := 5) (by decide +kernel) (by decide) ?_
          refine g_icmp_ge (off := 40) (tgt := 118) (by decide +kernel) (by decide) (fun c => absurd c (by decide)) (fun c => ?_)
          refine g_aload_n (q := 0) (i := 0) (by decide +kernel) rfl rfl ?_
          refine g_get (C := "ThreePointsModel") (T := xT_Model) (N := 39) (ci := 10) (k := 6) (v := vr 34 0) (by decide +kernel) (by decide) rfl rfl xi_Model (by decide) kw_1032 rfl ?_
          refine g_iconst (n := 5) (v := 5) (by decide +kernel) (by decide) ?_
          refine g_aload_n (q := 0) (i := 0) (by decide +kernel) rfl rfl ?_
          refine g_heap (fun H11 eH11 => ?_)
          replace h := h H11 eH11
          refine g_get (C := "ThreePointsModel") (T := xT_Model) (N := 39) (ci := 10) (k := 3) (v := vi (H11 30 0 3)) (by decide +kernel) (by decide) rfl rfl xi_Model (by decide) kw_1029 rfl ?_
          refine g_imul (by decide +kernel) ?_
          refine g_iload_n (q := 3) (i := 3) (by decide +kernel) rfl rfl ?_
          refine g_iadd (by decide +kernel) ?_
          refine g_iload_n (q := 3) (i := 3) (by decide +kernel) rfl rfl ?_
          refine g_if_ne (off := 7) (tgt := 101) (by decide +kernel) (by decide) (fun c => ?_) (fun c => absurd c (by decide))
          refine g_iload_n (q := 3) (i := 3) (by decide +kernel) rfl rfl ?_
          refine g_iconst (n := 4) (v := 4) (by decide +kernel) (by decide) ?_
          refine g_icmp_ne (off := 7) (tgt := 110) (by decide +kernel) (by decide) (fun c => ?_) (fun c => absurd c (by decide))
          refine g_iconst (n := 0) (v := 0) (by decide +kernel) (by decide) ?_
          obtain ⟨hin, h⟩ := h
          refine g_iast (by decide +kernel) (by decide) rfl hin ?_
          refine g_iinc (i := 3) (n := 1) (v := 4) (ls2 := [some (vr 30 0), some (vi x1), some (vi x2), some (vi 4)]) (by decide +kernel) rfl (by decide) (by decide) rfl rfl ?_
          refine g_goto (off := (-39)) (tgt := 76) (by decide +kernel) (by decide) ?_
          refine g_iload_n (q := 3) (i := 3) (by decide +kernel) rfl rfl ?_
          refine g_iconst (n := 5) (v := 5) (by decide +kernel) (by decide) ?_
          refine g_icmp_ge (off := 40) (tgt := 118) (by decide +kernel) (by decide) (fun c => absurd c (by decide)) (fun c => ?_)
          refine g_aload_n (q := 0) (i := 0) (by decide +kernel) rfl rfl ?_
          refine g_get (C := "ThreePointsModel") (T := xT_Model) (N := 39) (ci := 10) (k := 6) (v := vr 34 0) (by decide +kernel) (by decide) rfl rfl xi_Model (by decide) kw_1032 rfl ?_
          refine g_iconst (n := 5) (v := 5) (by decide +kernel) (by decide) ?_
          refine g_aload_n (q := 0) (i := 0) (by decide +kernel) rfl rfl ?_
          refine g_heap (fun H12 eH12 => ?_)
          replace h := h H12 eH12
          refine g_get (C := "ThreePointsModel") (T := xT_Model) (N := 39) (ci := 10) (k := 3) (v := vi (H12 30 0 3)) (by decide +kernel) (by decide) rfl rfl xi_Model (by decide) kw_1029 rfl ?_
          refine g_imul (by decide +kernel) ?_
          refine g_iload_n (q := 3) (i := 3) (by decide +kernel) rfl rfl ?_
          refine g_iadd (by decide +kernel) ?_
          refine g_iload_n (q := 3) (i := 3) (by decide +kernel) rfl rfl ?_
          refine g_if_ne (off := 7) (tgt := 101) (by decide +kernel) (by decide) (fun c => ?_) (fun c => absurd c (by decide))
          refine g_iload_n (q := 3) (i := 3) (by decide +kernel) rfl rfl ?_
          refine g_iconst (n := 4) (v := 4) (by decide +kernel) (by decide) ?_
          refine g_icmp_ne (off := 7) (tgt := 110) (by decide +kernel) (by decide) (fun c => absurd c (by decide)) (fun c => ?_)
          refine g_iconst (n := (-1)) (v := (-1)) (by decide +kernel) (by decide) ?_
          refine g_goto (off := 4) (tgt := 111) (by decide +kernel) (by decide) ?_
          obtain ⟨hin, h⟩ := h
          refine g_iast (by decide +kernel) (by decide) rfl hin ?_
          refine g_iinc (i := 3) (n := 1) (v := 5) (ls2 := [some (vr 30 0), some (vi x1), some (vi x2), some (vi 5)]) (by decide +kernel) rfl (by decide) (by decide) rfl rfl ?_
          refine g_goto (off := (-39)) (tgt := 76) (by decide +kernel) (by decide) ?_
          refine g_iload_n (q := 3) (i := 3) (by decide +kernel) rfl rfl ?_
          refine g_iconst (n := 5) (v := 5) (by decide +kernel) (by decide) ?_
          refine g_icmp_ge (off := 40) (tgt := 118) (by decide +kernel) (by decide) (fun c => ?_) (fun c => absurd c (by decide))
          refine g_aload_n (q := 0) (i := 0) (by decide +kernel) rfl rfl ?_
          refine g_dup (by decide +kernel) rfl ?_
          refine g_heap (fun H13 eH13 => ?_)
          replace h := h H13 eH13
          refine g_get (C := "ThreePointsModel") (T := xT_Model) (N := 39) (ci := 10) (k := 3) (v := vi (H13 30 0 3)) (by decide +kernel) (by decide) rfl rfl xi_Model (by decide) kw_1029 rfl ?_
          refine g_iconst (n := 1) (v := 1) (by decide +kernel) (by decide) ?_
          refine g_iadd (by decide +kernel) ?_
          refine g_put (C := "ThreePointsModel") (T := xT_Model) (N := 39) (ci := 10) (k := 3) xy_Model (by decide +kernel) (by decide) rfl rfl xi_Model xy_Model_ok xn_Model (by decide) kw_1029 rfl (by decide +kernel) (fun _ => rfl) ?_
          refine g_aload_n (q := 0) (i := 0) (by decide +kernel) rfl rfl ?_
          refine g_heap (fun H14 eH14 => ?_)
          replace h := h H14 eH14
          refine g_get (C := "ThreePointsModel") (T := xT_Model) (N := 39) (ci := 10) (k := 3) (v := vi (H14 30 0 3)) (by decide +kernel) (by decide) rfl rfl xi_Model (by decide) kw_1029 rfl ?_
          refine g_iconst (n := 1) (v := 1) (by decide +kernel) (by decide) ?_
          refine g_isub (by decide +kernel) ?_
          exact g_iret (by decide +kernel) rfl ⟨_, rfl, h⟩
        · replace h := h.2 c
          refine g_bipush (n := (-3)) (v := (-3)) (by decide +kernel) (by decide) ?_
          exact g_iret (by decide +kernel) rfl ⟨_, rfl, h⟩
      · replace h := h.2 c
        refine g_bipush (n := (-4)) (v := (-4)) (by decide +kernel) (by decide) ?_
        exact g_iret (by decide +kernel) rfl ⟨_, rfl, h⟩
    · replace h := h.2 c
      refine g_bipush (n := (-2)) (v := (-2)) (by decide +kernel) (by decide) ?_
      exact g_iret (by decide +kernel) rfl ⟨_, rfl, h⟩
def p_Model_told (E : XE) (d : Nat) (x1 : Int32) (x2 : Int32) (H : HH) (Q : Int32 → HH → Prop) : Prop := c_Model_isVehicle E d x1 H (fun r2 H1 => (¬ r2 = 0 → ((x2 = 0 → (vp_in x1 4 ∧ (Q (H1 32 0 (x1.toNatClampNeg)) H1))) ∧ (x2 = 1 → (vp_in x1 4 ∧ (Q (H1 33 0 (x1.toNatClampNeg)) H1))) ∧ (x2 = 2 → (vp_in (((5 * x1) + x2) - 2) 20 ∧ (Q (H1 34 0 ((((5 * x1) + x2) - 2).toNatClampNeg)) H1))) ∧ (x2 = 3 → (vp_in (((5 * x1) + x2) - 2) 20 ∧ (Q (H1 34 0 ((((5 * x1) + x2) - 2).toNatClampNeg)) H1))) ∧ (x2 = 4 → (vp_in (((5 * x1) + x2) - 2) 20 ∧ (Q (H1 34 0 ((((5 * x1) + x2) - 2).toNatClampNeg)) H1))) ∧ (x2 = 5 → (vp_in (((5 * x1) + x2) - 2) 20 ∧ (Q (H1 34 0 ((((5 * x1) + x2) - 2).toNatClampNeg)) H1))) ∧ (x2 = 6 → (vp_in (((5 * x1) + x2) - 2) 20 ∧ (Q (H1 34 0 ((((5 * x1) + x2) - 2).toNatClampNeg)) H1))) ∧ (x2 = 7 → (c_Model_frontOf E d x1 H1 (fun r4 H3 => Q r4 H3))) ∧ (x2 = 8 → (c_Model_backOf E d x1 H1 (fun r6 H5 => Q r6 H5))) ∧ (¬ x2 = 0 → ¬ x2 = 1 → ¬ x2 = 2 → ¬ x2 = 3 → ¬ x2 = 4 → ¬ x2 = 5 → ¬ x2 = 6 → ¬ x2 = 7 → ¬ x2 = 8 → (Q (-7) H1)))) ∧ (r2 = 0 → (Q (-5) H1)))
set_option maxHeartbeats 4000000 in
theorem l_Model_told {E : XE} {d : Nat} {x1 : Int32} {x2 : Int32} {H : HH} {Q : Int32 → HH → Prop} (h : p_Model_told E d x1 x2 H Q) : c_Model_told E (d + 1) x1 x2 H Q := by
  show g_Model_told E (d + 1) 0 (xent [vr 30 0, vi x1, vi x2]) [] H (qi Q)
  refine g_drop (ls2 := [some (vr 30 0), some (vi x1), some (vi x2)]) (And.intro rfl (And.intro rfl (And.intro rfl trivial))) ?_
  refine g_aload_n (q := 0) (i := 0) (by decide +kernel) rfl rfl ?_
  refine g_iload_n (q := 1) (i := 1) (by decide +kernel) rfl rfl ?_
  refine g_callV (kd := 30) (ix := 0) (ci := 10) (N := 39) (T := xT_Model) (vs := [vi x1]) (st := []) (by decide +kernel) xm_Model_isVehicle kw_1202 kw_1204 kw_43 (by decide) rfl rfl rfl rfl (Nat.le_of_ble_eq_true rfl) (Nat.le_of_ble_eq_true rfl) h (fun vH1 H1 hq => ?_)
  obtain ⟨r2, rfl, h⟩ := hq
  refine g_if_ne (off := 6) (tgt := 11) (by decide +kernel) (by decide) (fun c => ?_) (fun c => ?_)
  · replace h := h.1 c
    refine g_iload_n (q := 2) (i := 2) (by decide +kernel) rfl rfl ?_
    obtain ⟨hk, h⟩ := h
    by_cases e0 : x2 = 0
    · replace h := hk e0
      refine g_tableIn (dflt := 91) (lo := 0) (hi := 8) (offs := #[52, 59, 66, 66, 66, 66, 66, 79, 85]) (len := 52) (tgt := 64) (by decide +kernel) (by rw [e0]; decide) (by rw [e0]; decide) (by rw [e0]; rfl) (by decide) ?_
      refine g_aload_n (q := 0) (i := 0) (by decide +kernel) rfl rfl ?_
      refine g_get (C := "ThreePointsModel") (T := xT_Model) (N := 39) (ci := 10) (k := 4) (v := vr 32 0) (by decide +kernel) (by decide) rfl rfl xi_Model (by decide) kw_1030 rfl ?_
      refine g_iload_n (q := 1) (i := 1) (by decide +kernel) rfl rfl ?_
      obtain ⟨hin, h⟩ := h
      refine g_iald (by decide +kernel) (by decide) rfl hin ?_
      exact g_iret (by decide +kernel) rfl ⟨_, rfl, h⟩
    clear hk
    obtain ⟨hk, h⟩ := h
    by_cases e1 : x2 = 1
    · replace h := hk e1
      refine g_tableIn (dflt := 91) (lo := 0) (hi := 8) (offs := #[52, 59, 66, 66, 66, 66, 66, 79, 85]) (len := 52) (tgt := 71) (by decide +kernel) (by rw [e1]; decide) (by rw [e1]; decide) (by rw [e1]; rfl) (by decide) ?_
      refine g_aload_n (q := 0) (i := 0) (by decide +kernel) rfl rfl ?_
      refine g_get (C := "ThreePointsModel") (T := xT_Model) (N := 39) (ci := 10) (k := 5) (v := vr 33 0) (by decide +kernel) (by decide) rfl rfl xi_Model (by decide) kw_1031 rfl ?_
      refine g_iload_n (q := 1) (i := 1) (by decide +kernel) rfl rfl ?_
      obtain ⟨hin, h⟩ := h
      refine g_iald (by decide +kernel) (by decide) rfl hin ?_
      exact g_iret (by decide +kernel) rfl ⟨_, rfl, h⟩
    clear hk
    obtain ⟨hk, h⟩ := h
    by_cases e2 : x2 = 2
    · replace h := hk e2
      refine g_tableIn (dflt := 91) (lo := 0) (hi := 8) (offs := #[52, 59, 66, 66, 66, 66, 66, 79, 85]) (len := 52) (tgt := 78) (by decide +kernel) (by rw [e2]; decide) (by rw [e2]; decide) (by rw [e2]; rfl) (by decide) ?_
      refine g_aload_n (q := 0) (i := 0) (by decide +kernel) rfl rfl ?_
      refine g_get (C := "ThreePointsModel") (T := xT_Model) (N := 39) (ci := 10) (k := 6) (v := vr 34 0) (by decide +kernel) (by decide) rfl rfl xi_Model (by decide) kw_1032 rfl ?_
      refine g_iconst (n := 5) (v := 5) (by decide +kernel) (by decide) ?_
      refine g_iload_n (q := 1) (i := 1) (by decide +kernel) rfl rfl ?_
      refine g_imul (by decide +kernel) ?_
      refine g_iload_n (q := 2) (i := 2) (by decide +kernel) rfl rfl ?_
      refine g_iadd (by decide +kernel) ?_
      refine g_iconst (n := 2) (v := 2) (by decide +kernel) (by decide) ?_
      refine g_isub (by decide +kernel) ?_
      obtain ⟨hin, h⟩ := h
      refine g_iald (by decide +kernel) (by decide) rfl hin ?_
      exact g_iret (by decide +kernel) rfl ⟨_, rfl, h⟩
    clear hk
    obtain ⟨hk, h⟩ := h
    by_cases e3 : x2 = 3
    · replace h := hk e3
      refine g_tableIn (dflt := 91) (lo := 0) (hi := 8) (offs := #[52, 59, 66, 66, 66, 66, 66, 79, 85]) (len := 52) (tgt := 78) (by decide +kernel) (by rw [e3]; decide) (by rw [e3]; decide) (by rw [e3]; rfl) (by decide) ?_
      refine g_aload_n (q := 0) (i := 0) (by decide +kernel) rfl rfl ?_
      refine g_get (C := "ThreePointsModel") (T := xT_Model) (N := 39) (ci := 10) (k := 6) (v := vr 34 0) (by decide +kernel) (by decide) rfl rfl xi_Model (by decide) kw_1032 rfl ?_
      refine g_iconst (n := 5) (v := 5) (by decide +kernel) (by decide) ?_
      refine g_iload_n (q := 1) (i := 1) (by decide +kernel) rfl rfl ?_
      refine g_imul (by decide +kernel) ?_
      refine g_iload_n (q := 2) (i := 2) (by decide +kernel) rfl rfl ?_
      refine g_iadd (by decide +kernel) ?_
      refine g_iconst (n := 2) (v := 2) (by decide +kernel) (by decide) ?_
      refine g_isub (by decide +kernel) ?_
      obtain ⟨hin, h⟩ := h
      refine g_iald (by decide +kernel) (by decide) rfl hin ?_
      exact g_iret (by decide +kernel) rfl ⟨_, rfl, h⟩
    clear hk
    obtain ⟨hk, h⟩ := h
    by_cases e4 : x2 = 4
    · replace h := hk e4
      refine g_tableIn (dflt := 91) (lo := 0) (hi := 8) (offs := #[52, 59, 66, 66, 66, 66, 66, 79, 85]) (len := 52) (tgt := 78) (by decide +kernel) (by rw [e4]; decide) (by rw [e4]; decide) (by rw [e4]; rfl) (by decide) ?_
      refine g_aload_n (q := 0) (i := 0) (by decide +kernel) rfl rfl ?_
      refine g_get (C := "ThreePointsModel") (T := xT_Model) (N := 39) (ci := 10) (k := 6) (v := vr 34 0) (by decide +kernel) (by decide) rfl rfl xi_Model (by decide) kw_1032 rfl ?_
      refine g_iconst (n := 5) (v := 5) (by decide +kernel) (by decide) ?_
      refine g_iload_n (q := 1) (i := 1) (by decide +kernel) rfl rfl ?_
      refine g_imul (by decide +kernel) ?_
      refine g_iload_n (q := 2) (i := 2) (by decide +kernel) rfl rfl ?_
      refine g_iadd (by decide +kernel) ?_
      refine g_iconst (n := 2) (v := 2) (by decide +kernel) (by decide) ?_
      refine g_isub (by decide +kernel) ?_
      obtain ⟨hin, h⟩ := h
      refine g_iald (by decide +kernel) (by decide) rfl hin ?_
      exact g_iret (by decide +kernel) rfl ⟨_, rfl, h⟩
    clear hk
    obtain ⟨hk, h⟩ := h
    by_cases e5 : x2 = 5
    · replace h := hk e5
      refine g_tableIn (dflt := 91) (lo := 0) (hi := 8) (offs := #[52, 59, 66, 66, 66, 66, 66, 79, 85]) (len := 52) (tgt := 78) (by decide +kernel) (by rw [e5]; decide) (by rw [e5]; decide) (by rw [e5]; rfl) (by decide) ?_
      refine g_aload_n (q := 0) (i := 0) (by decide +kernel) rfl rfl ?_
      refine g_get (C := "ThreePointsModel") (T := xT_Model) (N := 39) (ci := 10) (k := 6) (v := vr 34 0) (by decide +kernel) (by decide) rfl rfl xi_Model (by decide) kw_1032 rfl ?_
      refine g_iconst (n := 5) (v := 5) (by decide +kernel) (by decide) ?_
      refine g_iload_n (q := 1) (i := 1) (by decide +kernel) rfl rfl ?_
      refine g_imul (by decide +kernel) ?_
      refine g_iload_n (q := 2) (i := 2) (by decide +kernel) rfl rfl ?_
      refine g_iadd (by decide +kernel) ?_
      refine g_iconst (n := 2) (v := 2) (by decide +kernel) (by decide) ?_
      refine g_isub (by decide +kernel) ?_
      obtain ⟨hin, h⟩ := h
      refine g_iald (by decide +kernel) (by decide) rfl hin ?_
      exact g_iret (by decide +kernel) rfl ⟨_, rfl, h⟩
    clear hk
    obtain ⟨hk, h⟩ := h
    by_cases e6 : x2 = 6
    · replace h := hk e6
      refine g_tableIn (dflt := 91) (lo := 0) (hi := 8) (offs := #[52, 59, 66, 66, 66, 66, 66, 79, 85]) (len := 52) (tgt := 78) (by decide +kernel) (by rw [e6]; decide) (by rw [e6]; decide) (by rw [e6]; rfl) (by decide) ?_
      refine g_aload_n (q := 0) (i := 0) (by decide +kernel) rfl rfl ?_
      refine g_get (C := "ThreePointsModel") (T := xT_Model) (N := 39) (ci := 10) (k := 6) (v := vr 34 0) (by decide +kernel) (by decide) rfl rfl xi_Model (by decide) kw_1032 rfl ?_
      refine g_iconst (n := 5) (v := 5) (by decide +kernel) (by decide) ?_
      refine g_iload_n (q := 1) (i := 1) (by decide +kernel) rfl rfl ?_
      refine g_imul (by decide +kernel) ?_
      refine g_iload_n (q := 2) (i := 2) (by decide +kernel) rfl rfl ?_
      refine g_iadd (by decide +kernel) ?_
      refine g_iconst (n := 2) (v := 2) (by decide +kernel) (by decide) ?_
      refine g_isub (by decide +kernel) ?_
      obtain ⟨hin, h⟩ := h
      refine g_iald (by decide +kernel) (by decide) rfl hin ?_
      exact g_iret (by decide +kernel) rfl ⟨_, rfl, h⟩
    clear hk
    obtain ⟨hk, h⟩ := h
    by_cases e7 : x2 = 7
    · replace h := hk e7
      refine g_tableIn (dflt := 91) (lo := 0) (hi := 8) (offs := #[52, 59, 66, 66, 66, 66, 66, 79, 85]) (len := 52) (tgt := 91) (by decide +kernel) (by rw [e7]; decide) (by rw [e7]; decide) (by rw [e7]; rfl) (by decide) ?_
      refine g_aload_n (q := 0) (i := 0) (by decide +kernel) rfl rfl ?_
      refine g_iload_n (q := 1) (i := 1) (by decide +kernel) rfl rfl ?_
      refine g_callV (kd := 30) (ix := 0) (ci := 10) (N := 39) (T := xT_Model) (vs := [vi x1]) (st := []) (by decide +kernel) xm_Model_frontOf kw_1164 kw_1166 kw_39 (by decide) rfl rfl rfl rfl (Nat.le_of_ble_eq_true rfl) (Nat.le_of_ble_eq_true rfl) h (fun vH3 H3 hq => ?_)
      obtain ⟨r4, rfl, h⟩ := hq
      exact g_iret (by decide +kernel) rfl ⟨_, rfl, h⟩
    clear hk
    obtain ⟨hk, h⟩ := h
    by_cases e8 : x2 = 8
    · replace h := hk e8
      refine g_tableIn (dflt := 91) (lo := 0) (hi := 8) (offs := #[52, 59, 66, 66, 66, 66, 66, 79, 85]) (len := 52) (tgt := 97) (by decide +kernel) (by rw [e8]; decide) (by rw [e8]; decide) (by rw [e8]; rfl) (by decide) ?_
      refine g_aload_n (q := 0) (i := 0) (by decide +kernel) rfl rfl ?_
      refine g_iload_n (q := 1) (i := 1) (by decide +kernel) rfl rfl ?_
      refine g_callV (kd := 30) (ix := 0) (ci := 10) (N := 39) (T := xT_Model) (vs := [vi x1]) (st := []) (by decide +kernel) xm_Model_backOf kw_1168 kw_1170 kw_40 (by decide) rfl rfl rfl rfl (Nat.le_of_ble_eq_true rfl) (Nat.le_of_ble_eq_true rfl) h (fun vH5 H5 hq => ?_)
      obtain ⟨r6, rfl, h⟩ := hq
      exact g_iret (by decide +kernel) rfl ⟨_, rfl, h⟩
    clear hk
    replace h := h e0 e1 e2 e3 e4 e5 e6 e7 e8
    refine g_tableOut (dflt := 91) (lo := 0) (hi := 8) (offs := #[52, 59, 66, 66, 66, 66, 66, 79, 85]) (len := 52) (tgt := 103) (by decide +kernel) (by have q0 := xsw (m := 0) (by decide) e0; have q1 := xsw (m := 1) (by decide) e1; have q2 := xsw (m := 2) (by decide) e2; have q3 := xsw (m := 3) (by decide) e3; have q4 := xsw (m := 4) (by decide) e4; have q5 := xsw (m := 5) (by decide) e5; have q6 := xsw (m := 6) (by decide) e6; have q7 := xsw (m := 7) (by decide) e7; have q8 := xsw (m := 8) (by decide) e8; omega) (by decide) ?_
    refine g_bipush (n := (-7)) (v := (-7)) (by decide +kernel) (by decide) ?_
    exact g_iret (by decide +kernel) rfl ⟨_, rfl, h⟩
  · replace h := h.2 c
    refine g_bipush (n := (-5)) (v := (-5)) (by decide +kernel) (by decide) ?_
    exact g_iret (by decide +kernel) rfl ⟨_, rfl, h⟩
def p_Model_fit (E : XE) (d : Nat) (x1 : Int32) (x2 : Int32) (H : HH) (Q : Int32 → HH → Prop) : Prop := c_Model_isVehicle E d x1 H (fun r2 H1 => (¬ r2 = 0 → (c_Model_isBoth E d x2 H1 (fun r4 H3 => (¬ r4 = 0 → (c_Model_fitsAt E d x1 (x2 / 100) (xrem x2 100) H3 (fun r6 H5 => Q (if r6 = 0 then 0 else 1 : Int32) H5))) ∧ (r4 = 0 → (Q (-7) H3))))) ∧ (r2 = 0 → (Q (-5) H1)))
set_option maxHeartbeats 4000000 in
theorem l_Model_fit {E : XE} {d : Nat} {x1 : Int32} {x2 : Int32} {H : HH} {Q : Int32 → HH → Prop} (h : p_Model_fit E d x1 x2 H Q) : c_Model_fit E (d + 1) x1 x2 H Q := by
  show g_Model_fit E (d + 1) 0 (xent [vr 30 0, vi x1, vi x2]) [] H (qi Q)
  refine g_drop (ls2 := [some (vr 30 0), some (vi x1), some (vi x2)]) (And.intro rfl (And.intro rfl (And.intro rfl trivial))) ?_
  refine g_aload_n (q := 0) (i := 0) (by decide +kernel) rfl rfl ?_
  refine g_iload_n (q := 1) (i := 1) (by decide +kernel) rfl rfl ?_
  refine g_callV (kd := 30) (ix := 0) (ci := 10) (N := 39) (T := xT_Model) (vs := [vi x1]) (st := []) (by decide +kernel) xm_Model_isVehicle kw_1202 kw_1204 kw_43 (by decide) rfl rfl rfl rfl (Nat.le_of_ble_eq_true rfl) (Nat.le_of_ble_eq_true rfl) h (fun vH1 H1 hq => ?_)
  obtain ⟨r2, rfl, h⟩ := hq
  refine g_if_ne (off := 6) (tgt := 11) (by decide +kernel) (by decide) (fun c => ?_) (fun c => ?_)
  · replace h := h.1 c
    refine g_aload_n (q := 0) (i := 0) (by decide +kernel) rfl rfl ?_
    refine g_iload_n (q := 2) (i := 2) (by decide +kernel) rfl rfl ?_
    refine g_callV (kd := 30) (ix := 0) (ci := 10) (N := 39) (T := xT_Model) (vs := [vi x2]) (st := []) (by decide +kernel) xm_Model_isBoth kw_1206 kw_1208 kw_44 (by decide) rfl rfl rfl rfl (Nat.le_of_ble_eq_true rfl) (Nat.le_of_ble_eq_true rfl) h (fun vH3 H3 hq => ?_)
    obtain ⟨r4, rfl, h⟩ := hq
    refine g_if_ne (off := 8) (tgt := 24) (by decide +kernel) (by decide) (fun c => ?_) (fun c => ?_)
    · replace h := h.1 c
      refine g_aload_n (q := 0) (i := 0) (by decide +kernel) rfl rfl ?_
      refine g_iload_n (q := 1) (i := 1) (by decide +kernel) rfl rfl ?_
      refine g_iload_n (q := 2) (i := 2) (by decide +kernel) rfl rfl ?_
      refine g_bipush (n := 100) (v := 100) (by decide +kernel) (by decide) ?_
      refine g_idiv (by decide +kernel) (by decide) ?_
      refine g_iload_n (q := 2) (i := 2) (by decide +kernel) rfl rfl ?_
      refine g_bipush (n := 100) (v := 100) (by decide +kernel) (by decide) ?_
      refine g_irem (by decide +kernel) (by decide) ?_
      refine g_callV (kd := 30) (ix := 0) (ci := 10) (N := 39) (T := xT_Model) (vs := [vi x1, vi (x2 / 100), vi (xrem x2 100)]) (st := []) (by decide +kernel) xm_Model_fitsAt kw_1160 kw_1162 kw_38 (by decide) rfl rfl rfl rfl (Nat.le_of_ble_eq_true rfl) (Nat.le_of_ble_eq_true rfl) h (fun vH5 H5 hq => ?_)
      obtain ⟨r6, rfl, h⟩ := hq
      suffices hj7 : g_Model_fit E (d + 1) 45 [some (vr 30 0), some (vi x1), some (vi x2)] [vi (if r6 = 0 then 0 else 1 : Int32)] H5 (qi Q) by
        refine g_if_eq (off := 7) (tgt := 44) (by decide +kernel) (by decide) (fun c => ?_) (fun c => ?_)
        · rw [if_pos c] at hj7
          refine g_iconst (n := 0) (v := 0) (by decide +kernel) (by decide) ?_
          exact hj7
        · rw [if_neg c] at hj7
          refine g_iconst (n := 1) (v := 1) (by decide +kernel) (by decide) ?_
          refine g_goto (off := 4) (tgt := 45) (by decide +kernel) (by decide) ?_
          exact hj7
      exact g_iret (by decide +kernel) rfl ⟨_, rfl, h⟩
    · replace h := h.2 c
      refine g_bipush (n := (-7)) (v := (-7)) (by decide +kernel) (by decide) ?_
      refine g_goto (off := 24) (tgt := 45) (by decide +kernel) (by decide) ?_
      exact g_iret (by decide +kernel) rfl ⟨_, rfl, h⟩
  · replace h := h.2 c
    refine g_bipush (n := (-5)) (v := (-5)) (by decide +kernel) (by decide) ?_
    exact g_iret (by decide +kernel) rfl ⟨_, rfl, h⟩
def p_Model_drive (E : XE) (d : Nat) (x1 : Int32) (x2 : Int32) (x3 : Int32) (H : HH) (Q : Int32 → HH → Prop) : Prop := c_Model_isVehicle E d x1 H (fun r2 H1 => (¬ r2 = 0 → (c_Model_in E d x2 0 1 H1 (fun r4 H3 => (r4 = 0 → (Q (-7) H3)) ∧ (¬ r4 = 0 → (c_Model_in E d x3 (-1) 1 H3 (fun r6 H5 => (¬ r6 = 0 → (c_Model_canGo E d x1 x2 x3 H5 (fun r8 H7 => (¬ r8 = 0 → (c_Model_goes E d x1 x2 x3 H7 (fun H9 => vp_in (5 * x1) 20 ∧ (Q (H9 34 0 ((5 * x1).toNatClampNeg)) H9)))) ∧ (r8 = 0 → (Q (-3) H7))))) ∧ (r6 = 0 → (Q (-7) H5)))))))) ∧ (r2 = 0 → (Q (-5) H1)))
set_option maxHeartbeats 4000000 in
theorem l_Model_drive {E : XE} {d : Nat} {x1 : Int32} {x2 : Int32} {x3 : Int32} {H : HH} {Q : Int32 → HH → Prop} (h : p_Model_drive E d x1 x2 x3 H Q) : c_Model_drive E (d + 1) x1 x2 x3 H Q := by
  show g_Model_drive E (d + 1) 0 (xent [vr 30 0, vi x1, vi x2, vi x3]) [] H (qi Q)
  refine g_drop (ls2 := [some (vr 30 0), some (vi x1), some (vi x2), some (vi x3)]) (And.intro rfl (And.intro rfl (And.intro rfl (And.intro rfl trivial)))) ?_
  refine g_aload_n (q := 0) (i := 0) (by decide +kernel) rfl rfl ?_
  refine g_iload_n (q := 1) (i := 1) (by decide +kernel) rfl rfl ?_
  refine g_callV (kd := 30) (ix := 0) (ci := 10) (N := 39) (T := xT_Model) (vs := [vi x1]) (st := []) (by decide +kernel) xm_Model_isVehicle kw_1202 kw_1204 kw_43 (by decide) rfl rfl rfl rfl (Nat.le_of_ble_eq_true rfl) (Nat.le_of_ble_eq_true rfl) h (fun vH1 H1 hq => ?_)
  obtain ⟨r2, rfl, h⟩ := hq
  refine g_if_ne (off := 6) (tgt := 11) (by decide +kernel) (by decide) (fun c => ?_) (fun c => ?_)
  · replace h := h.1 c
    refine g_iload_n (q := 2) (i := 2) (by decide +kernel) rfl rfl ?_
    refine g_iconst (n := 0) (v := 0) (by decide +kernel) (by decide) ?_
    refine g_iconst (n := 1) (v := 1) (by decide +kernel) (by decide) ?_
    refine g_callS (vs := [vi x2, vi 0, vi 1]) (st := []) (by decide +kernel) xm_Model_in kw_987 kw_988 rfl rfl (Nat.le_of_ble_eq_true rfl) (Nat.le_of_ble_eq_true rfl) h (fun vH3 H3 hq => ?_)
    obtain ⟨r4, rfl, h⟩ := hq
    refine g_if_eq (off := 12) (tgt := 29) (by decide +kernel) (by decide) (fun c => ?_) (fun c => ?_)
    · replace h := h.1 c
      refine g_bipush (n := (-7)) (v := (-7)) (by decide +kernel) (by decide) ?_
      exact g_iret (by decide +kernel) rfl ⟨_, rfl, h⟩
    · replace h := h.2 c
      refine g_iload_n (q := 3) (i := 3) (by decide +kernel) rfl rfl ?_
      refine g_iconst (n := (-1)) (v := (-1)) (by decide +kernel) (by decide) ?_
      refine g_iconst (n := 1) (v := 1) (by decide +kernel) (by decide) ?_
      refine g_callS (vs := [vi x3, vi (-1), vi 1]) (st := []) (by decide +kernel) xm_Model_in kw_987 kw_988 rfl rfl (Nat.le_of_ble_eq_true rfl) (Nat.le_of_ble_eq_true rfl) h (fun vH5 H5 hq => ?_)
      obtain ⟨r6, rfl, h⟩ := hq
      refine g_if_ne (off := 6) (tgt := 32) (by decide +kernel) (by decide) (fun c => ?_) (fun c => ?_)
      · replace h := h.1 c
        refine g_aload_n (q := 0) (i := 0) (by decide +kernel) rfl rfl ?_
        refine g_iload_n (q := 1) (i := 1) (by decide +kernel) rfl rfl ?_
        refine g_iload_n (q := 2) (i := 2) (by decide +kernel) rfl rfl ?_
        refine g_iload_n (q := 3) (i := 3) (by decide +kernel) rfl rfl ?_
        refine g_callV (kd := 30) (ix := 0) (ci := 10) (N := 39) (T := xT_Model) (vs := [vi x1, vi x2, vi x3]) (st := []) (by decide +kernel) xm_Model_canGo kw_1226 kw_1228 kw_45 (by decide) rfl rfl rfl rfl (Nat.le_of_ble_eq_true rfl) (Nat.le_of_ble_eq_true rfl) h (fun vH7 H7 hq => ?_)
        obtain ⟨r8, rfl, h⟩ := hq
        refine g_if_ne (off := 6) (tgt := 45) (by decide +kernel) (by decide) (fun c => ?_) (fun c => ?_)
        · replace h := h.1 c
          refine g_aload_n (q := 0) (i := 0) (by decide +kernel) rfl rfl ?_
          refine g_iload_n (q := 1) (i := 1) (by decide +kernel) rfl rfl ?_
          refine g_iload_n (q := 2) (i := 2) (by decide +kernel) rfl rfl ?_
          refine g_iload_n (q := 3) (i := 3) (by decide +kernel) rfl rfl ?_
          refine g_callV (kd := 30) (ix := 0) (ci := 10) (N := 39) (T := xT_Model) (vs := [vi x1, vi x2, vi x3]) (st := []) (by decide +kernel) xm_Model_goes kw_1242 kw_1244 kw_49 (by decide) rfl rfl rfl rfl (Nat.le_of_ble_eq_true rfl) (Nat.le_of_ble_eq_true rfl) h (fun vH9 H9 hq => ?_)
          replace h := hq
          refine g_aload_n (q := 0) (i := 0) (by decide +kernel) rfl rfl ?_
          refine g_get (C := "ThreePointsModel") (T := xT_Model) (N := 39) (ci := 10) (k := 6) (v := vr 34 0) (by decide +kernel) (by decide) rfl rfl xi_Model (by decide) kw_1032 rfl ?_
          refine g_iconst (n := 5) (v := 5) (by decide +kernel) (by decide) ?_
          refine g_iload_n (q := 1) (i := 1) (by decide +kernel) rfl rfl ?_
          refine g_imul (by decide +kernel) ?_
          obtain ⟨hin, h⟩ := h
          refine g_iald (by decide +kernel) (by decide) rfl hin ?_
          exact g_iret (by decide +kernel) rfl ⟨_, rfl, h⟩
        · replace h := h.2 c
          refine g_bipush (n := (-3)) (v := (-3)) (by decide +kernel) (by decide) ?_
          exact g_iret (by decide +kernel) rfl ⟨_, rfl, h⟩
      · replace h := h.2 c
        refine g_bipush (n := (-7)) (v := (-7)) (by decide +kernel) (by decide) ?_
        exact g_iret (by decide +kernel) rfl ⟨_, rfl, h⟩
  · replace h := h.2 c
    refine g_bipush (n := (-5)) (v := (-5)) (by decide +kernel) (by decide) ?_
    exact g_iret (by decide +kernel) rfl ⟨_, rfl, h⟩
def p_Model_begin (E : XE) (d : Nat) (x1 : Int32) (x2 : Int32) (H : HH) (Q : Int32 → HH → Prop) : Prop := c_Model_isVehicle E d x1 H (fun r2 H1 => (¬ r2 = 0 → (c_Model_isPlace E d x2 H1 (fun r4 H3 => (¬ r4 = 0 → (c_Model_fitsAt E d x1 x2 0 H3 (fun r6 H5 => (¬ r6 = 0 → (vp_in (5 * x1) 20 ∧ (∀ v7 : Int32, v7 = (H5 34 0 ((5 * x1).toNatClampNeg)) → (vp_in ((5 * x1) + 0) 20 ∧ (vp_in ((5 * x1) + 1) 20 ∧ (vp_in ((5 * x1) + 2) 20 ∧ (vp_in ((5 * x1) + 3) 20 ∧ (vp_in ((5 * x1) + 4) 20 ∧ (∀ H8 : HH, H8 = (hu (hu (hu (hu (hu H5 34 0 (((5 * x1) + 0).toNatClampNeg) x2) 34 0 (((5 * x1) + 1).toNatClampNeg) 0) 34 0 (((5 * x1) + 2).toNatClampNeg) 0) 34 0 (((5 * x1) + 3).toNatClampNeg) 0) 34 0 (((5 * x1) + 4).toNatClampNeg) (-1)) → (Q v7 H8)))))))))) ∧ (r6 = 0 → (Q (-3) H5))))) ∧ (r4 = 0 → (Q (-7) H3))))) ∧ (r2 = 0 → (Q (-5) H1)))
set_option maxHeartbeats 4000000 in
theorem l_Model_begin {E : XE} {d : Nat} {x1 : Int32} {x2 : Int32} {H : HH} {Q : Int32 → HH → Prop} (h : p_Model_begin E d x1 x2 H Q) : c_Model_begin E (d + 1) x1 x2 H Q := by
  show g_Model_begin E (d + 1) 0 (xent [vr 30 0, vi x1, vi x2]) [] H (qi Q)
  refine g_drop (ls2 := [some (vr 30 0), some (vi x1), some (vi x2), none, none]) (And.intro rfl (And.intro rfl (And.intro rfl trivial))) ?_
  refine g_aload_n (q := 0) (i := 0) (by decide +kernel) rfl rfl ?_
  refine g_iload_n (q := 1) (i := 1) (by decide +kernel) rfl rfl ?_
  refine g_callV (kd := 30) (ix := 0) (ci := 10) (N := 39) (T := xT_Model) (vs := [vi x1]) (st := []) (by decide +kernel) xm_Model_isVehicle kw_1202 kw_1204 kw_43 (by decide) rfl rfl rfl rfl (Nat.le_of_ble_eq_true rfl) (Nat.le_of_ble_eq_true rfl) h (fun vH1 H1 hq => ?_)
  obtain ⟨r2, rfl, h⟩ := hq
  refine g_if_ne (off := 6) (tgt := 11) (by decide +kernel) (by decide) (fun c => ?_) (fun c => ?_)
  · replace h := h.1 c
    refine g_aload_n (q := 0) (i := 0) (by decide +kernel) rfl rfl ?_
    refine g_iload_n (q := 2) (i := 2) (by decide +kernel) rfl rfl ?_
    refine g_callV (kd := 30) (ix := 0) (ci := 10) (N := 39) (T := xT_Model) (vs := [vi x2]) (st := []) (by decide +kernel) xm_Model_isPlace kw_1156 kw_1158 kw_37 (by decide) rfl rfl rfl rfl (Nat.le_of_ble_eq_true rfl) (Nat.le_of_ble_eq_true rfl) h (fun vH3 H3 hq => ?_)
    obtain ⟨r4, rfl, h⟩ := hq
    refine g_if_ne (off := 6) (tgt := 22) (by decide +kernel) (by decide) (fun c => ?_) (fun c => ?_)
    · replace h := h.1 c
      refine g_aload_n (q := 0) (i := 0) (by decide +kernel) rfl rfl ?_
      refine g_iload_n (q := 1) (i := 1) (by decide +kernel) rfl rfl ?_
      refine g_iload_n (q := 2) (i := 2) (by decide +kernel) rfl rfl ?_
      refine g_iconst (n := 0) (v := 0) (by decide +kernel) (by decide) ?_
      refine g_callV (kd := 30) (ix := 0) (ci := 10) (N := 39) (T := xT_Model) (vs := [vi x1, vi x2, vi 0]) (st := []) (by decide +kernel) xm_Model_fitsAt kw_1160 kw_1162 kw_38 (by decide) rfl rfl rfl rfl (Nat.le_of_ble_eq_true rfl) (Nat.le_of_ble_eq_true rfl) h (fun vH5 H5 hq => ?_)
      obtain ⟨r6, rfl, h⟩ := hq
      refine g_if_ne (off := 6) (tgt := 35) (by decide +kernel) (by decide) (fun c => ?_) (fun c => ?_)
      · replace h := h.1 c
        refine g_aload_n (q := 0) (i := 0) (by decide +kernel) rfl rfl ?_
        refine g_get (C := "ThreePointsModel") (T := xT_Model) (N := 39) (ci := 10) (k := 6) (v := vr 34 0) (by decide +kernel) (by decide) rfl rfl xi_Model (by decide) kw_1032 rfl ?_
        refine g_iconst (n := 5) (v := 5) (by decide +kernel) (by decide) ?_
        refine g_iload_n (q := 1) (i := 1) (by decide +kernel) rfl rfl ?_
        refine g_imul (by decide +kernel) ?_
        obtain ⟨hin, h⟩ := h
        refine g_iald (by decide +kernel) (by decide) rfl hin ?_
        refine g_topi (fun v7 ev7 => ?_)
        replace h := h v7 ev7
        refine g_istore_n (q := 3) (i := 3) (ls2 := [some (vr 30 0), some (vi x1), some (vi x2), some (vi v7), none]) (by decide +kernel) rfl (by decide) rfl rfl ?_
        refine g_iconst (n := 0) (v := 0) (by decide +kernel) (by decide) ?_
        refine g_istore (i := 4) (ls2 := [some (vr 30 0), some (vi x1), some (vi x2), some (vi v7), some (vi 0)]) (by decide +kernel) (by decide) rfl rfl ?_
        refine g_iload (i := 4) (by decide +kernel) rfl ?_
        refine g_iconst (n := 5) (v := 5) (by decide +kernel) (by decide) ?_
        refine g_icmp_ge (off := 40) (tgt := 90) (by decide +kernel) (by decide) (fun c => absurd c (by decide)) (fun c => ?_)
        refine g_aload_n (q := 0) (i := 0) (by decide +kernel) rfl rfl ?_
        refine g_get (C := "ThreePointsModel") (T := xT_Model) (N := 39) (ci := 10) (k := 6) (v := vr 34 0) (by decide +kernel) (by decide) rfl rfl xi_Model (by decide) kw_1032 rfl ?_
        refine g_iconst (n := 5) (v := 5) (by decide +kernel) (by decide) ?_
        refine g_iload_n (q := 1) (i := 1) (by decide +kernel) rfl rfl ?_
        refine g_imul (by decide +kernel) ?_
        refine g_iload (i := 4) (by decide +kernel) rfl ?_
        refine g_iadd (by decide +kernel) ?_
        refine g_iload (i := 4) (by decide +kernel) rfl ?_
        refine g_if_ne (off := 7) (tgt := 72) (by decide +kernel) (by decide) (fun c => absurd c (by decide)) (fun c => ?_)
        refine g_iload_n (q := 2) (i := 2) (by decide +kernel) rfl rfl ?_
        refine g_goto (off := 14) (tgt := 83) (by decide +kernel) (by decide) ?_
        obtain ⟨hin, h⟩ := h
        refine g_iast (by decide +kernel) (by decide) rfl hin ?_
        refine g_iinc (i := 4) (n := 1) (v := 1) (ls2 := [some (vr 30 0), some (vi x1), some (vi x2), some (vi v7), some (vi 1)]) (by decide +kernel) rfl (by decide) (by decide) rfl rfl ?_
        refine g_goto (off := (-40)) (tgt := 47) (by decide +kernel) (by decide) ?_
        refine g_iload (i := 4) (by decide +kernel) rfl ?_
        refine g_iconst (n := 5) (v := 5) (by decide +kernel) (by decide) ?_
        refine g_icmp_ge (off := 40) (tgt := 90) (by decide +kernel) (by decide) (fun c => absurd c (by decide)) (fun c => ?_)
        refine g_aload_n (q := 0) (i := 0) (by decide +kernel) rfl rfl ?_
        refine g_get (C := "ThreePointsModel") (T := xT_Model) (N := 39) (ci := 10) (k := 6) (v := vr 34 0) (by decide +kernel) (by decide) rfl rfl xi_Model (by decide) kw_1032 rfl ?_
        refine g_iconst (n := 5) (v := 5) (by decide +kernel) (by decide) ?_
        refine g_iload_n (q := 1) (i := 1) (by decide +kernel) rfl rfl ?_
        refine g_imul (by decide +kernel) ?_
        refine g_iload (i := 4) (by decide +kernel) rfl ?_
        refine g_iadd (by decide +kernel) ?_
        refine g_iload (i := 4) (by decide +kernel) rfl ?_
        refine g_if_ne (off := 7) (tgt := 72) (by decide +kernel) (by decide) (fun c => ?_) (fun c => absurd c (by decide))
        refine g_iload (i := 4) (by decide +kernel) rfl ?_
        refine g_iconst (n := 4) (v := 4) (by decide +kernel) (by decide) ?_
        refine g_icmp_ne (off := 7) (tgt := 82) (by decide +kernel) (by decide) (fun c => ?_) (fun c => absurd c (by decide))
        refine g_iconst (n := 0) (v := 0) (by decide +kernel) (by decide) ?_
        obtain ⟨hin, h⟩ := h
        refine g_iast (by decide +kernel) (by decide) rfl hin ?_
        refine g_iinc (i := 4) (n := 1) (v := 2) (ls2 := [some (vr 30 0), some (vi x1), some (vi x2), some (vi v7), some (vi 2)]) (by decide +kernel) rfl (by decide) (by decide) rfl rfl ?_
        refine g_goto (off := (-40)) (tgt := 47) (by decide +kernel) (by decide) ?_
        refine g_iload (i := 4) (by decide +kernel) rfl ?_
        refine g_iconst (n := 5) (v := 5) (by decide +kernel) (by decide) ?_
        refine g_icmp_ge (off := 40) (tgt := 90) (by decide +kernel) (by decide) (fun c => absurd c (by decide)) (fun c => ?_)
        refine g_aload_n (q := 0) (i := 0) (by decide +kernel) rfl rfl ?_
        refine g_get (C := "ThreePointsModel") (T := xT_Model) (N := 39) (ci := 10) (k := 6) (v := vr 34 0) (by decide +kernel) (by decide) rfl rfl xi_Model (by decide) kw_1032 rfl ?_
        refine g_iconst (n := 5) (v := 5) (by decide +kernel) (by decide) ?_
        refine g_iload_n (q := 1) (i := 1) (by decide +kernel) rfl rfl ?_
        refine g_imul (by decide +kernel) ?_
        refine g_iload (i := 4) (by decide +kernel) rfl ?_
        refine g_iadd (by decide +kernel) ?_
        refine g_iload (i := 4) (by decide +kernel) rfl ?_
        refine g_if_ne (off := 7) (tgt := 72) (by decide +kernel) (by decide) (fun c => ?_) (fun c => absurd c (by decide))
        refine g_iload (i := 4) (by decide +kernel) rfl ?_
        refine g_iconst (n := 4) (v := 4) (by decide +kernel) (by decide) ?_
        refine g_icmp_ne (off := 7) (tgt := 82) (by decide +kernel) (by decide) (fun c => ?_) (fun c => absurd c (by decide))
        refine g_iconst (n := 0) (v := 0) (by decide +kernel) (by decide) ?_
        obtain ⟨hin, h⟩ := h
        refine g_iast (by decide +kernel) (by decide) rfl hin ?_
        refine g_iinc (i := 4) (n := 1) (v := 3) (ls2 := [some (vr 30 0), some (vi x1), some (vi x2), some (vi v7), some (vi 3)]) (by decide +kernel) rfl (by decide) (by decide) rfl rfl ?_
        refine g_goto (off := (-40)) (tgt := 47) (by decide +kernel) (by decide) ?_
        refine g_iload (i := 4) (by decide +kernel) rfl ?_
        refine g_iconst (n := 5) (v := 5) (by decide +kernel) (by decide) ?_
        refine g_icmp_ge (off := 40) (tgt := 90) (by decide +kernel) (by decide) (fun c => absurd c (by decide)) (fun c => ?_)
        refine g_aload_n (q := 0) (i := 0) (by decide +kernel) rfl rfl ?_
        refine g_get (C := "ThreePointsModel") (T := xT_Model) (N := 39) (ci := 10) (k := 6) (v := vr 34 0) (by decide +kernel) (by decide) rfl rfl xi_Model (by decide) kw_1032 rfl ?_
        refine g_iconst (n := 5) (v := 5) (by decide +kernel) (by decide) ?_
        refine g_iload_n (q := 1) (i := 1) (by decide +kernel) rfl rfl ?_
        refine g_imul (by decide +kernel) ?_
        refine g_iload (i := 4) (by decide +kernel) rfl ?_
        refine g_iadd (by decide +kernel) ?_
        refine g_iload (i := 4) (by decide +kernel) rfl ?_
        refine g_if_ne (off := 7) (tgt := 72) (by decide +kernel) (by decide) (fun c => ?_) (fun c => absurd c (by decide))
        refine g_iload (i := 4) (by decide +kernel) rfl ?_
        refine g_iconst (n := 4) (v := 4) (by decide +kernel) (by decide) ?_
        refine g_icmp_ne (off := 7) (tgt := 82) (by decide +kernel) (by decide) (fun c => ?_) (fun c => absurd c (by decide))
        refine g_iconst (n := 0) (v := 0) (by decide +kernel) (by decide) ?_
        obtain ⟨hin, h⟩ := h
        refine g_iast (by decide +kernel) (by decide) rfl hin ?_
        refine g_iinc (i := 4) (n := 1) (v := 4) (ls2 := [some (vr 30 0), some (vi x1), some (vi x2), some (vi v7), some (vi 4)]) (by decide +kernel) rfl (by decide) (by decide) rfl rfl ?_
        refine g_goto (off := (-40)) (tgt := 47) (by decide +kernel) (by decide) ?_
        refine g_iload (i := 4) (by decide +kernel) rfl ?_
        refine g_iconst (n := 5) (v := 5) (by decide +kernel) (by decide) ?_
        refine g_icmp_ge (off := 40) (tgt := 90) (by decide +kernel) (by decide) (fun c => absurd c (by decide)) (fun c => ?_)
        refine g_aload_n (q := 0) (i := 0) (by decide +kernel) rfl rfl ?_
        refine g_get (C := "ThreePointsModel") (T := xT_Model) (N := 39) (ci := 10) (k := 6) (v := vr 34 0) (by decide +kernel) (by decide) rfl rfl xi_Model (by decide) kw_1032 rfl ?_
        refine g_iconst (n := 5) (v := 5) (by decide +kernel) (by decide) ?_
        refine g_iload_n (q := 1) (i := 1) (by decide +kernel) rfl rfl ?_
        refine g_imul (by decide +kernel) ?_
        refine g_iload (i := 4) (by decide +kernel) rfl ?_
        refine g_iadd (by decide +kernel) ?_
        refine g_iload (i := 4) (by decide +kernel) rfl ?_
        refine g_if_ne (off := 7) (tgt := 72) (by decide +kernel) (by decide) (fun c => ?_) (fun c => absurd c (by decide))
        refine g_iload (i := 4) (by decide +kernel) rfl ?_
        refine g_iconst (n := 4) (v := 4) (by decide +kernel) (by decide) ?_
        refine g_icmp_ne (off := 7) (tgt := 82) (by decide +kernel) (by decide) (fun c => absurd c (by decide)) (fun c => ?_)
        refine g_iconst (n := (-1)) (v := (-1)) (by decide +kernel) (by decide) ?_
        refine g_goto (off := 4) (tgt := 83) (by decide +kernel) (by decide) ?_
        obtain ⟨hin, h⟩ := h
        refine g_iast (by decide +kernel) (by decide) rfl hin ?_
        refine g_iinc (i := 4) (n := 1) (v := 5) (ls2 := [some (vr 30 0), some (vi x1), some (vi x2), some (vi v7), some (vi 5)]) (by decide +kernel) rfl (by decide) (by decide) rfl rfl ?_
        refine g_goto (off := (-40)) (tgt := 47) (by decide +kernel) (by decide) ?_
        refine g_iload (i := 4) (by decide +kernel) rfl ?_
        refine g_iconst (n := 5) (v := 5) (by decide +kernel) (by decide) ?_
        refine g_icmp_ge (off := 40) (tgt := 90) (by decide +kernel) (by decide) (fun c => ?_) (fun c => absurd c (by decide))
        refine g_iload_n (q := 3) (i := 3) (by decide +kernel) rfl rfl ?_
        refine g_heap (fun H8 eH8 => ?_)
        replace h := h H8 eH8
        exact g_iret (by decide +kernel) rfl ⟨_, rfl, h⟩
      · replace h := h.2 c
        refine g_bipush (n := (-3)) (v := (-3)) (by decide +kernel) (by decide) ?_
        exact g_iret (by decide +kernel) rfl ⟨_, rfl, h⟩
    · replace h := h.2 c
      refine g_bipush (n := (-7)) (v := (-7)) (by decide +kernel) (by decide) ?_
      exact g_iret (by decide +kernel) rfl ⟨_, rfl, h⟩
  · replace h := h.2 c
    refine g_bipush (n := (-5)) (v := (-5)) (by decide +kernel) (by decide) ?_
    exact g_iret (by decide +kernel) rfl ⟨_, rfl, h⟩
def p_Model_isGoal (E : XE) (d : Nat) (x0 : Int32) (H : HH) (Q : Int32 → HH → Prop) : Prop := c_Model_in E d x0 0 11 H (fun r2 H1 => (r2 = 0 → (Q 0 H1)) ∧ (¬ r2 = 0 → (((if 2 ≤ (xrem x0 10) then 0 else 1 : Int32) = 0 ∨ (if 2 ≤ (xrem x0 10) then 0 else 1 : Int32) = 1) ∧ Q (if 2 ≤ (xrem x0 10) then 0 else 1 : Int32) H1)))
set_option maxHeartbeats 4000000 in
theorem l_Model_isGoal {E : XE} {d : Nat} {x0 : Int32} {H : HH} {Q : Int32 → HH → Prop} (h : p_Model_isGoal E d x0 H Q) : c_Model_isGoal E (d + 1) x0 H Q := by
  show g_Model_isGoal E (d + 1) 0 (xent [vi x0]) [] H (qi Q)
  refine g_drop (ls2 := [some (vi x0)]) (And.intro rfl trivial) ?_
  refine g_iload_n (q := 0) (i := 0) (by decide +kernel) rfl rfl ?_
  refine g_iconst (n := 0) (v := 0) (by decide +kernel) (by decide) ?_
  refine g_bipush (n := 11) (v := 11) (by decide +kernel) (by decide) ?_
  refine g_callS (vs := [vi x0, vi 0, vi 11]) (st := []) (by decide +kernel) xm_Model_in kw_987 kw_988 rfl rfl (Nat.le_of_ble_eq_true rfl) (Nat.le_of_ble_eq_true rfl) h (fun vH1 H1 hq => ?_)
  obtain ⟨r2, rfl, h⟩ := hq
  refine g_if_eq (off := 15) (tgt := 22) (by decide +kernel) (by decide) (fun c => ?_) (fun c => ?_)
  · replace h := h.1 c
    refine g_iconst (n := 0) (v := 0) (by decide +kernel) (by decide) ?_
    exact g_zret (by decide +kernel) rfl rfl ⟨_, rfl, h⟩
  · replace h := h.2 c
    refine g_iload_n (q := 0) (i := 0) (by decide +kernel) rfl rfl ?_
    refine g_bipush (n := 10) (v := 10) (by decide +kernel) (by decide) ?_
    refine g_irem (by decide +kernel) (by decide) ?_
    refine g_iconst (n := 2) (v := 2) (by decide +kernel) (by decide) ?_
    suffices hj3 : g_Model_isGoal E (d + 1) 23 [some (vi x0)] [vi (if 2 ≤ (xrem x0 10) then 0 else 1 : Int32)] H1 (qi Q) by
      refine g_icmp_ge (off := 7) (tgt := 22) (by decide +kernel) (by decide) (fun c => ?_) (fun c => ?_)
      · rw [if_pos c] at hj3
        refine g_iconst (n := 0) (v := 0) (by decide +kernel) (by decide) ?_
        exact hj3
      · rw [if_neg c] at hj3
        refine g_iconst (n := 1) (v := 1) (by decide +kernel) (by decide) ?_
        refine g_goto (off := 4) (tgt := 23) (by decide +kernel) (by decide) ?_
        exact hj3
    obtain ⟨h01, h⟩ := h
    exact g_zret (by decide +kernel) rfl (nbool h01) ⟨_, rfl, h⟩
def p_Model_tellsLane (E : XE) (d : Nat) (x1 : Int32) (x2 : Int32) (H : HH) (Q : HH → Prop) : Prop := ∃ (I1 : Int32 → HH → Prop) (μ1 : Int32 → HH → Nat), I1 0 H ∧ ∀ (z2 : Int32) (H3 : HH), I1 z2 H3 → (((H3 30 0 1) < z2 → (Q H3)) ∧ (¬ (H3 30 0 1) < z2 → (∃ (I4 : Int32 → HH → Prop) (μ4 : Int32 → HH → Nat), I4 0 H3 ∧ ∀ (z5 : Int32) (H6 : HH), I4 z5 H6 → ((16 ≤ z5 → (I1 (z2 + 1) H6 ∧ μ1 (z2 + 1) H6 < μ1 z2 H3)) ∧ (¬ 16 ≤ z5 → (c_Model_fitsAt E d x1 z2 z5 H6 (fun r8 H7 => vp_in ((16 * z2) + z5) 976 ∧ ((r8 = 0 ∨ r8 = 1) ∧ (∀ H9 : HH, H9 = (hu H7 48 0 (((16 * z2) + z5).toNatClampNeg) r8) → (∃ J10 : Int32 → HH → Prop, ((x2 = 0 → (J10 0 H9)) ∧ (¬ x2 = 0 → (c_Model_asksOf E d 1 x1 z2 z5 0 0 H9 (fun r19 H18 => J10 r19 H18)))) ∧ ∀ (y11 : Int32) (H12 : HH), J10 y11 H12 → (vp_in (2 * ((16 * z2) + z5)) 1952 ∧ (∀ H13 : HH, H13 = (hu H12 49 0 ((2 * ((16 * z2) + z5)).toNatClampNeg) y11) → ((x2 = 0 → (vp_in ((2 * ((16 * z2) + z5)) + 1) 1952 ∧ (∀ H14 : HH, H14 = (hu H13 49 0 (((2 * ((16 * z2) + z5)) + 1).toNatClampNeg) 0) → (I4 (z5 + 1) H14 ∧ μ4 (z5 + 1) H14 < μ4 z5 H6)))) ∧ (¬ x2 = 0 → (c_Model_asksOf E d 1 x1 z2 z5 0 1 H13 (fun r16 H15 => vp_in ((2 * ((16 * z2) + z5)) + 1) 1952 ∧ (∀ H17 : HH, H17 = (hu H15 49 0 (((2 * ((16 * z2) + z5)) + 1).toNatClampNeg) r16) → (I4 (z5 + 1) H17 ∧ μ4 (z5 + 1) H17 < μ4 z5 H6))))))))))))))))))
set_option maxHeartbeats 4000000 in
theorem l_Model_tellsLane {E : XE} {d : Nat} {x1 : Int32} {x2 : Int32} {H : HH} {Q : HH → Prop} (h : p_Model_tellsLane E d x1 x2 H Q) : c_Model_tellsLane E (d + 1) x1 x2 H Q := by
  show g_Model_tellsLane E (d + 1) 0 (xent [vr 30 0, vi x1, vi x2]) [] H (qv Q)
  refine g_drop (ls2 := [some (vr 30 0), some (vi x1), some (vi x2), none, none]) (And.intro rfl (And.intro rfl (And.intro rfl trivial))) ?_
  refine g_iconst (n := 0) (v := 0) (by decide +kernel) (by decide) ?_
  refine g_istore_n (q := 3) (i := 3) (ls2 := [some (vr 30 0), some (vi x1), some (vi x2), some (vi 0), none]) (by decide +kernel) rfl (by decide) rfl rfl ?_
  refine g_drop (ls2 := [some (vr 30 0), some (vi x1), some (vi x2), some (vi 0), none]) (And.intro rfl (And.intro rfl (And.intro rfl (And.intro rfl trivial)))) ?_
  obtain ⟨I1, μ1, h0, h⟩ := h
  refine xloop (σ := Int32) (fun s H => I1 s H) (fun s H => μ1 s H) (fun s H => g_Model_tellsLane E (d + 1) 2 [some (vr 30 0), some (vi x1), some (vi x2), some (vi s), none] [] H (qv Q)) (fun s H3 hI ih1 => ?_) 0 H h0
  obtain ⟨z2, es⟩ : ∃ z, z = s := ⟨s, rfl⟩
  subst es
  replace h := h z2 H3 hI
  refine g_iload_n (q := 3) (i := 3) (by decide +kernel) rfl rfl ?_
  refine g_aload_n (q := 0) (i := 0) (by decide +kernel) rfl rfl ?_
  refine g_get (C := "ThreePointsModel") (T := xT_Model) (N := 39) (ci := 10) (k := 1) (v := vi (H3 30 0 1)) (by decide +kernel) (by decide) rfl rfl xi_Model (by decide) kw_1027 rfl ?_
  refine g_icmp_gt (off := 113) (tgt := 120) (by decide +kernel) (by decide) (fun c => ?_) (fun c => ?_)
  · replace h := h.1 c
    exact g_vret (by decide +kernel) rfl h
  · replace h := h.2 c
    refine g_iconst (n := 0) (v := 0) (by decide +kernel) (by decide) ?_
    refine g_istore (i := 4) (ls2 := [some (vr 30 0), some (vi x1), some (vi x2), some (vi z2), some (vi 0)]) (by decide +kernel) (by decide) rfl rfl ?_
    refine g_drop (ls2 := [some (vr 30 0), some (vi x1), some (vi x2), some (vi z2), some (vi 0)]) (And.intro rfl (And.intro rfl (And.intro rfl (And.intro rfl (And.intro rfl trivial))))) ?_
    obtain ⟨I4, μ4, h0, h⟩ := h
    refine xloop (σ := Int32) (fun s H => I4 s H) (fun s H => μ4 s H) (fun s H => g_Model_tellsLane E (d + 1) 13 [some (vr 30 0), some (vi x1), some (vi x2), some (vi z2), some (vi s)] [] H (qv Q)) (fun s H6 hI ih4 => ?_) 0 H3 h0
    obtain ⟨z5, es⟩ : ∃ z, z = s := ⟨s, rfl⟩
    subst es
    replace h := h z5 H6 hI
    refine g_iload (i := 4) (by decide +kernel) rfl ?_
    refine g_bipush (n := 16) (v := 16) (by decide +kernel) (by decide) ?_
    refine g_icmp_ge (off := 97) (tgt := 114) (by decide +kernel) (by decide) (fun c => ?_) (fun c => ?_)
    · replace h := h.1 c
      refine g_iinc (i := 3) (n := 1) (v := (z2 + 1)) (ls2 := [some (vr 30 0), some (vi x1), some (vi x2), some (vi (z2 + 1)), some (vi z5)]) (by decide +kernel) rfl rfl (by decide) rfl rfl ?_
      refine g_goto (off := (-115)) (tgt := 2) (by decide +kernel) (by decide) ?_
      obtain ⟨hI, hlt⟩ := h
      exact g_drop (ls2 := [some (vr 30 0), some (vi x1), some (vi x2), some (vi (z2 + 1)), none]) (And.intro rfl (And.intro rfl (And.intro rfl (And.intro rfl trivial)))) (ih1 (z2 + 1) H6 hI hlt)
    · replace h := h.2 c
      refine g_aload_n (q := 0) (i := 0) (by decide +kernel) rfl rfl ?_
      refine g_get (C := "ThreePointsModel") (T := xT_Model) (N := 39) (ci := 10) (k := 31) (v := vr 48 0) (by decide +kernel) (by decide) rfl rfl xi_Model (by decide) kw_1057 rfl ?_
      refine g_bipush (n := 16) (v := 16) (by decide +kernel) (by decide) ?_
      refine g_iload_n (q := 3) (i := 3) (by decide +kernel) rfl rfl ?_
      refine g_imul (by decide +kernel) ?_
      refine g_iload (i := 4) (by decide +kernel) rfl ?_
      refine g_iadd (by decide +kernel) ?_
      refine g_aload_n (q := 0) (i := 0) (by decide +kernel) rfl rfl ?_
      refine g_iload_n (q := 1) (i := 1) (by decide +kernel) rfl rfl ?_
      refine g_iload_n (q := 3) (i := 3) (by decide +kernel) rfl rfl ?_
      refine g_iload (i := 4) (by decide +kernel) rfl ?_
      refine g_callV (kd := 30) (ix := 0) (ci := 10) (N := 39) (T := xT_Model) (vs := [vi x1, vi z2, vi z5]) (st := [vi ((16 * z2) + z5), vr 48 0]) (by decide +kernel) xm_Model_fitsAt kw_1160 kw_1162 kw_38 (by decide) rfl rfl rfl rfl (Nat.le_of_ble_eq_true rfl) (Nat.le_of_ble_eq_true rfl) h (fun vH7 H7 hq => ?_)
      obtain ⟨r8, rfl, h⟩ := hq
      obtain ⟨hin, h⟩ := h
      obtain ⟨h01, h⟩ := h
      refine g_zast (by decide +kernel) (by decide) rfl hin h01 ?_
      refine g_aload_n (q := 0) (i := 0) (by decide +kernel) rfl rfl ?_
      refine g_get (C := "ThreePointsModel") (T := xT_Model) (N := 39) (ci := 10) (k := 32) (v := vr 49 0) (by decide +kernel) (by decide) rfl rfl xi_Model (by decide) kw_1058 rfl ?_
      refine g_iconst (n := 2) (v := 2) (by decide +kernel) (by decide) ?_
      refine g_bipush (n := 16) (v := 16) (by decide +kernel) (by decide) ?_
      refine g_iload_n (q := 3) (i := 3) (by decide +kernel) rfl rfl ?_
      refine g_imul (by decide +kernel) ?_
      refine g_iload (i := 4) (by decide +kernel) rfl ?_
      refine g_iadd (by decide +kernel) ?_
      refine g_imul (by decide +kernel) ?_
      refine g_iload_n (q := 2) (i := 2) (by decide +kernel) rfl rfl ?_
      refine g_heap (fun H9 eH9 => ?_)
      replace h := h H9 eH9
      obtain ⟨J10, h, hk10⟩ := h
      have hc10 : ∀ (y11 : Int32) (H12 : HH), J10 y11 H12 → g_Model_tellsLane E (d + 1) 72 [some (vr 30 0), some (vi x1), some (vi x2), some (vi z2), some (vi z5)] [vi y11, vi (2 * ((16 * z2) + z5)), vr 49 0] H12 (qv Q) := by
        intro y11 H12 h
        replace h := hk10 y11 H12 h
        obtain ⟨hin, h⟩ := h
        refine g_iast (by decide +kernel) (by decide) rfl hin ?_
        refine g_aload_n (q := 0) (i := 0) (by decide +kernel) rfl rfl ?_
        refine g_get (C := "ThreePointsModel") (T := xT_Model) (N := 39) (ci := 10) (k := 32) (v := vr 49 0) (by decide +kernel) (by decide) rfl rfl xi_Model (by decide) kw_1058 rfl ?_
        refine g_iconst (n := 2) (v := 2) (by decide +kernel) (by decide) ?_
        refine g_bipush (n := 16) (v := 16) (by decide +kernel) (by decide) ?_
        refine g_iload_n (q := 3) (i := 3) (by decide +kernel) rfl rfl ?_
        refine g_imul (by decide +kernel) ?_
        refine g_iload (i := 4) (by decide +kernel) rfl ?_
        refine g_iadd (by decide +kernel) ?_
        refine g_imul (by decide +kernel) ?_
        refine g_iconst (n := 1) (v := 1) (by decide +kernel) (by decide) ?_
        refine g_iadd (by decide +kernel) ?_
        refine g_iload_n (q := 2) (i := 2) (by decide +kernel) rfl rfl ?_
        refine g_heap (fun H13 eH13 => ?_)
        replace h := h H13 eH13
        refine g_if_eq (off := 17) (tgt := 106) (by decide +kernel) (by decide) (fun c => ?_) (fun c => ?_)
        · replace h := h.1 c
          refine g_iconst (n := 0) (v := 0) (by decide +kernel) (by decide) ?_
          obtain ⟨hin, h⟩ := h
          refine g_iast (by decide +kernel) (by decide) rfl hin ?_
          refine g_iinc (i := 4) (n := 1) (v := (z5 + 1)) (ls2 := [some (vr 30 0), some (vi x1), some (vi x2), some (vi z2), some (vi (z5 + 1))]) (by decide +kernel) rfl rfl (by decide) rfl rfl ?_
          refine g_goto (off := (-98)) (tgt := 13) (by decide +kernel) (by decide) ?_
          refine g_heap (fun H14 eH14 => ?_)
          replace h := h H14 eH14
          obtain ⟨hI, hlt⟩ := h
          exact g_drop (ls2 := [some (vr 30 0), some (vi x1), some (vi x2), some (vi z2), some (vi (z5 + 1))]) (And.intro rfl (And.intro rfl (And.intro rfl (And.intro rfl (And.intro rfl trivial))))) (ih4 (z5 + 1) H14 hI hlt)
        · replace h := h.2 c
          refine g_aload_n (q := 0) (i := 0) (by decide +kernel) rfl rfl ?_
          refine g_iconst (n := 1) (v := 1) (by decide +kernel) (by decide) ?_
          refine g_iload_n (q := 1) (i := 1) (by decide +kernel) rfl rfl ?_
          refine g_iload_n (q := 3) (i := 3) (by decide +kernel) rfl rfl ?_
          refine g_iload (i := 4) (by decide +kernel) rfl ?_
          refine g_iconst (n := 0) (v := 0) (by decide +kernel) (by decide) ?_
          refine g_iconst (n := 1) (v := 1) (by decide +kernel) (by decide) ?_
          refine g_callV (kd := 30) (ix := 0) (ci := 10) (N := 39) (T := xT_Model) (vs := [vi 1, vi x1, vi z2, vi z5, vi 0, vi 1]) (st := [vi ((2 * ((16 * z2) + z5)) + 1), vr 49 0]) (by decide +kernel) xm_Model_asksOf kw_1172 kw_1174 kw_41 (by decide) rfl rfl rfl rfl (Nat.le_of_ble_eq_true rfl) (Nat.le_of_ble_eq_true rfl) h (fun vH15 H15 hq => ?_)
          obtain ⟨r16, rfl, h⟩ := hq
          refine g_goto (off := 4) (tgt := 107) (by decide +kernel) (by decide) ?_
          obtain ⟨hin, h⟩ := h
          refine g_iast (by decide +kernel) (by decide) rfl hin ?_
          refine g_iinc (i := 4) (n := 1) (v := (z5 + 1)) (ls2 := [some (vr 30 0), some (vi x1), some (vi x2), some (vi z2), some (vi (z5 + 1))]) (by decide +kernel) rfl rfl (by decide) rfl rfl ?_
          refine g_goto (off := (-98)) (tgt := 13) (by decide +kernel) (by decide) ?_
          refine g_heap (fun H17 eH17 => ?_)
          replace h := h H17 eH17
          obtain ⟨hI, hlt⟩ := h
          exact g_drop (ls2 := [some (vr 30 0), some (vi x1), some (vi x2), some (vi z2), some (vi (z5 + 1))]) (And.intro rfl (And.intro rfl (And.intro rfl (And.intro rfl (And.intro rfl trivial))))) (ih4 (z5 + 1) H17 hI hlt)
      refine g_if_eq (off := 17) (tgt := 71) (by decide +kernel) (by decide) (fun c => ?_) (fun c => ?_)
      · replace h := h.1 c
        refine g_iconst (n := 0) (v := 0) (by decide +kernel) (by decide) ?_
        exact g_drop (ls2 := [some (vr 30 0), some (vi x1), some (vi x2), some (vi z2), some (vi z5)]) (And.intro rfl (And.intro rfl (And.intro rfl (And.intro rfl (And.intro rfl trivial))))) (hc10 0 H9 h)
      · replace h := h.2 c
        refine g_aload_n (q := 0) (i := 0) (by decide +kernel) rfl rfl ?_
        refine g_iconst (n := 1) (v := 1) (by decide +kernel) (by decide) ?_
        refine g_iload_n (q := 1) (i := 1) (by decide +kernel) rfl rfl ?_
        refine g_iload_n (q := 3) (i := 3) (by decide +kernel) rfl rfl ?_
        refine g_iload (i := 4) (by decide +kernel) rfl ?_
        refine g_iconst (n := 0) (v := 0) (by decide +kernel) (by decide) ?_
        refine g_iconst (n := 0) (v := 0) (by decide +kernel) (by decide) ?_
        refine g_callV (kd := 30) (ix := 0) (ci := 10) (N := 39) (T := xT_Model) (vs := [vi 1, vi x1, vi z2, vi z5, vi 0, vi 0]) (st := [vi (2 * ((16 * z2) + z5)), vr 49 0]) (by decide +kernel) xm_Model_asksOf kw_1172 kw_1174 kw_41 (by decide) rfl rfl rfl rfl (Nat.le_of_ble_eq_true rfl) (Nat.le_of_ble_eq_true rfl) h (fun vH18 H18 hq => ?_)
        obtain ⟨r19, rfl, h⟩ := hq
        refine g_goto (off := 4) (tgt := 72) (by decide +kernel) (by decide) ?_
        exact g_drop (ls2 := [some (vr 30 0), some (vi x1), some (vi x2), some (vi z2), some (vi z5)]) (And.intro rfl (And.intro rfl (And.intro rfl (And.intro rfl (And.intro rfl trivial))))) (hc10 r19 H18 h)
def p_Model_stateOf (E : XE) (d : Nat) (x1 : Int32) (H : HH) (Q : Int32 → HH → Prop) : Prop := vp_in (5 * x1) 20 ∧ (vp_in ((5 * x1) + 1) 20 ∧ (vp_in ((5 * x1) + 4) 20 ∧ ((¬ (H 34 0 (((5 * x1) + 4).toNatClampNeg)) = (-1) → (vp_in ((5 * x1) + 4) 20 ∧ (Q ((3 * ((16 * (H 34 0 ((5 * x1).toNatClampNeg))) + (H 34 0 (((5 * x1) + 1).toNatClampNeg)))) + (H 34 0 (((5 * x1) + 4).toNatClampNeg))) H))) ∧ ((H 34 0 (((5 * x1) + 4).toNatClampNeg)) = (-1) → (Q ((3 * ((16 * (H 34 0 ((5 * x1).toNatClampNeg))) + (H 34 0 (((5 * x1) + 1).toNatClampNeg)))) + 2) H)))))
set_option maxHeartbeats 4000000 in
theorem l_Model_stateOf {E : XE} {d : Nat} {x1 : Int32} {H : HH} {Q : Int32 → HH → Prop} (h : p_Model_stateOf E d x1 H Q) : c_Model_stateOf E d x1 H Q := by
  show g_Model_stateOf E d 0 (xent [vr 30 0, vi x1]) [] H (qi Q)
  refine g_drop (ls2 := [some (vr 30 0), some (vi x1)]) (And.intro rfl (And.intro rfl trivial)) ?_
  refine g_iconst (n := 3) (v := 3) (by decide +kernel) (by decide) ?_
  refine g_bipush (n := 16) (v := 16) (by decide +kernel) (by decide) ?_
  refine g_aload_n (q := 0) (i := 0) (by decide +kernel) rfl rfl ?_
  refine g_get (C := "ThreePointsModel") (T := xT_Model) (N := 39) (ci := 10) (k := 6) (v := vr 34 0) (by decide +kernel) (by decide) rfl rfl xi_Model (by decide) kw_1032 rfl ?_
  refine g_iconst (n := 5) (v := 5) (by decide +kernel) (by decide) ?_
  refine g_iload_n (q := 1) (i := 1) (by decide +kernel) rfl rfl ?_
  refine g_imul (by decide +kernel) ?_
  obtain ⟨hin, h⟩ := h
  refine g_iald (by decide +kernel) (by decide) rfl hin ?_
  refine g_imul (by decide +kernel) ?_
  refine g_aload_n (q := 0) (i := 0) (by decide +kernel) rfl rfl ?_
  refine g_get (C := "ThreePointsModel") (T := xT_Model) (N := 39) (ci := 10) (k := 6) (v := vr 34 0) (by decide +kernel) (by decide) rfl rfl xi_Model (by decide) kw_1032 rfl ?_
  refine g_iconst (n := 5) (v := 5) (by decide +kernel) (by decide) ?_
  refine g_iload_n (q := 1) (i := 1) (by decide +kernel) rfl rfl ?_
  refine g_imul (by decide +kernel) ?_
  refine g_iconst (n := 1) (v := 1) (by decide +kernel) (by decide) ?_
  refine g_iadd (by decide +kernel) ?_
  obtain ⟨hin, h⟩ := h
  refine g_iald (by decide +kernel) (by decide) rfl hin ?_
  refine g_iadd (by decide +kernel) ?_
  refine g_imul (by decide +kernel) ?_
  refine g_aload_n (q := 0) (i := 0) (by decide +kernel) rfl rfl ?_
  refine g_get (C := "ThreePointsModel") (T := xT_Model) (N := 39) (ci := 10) (k := 6) (v := vr 34 0) (by decide +kernel) (by decide) rfl rfl xi_Model (by decide) kw_1032 rfl ?_
  refine g_iconst (n := 5) (v := 5) (by decide +kernel) (by decide) ?_
  refine g_iload_n (q := 1) (i := 1) (by decide +kernel) rfl rfl ?_
  refine g_imul (by decide +kernel) ?_
  refine g_iconst (n := 4) (v := 4) (by decide +kernel) (by decide) ?_
  refine g_iadd (by decide +kernel) ?_
  obtain ⟨hin, h⟩ := h
  refine g_iald (by decide +kernel) (by decide) rfl hin ?_
  refine g_iconst (n := (-1)) (v := (-1)) (by decide +kernel) (by decide) ?_
  refine g_icmp_ne (off := 7) (tgt := 42) (by decide +kernel) (by decide) (fun c => ?_) (fun c => ?_)
  · replace h := h.1 c
    refine g_aload_n (q := 0) (i := 0) (by decide +kernel) rfl rfl ?_
    refine g_get (C := "ThreePointsModel") (T := xT_Model) (N := 39) (ci := 10) (k := 6) (v := vr 34 0) (by decide +kernel) (by decide) rfl rfl xi_Model (by decide) kw_1032 rfl ?_
    refine g_iconst (n := 5) (v := 5) (by decide +kernel) (by decide) ?_
    refine g_iload_n (q := 1) (i := 1) (by decide +kernel) rfl rfl ?_
    refine g_imul (by decide +kernel) ?_
    refine g_iconst (n := 4) (v := 4) (by decide +kernel) (by decide) ?_
    refine g_iadd (by decide +kernel) ?_
    obtain ⟨hin, h⟩ := h
    refine g_iald (by decide +kernel) (by decide) rfl hin ?_
    refine g_iadd (by decide +kernel) ?_
    exact g_iret (by decide +kernel) rfl ⟨_, rfl, h⟩
  · replace h := h.2 c
    refine g_iconst (n := 2) (v := 2) (by decide +kernel) (by decide) ?_
    refine g_goto (off := 13) (tgt := 52) (by decide +kernel) (by decide) ?_
    refine g_iadd (by decide +kernel) ?_
    exact g_iret (by decide +kernel) rfl ⟨_, rfl, h⟩
def p_Model_stateBehind (E : XE) (d : Nat) (x1 : Int32) (x2 : Int32) (x3 : Int32) (x4 : Int32) (H : HH) (Q : Int32 → HH → Prop) : Prop := ∀ v1 : Int32, v1 = (xrem (x2 / 3) 16) → (c_Model_placeBy E d ((x2 / 3) / 16) v1 x3 H (fun r3 H2 => c_Model_isPlace E d r3 H2 (fun r5 H4 => (¬ r5 = 0 → (c_Model_headingBy E d x1 v1 x3 x4 H4 (fun r7 H6 => ∀ v8 : Int32, v8 = ((16 * r3) + r7) → (vp_in v8 976 ∧ (Q (if (H6 48 0 (v8.toNatClampNeg)) = 0 then (-1) else ((3 * v8) + x3) : Int32) H6))))) ∧ (r5 = 0 → (Q (-1) H4)))))
set_option maxHeartbeats 4000000 in
theorem l_Model_stateBehind {E : XE} {d : Nat} {x1 : Int32} {x2 : Int32} {x3 : Int32} {x4 : Int32} {H : HH} {Q : Int32 → HH → Prop} (h : p_Model_stateBehind E d x1 x2 x3 x4 H Q) : c_Model_stateBehind E (d + 1) x1 x2 x3 x4 H Q := by
  show g_Model_stateBehind E (d + 1) 0 (xent [vr 30 0, vi x1, vi x2, vi x3, vi x4]) [] H (qi Q)
  refine g_drop (ls2 := [some (vr 30 0), some (vi x1), some (vi x2), some (vi x3), some (vi x4), none, none, none]) (And.intro rfl (And.intro rfl (And.intro rfl (And.intro rfl (And.intro rfl trivial))))) ?_
  refine g_iload_n (q := 2) (i := 2) (by decide +kernel) rfl rfl ?_
  refine g_iconst (n := 3) (v := 3) (by decide +kernel) (by decide) ?_
  refine g_idiv (by decide +kernel) (by decide) ?_
  refine g_bipush (n := 16) (v := 16) (by decide +kernel) (by decide) ?_
  refine g_irem (by decide +kernel) (by decide) ?_
  refine g_topi (fun v1 ev1 => ?_)
  replace h := h v1 ev1
  refine g_istore (i := 5) (ls2 := [some (vr 30 0), some (vi x1), some (vi x2), some (vi x3), some (vi x4), some (vi v1), none, none]) (by decide +kernel) (by decide) rfl rfl ?_
  refine g_aload_n (q := 0) (i := 0) (by decide +kernel) rfl rfl ?_
  refine g_iload_n (q := 2) (i := 2) (by decide +kernel) rfl rfl ?_
  refine g_iconst (n := 3) (v := 3) (by decide +kernel) (by decide) ?_
  refine g_idiv (by decide +kernel) (by decide) ?_
  refine g_bipush (n := 16) (v := 16) (by decide +kernel) (by decide) ?_
  refine g_idiv (by decide +kernel) (by decide) ?_
  refine g_iload (i := 5) (by decide +kernel) rfl ?_
  refine g_iload_n (q := 3) (i := 3) (by decide +kernel) rfl rfl ?_
  refine g_callV (kd := 30) (ix := 0) (ci := 10) (N := 39) (T := xT_Model) (vs := [vi ((x2 / 3) / 16), vi v1, vi x3]) (st := []) (by decide +kernel) xm_Model_placeBy kw_1230 kw_1232 kw_46 (by decide) rfl rfl rfl rfl (Nat.le_of_ble_eq_true rfl) (Nat.le_of_ble_eq_true rfl) h (fun vH2 H2 hq => ?_)
  obtain ⟨r3, rfl, h⟩ := hq
  refine g_istore (i := 6) (ls2 := [some (vr 30 0), some (vi x1), some (vi x2), some (vi x3), some (vi x4), some (vi v1), some (vi r3), none]) (by decide +kernel) (by decide) rfl rfl ?_
  refine g_aload_n (q := 0) (i := 0) (by decide +kernel) rfl rfl ?_
  refine g_iload (i := 6) (by decide +kernel) rfl ?_
  refine g_callV (kd := 30) (ix := 0) (ci := 10) (N := 39) (T := xT_Model) (vs := [vi r3]) (st := []) (by decide +kernel) xm_Model_isPlace kw_1156 kw_1158 kw_37 (by decide) rfl rfl rfl rfl (Nat.le_of_ble_eq_true rfl) (Nat.le_of_ble_eq_true rfl) h (fun vH4 H4 hq => ?_)
  obtain ⟨r5, rfl, h⟩ := hq
  refine g_if_ne (off := 5) (tgt := 34) (by decide +kernel) (by decide) (fun c => ?_) (fun c => ?_)
  · replace h := h.1 c
    refine g_bipush (n := 16) (v := 16) (by decide +kernel) (by decide) ?_
    refine g_iload (i := 6) (by decide +kernel) rfl ?_
    refine g_imul (by decide +kernel) ?_
    refine g_aload_n (q := 0) (i := 0) (by decide +kernel) rfl rfl ?_
    refine g_iload_n (q := 1) (i := 1) (by decide +kernel) rfl rfl ?_
    refine g_iload (i := 5) (by decide +kernel) rfl ?_
    refine g_iload_n (q := 3) (i := 3) (by decide +kernel) rfl rfl ?_
    refine g_iload (i := 4) (by decide +kernel) rfl ?_
    refine g_callV (kd := 30) (ix := 0) (ci := 10) (N := 39) (T := xT_Model) (vs := [vi x1, vi v1, vi x3, vi x4]) (st := [vi (16 * r3)]) (by decide +kernel) xm_Model_headingBy kw_1234 kw_1236 kw_47 (by decide) rfl rfl rfl rfl (Nat.le_of_ble_eq_true rfl) (Nat.le_of_ble_eq_true rfl) h (fun vH6 H6 hq => ?_)
    obtain ⟨r7, rfl, h⟩ := hq
    refine g_iadd (by decide +kernel) ?_
    refine g_topi (fun v8 ev8 => ?_)
    replace h := h v8 ev8
    refine g_istore (i := 7) (ls2 := [some (vr 30 0), some (vi x1), some (vi x2), some (vi x3), some (vi x4), some (vi v1), some (vi r3), some (vi v8)]) (by decide +kernel) (by decide) rfl rfl ?_
    refine g_aload_n (q := 0) (i := 0) (by decide +kernel) rfl rfl ?_
    refine g_get (C := "ThreePointsModel") (T := xT_Model) (N := 39) (ci := 10) (k := 31) (v := vr 48 0) (by decide +kernel) (by decide) rfl rfl xi_Model (by decide) kw_1057 rfl ?_
    refine g_iload (i := 7) (by decide +kernel) rfl ?_
    obtain ⟨hin, h⟩ := h
    refine g_zald (by decide +kernel) (by decide) rfl hin ?_
    suffices hj9 : g_Model_stateBehind E (d + 1) 72 [some (vr 30 0), some (vi x1), some (vi x2), some (vi x3), some (vi x4), some (vi v1), some (vi r3), some (vi v8)] [vi (if (H6 48 0 (v8.toNatClampNeg)) = 0 then (-1) else ((3 * v8) + x3) : Int32)] H6 (qi Q) by
      refine g_if_eq (off := 12) (tgt := 71) (by decide +kernel) (by decide) (fun c => ?_) (fun c => ?_)
      · rw [if_pos c] at hj9
        refine g_iconst (n := (-1)) (v := (-1)) (by decide +kernel) (by decide) ?_
        exact hj9
      · rw [if_neg c] at hj9
        refine g_iconst (n := 3) (v := 3) (by decide +kernel) (by decide) ?_
        refine g_iload (i := 7) (by decide +kernel) rfl ?_
        refine g_imul (by decide +kernel) ?_
        refine g_iload_n (q := 3) (i := 3) (by decide +kernel) rfl rfl ?_
        refine g_iadd (by decide +kernel) ?_
        refine g_goto (off := 4) (tgt := 72) (by decide +kernel) (by decide) ?_
        exact hj9
    exact g_iret (by decide +kernel) rfl ⟨_, rfl, h⟩
  · replace h := h.2 c
    refine g_iconst (n := (-1)) (v := (-1)) (by decide +kernel) (by decide) ?_
    exact g_iret (by decide +kernel) rfl ⟨_, rfl, h⟩
def p_Model_costsStep (E : XE) (d : Nat) (x1 : Int32) (x2 : Int32) (x3 : Int32) (x4 : Int32) (H : HH) (Q : Int32 → HH → Prop) : Prop := (¬ x4 = 1 → (Q (if (xrem x1 3) = x2 then 0 else 1 : Int32) H)) ∧ (x4 = 1 → (vp_in ((2 * (x1 / 3)) + (if x3 = 0 then 0 else 1 : Int32)) 1952 ∧ (Q (H 49 0 (((2 * (x1 / 3)) + (if x3 = 0 then 0 else 1 : Int32)).toNatClampNeg)) H)))
set_option maxHeartbeats 4000000 in
theorem l_Model_costsStep {E : XE} {d : Nat} {x1 : Int32} {x2 : Int32} {x3 : Int32} {x4 : Int32} {H : HH} {Q : Int32 → HH → Prop} (h : p_Model_costsStep E d x1 x2 x3 x4 H Q) : c_Model_costsStep E d x1 x2 x3 x4 H Q := by
  show g_Model_costsStep E d 0 (xent [vr 30 0, vi x1, vi x2, vi x3, vi x4]) [] H (qi Q)
  refine g_drop (ls2 := [some (vr 30 0), some (vi x1), some (vi x2), some (vi x3), some (vi x4)]) (And.intro rfl (And.intro rfl (And.intro rfl (And.intro rfl (And.intro rfl trivial))))) ?_
  refine g_iload (i := 4) (by decide +kernel) rfl ?_
  refine g_iconst (n := 1) (v := 1) (by decide +kernel) (by decide) ?_
  refine g_icmp_ne (off := 26) (tgt := 29) (by decide +kernel) (by decide) (fun c => ?_) (fun c => ?_)
  · replace h := h.1 c
    refine g_iload_n (q := 1) (i := 1) (by decide +kernel) rfl rfl ?_
    refine g_iconst (n := 3) (v := 3) (by decide +kernel) (by decide) ?_
    refine g_irem (by decide +kernel) (by decide) ?_
    refine g_iload_n (q := 2) (i := 2) (by decide +kernel) rfl rfl ?_
    suffices hj1 : g_Model_costsStep E d 41 [some (vr 30 0), some (vi x1), some (vi x2), some (vi x3), some (vi x4)] [vi (if (xrem x1 3) = x2 then 0 else 1 : Int32)] H (qi Q) by
      refine g_icmp_ne (off := 7) (tgt := 40) (by decide +kernel) (by decide) (fun c => ?_) (fun c => ?_)
      · rw [if_neg c] at hj1
        refine g_iconst (n := 1) (v := 1) (by decide +kernel) (by decide) ?_
        exact hj1
      · rw [if_pos c] at hj1
        refine g_iconst (n := 0) (v := 0) (by decide +kernel) (by decide) ?_
        refine g_goto (off := 4) (tgt := 41) (by decide +kernel) (by decide) ?_
        exact hj1
    exact g_iret (by decide +kernel) rfl ⟨_, rfl, h⟩
  · replace h := h.2 c
    refine g_aload_n (q := 0) (i := 0) (by decide +kernel) rfl rfl ?_
    refine g_get (C := "ThreePointsModel") (T := xT_Model) (N := 39) (ci := 10) (k := 32) (v := vr 49 0) (by decide +kernel) (by decide) rfl rfl xi_Model (by decide) kw_1058 rfl ?_
    refine g_iconst (n := 2) (v := 2) (by decide +kernel) (by decide) ?_
    refine g_iload_n (q := 1) (i := 1) (by decide +kernel) rfl rfl ?_
    refine g_iconst (n := 3) (v := 3) (by decide +kernel) (by decide) ?_
    refine g_idiv (by decide +kernel) (by decide) ?_
    refine g_imul (by decide +kernel) ?_
    refine g_iload_n (q := 3) (i := 3) (by decide +kernel) rfl rfl ?_
    suffices hj2 : g_Model_costsStep E d 24 [some (vr 30 0), some (vi x1), some (vi x2), some (vi x3), some (vi x4)] [vi (if x3 = 0 then 0 else 1 : Int32), vi (2 * (x1 / 3)), vr 49 0] H (qi Q) by
      refine g_if_ne (off := 7) (tgt := 23) (by decide +kernel) (by decide) (fun c => ?_) (fun c => ?_)
      · rw [if_neg c] at hj2
        refine g_iconst (n := 1) (v := 1) (by decide +kernel) (by decide) ?_
        exact hj2
      · rw [if_pos c] at hj2
        refine g_iconst (n := 0) (v := 0) (by decide +kernel) (by decide) ?_
        refine g_goto (off := 4) (tgt := 24) (by decide +kernel) (by decide) ?_
        exact hj2
    refine g_iadd (by decide +kernel) ?_
    obtain ⟨hin, h⟩ := h
    refine g_iald (by decide +kernel) (by decide) rfl hin ?_
    refine g_goto (off := 15) (tgt := 41) (by decide +kernel) (by decide) ?_
    exact g_iret (by decide +kernel) rfl ⟨_, rfl, h⟩
def p_Model_seeks (E : XE) (d : Nat) (x1 : Int32) (x2 : Int32) (x3 : Int32) (H : HH) (Q : HH → Prop) : Prop := ∃ (I1 : Int32 → HH → Prop) (μ1 : Int32 → HH → Nat), I1 0 H ∧ ∀ (z2 : Int32) (H3 : HH), I1 z2 H3 → (∃ J4 : HH → Prop, ((2928 ≤ z2 → (J4  H3)) ∧ (¬ 2928 ≤ z2 → (vp_in z2 2928 ∧ (vp_in z2 2928 ∧ (∀ H37 : HH, H37 = (hu (hu H3 50 0 (z2.toNatClampNeg) 1000000000) 51 0 (z2.toNatClampNeg) 0) → (I1 (z2 + 1) H37 ∧ μ1 (z2 + 1) H37 < μ1 z2 H3)))))) ∧ ∀  (H5 : HH), J4  H5 → (vp_in x2 2928 ∧ (vp_in x2 2928 ∧ (∀ H6 : HH, H6 = (hu (hu (hu H5 50 0 (x2.toNatClampNeg) 0) 51 0 (x2.toNatClampNeg) 1) 52 0 0 x2) → (∃ (I7 : Int32 → Int32 → HH → Prop) (μ7 : Int32 → Int32 → HH → Nat), I7 0 1 H6 ∧ ∀ (z8 : Int32) (z9 : Int32) (H10 : HH), I7 z8 z9 H10 → ((z9 ≤ 0 → (Q H10)) ∧ (¬ z9 ≤ 0 → (vp_in z8 2928 ∧ (∀ v11 : Int32, v11 = (H10 52 0 (z8.toNatClampNeg)) → (∀ v12 : Int32, v12 = (xrem (z8 + 1) 2928) → (vp_in v11 2928 ∧ (∀ H13 : HH, H13 = (hu H10 51 0 (v11.toNatClampNeg) 0) → (∃ (I14 : Int32 → Int32 → Int32 → HH → Prop) (μ14 : Int32 → Int32 → Int32 → HH → Nat), I14 v12 (z9 + (-1)) 0 H13 ∧ ∀ (z15 : Int32) (z16 : Int32) (z17 : Int32) (H18 : HH), I14 z15 z16 z17 H18 → ((6 ≤ z17 → (I7 z15 z16 H18 ∧ μ7 z15 z16 H18 < μ7 z8 z9 H10)) ∧ (¬ 6 ≤ z17 → (c_Model_stateBehind E d x1 v11 (z17 / 3) ((xrem z17 3) - 1) H18 (fun r20 H19 => ∃ J21 : Int32 → HH → Prop, ((¬ r20 = (-1) → (vp_in v11 2928 ∧ (c_Model_costsStep E d v11 (z17 / 3) ((xrem z17 3) - 1) x3 H19 (fun r36 H35 => J21 ((H19 50 0 (v11.toNatClampNeg)) + r36) H35)))) ∧ (r20 = (-1) → (J21 1000000000 H19))) ∧ ∀ (y22 : Int32) (H23 : HH), J21 y22 H23 → ((r20 = (-1) → (I14 z15 z16 (z17 + 1) H23 ∧ μ14 z15 z16 (z17 + 1) H23 < μ14 z15 z16 z17 H18)) ∧ (¬ r20 = (-1) → (vp_in r20 2928 ∧ (((H23 50 0 (r20.toNatClampNeg)) ≤ y22 → (I14 z15 z16 (z17 + 1) H23 ∧ μ14 z15 z16 (z17 + 1) H23 < μ14 z15 z16 z17 H18)) ∧ (¬ (H23 50 0 (r20.toNatClampNeg)) ≤ y22 → (vp_in r20 2928 ∧ (vp_in r20 2928 ∧ (∀ H24 : HH, H24 = (hu H23 50 0 (r20.toNatClampNeg) y22) → ((¬ (H24 51 0 (r20.toNatClampNeg)) = 0 → (I14 z15 z16 (z17 + 1) H24 ∧ μ14 z15 z16 (z17 + 1) H24 < μ14 z15 z16 z17 H18)) ∧ ((H24 51 0 (r20.toNatClampNeg)) = 0 → (vp_in r20 2928 ∧ (∀ H25 : HH, H25 = (hu H24 51 0 (r20.toNatClampNeg) 1) → (∃ J26 : Int32 → HH → Prop, ((z16 ≤ 0 → (J26 0 H25)) ∧ (¬ z16 ≤ 0 → (vp_in z15 2928 ∧ (vp_in (H25 52 0 (z15.toNatClampNeg)) 2928 ∧ (J26 (if (H25 50 0 ((H25 52 0 (z15.toNatClampNeg)).toNatClampNeg)) ≤ y22 then 0 else 1 : Int32) H25))))) ∧ ∀ (y27 : Int32) (H28 : HH), J26 y27 H28 → ((y27 = 0 → ((y27 = 0 → (vp_in (xrem (z15 + z16) 2928) 2928 ∧ (∀ H29 : HH, H29 = (hu H28 52 0 ((xrem (z15 + z16) 2928).toNatClampNeg) r20) → (I14 z15 (z16 + 1) (z17 + 1) H29 ∧ μ14 z15 (z16 + 1) (z17 + 1) H29 < μ14 z15 z16 z17 H18)))) ∧ (¬ y27 = 0 → (vp_in z15 2928 ∧ (∀ H30 : HH, H30 = (hu H28 52 0 (z15.toNatClampNeg) r20) → (I14 z15 (z16 + 1) (z17 + 1) H30 ∧ μ14 z15 (z16 + 1) (z17 + 1) H30 < μ14 z15 z16 z17 H18)))))) ∧ (¬ y27 = 0 → (∀ v31 : Int32, v31 = (xrem ((z15 + 2928) - 1) 2928) → ((y27 = 0 → (vp_in (xrem (v31 + z16) 2928) 2928 ∧ (∀ H32 : HH, H32 = (hu H28 52 0 ((xrem (v31 + z16) 2928).toNatClampNeg) r20) → (I14 v31 (z16 + 1) (z17 + 1) H32 ∧ μ14 v31 (z16 + 1) (z17 + 1) H32 < μ14 z15 z16 z17 H18)))) ∧ (¬ y27 = 0 → (vp_in v31 2928 ∧ (∀ H33 : HH, H33 = (hu H28 52 0 (v31.toNatClampNeg) r20) → (I14 v31 (z16 + 1) (z17 + 1) H33 ∧ μ14 v31 (z16 + 1) (z17 + 1) H33 < μ14 z15 z16 z17 H18))))))))))))))))))))))))))))))))))))))
set_option maxHeartbeats 4000000 in
theorem l_Model_seeks {E : XE} {d : Nat} {x1 : Int32} {x2 : Int32} {x3 : Int32} {H : HH} {Q : HH → Prop} (h : p_Model_seeks E d x1 x2 x3 H Q) : c_Model_seeks E (d + 1) x1 x2 x3 H Q := by
  show g_Model_seeks E (d + 1) 0 (xent [vr 30 0, vi x1, vi x2, vi x3]) [] H (qv Q)
  refine g_drop (ls2 := [some (vr 30 0), some (vi x1), some (vi x2), some (vi x3), none, none, none, none, none, none, none]) (And.intro rfl (And.intro rfl (And.intro rfl (And.intro rfl trivial)))) ?_
  refine g_iconst (n := 0) (v := 0) (by decide +kernel) (by decide) ?_
  refine g_istore (i := 4) (ls2 := [some (vr 30 0), some (vi x1), some (vi x2), some (vi x3), some (vi 0), none, none, none, none, none, none]) (by decide +kernel) (by decide) rfl rfl ?_
  refine g_drop (ls2 := [some (vr 30 0), some (vi x1), some (vi x2), some (vi x3), some (vi 0), none, none, none, none, none, none]) (And.intro rfl (And.intro rfl (And.intro rfl (And.intro rfl (And.intro rfl trivial))))) ?_
  obtain ⟨I1, μ1, h0, h⟩ := h
  refine xloop (σ := Int32) (fun s H => I1 s H) (fun s H => μ1 s H) (fun s H => g_Model_seeks E (d + 1) 3 [some (vr 30 0), some (vi x1), some (vi x2), some (vi x3), some (vi s), none, none, none, none, none, none] [] H (qv Q)) (fun s H3 hI ih1 => ?_) 0 H h0
  obtain ⟨z2, es⟩ : ∃ z, z = s := ⟨s, rfl⟩
  subst es
  replace h := h z2 H3 hI
  refine g_iload (i := 4) (by decide +kernel) rfl ?_
  refine g_sipush (n := 2928) (v := 2928) (by decide +kernel) (by decide) ?_
  obtain ⟨J4, h, hk4⟩ := h
  have hc4 : ∀  (H5 : HH), J4  H5 → g_Model_seeks E (d + 1) 34 [some (vr 30 0), some (vi x1), some (vi x2), some (vi x3), none, none, none, none, none, none, none] [] H5 (qv Q) := by
    intro  H5 h
    replace h := hk4  H5 h
    refine g_iconst (n := 0) (v := 0) (by decide +kernel) (by decide) ?_
    refine g_istore (i := 4) (ls2 := [some (vr 30 0), some (vi x1), some (vi x2), some (vi x3), some (vi 0), none, none, none, none, none, none]) (by decide +kernel) (by decide) rfl rfl ?_
    refine g_iconst (n := 1) (v := 1) (by decide +kernel) (by decide) ?_
    refine g_istore (i := 5) (ls2 := [some (vr 30 0), some (vi x1), some (vi x2), some (vi x3), some (vi 0), some (vi 1), none, none, none, none, none]) (by decide +kernel) (by decide) rfl rfl ?_
    refine g_aload_n (q := 0) (i := 0) (by decide +kernel) rfl rfl ?_
    refine g_get (C := "ThreePointsModel") (T := xT_Model) (N := 39) (ci := 10) (k := 33) (v := vr 50 0) (by decide +kernel) (by decide) rfl rfl xi_Model (by decide) kw_1059 rfl ?_
    refine g_iload_n (q := 2) (i := 2) (by decide +kernel) rfl rfl ?_
    refine g_iconst (n := 0) (v := 0) (by decide +kernel) (by decide) ?_
    obtain ⟨hin, h⟩ := h
    refine g_iast (by decide +kernel) (by decide) rfl hin ?_
    refine g_aload_n (q := 0) (i := 0) (by decide +kernel) rfl rfl ?_
    refine g_get (C := "ThreePointsModel") (T := xT_Model) (N := 39) (ci := 10) (k := 34) (v := vr 51 0) (by decide +kernel) (by decide) rfl rfl xi_Model (by decide) kw_1060 rfl ?_
    refine g_iload_n (q := 2) (i := 2) (by decide +kernel) rfl rfl ?_
    refine g_iconst (n := 1) (v := 1) (by decide +kernel) (by decide) ?_
    obtain ⟨hin, h⟩ := h
    refine g_zast (by decide +kernel) (by decide) rfl hin (by decide) ?_
    refine g_aload_n (q := 0) (i := 0) (by decide +kernel) rfl rfl ?_
    refine g_get (C := "ThreePointsModel") (T := xT_Model) (N := 39) (ci := 10) (k := 35) (v := vr 52 0) (by decide +kernel) (by decide) rfl rfl xi_Model (by decide) kw_1061 rfl ?_
    refine g_iconst (n := 0) (v := 0) (by decide +kernel) (by decide) ?_
    refine g_iload_n (q := 2) (i := 2) (by decide +kernel) rfl rfl ?_
    refine g_iast (by decide +kernel) (by decide) rfl (vp_lit (by decide)) ?_
    refine g_heapE (H1 := (hu (hu (hu H5 50 0 (x2.toNatClampNeg) 0) 51 0 (x2.toNatClampNeg) 1) 52 0 0 x2)) rfl ?_
    refine g_heap (fun H6 eH6 => ?_)
    replace h := h H6 eH6
    refine g_drop (ls2 := [some (vr 30 0), some (vi x1), none, some (vi x3), some (vi 0), some (vi 1), none, none, none, none, none]) (And.intro rfl (And.intro rfl (And.intro rfl (And.intro rfl (And.intro rfl trivial))))) ?_
    obtain ⟨I7, μ7, h0, h⟩ := h
    refine xloop (σ := Int32 × Int32) (fun s H => I7 s.1 s.2 H) (fun s H => μ7 s.1 s.2 H) (fun s H => g_Model_seeks E (d + 1) 61 [some (vr 30 0), some (vi x1), none, some (vi x3), some (vi s.1), some (vi s.2), none, none, none, none, none] [] H (qv Q)) (fun s H10 hI ih7 => ?_) (0, 1) H6 h0
    obtain ⟨z8, z9⟩ := s
    replace h := h z8 z9 H10 hI
    refine g_iload (i := 5) (by decide +kernel) rfl ?_
    refine g_if_le (off := 236) (tgt := 299) (by decide +kernel) (by decide) (fun c => ?_) (fun c => ?_)
    · replace h := h.1 c
      exact g_vret (by decide +kernel) rfl h
    · replace h := h.2 c
      refine g_aload_n (q := 0) (i := 0) (by decide +kernel) rfl rfl ?_
      refine g_get (C := "ThreePointsModel") (T := xT_Model) (N := 39) (ci := 10) (k := 35) (v := vr 52 0) (by decide +kernel) (by decide) rfl rfl xi_Model (by decide) kw_1061 rfl ?_
      refine g_iload (i := 4) (by decide +kernel) rfl ?_
      obtain ⟨hin, h⟩ := h
      refine g_iald (by decide +kernel) (by decide) rfl hin ?_
      refine g_topi (fun v11 ev11 => ?_)
      replace h := h v11 ev11
      refine g_istore (i := 6) (ls2 := [some (vr 30 0), some (vi x1), none, some (vi x3), some (vi z8), some (vi z9), some (vi v11), none, none, none, none]) (by decide +kernel) (by decide) rfl rfl ?_
      refine g_iload (i := 4) (by decide +kernel) rfl ?_
      refine g_iconst (n := 1) (v := 1) (by decide +kernel) (by decide) ?_
      refine g_iadd (by decide +kernel) ?_
      refine g_sipush (n := 2928) (v := 2928) (by decide +kernel) (by decide) ?_
      refine g_irem (by decide +kernel) (by decide) ?_
      refine g_topi (fun v12 ev12 => ?_)
      replace h := h v12 ev12
      refine g_istore (i := 4) (ls2 := [some (vr 30 0), some (vi x1), none, some (vi x3), some (vi v12), some (vi z9), some (vi v11), none, none, none, none]) (by decide +kernel) (by decide) rfl rfl ?_
      refine g_iinc (i := 5) (n := (-1)) (v := (z9 + (-1))) (ls2 := [some (vr 30 0), some (vi x1), none, some (vi x3), some (vi v12), some (vi (z9 + (-1))), some (vi v11), none, none, none, none]) (by decide +kernel) rfl rfl (by decide) rfl rfl ?_
      refine g_aload_n (q := 0) (i := 0) (by decide +kernel) rfl rfl ?_
      refine g_get (C := "ThreePointsModel") (T := xT_Model) (N := 39) (ci := 10) (k := 34) (v := vr 51 0) (by decide +kernel) (by decide) rfl rfl xi_Model (by decide) kw_1060 rfl ?_
      refine g_iload (i := 6) (by decide +kernel) rfl ?_
      refine g_iconst (n := 0) (v := 0) (by decide +kernel) (by decide) ?_
      obtain ⟨hin, h⟩ := h
      refine g_zast (by decide +kernel) (by decide) rfl hin (by decide) ?_
      refine g_iconst (n := 0) (v := 0) (by decide +kernel) (by decide) ?_
      refine g_istore (i := 7) (ls2 := [some (vr 30 0), some (vi x1), none, some (vi x3), some (vi v12), some (vi (z9 + (-1))), some (vi v11), some (vi 0), none, none, none]) (by decide +kernel) (by decide) rfl rfl ?_
      refine g_heap (fun H13 eH13 => ?_)
      replace h := h H13 eH13
      refine g_drop (ls2 := [some (vr 30 0), some (vi x1), none, some (vi x3), some (vi v12), some (vi (z9 + (-1))), some (vi v11), some (vi 0), none, none, none]) (And.intro rfl (And.intro rfl (And.intro rfl (And.intro rfl (And.intro rfl (And.intro rfl (And.intro rfl trivial))))))) ?_
      obtain ⟨I14, μ14, h0, h⟩ := h
      refine xloop (σ := Int32 × Int32 × Int32) (fun s H => I14 s.1 s.2.1 s.2.2 H) (fun s H => μ14 s.1 s.2.1 s.2.2 H) (fun s H => g_Model_seeks E (d + 1) 99 [some (vr 30 0), some (vi x1), none, some (vi x3), some (vi s.1), some (vi s.2.1), some (vi v11), some (vi s.2.2), none, none, none] [] H (qv Q)) (fun s H18 hI ih14 => ?_) (v12, (z9 + (-1)), 0) H13 h0
      obtain ⟨z15, z16, z17⟩ := s
      replace h := h z15 z16 z17 H18 hI
      refine g_iload (i := 7) (by decide +kernel) rfl ?_
      refine g_bipush (n := 6) (v := 6) (by decide +kernel) (by decide) ?_
      refine g_icmp_ge (off := 193) (tgt := 296) (by decide +kernel) (by decide) (fun c => ?_) (fun c => ?_)
      · replace h := h.1 c
        refine g_goto (off := (-235)) (tgt := 61) (by decide +kernel) (by decide) ?_
        obtain ⟨hI, hlt⟩ := h
        exact g_drop (ls2 := [some (vr 30 0), some (vi x1), none, some (vi x3), some (vi z15), some (vi z16), none, none, none, none, none]) (And.intro rfl (And.intro rfl (And.intro rfl (And.intro rfl (And.intro rfl trivial))))) (ih7 (z15, z16) H18 hI hlt)
      · replace h := h.2 c
        refine g_aload_n (q := 0) (i := 0) (by decide +kernel) rfl rfl ?_
        refine g_iload_n (q := 1) (i := 1) (by decide +kernel) rfl rfl ?_
        refine g_iload (i := 6) (by decide +kernel) rfl ?_
        refine g_iload (i := 7) (by decide +kernel) rfl ?_
        refine g_iconst (n := 3) (v := 3) (by decide +kernel) (by decide) ?_
        refine g_idiv (by decide +kernel) (by decide) ?_
        refine g_iload (i := 7) (by decide +kernel) rfl ?_
        refine g_iconst (n := 3) (v := 3) (by decide +kernel) (by decide) ?_
        refine g_irem (by decide +kernel) (by decide) ?_
        refine g_iconst (n := 1) (v := 1) (by decide +kernel) (by decide) ?_
        refine g_isub (by decide +kernel) ?_
        refine g_callV (kd := 30) (ix := 0) (ci := 10) (N := 39) (T := xT_Model) (vs := [vi x1, vi v11, vi (z17 / 3), vi ((xrem z17 3) - 1)]) (st := []) (by decide +kernel) xm_Model_stateBehind kw_1270 kw_1272 kw_53 (by decide) rfl rfl rfl rfl (Nat.le_of_ble_eq_true rfl) (Nat.le_of_ble_eq_true rfl) h (fun vH19 H19 hq => ?_)
        obtain ⟨r20, rfl, h⟩ := hq
        refine g_istore (i := 8) (ls2 := [some (vr 30 0), some (vi x1), none, some (vi x3), some (vi z15), some (vi z16), some (vi v11), some (vi z17), some (vi r20), none, none]) (by decide +kernel) (by decide) rfl rfl ?_
        refine g_iload (i := 8) (by decide +kernel) rfl ?_
        refine g_iconst (n := (-1)) (v := (-1)) (by decide +kernel) (by decide) ?_
        obtain ⟨J21, h, hk21⟩ := h
        have hc21 : ∀ (y22 : Int32) (H23 : HH), J21 y22 H23 → g_Model_seeks E (d + 1) 161 [some (vr 30 0), some (vi x1), none, some (vi x3), some (vi z15), some (vi z16), some (vi v11), some (vi z17), some (vi r20), none, none] [vi y22] H23 (qv Q) := by
          intro y22 H23 h
          replace h := hk21 y22 H23 h
          refine g_istore (i := 9) (ls2 := [some (vr 30 0), some (vi x1), none, some (vi x3), some (vi z15), some (vi z16), some (vi v11), some (vi z17), some (vi r20), some (vi y22), none]) (by decide +kernel) (by decide) rfl rfl ?_
          refine g_iload (i := 8) (by decide +kernel) rfl ?_
          refine g_iconst (n := (-1)) (v := (-1)) (by decide +kernel) (by decide) ?_
          refine g_icmp_eq (off := 124) (tgt := 290) (by decide +kernel) (by decide) (fun c => ?_) (fun c => ?_)
          · replace h := h.1 c
            refine g_iinc (i := 7) (n := 1) (v := (z17 + 1)) (ls2 := [some (vr 30 0), some (vi x1), none, some (vi x3), some (vi z15), some (vi z16), some (vi v11), some (vi (z17 + 1)), some (vi r20), some (vi y22), none]) (by decide +kernel) rfl rfl (by decide) rfl rfl ?_
            refine g_goto (off := (-194)) (tgt := 99) (by decide +kernel) (by decide) ?_
            obtain ⟨hI, hlt⟩ := h
            exact g_drop (ls2 := [some (vr 30 0), some (vi x1), none, some (vi x3), some (vi z15), some (vi z16), some (vi v11), some (vi (z17 + 1)), none, none, none]) (And.intro rfl (And.intro rfl (And.intro rfl (And.intro rfl (And.intro rfl (And.intro rfl (And.intro rfl trivial))))))) (ih14 (z15, z16, (z17 + 1)) H23 hI hlt)
          · replace h := h.2 c
            refine g_iload (i := 9) (by decide +kernel) rfl ?_
            refine g_aload_n (q := 0) (i := 0) (by decide +kernel) rfl rfl ?_
            refine g_get (C := "ThreePointsModel") (T := xT_Model) (N := 39) (ci := 10) (k := 33) (v := vr 50 0) (by decide +kernel) (by decide) rfl rfl xi_Model (by decide) kw_1059 rfl ?_
            refine g_iload (i := 8) (by decide +kernel) rfl ?_
            obtain ⟨hin, h⟩ := h
            refine g_iald (by decide +kernel) (by decide) rfl hin ?_
            refine g_icmp_ge (off := 112) (tgt := 290) (by decide +kernel) (by decide) (fun c => ?_) (fun c => ?_)
            · replace h := h.1 c
              refine g_iinc (i := 7) (n := 1) (v := (z17 + 1)) (ls2 := [some (vr 30 0), some (vi x1), none, some (vi x3), some (vi z15), some (vi z16), some (vi v11), some (vi (z17 + 1)), some (vi r20), some (vi y22), none]) (by decide +kernel) rfl rfl (by decide) rfl rfl ?_
              refine g_goto (off := (-194)) (tgt := 99) (by decide +kernel) (by decide) ?_
              obtain ⟨hI, hlt⟩ := h
              exact g_drop (ls2 := [some (vr 30 0), some (vi x1), none, some (vi x3), some (vi z15), some (vi z16), some (vi v11), some (vi (z17 + 1)), none, none, none]) (And.intro rfl (And.intro rfl (And.intro rfl (And.intro rfl (And.intro rfl (And.intro rfl (And.intro rfl trivial))))))) (ih14 (z15, z16, (z17 + 1)) H23 hI hlt)
            · replace h := h.2 c
              refine g_aload_n (q := 0) (i := 0) (by decide +kernel) rfl rfl ?_
              refine g_get (C := "ThreePointsModel") (T := xT_Model) (N := 39) (ci := 10) (k := 33) (v := vr 50 0) (by decide +kernel) (by decide) rfl rfl xi_Model (by decide) kw_1059 rfl ?_
              refine g_iload (i := 8) (by decide +kernel) rfl ?_
              refine g_iload (i := 9) (by decide +kernel) rfl ?_
              obtain ⟨hin, h⟩ := h
              refine g_iast (by decide +kernel) (by decide) rfl hin ?_
              refine g_aload_n (q := 0) (i := 0) (by decide +kernel) rfl rfl ?_
              refine g_get (C := "ThreePointsModel") (T := xT_Model) (N := 39) (ci := 10) (k := 34) (v := vr 51 0) (by decide +kernel) (by decide) rfl rfl xi_Model (by decide) kw_1060 rfl ?_
              refine g_iload (i := 8) (by decide +kernel) rfl ?_
              obtain ⟨hin, h⟩ := h
              refine g_heap (fun H24 eH24 => ?_)
              replace h := h H24 eH24
              refine g_zald (by decide +kernel) (by decide) rfl hin ?_
              refine g_if_ne (off := 93) (tgt := 290) (by decide +kernel) (by decide) (fun c => ?_) (fun c => ?_)
              · replace h := h.1 c
                refine g_iinc (i := 7) (n := 1) (v := (z17 + 1)) (ls2 := [some (vr 30 0), some (vi x1), none, some (vi x3), some (vi z15), some (vi z16), some (vi v11), some (vi (z17 + 1)), some (vi r20), some (vi y22), none]) (by decide +kernel) rfl rfl (by decide) rfl rfl ?_
                refine g_goto (off := (-194)) (tgt := 99) (by decide +kernel) (by decide) ?_
                obtain ⟨hI, hlt⟩ := h
                exact g_drop (ls2 := [some (vr 30 0), some (vi x1), none, some (vi x3), some (vi z15), some (vi z16), some (vi v11), some (vi (z17 + 1)), none, none, none]) (And.intro rfl (And.intro rfl (And.intro rfl (And.intro rfl (And.intro rfl (And.intro rfl (And.intro rfl trivial))))))) (ih14 (z15, z16, (z17 + 1)) H24 hI hlt)
              · replace h := h.2 c
                refine g_aload_n (q := 0) (i := 0) (by decide +kernel) rfl rfl ?_
                refine g_get (C := "ThreePointsModel") (T := xT_Model) (N := 39) (ci := 10) (k := 34) (v := vr 51 0) (by decide +kernel) (by decide) rfl rfl xi_Model (by decide) kw_1060 rfl ?_
                refine g_iload (i := 8) (by decide +kernel) rfl ?_
                refine g_iconst (n := 1) (v := 1) (by decide +kernel) (by decide) ?_
                obtain ⟨hin, h⟩ := h
                refine g_zast (by decide +kernel) (by decide) rfl hin (by decide) ?_
                refine g_iload (i := 5) (by decide +kernel) rfl ?_
                refine g_heap (fun H25 eH25 => ?_)
                replace h := h H25 eH25
                obtain ⟨J26, h, hk26⟩ := h
                have hc26 : ∀ (y27 : Int32) (H28 : HH), J26 y27 H28 → g_Model_seeks E (d + 1) 235 [some (vr 30 0), some (vi x1), none, some (vi x3), some (vi z15), some (vi z16), some (vi v11), some (vi z17), some (vi r20), none, none] [vi y27] H28 (qv Q) := by
                  intro y27 H28 h
                  replace h := hk26 y27 H28 h
                  refine g_istore (i := 10) (ls2 := [some (vr 30 0), some (vi x1), none, some (vi x3), some (vi z15), some (vi z16), some (vi v11), some (vi z17), some (vi r20), none, some (vi y27)]) (by decide +kernel) (by decide) rfl rfl ?_
                  refine g_iload (i := 10) (by decide +kernel) rfl ?_
                  refine g_if_eq (off := 18) (tgt := 257) (by decide +kernel) (by decide) (fun c => ?_) (fun c => ?_)
                  · replace h := h.1 c
                    refine g_iload (i := 4) (by decide +kernel) rfl ?_
                    refine g_istore (i := 4) (ls2 := [some (vr 30 0), some (vi x1), none, some (vi x3), some (vi z15), some (vi z16), some (vi v11), some (vi z17), some (vi r20), none, some (vi y27)]) (by decide +kernel) (by decide) rfl rfl ?_
                    refine g_aload_n (q := 0) (i := 0) (by decide +kernel) rfl rfl ?_
                    refine g_get (C := "ThreePointsModel") (T := xT_Model) (N := 39) (ci := 10) (k := 35) (v := vr 52 0) (by decide +kernel) (by decide) rfl rfl xi_Model (by decide) kw_1061 rfl ?_
                    refine g_iload (i := 10) (by decide +kernel) rfl ?_
                    refine g_if_eq (off := 8) (tgt := 275) (by decide +kernel) (by decide) (fun c => ?_) (fun c => ?_)
                    · replace h := h.1 c
                      refine g_iload (i := 4) (by decide +kernel) rfl ?_
                      refine g_iload (i := 5) (by decide +kernel) rfl ?_
                      refine g_iadd (by decide +kernel) ?_
                      refine g_sipush (n := 2928) (v := 2928) (by decide +kernel) (by decide) ?_
                      refine g_irem (by decide +kernel) (by decide) ?_
                      refine g_iload (i := 8) (by decide +kernel) rfl ?_
                      obtain ⟨hin, h⟩ := h
                      refine g_iast (by decide +kernel) (by decide) rfl hin ?_
                      refine g_iinc (i := 5) (n := 1) (v := (z16 + 1)) (ls2 := [some (vr 30 0), some (vi x1), none, some (vi x3), some (vi z15), some (vi (z16 + 1)), some (vi v11), some (vi z17), some (vi r20), none, some (vi y27)]) (by decide +kernel) rfl rfl (by decide) rfl rfl ?_
                      refine g_iinc (i := 7) (n := 1) (v := (z17 + 1)) (ls2 := [some (vr 30 0), some (vi x1), none, some (vi x3), some (vi z15), some (vi (z16 + 1)), some (vi v11), some (vi (z17 + 1)), some (vi r20), none, some (vi y27)]) (by decide +kernel) rfl rfl (by decide) rfl rfl ?_
                      refine g_goto (off := (-194)) (tgt := 99) (by decide +kernel) (by decide) ?_
                      refine g_heap (fun H29 eH29 => ?_)
                      replace h := h H29 eH29
                      obtain ⟨hI, hlt⟩ := h
                      exact g_drop (ls2 := [some (vr 30 0), some (vi x1), none, some (vi x3), some (vi z15), some (vi (z16 + 1)), some (vi v11), some (vi (z17 + 1)), none, none, none]) (And.intro rfl (And.intro rfl (And.intro rfl (And.intro rfl (And.intro rfl (And.intro rfl (And.intro rfl trivial))))))) (ih14 (z15, (z16 + 1), (z17 + 1)) H29 hI hlt)
                    · replace h := h.2 c
                      refine g_iload (i := 4) (by decide +kernel) rfl ?_
                      refine g_goto (off := 12) (tgt := 284) (by decide +kernel) (by decide) ?_
                      refine g_iload (i := 8) (by decide +kernel) rfl ?_
                      obtain ⟨hin, h⟩ := h
                      refine g_iast (by decide +kernel) (by decide) rfl hin ?_
                      refine g_iinc (i := 5) (n := 1) (v := (z16 + 1)) (ls2 := [some (vr 30 0), some (vi x1), none, some (vi x3), some (vi z15), some (vi (z16 + 1)), some (vi v11), some (vi z17), some (vi r20), none, some (vi y27)]) (by decide +kernel) rfl rfl (by decide) rfl rfl ?_
                      refine g_iinc (i := 7) (n := 1) (v := (z17 + 1)) (ls2 := [some (vr 30 0), some (vi x1), none, some (vi x3), some (vi z15), some (vi (z16 + 1)), some (vi v11), some (vi (z17 + 1)), some (vi r20), none, some (vi y27)]) (by decide +kernel) rfl rfl (by decide) rfl rfl ?_
                      refine g_goto (off := (-194)) (tgt := 99) (by decide +kernel) (by decide) ?_
                      refine g_heap (fun H30 eH30 => ?_)
                      replace h := h H30 eH30
                      obtain ⟨hI, hlt⟩ := h
                      exact g_drop (ls2 := [some (vr 30 0), some (vi x1), none, some (vi x3), some (vi z15), some (vi (z16 + 1)), some (vi v11), some (vi (z17 + 1)), none, none, none]) (And.intro rfl (And.intro rfl (And.intro rfl (And.intro rfl (And.intro rfl (And.intro rfl (And.intro rfl trivial))))))) (ih14 (z15, (z16 + 1), (z17 + 1)) H30 hI hlt)
                  · replace h := h.2 c
                    refine g_iload (i := 4) (by decide +kernel) rfl ?_
                    refine g_sipush (n := 2928) (v := 2928) (by decide +kernel) (by decide) ?_
                    refine g_iadd (by decide +kernel) ?_
                    refine g_iconst (n := 1) (v := 1) (by decide +kernel) (by decide) ?_
                    refine g_isub (by decide +kernel) ?_
                    refine g_sipush (n := 2928) (v := 2928) (by decide +kernel) (by decide) ?_
                    refine g_irem (by decide +kernel) (by decide) ?_
                    refine g_goto (off := 5) (tgt := 259) (by decide +kernel) (by decide) ?_
                    refine g_topi (fun v31 ev31 => ?_)
                    replace h := h v31 ev31
                    refine g_istore (i := 4) (ls2 := [some (vr 30 0), some (vi x1), none, some (vi x3), some (vi v31), some (vi z16), some (vi v11), some (vi z17), some (vi r20), none, some (vi y27)]) (by decide +kernel) (by decide) rfl rfl ?_
                    refine g_aload_n (q := 0) (i := 0) (by decide +kernel) rfl rfl ?_
                    refine g_get (C := "ThreePointsModel") (T := xT_Model) (N := 39) (ci := 10) (k := 35) (v := vr 52 0) (by decide +kernel) (by decide) rfl rfl xi_Model (by decide) kw_1061 rfl ?_
                    refine g_iload (i := 10) (by decide +kernel) rfl ?_
                    refine g_if_eq (off := 8) (tgt := 275) (by decide +kernel) (by decide) (fun c => ?_) (fun c => ?_)
                    · replace h := h.1 c
                      refine g_iload (i := 4) (by decide +kernel) rfl ?_
                      refine g_iload (i := 5) (by decide +kernel) rfl ?_
                      refine g_iadd (by decide +kernel) ?_
                      refine g_sipush (n := 2928) (v := 2928) (by decide +kernel) (by decide) ?_
                      refine g_irem (by decide +kernel) (by decide) ?_
                      refine g_iload (i := 8) (by decide +kernel) rfl ?_
                      obtain ⟨hin, h⟩ := h
                      refine g_iast (by decide +kernel) (by decide) rfl hin ?_
                      refine g_iinc (i := 5) (n := 1) (v := (z16 + 1)) (ls2 := [some (vr 30 0), some (vi x1), none, some (vi x3), some (vi v31), some (vi (z16 + 1)), some (vi v11), some (vi z17), some (vi r20), none, some (vi y27)]) (by decide +kernel) rfl rfl (by decide) rfl rfl ?_
                      refine g_iinc (i := 7) (n := 1) (v := (z17 + 1)) (ls2 := [some (vr 30 0), some (vi x1), none, some (vi x3), some (vi v31), some (vi (z16 + 1)), some (vi v11), some (vi (z17 + 1)), some (vi r20), none, some (vi y27)]) (by decide +kernel) rfl rfl (by decide) rfl rfl ?_
                      refine g_goto (off := (-194)) (tgt := 99) (by decide +kernel) (by decide) ?_
                      refine g_heap (fun H32 eH32 => ?_)
                      replace h := h H32 eH32
                      obtain ⟨hI, hlt⟩ := h
                      exact g_drop (ls2 := [some (vr 30 0), some (vi x1), none, some (vi x3), some (vi v31), some (vi (z16 + 1)), some (vi v11), some (vi (z17 + 1)), none, none, none]) (And.intro rfl (And.intro rfl (And.intro rfl (And.intro rfl (And.intro rfl (And.intro rfl (And.intro rfl trivial))))))) (ih14 (v31, (z16 + 1), (z17 + 1)) H32 hI hlt)
                    · replace h := h.2 c
                      refine g_iload (i := 4) (by decide +kernel) rfl ?_
                      refine g_goto (off := 12) (tgt := 284) (by decide +kernel) (by decide) ?_
                      refine g_iload (i := 8) (by decide +kernel) rfl ?_
                      obtain ⟨hin, h⟩ := h
                      refine g_iast (by decide +kernel) (by decide) rfl hin ?_
                      refine g_iinc (i := 5) (n := 1) (v := (z16 + 1)) (ls2 := [some (vr 30 0), some (vi x1), none, some (vi x3), some (vi v31), some (vi (z16 + 1)), some (vi v11), some (vi z17), some (vi r20), none, some (vi y27)]) (by decide +kernel) rfl rfl (by decide) rfl rfl ?_
                      refine g_iinc (i := 7) (n := 1) (v := (z17 + 1)) (ls2 := [some (vr 30 0), some (vi x1), none, some (vi x3), some (vi v31), some (vi (z16 + 1)), some (vi v11), some (vi (z17 + 1)), some (vi r20), none, some (vi y27)]) (by decide +kernel) rfl rfl (by decide) rfl rfl ?_
                      refine g_goto (off := (-194)) (tgt := 99) (by decide +kernel) (by decide) ?_
                      refine g_heap (fun H33 eH33 => ?_)
                      replace h := h H33 eH33
                      obtain ⟨hI, hlt⟩ := h
                      exact g_drop (ls2 := [some (vr 30 0), some (vi x1), none, some (vi x3), some (vi v31), some (vi (z16 + 1)), some (vi v11), some (vi (z17 + 1)), none, none, none]) (And.intro rfl (And.intro rfl (And.intro rfl (And.intro rfl (And.intro rfl (And.intro rfl (And.intro rfl trivial))))))) (ih14 (v31, (z16 + 1), (z17 + 1)) H33 hI hlt)
                refine g_if_le (off := 24) (tgt := 234) (by decide +kernel) (by decide) (fun c => ?_) (fun c => ?_)
                · replace h := h.1 c
                  refine g_iconst (n := 0) (v := 0) (by decide +kernel) (by decide) ?_
                  exact g_drop (ls2 := [some (vr 30 0), some (vi x1), none, some (vi x3), some (vi z15), some (vi z16), some (vi v11), some (vi z17), some (vi r20), none, none]) (And.intro rfl (And.intro rfl (And.intro rfl (And.intro rfl (And.intro rfl (And.intro rfl (And.intro rfl (And.intro rfl trivial)))))))) (hc26 0 H25 h)
                · replace h := h.2 c
                  refine g_iload (i := 9) (by decide +kernel) rfl ?_
                  refine g_aload_n (q := 0) (i := 0) (by decide +kernel) rfl rfl ?_
                  refine g_get (C := "ThreePointsModel") (T := xT_Model) (N := 39) (ci := 10) (k := 33) (v := vr 50 0) (by decide +kernel) (by decide) rfl rfl xi_Model (by decide) kw_1059 rfl ?_
                  refine g_aload_n (q := 0) (i := 0) (by decide +kernel) rfl rfl ?_
                  refine g_get (C := "ThreePointsModel") (T := xT_Model) (N := 39) (ci := 10) (k := 35) (v := vr 52 0) (by decide +kernel) (by decide) rfl rfl xi_Model (by decide) kw_1061 rfl ?_
                  refine g_iload (i := 4) (by decide +kernel) rfl ?_
                  obtain ⟨hin, h⟩ := h
                  refine g_iald (by decide +kernel) (by decide) rfl hin ?_
                  obtain ⟨hin, h⟩ := h
                  refine g_iald (by decide +kernel) (by decide) rfl hin ?_
                  suffices hj34 : g_Model_seeks E (d + 1) 235 [some (vr 30 0), some (vi x1), none, some (vi x3), some (vi z15), some (vi z16), some (vi v11), some (vi z17), some (vi r20), some (vi y22), none] [vi (if (H25 50 0 ((H25 52 0 (z15.toNatClampNeg)).toNatClampNeg)) ≤ y22 then 0 else 1 : Int32)] H25 (qv Q) by
                    refine g_icmp_ge (off := 7) (tgt := 234) (by decide +kernel) (by decide) (fun c => ?_) (fun c => ?_)
                    · rw [if_pos c] at hj34
                      refine g_iconst (n := 0) (v := 0) (by decide +kernel) (by decide) ?_
                      exact hj34
                    · rw [if_neg c] at hj34
                      refine g_iconst (n := 1) (v := 1) (by decide +kernel) (by decide) ?_
                      refine g_goto (off := 4) (tgt := 235) (by decide +kernel) (by decide) ?_
                      exact hj34
                  exact g_drop (ls2 := [some (vr 30 0), some (vi x1), none, some (vi x3), some (vi z15), some (vi z16), some (vi v11), some (vi z17), some (vi r20), none, none]) (And.intro rfl (And.intro rfl (And.intro rfl (And.intro rfl (And.intro rfl (And.intro rfl (And.intro rfl (And.intro rfl trivial)))))))) (hc26 (if (H25 50 0 ((H25 52 0 (z15.toNatClampNeg)).toNatClampNeg)) ≤ y22 then 0 else 1 : Int32) H25 h)
        refine g_icmp_ne (off := 8) (tgt := 136) (by decide +kernel) (by decide) (fun c => ?_) (fun c => ?_)
        · replace h := h.1 c
          refine g_aload_n (q := 0) (i := 0) (by decide +kernel) rfl rfl ?_
          refine g_get (C := "ThreePointsModel") (T := xT_Model) (N := 39) (ci := 10) (k := 33) (v := vr 50 0) (by decide +kernel) (by decide) rfl rfl xi_Model (by decide) kw_1059 rfl ?_
          refine g_iload (i := 6) (by decide +kernel) rfl ?_
          obtain ⟨hin, h⟩ := h
          refine g_iald (by decide +kernel) (by decide) rfl hin ?_
          refine g_aload_n (q := 0) (i := 0) (by decide +kernel) rfl rfl ?_
          refine g_iload (i := 6) (by decide +kernel) rfl ?_
          refine g_iload (i := 7) (by decide +kernel) rfl ?_
          refine g_iconst (n := 3) (v := 3) (by decide +kernel) (by decide) ?_
          refine g_idiv (by decide +kernel) (by decide) ?_
          refine g_iload (i := 7) (by decide +kernel) rfl ?_
          refine g_iconst (n := 3) (v := 3) (by decide +kernel) (by decide) ?_
          refine g_irem (by decide +kernel) (by decide) ?_
          refine g_iconst (n := 1) (v := 1) (by decide +kernel) (by decide) ?_
          refine g_isub (by decide +kernel) ?_
          refine g_iload_n (q := 3) (i := 3) (by decide +kernel) rfl rfl ?_
          refine g_callV (kd := 30) (ix := 0) (ci := 10) (N := 39) (T := xT_Model) (vs := [vi v11, vi (z17 / 3), vi ((xrem z17 3) - 1), vi x3]) (st := [vi (H19 50 0 (v11.toNatClampNeg))]) (by decide +kernel) xm_Model_costsStep kw_1278 kw_1280 kw_55 (by decide) rfl rfl rfl rfl (Nat.le_of_ble_eq_true rfl) (Nat.le_of_ble_eq_true rfl) h (fun vH35 H35 hq => ?_)
          obtain ⟨r36, rfl, h⟩ := hq
          refine g_iadd (by decide +kernel) ?_
          exact g_drop (ls2 := [some (vr 30 0), some (vi x1), none, some (vi x3), some (vi z15), some (vi z16), some (vi v11), some (vi z17), some (vi r20), none, none]) (And.intro rfl (And.intro rfl (And.intro rfl (And.intro rfl (And.intro rfl (And.intro rfl (And.intro rfl (And.intro rfl trivial)))))))) (hc21 ((H19 50 0 (v11.toNatClampNeg)) + r36) H35 h)
        · replace h := h.2 c
          refine g_ldc (v := 1000000000) (by decide +kernel) kw_1265 ?_
          refine g_goto (off := 28) (tgt := 161) (by decide +kernel) (by decide) ?_
          exact g_drop (ls2 := [some (vr 30 0), some (vi x1), none, some (vi x3), some (vi z15), some (vi z16), some (vi v11), some (vi z17), some (vi r20), none, none]) (And.intro rfl (And.intro rfl (And.intro rfl (And.intro rfl (And.intro rfl (And.intro rfl (And.intro rfl (And.intro rfl trivial)))))))) (hc21 1000000000 H19 h)
  refine g_icmp_ge (off := 26) (tgt := 34) (by decide +kernel) (by decide) (fun c => ?_) (fun c => ?_)
  · replace h := h.1 c
    exact g_drop (ls2 := [some (vr 30 0), some (vi x1), some (vi x2), some (vi x3), none, none, none, none, none, none, none]) (And.intro rfl (And.intro rfl (And.intro rfl (And.intro rfl trivial)))) (hc4  H3 h)
  · replace h := h.2 c
    refine g_aload_n (q := 0) (i := 0) (by decide +kernel) rfl rfl ?_
    refine g_get (C := "ThreePointsModel") (T := xT_Model) (N := 39) (ci := 10) (k := 33) (v := vr 50 0) (by decide +kernel) (by decide) rfl rfl xi_Model (by decide) kw_1059 rfl ?_
    refine g_iload (i := 4) (by decide +kernel) rfl ?_
    refine g_ldc (v := 1000000000) (by decide +kernel) kw_1265 ?_
    obtain ⟨hin, h⟩ := h
    refine g_iast (by decide +kernel) (by decide) rfl hin ?_
    refine g_aload_n (q := 0) (i := 0) (by decide +kernel) rfl rfl ?_
    refine g_get (C := "ThreePointsModel") (T := xT_Model) (N := 39) (ci := 10) (k := 34) (v := vr 51 0) (by decide +kernel) (by decide) rfl rfl xi_Model (by decide) kw_1060 rfl ?_
    refine g_iload (i := 4) (by decide +kernel) rfl ?_
    refine g_iconst (n := 0) (v := 0) (by decide +kernel) (by decide) ?_
    obtain ⟨hin, h⟩ := h
    refine g_zast (by decide +kernel) (by decide) rfl hin (by decide) ?_
    refine g_iinc (i := 4) (n := 1) (v := (z2 + 1)) (ls2 := [some (vr 30 0), some (vi x1), some (vi x2), some (vi x3), some (vi (z2 + 1)), none, none, none, none, none, none]) (by decide +kernel) rfl rfl (by decide) rfl rfl ?_
    refine g_goto (off := (-28)) (tgt := 3) (by decide +kernel) (by decide) ?_
    refine g_heap (fun H37 eH37 => ?_)
    replace h := h H37 eH37
    obtain ⟨hI, hlt⟩ := h
    exact g_drop (ls2 := [some (vr 30 0), some (vi x1), some (vi x2), some (vi x3), some (vi (z2 + 1)), none, none, none, none, none, none]) (And.intro rfl (And.intro rfl (And.intro rfl (And.intro rfl (And.intro rfl trivial))))) (ih1 (z2 + 1) H37 hI hlt)
def p_Model_otherOf (E : XE) (d : Nat) (x1 : Int32) (H : HH) (Q : Int32 → HH → Prop) : Prop := vp_in ((5 * x1) + 1) 20 ∧ (Q (xrem ((H 34 0 (((5 * x1) + 1).toNatClampNeg)) + 8) 16) H)
set_option maxHeartbeats 4000000 in
theorem l_Model_otherOf {E : XE} {d : Nat} {x1 : Int32} {H : HH} {Q : Int32 → HH → Prop} (h : p_Model_otherOf E d x1 H Q) : c_Model_otherOf E d x1 H Q := by
  show g_Model_otherOf E d 0 (xent [vr 30 0, vi x1]) [] H (qi Q)
  refine g_drop (ls2 := [some (vr 30 0), some (vi x1)]) (And.intro rfl (And.intro rfl trivial)) ?_
  refine g_aload_n (q := 0) (i := 0) (by decide +kernel) rfl rfl ?_
  refine g_get (C := "ThreePointsModel") (T := xT_Model) (N := 39) (ci := 10) (k := 6) (v := vr 34 0) (by decide +kernel) (by decide) rfl rfl xi_Model (by decide) kw_1032 rfl ?_
  refine g_iconst (n := 5) (v := 5) (by decide +kernel) (by decide) ?_
  refine g_iload_n (q := 1) (i := 1) (by decide +kernel) rfl rfl ?_
  refine g_imul (by decide +kernel) ?_
  refine g_iconst (n := 1) (v := 1) (by decide +kernel) (by decide) ?_
  refine g_iadd (by decide +kernel) ?_
  obtain ⟨hin, h⟩ := h
  refine g_iald (by decide +kernel) (by decide) rfl hin ?_
  refine g_bipush (n := 8) (v := 8) (by decide +kernel) (by decide) ?_
  refine g_iadd (by decide +kernel) ?_
  refine g_bipush (n := 16) (v := 16) (by decide +kernel) (by decide) ?_
  refine g_irem (by decide +kernel) (by decide) ?_
  exact g_iret (by decide +kernel) rfl ⟨_, rfl, h⟩
def p_Model_leastTo (E : XE) (d : Nat) (x1 : Int32) (H : HH) (Q : Int32 → HH → Prop) : Prop := ∃ (I1 : Int32 → Int32 → HH → Prop) (μ1 : Int32 → Int32 → HH → Nat), I1 1000000000 0 H ∧ ∀ (z2 : Int32) (z3 : Int32) (H4 : HH), I1 z2 z3 H4 → (((H4 30 0 1) < z3 → (Q z2 H4)) ∧ (¬ (H4 30 0 1) < z3 → (∃ (I5 : Int32 → Int32 → HH → Prop) (μ5 : Int32 → Int32 → HH → Nat), I5 z2 0 H4 ∧ ∀ (z6 : Int32) (z7 : Int32) (H8 : HH), I5 z6 z7 H8 → ((3 ≤ z7 → (I1 z6 (z3 + 1) H8 ∧ μ1 z6 (z3 + 1) H8 < μ1 z2 z3 H4)) ∧ (¬ 3 ≤ z7 → (vp_in ((3 * ((16 * z3) + x1)) + z7) 2928 ∧ (∀ v9 : Int32, v9 = (H8 50 0 (((3 * ((16 * z3) + x1)) + z7).toNatClampNeg)) → (∀ v11 : Int32, v11 = (if z6 ≤ v9 then z6 else v9 : Int32) → (I5 v11 (z7 + 1) H8 ∧ μ5 v11 (z7 + 1) H8 < μ5 z6 z7 H8)))))))))
set_option maxHeartbeats 4000000 in
theorem l_Model_leastTo {E : XE} {d : Nat} {x1 : Int32} {H : HH} {Q : Int32 → HH → Prop} (h : p_Model_leastTo E d x1 H Q) : c_Model_leastTo E d x1 H Q := by
  show g_Model_leastTo E d 0 (xent [vr 30 0, vi x1]) [] H (qi Q)
  refine g_drop (ls2 := [some (vr 30 0), some (vi x1), none, none, none, none]) (And.intro rfl (And.intro rfl trivial)) ?_
  refine g_ldc (v := 1000000000) (by decide +kernel) kw_1265 ?_
  refine g_istore_n (q := 2) (i := 2) (ls2 := [some (vr 30 0), some (vi x1), some (vi 1000000000), none, none, none]) (by decide +kernel) rfl (by decide) rfl rfl ?_
  refine g_iconst (n := 0) (v := 0) (by decide +kernel) (by decide) ?_
  refine g_istore_n (q := 3) (i := 3) (ls2 := [some (vr 30 0), some (vi x1), some (vi 1000000000), some (vi 0), none, none]) (by decide +kernel) rfl (by decide) rfl rfl ?_
  refine g_drop (ls2 := [some (vr 30 0), some (vi x1), some (vi 1000000000), some (vi 0), none, none]) (And.intro rfl (And.intro rfl (And.intro rfl (And.intro rfl trivial)))) ?_
  obtain ⟨I1, μ1, h0, h⟩ := h
  refine xloop (σ := Int32 × Int32) (fun s H => I1 s.1 s.2 H) (fun s H => μ1 s.1 s.2 H) (fun s H => g_Model_leastTo E d 5 [some (vr 30 0), some (vi x1), some (vi s.1), some (vi s.2), none, none] [] H (qi Q)) (fun s H4 hI ih1 => ?_) (1000000000, 0) H h0
  obtain ⟨z2, z3⟩ := s
  replace h := h z2 z3 H4 hI
  refine g_iload_n (q := 3) (i := 3) (by decide +kernel) rfl rfl ?_
  refine g_aload_n (q := 0) (i := 0) (by decide +kernel) rfl rfl ?_
  refine g_get (C := "ThreePointsModel") (T := xT_Model) (N := 39) (ci := 10) (k := 1) (v := vi (H4 30 0 1)) (by decide +kernel) (by decide) rfl rfl xi_Model (by decide) kw_1027 rfl ?_
  refine g_icmp_gt (off := 55) (tgt := 65) (by decide +kernel) (by decide) (fun c => ?_) (fun c => ?_)
  · replace h := h.1 c
    refine g_iload_n (q := 2) (i := 2) (by decide +kernel) rfl rfl ?_
    exact g_iret (by decide +kernel) rfl ⟨_, rfl, h⟩
  · replace h := h.2 c
    refine g_iconst (n := 0) (v := 0) (by decide +kernel) (by decide) ?_
    refine g_istore (i := 4) (ls2 := [some (vr 30 0), some (vi x1), some (vi z2), some (vi z3), some (vi 0), none]) (by decide +kernel) (by decide) rfl rfl ?_
    refine g_drop (ls2 := [some (vr 30 0), some (vi x1), some (vi z2), some (vi z3), some (vi 0), none]) (And.intro rfl (And.intro rfl (And.intro rfl (And.intro rfl (And.intro rfl trivial))))) ?_
    obtain ⟨I5, μ5, h0, h⟩ := h
    refine xloop (σ := Int32 × Int32) (fun s H => I5 s.1 s.2 H) (fun s H => μ5 s.1 s.2 H) (fun s H => g_Model_leastTo E d 16 [some (vr 30 0), some (vi x1), some (vi s.1), some (vi z3), some (vi s.2), none] [] H (qi Q)) (fun s H8 hI ih5 => ?_) (z2, 0) H4 h0
    obtain ⟨z6, z7⟩ := s
    replace h := h z6 z7 H8 hI
    refine g_iload (i := 4) (by decide +kernel) rfl ?_
    refine g_iconst (n := 3) (v := 3) (by decide +kernel) (by decide) ?_
    refine g_icmp_ge (off := 40) (tgt := 59) (by decide +kernel) (by decide) (fun c => ?_) (fun c => ?_)
    · replace h := h.1 c
      refine g_iinc (i := 3) (n := 1) (v := (z3 + 1)) (ls2 := [some (vr 30 0), some (vi x1), some (vi z6), some (vi (z3 + 1)), some (vi z7), none]) (by decide +kernel) rfl rfl (by decide) rfl rfl ?_
      refine g_goto (off := (-57)) (tgt := 5) (by decide +kernel) (by decide) ?_
      obtain ⟨hI, hlt⟩ := h
      exact g_drop (ls2 := [some (vr 30 0), some (vi x1), some (vi z6), some (vi (z3 + 1)), none, none]) (And.intro rfl (And.intro rfl (And.intro rfl (And.intro rfl trivial)))) (ih1 (z6, (z3 + 1)) H8 hI hlt)
    · replace h := h.2 c
      refine g_aload_n (q := 0) (i := 0) (by decide +kernel) rfl rfl ?_
      refine g_get (C := "ThreePointsModel") (T := xT_Model) (N := 39) (ci := 10) (k := 33) (v := vr 50 0) (by decide +kernel) (by decide) rfl rfl xi_Model (by decide) kw_1059 rfl ?_
      refine g_iconst (n := 3) (v := 3) (by decide +kernel) (by decide) ?_
      refine g_bipush (n := 16) (v := 16) (by decide +kernel) (by decide) ?_
      refine g_iload_n (q := 3) (i := 3) (by decide +kernel) rfl rfl ?_
      refine g_imul (by decide +kernel) ?_
      refine g_iload_n (q := 1) (i := 1) (by decide +kernel) rfl rfl ?_
      refine g_iadd (by decide +kernel) ?_
      refine g_imul (by decide +kernel) ?_
      refine g_iload (i := 4) (by decide +kernel) rfl ?_
      refine g_iadd (by decide +kernel) ?_
      obtain ⟨hin, h⟩ := h
      refine g_iald (by decide +kernel) (by decide) rfl hin ?_
      refine g_topi (fun v9 ev9 => ?_)
      replace h := h v9 ev9
      refine g_istore (i := 5) (ls2 := [some (vr 30 0), some (vi x1), some (vi z6), some (vi z3), some (vi z7), some (vi v9)]) (by decide +kernel) (by decide) rfl rfl ?_
      refine g_iload (i := 5) (by decide +kernel) rfl ?_
      refine g_iload_n (q := 2) (i := 2) (by decide +kernel) rfl rfl ?_
      suffices hj10 : g_Model_leastTo E d 52 [some (vr 30 0), some (vi x1), some (vi z6), some (vi z3), some (vi z7), some (vi v9)] [vi (if z6 ≤ v9 then z6 else v9 : Int32)] H8 (qi Q) by
        refine g_icmp_ge (off := 8) (tgt := 51) (by decide +kernel) (by decide) (fun c => ?_) (fun c => ?_)
        · rw [if_pos c] at hj10
          refine g_iload_n (q := 2) (i := 2) (by decide +kernel) rfl rfl ?_
          exact hj10
        · rw [if_neg c] at hj10
          refine g_iload (i := 5) (by decide +kernel) rfl ?_
          refine g_goto (off := 4) (tgt := 52) (by decide +kernel) (by decide) ?_
          exact hj10
      refine g_topi (fun v11 ev11 => ?_)
      replace h := h v11 ev11
      refine g_istore_n (q := 2) (i := 2) (ls2 := [some (vr 30 0), some (vi x1), some (vi v11), some (vi z3), some (vi z7), some (vi v9)]) (by decide +kernel) rfl (by decide) rfl rfl ?_
      refine g_iinc (i := 4) (n := 1) (v := (z7 + 1)) (ls2 := [some (vr 30 0), some (vi x1), some (vi v11), some (vi z3), some (vi (z7 + 1)), some (vi v9)]) (by decide +kernel) rfl rfl (by decide) rfl rfl ?_
      refine g_goto (off := (-40)) (tgt := 16) (by decide +kernel) (by decide) ?_
      obtain ⟨hI, hlt⟩ := h
      exact g_drop (ls2 := [some (vr 30 0), some (vi x1), some (vi v11), some (vi z3), some (vi (z7 + 1)), none]) (And.intro rfl (And.intro rfl (And.intro rfl (And.intro rfl (And.intro rfl trivial))))) (ih5 (v11, (z7 + 1)) H8 hI hlt)
def p_Model_firstStep (E : XE) (d : Nat) (x1 : Int32) (x2 : Int32) (H : HH) (Q : Int32 → HH → Prop) : Prop := c_Model_stateOf E d x1 H (fun r2 H1 => ∃ (I3 : Int32 → Int32 → Int32 → HH → Prop) (μ3 : Int32 → Int32 → Int32 → HH → Nat), I3 (-1) 1000000000 0 H1 ∧ ∀ (z4 : Int32) (z5 : Int32) (z6 : Int32) (H7 : HH), I3 z4 z5 z6 H7 → ((6 ≤ z6 → (Q z4 H7)) ∧ (¬ 6 ≤ z6 → (c_Model_stateBehind E d x1 r2 (z6 / 3) ((xrem z6 3) - 1) H7 (fun r9 H8 => (r9 = (-1) → (I3 z4 z5 (z6 + 1) H8 ∧ μ3 z4 z5 (z6 + 1) H8 < μ3 z4 z5 z6 H7)) ∧ (¬ r9 = (-1) → (c_Model_seeks E d x1 r9 x2 H8 (fun H10 => c_Model_otherOf E d x1 H10 (fun r12 H11 => c_Model_leastTo E d r12 H11 (fun r14 H13 => ∃ J15 : Int32 → HH → Prop, ((¬ r14 = 1000000000 → (c_Model_costsStep E d r2 (z6 / 3) ((xrem z6 3) - 1) x2 H13 (fun r24 H23 => J15 (r14 + r24) H23))) ∧ (r14 = 1000000000 → (J15 1000000000 H13))) ∧ ∀ (y16 : Int32) (H17 : HH), J15 y16 H17 → ((z5 ≤ y16 → (∀ v19 : Int32, v19 = (if z5 ≤ y16 then z5 else y16 : Int32) → (I3 z4 v19 (z6 + 1) H17 ∧ μ3 z4 v19 (z6 + 1) H17 < μ3 z4 z5 z6 H7))) ∧ (¬ z5 ≤ y16 → (∀ v20 : Int32, v20 = ((10 * (z6 / 3)) + (xrem z6 3)) → (∀ v22 : Int32, v22 = (if z5 ≤ y16 then z5 else y16 : Int32) → (I3 v20 v22 (z6 + 1) H17 ∧ μ3 v20 v22 (z6 + 1) H17 < μ3 z4 z5 z6 H7)))))))))))))))
set_option maxHeartbeats 4000000 in
theorem l_Model_firstStep {E : XE} {d : Nat} {x1 : Int32} {x2 : Int32} {H : HH} {Q : Int32 → HH → Prop} (h : p_Model_firstStep E d x1 x2 H Q) : c_Model_firstStep E (d + 1) x1 x2 H Q := by
  show g_Model_firstStep E (d + 1) 0 (xent [vr 30 0, vi x1, vi x2]) [] H (qi Q)
  refine g_drop (ls2 := [some (vr 30 0), some (vi x1), some (vi x2), none, none, none, none, none, none]) (And.intro rfl (And.intro rfl (And.intro rfl trivial))) ?_
  refine g_iconst (n := (-1)) (v := (-1)) (by decide +kernel) (by decide) ?_
  refine g_istore_n (q := 3) (i := 3) (ls2 := [some (vr 30 0), some (vi x1), some (vi x2), some (vi (-1)), none, none, none, none, none]) (by decide +kernel) rfl (by decide) rfl rfl ?_
  refine g_ldc (v := 1000000000) (by decide +kernel) kw_1265 ?_
  refine g_istore (i := 4) (ls2 := [some (vr 30 0), some (vi x1), some (vi x2), some (vi (-1)), some (vi 1000000000), none, none, none, none]) (by decide +kernel) (by decide) rfl rfl ?_
  refine g_aload_n (q := 0) (i := 0) (by decide +kernel) rfl rfl ?_
  refine g_iload_n (q := 1) (i := 1) (by decide +kernel) rfl rfl ?_
  refine g_callV (kd := 30) (ix := 0) (ci := 10) (N := 39) (T := xT_Model) (vs := [vi x1]) (st := []) (by decide +kernel) xm_Model_stateOf kw_1266 kw_1268 kw_52 (by decide) rfl rfl rfl rfl (Nat.le_of_ble_eq_true rfl) (Nat.le_of_ble_eq_true rfl) h (fun vH1 H1 hq => ?_)
  obtain ⟨r2, rfl, h⟩ := hq
  refine g_istore (i := 5) (ls2 := [some (vr 30 0), some (vi x1), some (vi x2), some (vi (-1)), some (vi 1000000000), some (vi r2), none, none, none]) (by decide +kernel) (by decide) rfl rfl ?_
  refine g_iconst (n := 0) (v := 0) (by decide +kernel) (by decide) ?_
  refine g_istore (i := 6) (ls2 := [some (vr 30 0), some (vi x1), some (vi x2), some (vi (-1)), some (vi 1000000000), some (vi r2), some (vi 0), none, none]) (by decide +kernel) (by decide) rfl rfl ?_
  refine g_drop (ls2 := [some (vr 30 0), some (vi x1), some (vi x2), some (vi (-1)), some (vi 1000000000), some (vi r2), some (vi 0), none, none]) (And.intro rfl (And.intro rfl (And.intro rfl (And.intro rfl (And.intro rfl (And.intro rfl (And.intro rfl trivial))))))) ?_
  obtain ⟨I3, μ3, h0, h⟩ := h
  refine xloop (σ := Int32 × Int32 × Int32) (fun s H => I3 s.1 s.2.1 s.2.2 H) (fun s H => μ3 s.1 s.2.1 s.2.2 H) (fun s H => g_Model_firstStep E (d + 1) 16 [some (vr 30 0), some (vi x1), some (vi x2), some (vi s.1), some (vi s.2.1), some (vi r2), some (vi s.2.2), none, none] [] H (qi Q)) (fun s H7 hI ih3 => ?_) ((-1), 1000000000, 0) H1 h0
  obtain ⟨z4, z5, z6⟩ := s
  replace h := h z4 z5 z6 H7 hI
  refine g_iload (i := 6) (by decide +kernel) rfl ?_
  refine g_bipush (n := 6) (v := 6) (by decide +kernel) (by decide) ?_
  refine g_icmp_ge (off := 127) (tgt := 147) (by decide +kernel) (by decide) (fun c => ?_) (fun c => ?_)
  · replace h := h.1 c
    refine g_iload_n (q := 3) (i := 3) (by decide +kernel) rfl rfl ?_
    exact g_iret (by decide +kernel) rfl ⟨_, rfl, h⟩
  · replace h := h.2 c
    refine g_aload_n (q := 0) (i := 0) (by decide +kernel) rfl rfl ?_
    refine g_iload_n (q := 1) (i := 1) (by decide +kernel) rfl rfl ?_
    refine g_iload (i := 5) (by decide +kernel) rfl ?_
    refine g_iload (i := 6) (by decide +kernel) rfl ?_
    refine g_iconst (n := 3) (v := 3) (by decide +kernel) (by decide) ?_
    refine g_idiv (by decide +kernel) (by decide) ?_
    refine g_iload (i := 6) (by decide +kernel) rfl ?_
    refine g_iconst (n := 3) (v := 3) (by decide +kernel) (by decide) ?_
    refine g_irem (by decide +kernel) (by decide) ?_
    refine g_iconst (n := 1) (v := 1) (by decide +kernel) (by decide) ?_
    refine g_isub (by decide +kernel) ?_
    refine g_callV (kd := 30) (ix := 0) (ci := 10) (N := 39) (T := xT_Model) (vs := [vi x1, vi r2, vi (z6 / 3), vi ((xrem z6 3) - 1)]) (st := []) (by decide +kernel) xm_Model_stateBehind kw_1270 kw_1272 kw_53 (by decide) rfl rfl rfl rfl (Nat.le_of_ble_eq_true rfl) (Nat.le_of_ble_eq_true rfl) h (fun vH8 H8 hq => ?_)
    obtain ⟨r9, rfl, h⟩ := hq
    refine g_istore (i := 7) (ls2 := [some (vr 30 0), some (vi x1), some (vi x2), some (vi z4), some (vi z5), some (vi r2), some (vi z6), some (vi r9), none]) (by decide +kernel) (by decide) rfl rfl ?_
    refine g_iload (i := 7) (by decide +kernel) rfl ?_
    refine g_iconst (n := (-1)) (v := (-1)) (by decide +kernel) (by decide) ?_
    refine g_icmp_eq (off := 96) (tgt := 141) (by decide +kernel) (by decide) (fun c => ?_) (fun c => ?_)
    · replace h := h.1 c
      refine g_iinc (i := 6) (n := 1) (v := (z6 + 1)) (ls2 := [some (vr 30 0), some (vi x1), some (vi x2), some (vi z4), some (vi z5), some (vi r2), some (vi (z6 + 1)), some (vi r9), none]) (by decide +kernel) rfl rfl (by decide) rfl rfl ?_
      refine g_goto (off := (-128)) (tgt := 16) (by decide +kernel) (by decide) ?_
      obtain ⟨hI, hlt⟩ := h
      exact g_drop (ls2 := [some (vr 30 0), some (vi x1), some (vi x2), some (vi z4), some (vi z5), some (vi r2), some (vi (z6 + 1)), none, none]) (And.intro rfl (And.intro rfl (And.intro rfl (And.intro rfl (And.intro rfl (And.intro rfl (And.intro rfl trivial))))))) (ih3 (z4, z5, (z6 + 1)) H8 hI hlt)
    · replace h := h.2 c
      refine g_aload_n (q := 0) (i := 0) (by decide +kernel) rfl rfl ?_
      refine g_iload_n (q := 1) (i := 1) (by decide +kernel) rfl rfl ?_
      refine g_iload (i := 7) (by decide +kernel) rfl ?_
      refine g_iload_n (q := 2) (i := 2) (by decide +kernel) rfl rfl ?_
      refine g_callV (kd := 30) (ix := 0) (ci := 10) (N := 39) (T := xT_Model) (vs := [vi x1, vi r9, vi x2]) (st := []) (by decide +kernel) xm_Model_seeks kw_1274 kw_1276 kw_54 (by decide) rfl rfl rfl rfl (Nat.le_of_ble_eq_true rfl) (Nat.le_of_ble_eq_true rfl) h (fun vH10 H10 hq => ?_)
      replace h := hq
      refine g_aload_n (q := 0) (i := 0) (by decide +kernel) rfl rfl ?_
      refine g_aload_n (q := 0) (i := 0) (by decide +kernel) rfl rfl ?_
      refine g_iload_n (q := 1) (i := 1) (by decide +kernel) rfl rfl ?_
      refine g_callV (kd := 30) (ix := 0) (ci := 10) (N := 39) (T := xT_Model) (vs := [vi x1]) (st := [vr 30 0]) (by decide +kernel) xm_Model_otherOf kw_1282 kw_1284 kw_56 (by decide) rfl rfl rfl rfl (Nat.le_of_ble_eq_true rfl) (Nat.le_of_ble_eq_true rfl) h (fun vH11 H11 hq => ?_)
      obtain ⟨r12, rfl, h⟩ := hq
      refine g_callV (kd := 30) (ix := 0) (ci := 10) (N := 39) (T := xT_Model) (vs := [vi r12]) (st := []) (by decide +kernel) xm_Model_leastTo kw_1286 kw_1288 kw_57 (by decide) rfl rfl rfl rfl (Nat.le_of_ble_eq_true rfl) (Nat.le_of_ble_eq_true rfl) h (fun vH13 H13 hq => ?_)
      obtain ⟨r14, rfl, h⟩ := hq
      refine g_istore (i := 8) (ls2 := [some (vr 30 0), some (vi x1), some (vi x2), some (vi z4), some (vi z5), some (vi r2), some (vi z6), some (vi r9), some (vi r14)]) (by decide +kernel) (by decide) rfl rfl ?_
      refine g_iload (i := 8) (by decide +kernel) rfl ?_
      refine g_ldc (v := 1000000000) (by decide +kernel) kw_1265 ?_
      obtain ⟨J15, h, hk15⟩ := h
      have hc15 : ∀ (y16 : Int32) (H17 : HH), J15 y16 H17 → g_Model_firstStep E (d + 1) 99 [some (vr 30 0), some (vi x1), some (vi x2), some (vi z4), some (vi z5), some (vi r2), some (vi z6), none, none] [vi y16] H17 (qi Q) := by
        intro y16 H17 h
        replace h := hk15 y16 H17 h
        refine g_istore (i := 8) (ls2 := [some (vr 30 0), some (vi x1), some (vi x2), some (vi z4), some (vi z5), some (vi r2), some (vi z6), none, some (vi y16)]) (by decide +kernel) (by decide) rfl rfl ?_
        refine g_iload (i := 8) (by decide +kernel) rfl ?_
        refine g_iload (i := 4) (by decide +kernel) rfl ?_
        refine g_icmp_ge (off := 18) (tgt := 123) (by decide +kernel) (by decide) (fun c => ?_) (fun c => ?_)
        · replace h := h.1 c
          refine g_iload_n (q := 3) (i := 3) (by decide +kernel) rfl rfl ?_
          refine g_istore_n (q := 3) (i := 3) (ls2 := [some (vr 30 0), some (vi x1), some (vi x2), some (vi z4), some (vi z5), some (vi r2), some (vi z6), none, some (vi y16)]) (by decide +kernel) rfl (by decide) rfl rfl ?_
          refine g_iload (i := 8) (by decide +kernel) rfl ?_
          refine g_iload (i := 4) (by decide +kernel) rfl ?_
          suffices hj18 : g_Model_firstStep E (d + 1) 139 [some (vr 30 0), some (vi x1), some (vi x2), some (vi z4), some (vi z5), some (vi r2), some (vi z6), none, some (vi y16)] [vi (if z5 ≤ y16 then z5 else y16 : Int32)] H17 (qi Q) by
            refine g_icmp_ge (off := 8) (tgt := 137) (by decide +kernel) (by decide) (fun c => ?_) (fun c => ?_)
            · rw [if_pos c] at hj18
              refine g_iload (i := 4) (by decide +kernel) rfl ?_
              exact hj18
            · rw [if_neg c] at hj18
              refine g_iload (i := 8) (by decide +kernel) rfl ?_
              refine g_goto (off := 5) (tgt := 139) (by decide +kernel) (by decide) ?_
              exact hj18
          refine g_topi (fun v19 ev19 => ?_)
          replace h := h v19 ev19
          refine g_istore (i := 4) (ls2 := [some (vr 30 0), some (vi x1), some (vi x2), some (vi z4), some (vi v19), some (vi r2), some (vi z6), none, some (vi y16)]) (by decide +kernel) (by decide) rfl rfl ?_
          refine g_iinc (i := 6) (n := 1) (v := (z6 + 1)) (ls2 := [some (vr 30 0), some (vi x1), some (vi x2), some (vi z4), some (vi v19), some (vi r2), some (vi (z6 + 1)), none, some (vi y16)]) (by decide +kernel) rfl rfl (by decide) rfl rfl ?_
          refine g_goto (off := (-128)) (tgt := 16) (by decide +kernel) (by decide) ?_
          obtain ⟨hI, hlt⟩ := h
          exact g_drop (ls2 := [some (vr 30 0), some (vi x1), some (vi x2), some (vi z4), some (vi v19), some (vi r2), some (vi (z6 + 1)), none, none]) (And.intro rfl (And.intro rfl (And.intro rfl (And.intro rfl (And.intro rfl (And.intro rfl (And.intro rfl trivial))))))) (ih3 (z4, v19, (z6 + 1)) H17 hI hlt)
        · replace h := h.2 c
          refine g_bipush (n := 10) (v := 10) (by decide +kernel) (by decide) ?_
          refine g_iload (i := 6) (by decide +kernel) rfl ?_
          refine g_iconst (n := 3) (v := 3) (by decide +kernel) (by decide) ?_
          refine g_idiv (by decide +kernel) (by decide) ?_
          refine g_imul (by decide +kernel) ?_
          refine g_iload (i := 6) (by decide +kernel) rfl ?_
          refine g_iconst (n := 3) (v := 3) (by decide +kernel) (by decide) ?_
          refine g_irem (by decide +kernel) (by decide) ?_
          refine g_iadd (by decide +kernel) ?_
          refine g_goto (off := 4) (tgt := 124) (by decide +kernel) (by decide) ?_
          refine g_topi (fun v20 ev20 => ?_)
          replace h := h v20 ev20
          refine g_istore_n (q := 3) (i := 3) (ls2 := [some (vr 30 0), some (vi x1), some (vi x2), some (vi v20), some (vi z5), some (vi r2), some (vi z6), none, some (vi y16)]) (by decide +kernel) rfl (by decide) rfl rfl ?_
          refine g_iload (i := 8) (by decide +kernel) rfl ?_
          refine g_iload (i := 4) (by decide +kernel) rfl ?_
          suffices hj21 : g_Model_firstStep E (d + 1) 139 [some (vr 30 0), some (vi x1), some (vi x2), some (vi v20), some (vi z5), some (vi r2), some (vi z6), none, some (vi y16)] [vi (if z5 ≤ y16 then z5 else y16 : Int32)] H17 (qi Q) by
            refine g_icmp_ge (off := 8) (tgt := 137) (by decide +kernel) (by decide) (fun c => ?_) (fun c => ?_)
            · rw [if_pos c] at hj21
              refine g_iload (i := 4) (by decide +kernel) rfl ?_
              exact hj21
            · rw [if_neg c] at hj21
              refine g_iload (i := 8) (by decide +kernel) rfl ?_
              refine g_goto (off := 5) (tgt := 139) (by decide +kernel) (by decide) ?_
              exact hj21
          refine g_topi (fun v22 ev22 => ?_)
          replace h := h v22 ev22
          refine g_istore (i := 4) (ls2 := [some (vr 30 0), some (vi x1), some (vi x2), some (vi v20), some (vi v22), some (vi r2), some (vi z6), none, some (vi y16)]) (by decide +kernel) (by decide) rfl rfl ?_
          refine g_iinc (i := 6) (n := 1) (v := (z6 + 1)) (ls2 := [some (vr 30 0), some (vi x1), some (vi x2), some (vi v20), some (vi v22), some (vi r2), some (vi (z6 + 1)), none, some (vi y16)]) (by decide +kernel) rfl rfl (by decide) rfl rfl ?_
          refine g_goto (off := (-128)) (tgt := 16) (by decide +kernel) (by decide) ?_
          obtain ⟨hI, hlt⟩ := h
          exact g_drop (ls2 := [some (vr 30 0), some (vi x1), some (vi x2), some (vi v20), some (vi v22), some (vi r2), some (vi (z6 + 1)), none, none]) (And.intro rfl (And.intro rfl (And.intro rfl (And.intro rfl (And.intro rfl (And.intro rfl (And.intro rfl trivial))))))) (ih3 (v20, v22, (z6 + 1)) H17 hI hlt)
      refine g_icmp_ne (off := 8) (tgt := 79) (by decide +kernel) (by decide) (fun c => ?_) (fun c => ?_)
      · replace h := h.1 c
        refine g_iload (i := 8) (by decide +kernel) rfl ?_
        refine g_aload_n (q := 0) (i := 0) (by decide +kernel) rfl rfl ?_
        refine g_iload (i := 5) (by decide +kernel) rfl ?_
        refine g_iload (i := 6) (by decide +kernel) rfl ?_
        refine g_iconst (n := 3) (v := 3) (by decide +kernel) (by decide) ?_
        refine g_idiv (by decide +kernel) (by decide) ?_
        refine g_iload (i := 6) (by decide +kernel) rfl ?_
        refine g_iconst (n := 3) (v := 3) (by decide +kernel) (by decide) ?_
        refine g_irem (by decide +kernel) (by decide) ?_
        refine g_iconst (n := 1) (v := 1) (by decide +kernel) (by decide) ?_
        refine g_isub (by decide +kernel) ?_
        refine g_iload_n (q := 2) (i := 2) (by decide +kernel) rfl rfl ?_
        refine g_callV (kd := 30) (ix := 0) (ci := 10) (N := 39) (T := xT_Model) (vs := [vi r2, vi (z6 / 3), vi ((xrem z6 3) - 1), vi x2]) (st := [vi r14]) (by decide +kernel) xm_Model_costsStep kw_1278 kw_1280 kw_55 (by decide) rfl rfl rfl rfl (Nat.le_of_ble_eq_true rfl) (Nat.le_of_ble_eq_true rfl) h (fun vH23 H23 hq => ?_)
        obtain ⟨r24, rfl, h⟩ := hq
        refine g_iadd (by decide +kernel) ?_
        exact g_drop (ls2 := [some (vr 30 0), some (vi x1), some (vi x2), some (vi z4), some (vi z5), some (vi r2), some (vi z6), none, none]) (And.intro rfl (And.intro rfl (And.intro rfl (And.intro rfl (And.intro rfl (And.intro rfl (And.intro rfl trivial))))))) (hc15 (r14 + r24) H23 h)
      · replace h := h.2 c
        refine g_ldc (v := 1000000000) (by decide +kernel) kw_1265 ?_
        refine g_goto (off := 23) (tgt := 99) (by decide +kernel) (by decide) ?_
        exact g_drop (ls2 := [some (vr 30 0), some (vi x1), some (vi x2), some (vi z4), some (vi z5), some (vi r2), some (vi z6), none, none]) (And.intro rfl (And.intro rfl (And.intro rfl (And.intro rfl (And.intro rfl (And.intro rfl (And.intro rfl trivial))))))) (hc15 1000000000 H13 h)
def p_Model_orNone (E : XE) (d : Nat) (x0 : Int32) (H : HH) (Q : Int32 → HH → Prop) : Prop := Q (if x0 = 1000000000 then (-1) else x0 : Int32) H
set_option maxHeartbeats 4000000 in
theorem l_Model_orNone {E : XE} {d : Nat} {x0 : Int32} {H : HH} {Q : Int32 → HH → Prop} (h : p_Model_orNone E d x0 H Q) : c_Model_orNone E d x0 H Q := by
  show g_Model_orNone E d 0 (xent [vi x0]) [] H (qi Q)
  refine g_drop (ls2 := [some (vi x0)]) (And.intro rfl trivial) ?_
  refine g_iload_n (q := 0) (i := 0) (by decide +kernel) rfl rfl ?_
  refine g_ldc (v := 1000000000) (by decide +kernel) kw_1265 ?_
  suffices hj1 : g_Model_orNone E d 11 [some (vi x0)] [vi (if x0 = 1000000000 then (-1) else x0 : Int32)] H (qi Q) by
    refine g_icmp_ne (off := 7) (tgt := 10) (by decide +kernel) (by decide) (fun c => ?_) (fun c => ?_)
    · rw [if_neg c] at hj1
      refine g_iload_n (q := 0) (i := 0) (by decide +kernel) rfl rfl ?_
      exact hj1
    · rw [if_pos c] at hj1
      refine g_iconst (n := (-1)) (v := (-1)) (by decide +kernel) (by decide) ?_
      refine g_goto (off := 4) (tgt := 11) (by decide +kernel) (by decide) ?_
      exact hj1
  exact g_iret (by decide +kernel) rfl ⟨_, rfl, h⟩
def p_Model_turned (E : XE) (d : Nat) (x1 : Int32) (x2 : Int32) (H : HH) (Q : Int32 → HH → Prop) : Prop := c_Model_isVehicle E d x1 H (fun r2 H1 => (¬ r2 = 0 → (c_Model_isGoal E d x2 H1 (fun r4 H3 => (¬ r4 = 0 → (c_Model_tellsLane E d x1 (if x2 ≤ 9 then 0 else 1 : Int32) H3 (fun H6 => (¬ (xrem x2 10) = 1 → (c_Model_stateOf E d x1 H6 (fun r8 H7 => c_Model_seeks E d x1 r8 (x2 / 10) H7 (fun H9 => c_Model_otherOf E d x1 H9 (fun r11 H10 => c_Model_leastTo E d r11 H10 (fun r13 H12 => c_Model_orNone E d r13 H12 (fun r15 H14 => Q r15 H14))))))) ∧ ((xrem x2 10) = 1 → (c_Model_firstStep E d x1 (x2 / 10) H6 (fun r17 H16 => Q r17 H16)))))) ∧ (r4 = 0 → (Q (-7) H3))))) ∧ (r2 = 0 → (Q (-5) H1)))
set_option maxHeartbeats 4000000 in
theorem l_Model_turned {E : XE} {d : Nat} {x1 : Int32} {x2 : Int32} {H : HH} {Q : Int32 → HH → Prop} (h : p_Model_turned E d x1 x2 H Q) : c_Model_turned E (d + 1) x1 x2 H Q := by
  show g_Model_turned E (d + 1) 0 (xent [vr 30 0, vi x1, vi x2]) [] H (qi Q)
  refine g_drop (ls2 := [some (vr 30 0), some (vi x1), some (vi x2)]) (And.intro rfl (And.intro rfl (And.intro rfl trivial))) ?_
  refine g_aload_n (q := 0) (i := 0) (by decide +kernel) rfl rfl ?_
  refine g_iload_n (q := 1) (i := 1) (by decide +kernel) rfl rfl ?_
  refine g_callV (kd := 30) (ix := 0) (ci := 10) (N := 39) (T := xT_Model) (vs := [vi x1]) (st := []) (by decide +kernel) xm_Model_isVehicle kw_1202 kw_1204 kw_43 (by decide) rfl rfl rfl rfl (Nat.le_of_ble_eq_true rfl) (Nat.le_of_ble_eq_true rfl) h (fun vH1 H1 hq => ?_)
  obtain ⟨r2, rfl, h⟩ := hq
  refine g_if_ne (off := 6) (tgt := 11) (by decide +kernel) (by decide) (fun c => ?_) (fun c => ?_)
  · replace h := h.1 c
    refine g_iload_n (q := 2) (i := 2) (by decide +kernel) rfl rfl ?_
    refine g_callS (vs := [vi x2]) (st := []) (by decide +kernel) xm_Model_isGoal kw_1254 kw_1255 rfl rfl (Nat.le_of_ble_eq_true rfl) (Nat.le_of_ble_eq_true rfl) h (fun vH3 H3 hq => ?_)
    obtain ⟨r4, rfl, h⟩ := hq
    refine g_if_ne (off := 6) (tgt := 21) (by decide +kernel) (by decide) (fun c => ?_) (fun c => ?_)
    · replace h := h.1 c
      refine g_aload_n (q := 0) (i := 0) (by decide +kernel) rfl rfl ?_
      refine g_iload_n (q := 1) (i := 1) (by decide +kernel) rfl rfl ?_
      refine g_iload_n (q := 2) (i := 2) (by decide +kernel) rfl rfl ?_
      refine g_bipush (n := 9) (v := 9) (by decide +kernel) (by decide) ?_
      suffices hj5 : g_Model_turned E (d + 1) 34 [some (vr 30 0), some (vi x1), some (vi x2)] [vi (if x2 ≤ 9 then 0 else 1 : Int32), vi x1, vr 30 0] H3 (qi Q) by
        refine g_icmp_le (off := 7) (tgt := 33) (by decide +kernel) (by decide) (fun c => ?_) (fun c => ?_)
        · rw [if_pos c] at hj5
          refine g_iconst (n := 0) (v := 0) (by decide +kernel) (by decide) ?_
          exact hj5
        · rw [if_neg c] at hj5
          refine g_iconst (n := 1) (v := 1) (by decide +kernel) (by decide) ?_
          refine g_goto (off := 4) (tgt := 34) (by decide +kernel) (by decide) ?_
          exact hj5
      refine g_callV (kd := 30) (ix := 0) (ci := 10) (N := 39) (T := xT_Model) (vs := [vi x1, vi (if x2 ≤ 9 then 0 else 1 : Int32)]) (st := []) (by decide +kernel) xm_Model_tellsLane kw_1257 kw_1259 kw_50 (by decide) rfl rfl rfl rfl (Nat.le_of_ble_eq_true rfl) (Nat.le_of_ble_eq_true rfl) h (fun vH6 H6 hq => ?_)
      replace h := hq
      refine g_iload_n (q := 2) (i := 2) (by decide +kernel) rfl rfl ?_
      refine g_bipush (n := 10) (v := 10) (by decide +kernel) (by decide) ?_
      refine g_irem (by decide +kernel) (by decide) ?_
      refine g_iconst (n := 1) (v := 1) (by decide +kernel) (by decide) ?_
      refine g_icmp_ne (off := 13) (tgt := 55) (by decide +kernel) (by decide) (fun c => ?_) (fun c => ?_)
      · replace h := h.1 c
        refine g_aload_n (q := 0) (i := 0) (by decide +kernel) rfl rfl ?_
        refine g_iload_n (q := 1) (i := 1) (by decide +kernel) rfl rfl ?_
        refine g_aload_n (q := 0) (i := 0) (by decide +kernel) rfl rfl ?_
        refine g_iload_n (q := 1) (i := 1) (by decide +kernel) rfl rfl ?_
        refine g_callV (kd := 30) (ix := 0) (ci := 10) (N := 39) (T := xT_Model) (vs := [vi x1]) (st := [vi x1, vr 30 0]) (by decide +kernel) xm_Model_stateOf kw_1266 kw_1268 kw_52 (by decide) rfl rfl rfl rfl (Nat.le_of_ble_eq_true rfl) (Nat.le_of_ble_eq_true rfl) h (fun vH7 H7 hq => ?_)
        obtain ⟨r8, rfl, h⟩ := hq
        refine g_iload_n (q := 2) (i := 2) (by decide +kernel) rfl rfl ?_
        refine g_bipush (n := 10) (v := 10) (by decide +kernel) (by decide) ?_
        refine g_idiv (by decide +kernel) (by decide) ?_
        refine g_callV (kd := 30) (ix := 0) (ci := 10) (N := 39) (T := xT_Model) (vs := [vi x1, vi r8, vi (x2 / 10)]) (st := []) (by decide +kernel) xm_Model_seeks kw_1274 kw_1276 kw_54 (by decide) rfl rfl rfl rfl (Nat.le_of_ble_eq_true rfl) (Nat.le_of_ble_eq_true rfl) h (fun vH9 H9 hq => ?_)
        replace h := hq
        refine g_aload_n (q := 0) (i := 0) (by decide +kernel) rfl rfl ?_
        refine g_aload_n (q := 0) (i := 0) (by decide +kernel) rfl rfl ?_
        refine g_iload_n (q := 1) (i := 1) (by decide +kernel) rfl rfl ?_
        refine g_callV (kd := 30) (ix := 0) (ci := 10) (N := 39) (T := xT_Model) (vs := [vi x1]) (st := [vr 30 0]) (by decide +kernel) xm_Model_otherOf kw_1282 kw_1284 kw_56 (by decide) rfl rfl rfl rfl (Nat.le_of_ble_eq_true rfl) (Nat.le_of_ble_eq_true rfl) h (fun vH10 H10 hq => ?_)
        obtain ⟨r11, rfl, h⟩ := hq
        refine g_callV (kd := 30) (ix := 0) (ci := 10) (N := 39) (T := xT_Model) (vs := [vi r11]) (st := []) (by decide +kernel) xm_Model_leastTo kw_1286 kw_1288 kw_57 (by decide) rfl rfl rfl rfl (Nat.le_of_ble_eq_true rfl) (Nat.le_of_ble_eq_true rfl) h (fun vH12 H12 hq => ?_)
        obtain ⟨r13, rfl, h⟩ := hq
        refine g_callS (vs := [vi r13]) (st := []) (by decide +kernel) xm_Model_orNone kw_1290 kw_1291 rfl rfl (Nat.le_of_ble_eq_true rfl) (Nat.le_of_ble_eq_true rfl) h (fun vH14 H14 hq => ?_)
        obtain ⟨r15, rfl, h⟩ := hq
        exact g_iret (by decide +kernel) rfl ⟨_, rfl, h⟩
      · replace h := h.2 c
        refine g_aload_n (q := 0) (i := 0) (by decide +kernel) rfl rfl ?_
        refine g_iload_n (q := 1) (i := 1) (by decide +kernel) rfl rfl ?_
        refine g_iload_n (q := 2) (i := 2) (by decide +kernel) rfl rfl ?_
        refine g_bipush (n := 10) (v := 10) (by decide +kernel) (by decide) ?_
        refine g_idiv (by decide +kernel) (by decide) ?_
        refine g_callV (kd := 30) (ix := 0) (ci := 10) (N := 39) (T := xT_Model) (vs := [vi x1, vi (x2 / 10)]) (st := []) (by decide +kernel) xm_Model_firstStep kw_1261 kw_1263 kw_51 (by decide) rfl rfl rfl rfl (Nat.le_of_ble_eq_true rfl) (Nat.le_of_ble_eq_true rfl) h (fun vH16 H16 hq => ?_)
        obtain ⟨r17, rfl, h⟩ := hq
        exact g_iret (by decide +kernel) rfl ⟨_, rfl, h⟩
    · replace h := h.2 c
      refine g_bipush (n := (-7)) (v := (-7)) (by decide +kernel) (by decide) ?_
      exact g_iret (by decide +kernel) rfl ⟨_, rfl, h⟩
  · replace h := h.2 c
    refine g_bipush (n := (-5)) (v := (-5)) (by decide +kernel) (by decide) ?_
    exact g_iret (by decide +kernel) rfl ⟨_, rfl, h⟩
def p_Model_fromBegin (E : XE) (d : Nat) (x1 : Int32) (x2 : Int32) (x3 : Int32) (H : HH) (Q : Int32 → HH → Prop) : Prop := vp_in (16 * x2) 976 ∧ ((¬ (H 48 0 ((16 * x2).toNatClampNeg)) = 0 → (c_Model_seeks E d x1 ((48 * x2) + 2) x3 H (fun H1 => c_Model_leastTo E d 8 H1 (fun r3 H2 => Q r3 H2)))) ∧ ((H 48 0 ((16 * x2).toNatClampNeg)) = 0 → (Q 1000000000 H)))
set_option maxHeartbeats 4000000 in
theorem l_Model_fromBegin {E : XE} {d : Nat} {x1 : Int32} {x2 : Int32} {x3 : Int32} {H : HH} {Q : Int32 → HH → Prop} (h : p_Model_fromBegin E d x1 x2 x3 H Q) : c_Model_fromBegin E (d + 1) x1 x2 x3 H Q := by
  show g_Model_fromBegin E (d + 1) 0 (xent [vr 30 0, vi x1, vi x2, vi x3]) [] H (qi Q)
  refine g_drop (ls2 := [some (vr 30 0), some (vi x1), some (vi x2), some (vi x3)]) (And.intro rfl (And.intro rfl (And.intro rfl (And.intro rfl trivial)))) ?_
  refine g_aload_n (q := 0) (i := 0) (by decide +kernel) rfl rfl ?_
  refine g_get (C := "ThreePointsModel") (T := xT_Model) (N := 39) (ci := 10) (k := 31) (v := vr 48 0) (by decide +kernel) (by decide) rfl rfl xi_Model (by decide) kw_1057 rfl ?_
  refine g_bipush (n := 16) (v := 16) (by decide +kernel) (by decide) ?_
  refine g_iload_n (q := 2) (i := 2) (by decide +kernel) rfl rfl ?_
  refine g_imul (by decide +kernel) ?_
  obtain ⟨hin, h⟩ := h
  refine g_zald (by decide +kernel) (by decide) rfl hin ?_
  refine g_if_ne (off := 6) (tgt := 15) (by decide +kernel) (by decide) (fun c => ?_) (fun c => ?_)
  · replace h := h.1 c
    refine g_aload_n (q := 0) (i := 0) (by decide +kernel) rfl rfl ?_
    refine g_iload_n (q := 1) (i := 1) (by decide +kernel) rfl rfl ?_
    refine g_bipush (n := 48) (v := 48) (by decide +kernel) (by decide) ?_
    refine g_iload_n (q := 2) (i := 2) (by decide +kernel) rfl rfl ?_
    refine g_imul (by decide +kernel) ?_
    refine g_iconst (n := 2) (v := 2) (by decide +kernel) (by decide) ?_
    refine g_iadd (by decide +kernel) ?_
    refine g_iload_n (q := 3) (i := 3) (by decide +kernel) rfl rfl ?_
    refine g_callV (kd := 30) (ix := 0) (ci := 10) (N := 39) (T := xT_Model) (vs := [vi x1, vi ((48 * x2) + 2), vi x3]) (st := []) (by decide +kernel) xm_Model_seeks kw_1274 kw_1276 kw_54 (by decide) rfl rfl rfl rfl (Nat.le_of_ble_eq_true rfl) (Nat.le_of_ble_eq_true rfl) h (fun vH1 H1 hq => ?_)
    replace h := hq
    refine g_aload_n (q := 0) (i := 0) (by decide +kernel) rfl rfl ?_
    refine g_bipush (n := 8) (v := 8) (by decide +kernel) (by decide) ?_
    refine g_callV (kd := 30) (ix := 0) (ci := 10) (N := 39) (T := xT_Model) (vs := [vi 8]) (st := []) (by decide +kernel) xm_Model_leastTo kw_1286 kw_1288 kw_57 (by decide) rfl rfl rfl rfl (Nat.le_of_ble_eq_true rfl) (Nat.le_of_ble_eq_true rfl) h (fun vH2 H2 hq => ?_)
    obtain ⟨r3, rfl, h⟩ := hq
    exact g_iret (by decide +kernel) rfl ⟨_, rfl, h⟩
  · replace h := h.2 c
    refine g_ldc (v := 1000000000) (by decide +kernel) kw_1265 ?_
    exact g_iret (by decide +kernel) rfl ⟨_, rfl, h⟩
def p_Model_where (E : XE) (d : Nat) (x1 : Int32) (x2 : Int32) (H : HH) (Q : Int32 → HH → Prop) : Prop := c_Model_isVehicle E d x1 H (fun r2 H1 => (¬ r2 = 0 → (c_Model_isGoal E d x2 H1 (fun r4 H3 => (¬ r4 = 0 → (c_Model_tellsLane E d x1 (if x2 ≤ 9 then 0 else 1 : Int32) H3 (fun H6 => ∃ (I7 : Int32 → Int32 → Int32 → HH → Prop) (μ7 : Int32 → Int32 → Int32 → HH → Nat), I7 (-1) 1000000000 0 H6 ∧ ∀ (z8 : Int32) (z9 : Int32) (z10 : Int32) (H11 : HH), I7 z8 z9 z10 H11 → (((H11 30 0 1) < z10 → ((¬ (xrem x2 10) = 0 → (c_Model_orNone E d z9 H11 (fun r13 H12 => Q r13 H12))) ∧ ((xrem x2 10) = 0 → (Q z8 H11)))) ∧ (¬ (H11 30 0 1) < z10 → (c_Model_fromBegin E d x1 z10 (x2 / 10) H11 (fun r15 H14 => ∀ v17 : Int32, v17 = (if z9 ≤ r15 then z8 else z10 : Int32) → (∀ v19 : Int32, v19 = (if z9 ≤ r15 then z9 else r15 : Int32) → (I7 v17 v19 (z10 + 1) H14 ∧ μ7 v17 v19 (z10 + 1) H14 < μ7 z8 z9 z10 H11))))))))) ∧ (r4 = 0 → (Q (-7) H3))))) ∧ (r2 = 0 → (Q (-5) H1)))
set_option maxHeartbeats 4000000 in
theorem l_Model_where {E : XE} {d : Nat} {x1 : Int32} {x2 : Int32} {H : HH} {Q : Int32 → HH → Prop} (h : p_Model_where E d x1 x2 H Q) : c_Model_where E (d + 1) x1 x2 H Q := by
  show g_Model_where E (d + 1) 0 (xent [vr 30 0, vi x1, vi x2]) [] H (qi Q)
  refine g_drop (ls2 := [some (vr 30 0), some (vi x1), some (vi x2), none, none, none, none]) (And.intro rfl (And.intro rfl (And.intro rfl trivial))) ?_
  refine g_aload_n (q := 0) (i := 0) (by decide +kernel) rfl rfl ?_
  refine g_iload_n (q := 1) (i := 1) (by decide +kernel) rfl rfl ?_
  refine g_callV (kd := 30) (ix := 0) (ci := 10) (N := 39) (T := xT_Model) (vs := [vi x1]) (st := []) (by decide +kernel) xm_Model_isVehicle kw_1202 kw_1204 kw_43 (by decide) rfl rfl rfl rfl (Nat.le_of_ble_eq_true rfl) (Nat.le_of_ble_eq_true rfl) h (fun vH1 H1 hq => ?_)
  obtain ⟨r2, rfl, h⟩ := hq
  refine g_if_ne (off := 6) (tgt := 11) (by decide +kernel) (by decide) (fun c => ?_) (fun c => ?_)
  · replace h := h.1 c
    refine g_iload_n (q := 2) (i := 2) (by decide +kernel) rfl rfl ?_
    refine g_callS (vs := [vi x2]) (st := []) (by decide +kernel) xm_Model_isGoal kw_1254 kw_1255 rfl rfl (Nat.le_of_ble_eq_true rfl) (Nat.le_of_ble_eq_true rfl) h (fun vH3 H3 hq => ?_)
    obtain ⟨r4, rfl, h⟩ := hq
    refine g_if_ne (off := 6) (tgt := 21) (by decide +kernel) (by decide) (fun c => ?_) (fun c => ?_)
    · replace h := h.1 c
      refine g_aload_n (q := 0) (i := 0) (by decide +kernel) rfl rfl ?_
      refine g_iload_n (q := 1) (i := 1) (by decide +kernel) rfl rfl ?_
      refine g_iload_n (q := 2) (i := 2) (by decide +kernel) rfl rfl ?_
      refine g_bipush (n := 9) (v := 9) (by decide +kernel) (by decide) ?_
      suffices hj5 : g_Model_where E (d + 1) 34 [some (vr 30 0), some (vi x1), some (vi x2), none, none, none, none] [vi (if x2 ≤ 9 then 0 else 1 : Int32), vi x1, vr 30 0] H3 (qi Q) by
        refine g_icmp_le (off := 7) (tgt := 33) (by decide +kernel) (by decide) (fun c => ?_) (fun c => ?_)
        · rw [if_pos c] at hj5
          refine g_iconst (n := 0) (v := 0) (by decide +kernel) (by decide) ?_
          exact hj5
        · rw [if_neg c] at hj5
          refine g_iconst (n := 1) (v := 1) (by decide +kernel) (by decide) ?_
          refine g_goto (off := 4) (tgt := 34) (by decide +kernel) (by decide) ?_
          exact hj5
      refine g_callV (kd := 30) (ix := 0) (ci := 10) (N := 39) (T := xT_Model) (vs := [vi x1, vi (if x2 ≤ 9 then 0 else 1 : Int32)]) (st := []) (by decide +kernel) xm_Model_tellsLane kw_1257 kw_1259 kw_50 (by decide) rfl rfl rfl rfl (Nat.le_of_ble_eq_true rfl) (Nat.le_of_ble_eq_true rfl) h (fun vH6 H6 hq => ?_)
      replace h := hq
      refine g_iconst (n := (-1)) (v := (-1)) (by decide +kernel) (by decide) ?_
      refine g_istore_n (q := 3) (i := 3) (ls2 := [some (vr 30 0), some (vi x1), some (vi x2), some (vi (-1)), none, none, none]) (by decide +kernel) rfl (by decide) rfl rfl ?_
      refine g_ldc (v := 1000000000) (by decide +kernel) kw_1265 ?_
      refine g_istore (i := 4) (ls2 := [some (vr 30 0), some (vi x1), some (vi x2), some (vi (-1)), some (vi 1000000000), none, none]) (by decide +kernel) (by decide) rfl rfl ?_
      refine g_iconst (n := 0) (v := 0) (by decide +kernel) (by decide) ?_
      refine g_istore (i := 5) (ls2 := [some (vr 30 0), some (vi x1), some (vi x2), some (vi (-1)), some (vi 1000000000), some (vi 0), none]) (by decide +kernel) (by decide) rfl rfl ?_
      refine g_drop (ls2 := [some (vr 30 0), some (vi x1), some (vi x2), some (vi (-1)), some (vi 1000000000), some (vi 0), none]) (And.intro rfl (And.intro rfl (And.intro rfl (And.intro rfl (And.intro rfl (And.intro rfl trivial)))))) ?_
      obtain ⟨I7, μ7, h0, h⟩ := h
      refine xloop (σ := Int32 × Int32 × Int32) (fun s H => I7 s.1 s.2.1 s.2.2 H) (fun s H => μ7 s.1 s.2.1 s.2.2 H) (fun s H => g_Model_where E (d + 1) 46 [some (vr 30 0), some (vi x1), some (vi x2), some (vi s.1), some (vi s.2.1), some (vi s.2.2), none] [] H (qi Q)) (fun s H11 hI ih7 => ?_) ((-1), 1000000000, 0) H6 h0
      obtain ⟨z8, z9, z10⟩ := s
      replace h := h z8 z9 z10 H11 hI
      refine g_iload (i := 5) (by decide +kernel) rfl ?_
      refine g_aload_n (q := 0) (i := 0) (by decide +kernel) rfl rfl ?_
      refine g_get (C := "ThreePointsModel") (T := xT_Model) (N := 39) (ci := 10) (k := 1) (v := vi (H11 30 0 1)) (by decide +kernel) (by decide) rfl rfl xi_Model (by decide) kw_1027 rfl ?_
      refine g_icmp_gt (off := 52) (tgt := 104) (by decide +kernel) (by decide) (fun c => ?_) (fun c => ?_)
      · replace h := h.1 c
        refine g_iload_n (q := 2) (i := 2) (by decide +kernel) rfl rfl ?_
        refine g_bipush (n := 10) (v := 10) (by decide +kernel) (by decide) ?_
        refine g_irem (by decide +kernel) (by decide) ?_
        refine g_if_ne (off := 7) (tgt := 115) (by decide +kernel) (by decide) (fun c => ?_) (fun c => ?_)
        · replace h := h.1 c
          refine g_iload (i := 4) (by decide +kernel) rfl ?_
          refine g_callS (vs := [vi z9]) (st := []) (by decide +kernel) xm_Model_orNone kw_1290 kw_1291 rfl rfl (Nat.le_of_ble_eq_true rfl) (Nat.le_of_ble_eq_true rfl) h (fun vH12 H12 hq => ?_)
          obtain ⟨r13, rfl, h⟩ := hq
          exact g_iret (by decide +kernel) rfl ⟨_, rfl, h⟩
        · replace h := h.2 c
          refine g_iload_n (q := 3) (i := 3) (by decide +kernel) rfl rfl ?_
          refine g_goto (off := 8) (tgt := 120) (by decide +kernel) (by decide) ?_
          exact g_iret (by decide +kernel) rfl ⟨_, rfl, h⟩
      · replace h := h.2 c
        refine g_aload_n (q := 0) (i := 0) (by decide +kernel) rfl rfl ?_
        refine g_iload_n (q := 1) (i := 1) (by decide +kernel) rfl rfl ?_
        refine g_iload (i := 5) (by decide +kernel) rfl ?_
        refine g_iload_n (q := 2) (i := 2) (by decide +kernel) rfl rfl ?_
        refine g_bipush (n := 10) (v := 10) (by decide +kernel) (by decide) ?_
        refine g_idiv (by decide +kernel) (by decide) ?_
        refine g_callV (kd := 30) (ix := 0) (ci := 10) (N := 39) (T := xT_Model) (vs := [vi x1, vi z10, vi (x2 / 10)]) (st := []) (by decide +kernel) xm_Model_fromBegin kw_1297 kw_1299 kw_58 (by decide) rfl rfl rfl rfl (Nat.le_of_ble_eq_true rfl) (Nat.le_of_ble_eq_true rfl) h (fun vH14 H14 hq => ?_)
        obtain ⟨r15, rfl, h⟩ := hq
        refine g_istore (i := 6) (ls2 := [some (vr 30 0), some (vi x1), some (vi x2), some (vi z8), some (vi z9), some (vi z10), some (vi r15)]) (by decide +kernel) (by decide) rfl rfl ?_
        refine g_iload (i := 6) (by decide +kernel) rfl ?_
        refine g_iload (i := 4) (by decide +kernel) rfl ?_
        suffices hj16 : g_Model_where E (d + 1) 81 [some (vr 30 0), some (vi x1), some (vi x2), some (vi z8), some (vi z9), some (vi z10), some (vi r15)] [vi (if z9 ≤ r15 then z8 else z10 : Int32)] H14 (qi Q) by
          refine g_icmp_ge (off := 8) (tgt := 80) (by decide +kernel) (by decide) (fun c => ?_) (fun c => ?_)
          · rw [if_pos c] at hj16
            refine g_iload_n (q := 3) (i := 3) (by decide +kernel) rfl rfl ?_
            exact hj16
          · rw [if_neg c] at hj16
            refine g_iload (i := 5) (by decide +kernel) rfl ?_
            refine g_goto (off := 4) (tgt := 81) (by decide +kernel) (by decide) ?_
            exact hj16
        refine g_topi (fun v17 ev17 => ?_)
        replace h := h v17 ev17
        refine g_istore_n (q := 3) (i := 3) (ls2 := [some (vr 30 0), some (vi x1), some (vi x2), some (vi v17), some (vi z9), some (vi z10), some (vi r15)]) (by decide +kernel) rfl (by decide) rfl rfl ?_
        refine g_iload (i := 6) (by decide +kernel) rfl ?_
        refine g_iload (i := 4) (by decide +kernel) rfl ?_
        suffices hj18 : g_Model_where E (d + 1) 96 [some (vr 30 0), some (vi x1), some (vi x2), some (vi v17), some (vi z9), some (vi z10), some (vi r15)] [vi (if z9 ≤ r15 then z9 else r15 : Int32)] H14 (qi Q) by
          refine g_icmp_ge (off := 8) (tgt := 94) (by decide +kernel) (by decide) (fun c => ?_) (fun c => ?_)
          · rw [if_pos c] at hj18
            refine g_iload (i := 4) (by decide +kernel) rfl ?_
            exact hj18
          · rw [if_neg c] at hj18
            refine g_iload (i := 6) (by decide +kernel) rfl ?_
            refine g_goto (off := 5) (tgt := 96) (by decide +kernel) (by decide) ?_
            exact hj18
        refine g_topi (fun v19 ev19 => ?_)
        replace h := h v19 ev19
        refine g_istore (i := 4) (ls2 := [some (vr 30 0), some (vi x1), some (vi x2), some (vi v17), some (vi v19), some (vi z10), some (vi r15)]) (by decide +kernel) (by decide) rfl rfl ?_
        refine g_iinc (i := 5) (n := 1) (v := (z10 + 1)) (ls2 := [some (vr 30 0), some (vi x1), some (vi x2), some (vi v17), some (vi v19), some (vi (z10 + 1)), some (vi r15)]) (by decide +kernel) rfl rfl (by decide) rfl rfl ?_
        refine g_goto (off := (-55)) (tgt := 46) (by decide +kernel) (by decide) ?_
        obtain ⟨hI, hlt⟩ := h
        exact g_drop (ls2 := [some (vr 30 0), some (vi x1), some (vi x2), some (vi v17), some (vi v19), some (vi (z10 + 1)), none]) (And.intro rfl (And.intro rfl (And.intro rfl (And.intro rfl (And.intro rfl (And.intro rfl trivial)))))) (ih7 (v17, v19, (z10 + 1)) H14 hI hlt)
    · replace h := h.2 c
      refine g_bipush (n := (-7)) (v := (-7)) (by decide +kernel) (by decide) ?_
      exact g_iret (by decide +kernel) rfl ⟨_, rfl, h⟩
  · replace h := h.2 c
    refine g_bipush (n := (-5)) (v := (-5)) (by decide +kernel) (by decide) ?_
    exact g_iret (by decide +kernel) rfl ⟨_, rfl, h⟩
def p_Model_narrow (E : XE) (d : Nat) (x1 : Int32) (x2 : Int32) (H : HH) (Q : Int32 → HH → Prop) : Prop := c_Model_isVehicle E d x1 H (fun r2 H1 => (¬ r2 = 0 → (c_Model_in E d x2 1 99 H1 (fun r4 H3 => (¬ r4 = 0 → (∃ (I5 : Int32 → Int32 → HH → Prop) (μ5 : Int32 → Int32 → HH → Nat), I5 (-1) 8 H3 ∧ ∀ (z6 : Int32) (z7 : Int32) (H8 : HH), I5 z6 z7 H8 → ((60 < z7 → (∀ H9 : HH, H9 = (hu H8 30 0 1 (H3 30 0 1)) → (Q z6 H9))) ∧ (¬ 60 < z7 → ((¬ z6 = (-1) → (∀ H10 : HH, H10 = (hu H8 30 0 1 (H3 30 0 1)) → (Q z6 H10))) ∧ (z6 = (-1) → (∀ H11 : HH, H11 = (hu H8 30 0 1 z7) → (c_Model_tellsLane E d x1 0 H11 (fun H12 => c_Model_fromBegin E d x1 (z7 / 2) 0 H12 (fun r14 H13 => ∀ v16 : Int32, v16 = (if x2 < r14 then (-1) else z7 : Int32) → (I5 v16 (z7 + 1) H13 ∧ μ5 v16 (z7 + 1) H13 < μ5 z6 z7 H8))))))))))) ∧ (r4 = 0 → (Q (-7) H3))))) ∧ (r2 = 0 → (Q (-5) H1)))
set_option maxHeartbeats 4000000 in
theorem l_Model_narrow {E : XE} {d : Nat} {x1 : Int32} {x2 : Int32} {H : HH} {Q : Int32 → HH → Prop} (h : p_Model_narrow E d x1 x2 H Q) : c_Model_narrow E (d + 1) x1 x2 H Q := by
  show g_Model_narrow E (d + 1) 0 (xent [vr 30 0, vi x1, vi x2]) [] H (qi Q)
  refine g_drop (ls2 := [some (vr 30 0), some (vi x1), some (vi x2), none, none, none]) (And.intro rfl (And.intro rfl (And.intro rfl trivial))) ?_
  refine g_aload_n (q := 0) (i := 0) (by decide +kernel) rfl rfl ?_
  refine g_iload_n (q := 1) (i := 1) (by decide +kernel) rfl rfl ?_
  refine g_callV (kd := 30) (ix := 0) (ci := 10) (N := 39) (T := xT_Model) (vs := [vi x1]) (st := []) (by decide +kernel) xm_Model_isVehicle kw_1202 kw_1204 kw_43 (by decide) rfl rfl rfl rfl (Nat.le_of_ble_eq_true rfl) (Nat.le_of_ble_eq_true rfl) h (fun vH1 H1 hq => ?_)
  obtain ⟨r2, rfl, h⟩ := hq
  refine g_if_ne (off := 6) (tgt := 11) (by decide +kernel) (by decide) (fun c => ?_) (fun c => ?_)
  · replace h := h.1 c
    refine g_iload_n (q := 2) (i := 2) (by decide +kernel) rfl rfl ?_
    refine g_iconst (n := 1) (v := 1) (by decide +kernel) (by decide) ?_
    refine g_bipush (n := 99) (v := 99) (by decide +kernel) (by decide) ?_
    refine g_callS (vs := [vi x2, vi 1, vi 99]) (st := []) (by decide +kernel) xm_Model_in kw_987 kw_988 rfl rfl (Nat.le_of_ble_eq_true rfl) (Nat.le_of_ble_eq_true rfl) h (fun vH3 H3 hq => ?_)
    obtain ⟨r4, rfl, h⟩ := hq
    refine g_if_ne (off := 6) (tgt := 24) (by decide +kernel) (by decide) (fun c => ?_) (fun c => ?_)
    · replace h := h.1 c
      refine g_aload_n (q := 0) (i := 0) (by decide +kernel) rfl rfl ?_
      refine g_get (C := "ThreePointsModel") (T := xT_Model) (N := 39) (ci := 10) (k := 1) (v := vi (H3 30 0 1)) (by decide +kernel) (by decide) rfl rfl xi_Model (by decide) kw_1027 rfl ?_
      refine g_istore_n (q := 3) (i := 3) (ls2 := [some (vr 30 0), some (vi x1), some (vi x2), some (vi (H3 30 0 1)), none, none]) (by decide +kernel) rfl (by decide) rfl rfl ?_
      refine g_iconst (n := (-1)) (v := (-1)) (by decide +kernel) (by decide) ?_
      refine g_istore (i := 4) (ls2 := [some (vr 30 0), some (vi x1), some (vi x2), some (vi (H3 30 0 1)), some (vi (-1)), none]) (by decide +kernel) (by decide) rfl rfl ?_
      refine g_bipush (n := 8) (v := 8) (by decide +kernel) (by decide) ?_
      refine g_istore (i := 5) (ls2 := [some (vr 30 0), some (vi x1), some (vi x2), some (vi (H3 30 0 1)), some (vi (-1)), some (vi 8)]) (by decide +kernel) (by decide) rfl rfl ?_
      refine g_drop (ls2 := [some (vr 30 0), some (vi x1), some (vi x2), some (vi (H3 30 0 1)), some (vi (-1)), some (vi 8)]) (And.intro rfl (And.intro rfl (And.intro rfl (And.intro rfl (And.intro rfl (And.intro rfl trivial)))))) ?_
      obtain ⟨I5, μ5, h0, h⟩ := h
      refine xloop (σ := Int32 × Int32) (fun s H => I5 s.1 s.2 H) (fun s H => μ5 s.1 s.2 H) (fun s H => g_Model_narrow E (d + 1) 36 [some (vr 30 0), some (vi x1), some (vi x2), some (vi (H3 30 0 1)), some (vi s.1), some (vi s.2)] [] H (qi Q)) (fun s H8 hI ih5 => ?_) ((-1), 8) H3 h0
      obtain ⟨z6, z7⟩ := s
      replace h := h z6 z7 H8 hI
      refine g_iload (i := 5) (by decide +kernel) rfl ?_
      refine g_bipush (n := 60) (v := 60) (by decide +kernel) (by decide) ?_
      refine g_icmp_gt (off := 49) (tgt := 89) (by decide +kernel) (by decide) (fun c => ?_) (fun c => ?_)
      · replace h := h.1 c
        refine g_aload_n (q := 0) (i := 0) (by decide +kernel) rfl rfl ?_
        refine g_iload_n (q := 3) (i := 3) (by decide +kernel) rfl rfl ?_
        refine g_put (C := "ThreePointsModel") (T := xT_Model) (N := 39) (ci := 10) (k := 1) xy_Model (by decide +kernel) (by decide) rfl rfl xi_Model xy_Model_ok xn_Model (by decide) kw_1027 rfl (by decide +kernel) (fun _ => rfl) ?_
        refine g_iload (i := 4) (by decide +kernel) rfl ?_
        refine g_heap (fun H9 eH9 => ?_)
        replace h := h H9 eH9
        exact g_iret (by decide +kernel) rfl ⟨_, rfl, h⟩
      · replace h := h.2 c
        refine g_iload (i := 4) (by decide +kernel) rfl ?_
        refine g_iconst (n := (-1)) (v := (-1)) (by decide +kernel) (by decide) ?_
        refine g_icmp_ne (off := 43) (tgt := 89) (by decide +kernel) (by decide) (fun c => ?_) (fun c => ?_)
        · replace h := h.1 c
          refine g_aload_n (q := 0) (i := 0) (by decide +kernel) rfl rfl ?_
          refine g_iload_n (q := 3) (i := 3) (by decide +kernel) rfl rfl ?_
          refine g_put (C := "ThreePointsModel") (T := xT_Model) (N := 39) (ci := 10) (k := 1) xy_Model (by decide +kernel) (by decide) rfl rfl xi_Model xy_Model_ok xn_Model (by decide) kw_1027 rfl (by decide +kernel) (fun _ => rfl) ?_
          refine g_iload (i := 4) (by decide +kernel) rfl ?_
          refine g_heap (fun H10 eH10 => ?_)
          replace h := h H10 eH10
          exact g_iret (by decide +kernel) rfl ⟨_, rfl, h⟩
        · replace h := h.2 c
          refine g_aload_n (q := 0) (i := 0) (by decide +kernel) rfl rfl ?_
          refine g_iload (i := 5) (by decide +kernel) rfl ?_
          refine g_put (C := "ThreePointsModel") (T := xT_Model) (N := 39) (ci := 10) (k := 1) xy_Model (by decide +kernel) (by decide) rfl rfl xi_Model xy_Model_ok xn_Model (by decide) kw_1027 rfl (by decide +kernel) (fun _ => rfl) ?_
          refine g_aload_n (q := 0) (i := 0) (by decide +kernel) rfl rfl ?_
          refine g_iload_n (q := 1) (i := 1) (by decide +kernel) rfl rfl ?_
          refine g_iconst (n := 0) (v := 0) (by decide +kernel) (by decide) ?_
          refine g_heap (fun H11 eH11 => ?_)
          replace h := h H11 eH11
          refine g_callV (kd := 30) (ix := 0) (ci := 10) (N := 39) (T := xT_Model) (vs := [vi x1, vi 0]) (st := []) (by decide +kernel) xm_Model_tellsLane kw_1257 kw_1259 kw_50 (by decide) rfl rfl rfl rfl (Nat.le_of_ble_eq_true rfl) (Nat.le_of_ble_eq_true rfl) h (fun vH12 H12 hq => ?_)
          replace h := hq
          refine g_aload_n (q := 0) (i := 0) (by decide +kernel) rfl rfl ?_
          refine g_iload_n (q := 1) (i := 1) (by decide +kernel) rfl rfl ?_
          refine g_iload (i := 5) (by decide +kernel) rfl ?_
          refine g_iconst (n := 2) (v := 2) (by decide +kernel) (by decide) ?_
          refine g_idiv (by decide +kernel) (by decide) ?_
          refine g_iconst (n := 0) (v := 0) (by decide +kernel) (by decide) ?_
          refine g_callV (kd := 30) (ix := 0) (ci := 10) (N := 39) (T := xT_Model) (vs := [vi x1, vi (z7 / 2), vi 0]) (st := []) (by decide +kernel) xm_Model_fromBegin kw_1297 kw_1299 kw_58 (by decide) rfl rfl rfl rfl (Nat.le_of_ble_eq_true rfl) (Nat.le_of_ble_eq_true rfl) h (fun vH13 H13 hq => ?_)
          obtain ⟨r14, rfl, h⟩ := hq
          refine g_iload_n (q := 2) (i := 2) (by decide +kernel) rfl rfl ?_
          suffices hj15 : g_Model_narrow E (d + 1) 81 [some (vr 30 0), some (vi x1), some (vi x2), some (vi (H3 30 0 1)), some (vi z6), some (vi z7)] [vi (if x2 < r14 then (-1) else z7 : Int32)] H13 (qi Q) by
            refine g_icmp_gt (off := 8) (tgt := 80) (by decide +kernel) (by decide) (fun c => ?_) (fun c => ?_)
            · rw [if_pos c] at hj15
              refine g_iconst (n := (-1)) (v := (-1)) (by decide +kernel) (by decide) ?_
              exact hj15
            · rw [if_neg c] at hj15
              refine g_iload (i := 5) (by decide +kernel) rfl ?_
              refine g_goto (off := 4) (tgt := 81) (by decide +kernel) (by decide) ?_
              exact hj15
          refine g_topi (fun v16 ev16 => ?_)
          replace h := h v16 ev16
          refine g_istore (i := 4) (ls2 := [some (vr 30 0), some (vi x1), some (vi x2), some (vi (H3 30 0 1)), some (vi v16), some (vi z7)]) (by decide +kernel) (by decide) rfl rfl ?_
          refine g_iinc (i := 5) (n := 1) (v := (z7 + 1)) (ls2 := [some (vr 30 0), some (vi x1), some (vi x2), some (vi (H3 30 0 1)), some (vi v16), some (vi (z7 + 1))]) (by decide +kernel) rfl rfl (by decide) rfl rfl ?_
          refine g_goto (off := (-50)) (tgt := 36) (by decide +kernel) (by decide) ?_
          obtain ⟨hI, hlt⟩ := h
          exact g_drop (ls2 := [some (vr 30 0), some (vi x1), some (vi x2), some (vi (H3 30 0 1)), some (vi v16), some (vi (z7 + 1))]) (And.intro rfl (And.intro rfl (And.intro rfl (And.intro rfl (And.intro rfl (And.intro rfl trivial)))))) (ih5 (v16, (z7 + 1)) H13 hI hlt)
    · replace h := h.2 c
      refine g_bipush (n := (-7)) (v := (-7)) (by decide +kernel) (by decide) ?_
      exact g_iret (by decide +kernel) rfl ⟨_, rfl, h⟩
  · replace h := h.2 c
    refine g_bipush (n := (-5)) (v := (-5)) (by decide +kernel) (by decide) ?_
    exact g_iret (by decide +kernel) rfl ⟨_, rfl, h⟩
def p_Model_cut (E : XE) (d : Nat) (x1 : Int32) (x2 : Int32) (H : HH) (Q : Int32 → HH → Prop) : Prop := c_Model_isVehicle E d x1 H (fun r2 H1 => (¬ r2 = 0 → (c_Model_in E d x2 0 99 H1 (fun r4 H3 => (¬ r4 = 0 → (∃ (I5 : Int32 → Int32 → HH → Prop) (μ5 : Int32 → Int32 → HH → Nat), I5 (-1) 0 H3 ∧ ∀ (z6 : Int32) (z7 : Int32) (H8 : HH), I5 z6 z7 H8 → ((20 < z7 → (∀ H9 : HH, H9 = (hu H8 30 0 2 (H3 30 0 2)) → (Q z6 H9))) ∧ (¬ 20 < z7 → ((¬ z6 = (-1) → (∀ H10 : HH, H10 = (hu H8 30 0 2 (H3 30 0 2)) → (Q z6 H10))) ∧ (z6 = (-1) → (∀ H11 : HH, H11 = (hu H8 30 0 2 z7) → (c_Model_tellsLane E d x1 0 H11 (fun H12 => c_Model_stateOf E d x1 H12 (fun r14 H13 => c_Model_seeks E d x1 r14 0 H13 (fun H15 => c_Model_otherOf E d x1 H15 (fun r17 H16 => c_Model_leastTo E d r17 H16 (fun r19 H18 => ∀ v21 : Int32, v21 = (if x2 < r19 then (-1) else z7 : Int32) → (I5 v21 (z7 + 1) H18 ∧ μ5 v21 (z7 + 1) H18 < μ5 z6 z7 H8)))))))))))))) ∧ (r4 = 0 → (Q (-7) H3))))) ∧ (r2 = 0 → (Q (-5) H1)))
set_option maxHeartbeats 4000000 in
theorem l_Model_cut {E : XE} {d : Nat} {x1 : Int32} {x2 : Int32} {H : HH} {Q : Int32 → HH → Prop} (h : p_Model_cut E d x1 x2 H Q) : c_Model_cut E (d + 1) x1 x2 H Q := by
  show g_Model_cut E (d + 1) 0 (xent [vr 30 0, vi x1, vi x2]) [] H (qi Q)
  refine g_drop (ls2 := [some (vr 30 0), some (vi x1), some (vi x2), none, none, none]) (And.intro rfl (And.intro rfl (And.intro rfl trivial))) ?_
  refine g_aload_n (q := 0) (i := 0) (by decide +kernel) rfl rfl ?_
  refine g_iload_n (q := 1) (i := 1) (by decide +kernel) rfl rfl ?_
  refine g_callV (kd := 30) (ix := 0) (ci := 10) (N := 39) (T := xT_Model) (vs := [vi x1]) (st := []) (by decide +kernel) xm_Model_isVehicle kw_1202 kw_1204 kw_43 (by decide) rfl rfl rfl rfl (Nat.le_of_ble_eq_true rfl) (Nat.le_of_ble_eq_true rfl) h (fun vH1 H1 hq => ?_)
  obtain ⟨r2, rfl, h⟩ := hq
  refine g_if_ne (off := 6) (tgt := 11) (by decide +kernel) (by decide) (fun c => ?_) (fun c => ?_)
  · replace h := h.1 c
    refine g_iload_n (q := 2) (i := 2) (by decide +kernel) rfl rfl ?_
    refine g_iconst (n := 0) (v := 0) (by decide +kernel) (by decide) ?_
    refine g_bipush (n := 99) (v := 99) (by decide +kernel) (by decide) ?_
    refine g_callS (vs := [vi x2, vi 0, vi 99]) (st := []) (by decide +kernel) xm_Model_in kw_987 kw_988 rfl rfl (Nat.le_of_ble_eq_true rfl) (Nat.le_of_ble_eq_true rfl) h (fun vH3 H3 hq => ?_)
    obtain ⟨r4, rfl, h⟩ := hq
    refine g_if_ne (off := 6) (tgt := 24) (by decide +kernel) (by decide) (fun c => ?_) (fun c => ?_)
    · replace h := h.1 c
      refine g_aload_n (q := 0) (i := 0) (by decide +kernel) rfl rfl ?_
      refine g_get (C := "ThreePointsModel") (T := xT_Model) (N := 39) (ci := 10) (k := 2) (v := vi (H3 30 0 2)) (by decide +kernel) (by decide) rfl rfl xi_Model (by decide) kw_1028 rfl ?_
      refine g_istore_n (q := 3) (i := 3) (ls2 := [some (vr 30 0), some (vi x1), some (vi x2), some (vi (H3 30 0 2)), none, none]) (by decide +kernel) rfl (by decide) rfl rfl ?_
      refine g_iconst (n := (-1)) (v := (-1)) (by decide +kernel) (by decide) ?_
      refine g_istore (i := 4) (ls2 := [some (vr 30 0), some (vi x1), some (vi x2), some (vi (H3 30 0 2)), some (vi (-1)), none]) (by decide +kernel) (by decide) rfl rfl ?_
      refine g_iconst (n := 0) (v := 0) (by decide +kernel) (by decide) ?_
      refine g_istore (i := 5) (ls2 := [some (vr 30 0), some (vi x1), some (vi x2), some (vi (H3 30 0 2)), some (vi (-1)), some (vi 0)]) (by decide +kernel) (by decide) rfl rfl ?_
      refine g_drop (ls2 := [some (vr 30 0), some (vi x1), some (vi x2), some (vi (H3 30 0 2)), some (vi (-1)), some (vi 0)]) (And.intro rfl (And.intro rfl (And.intro rfl (And.intro rfl (And.intro rfl (And.intro rfl trivial)))))) ?_
      obtain ⟨I5, μ5, h0, h⟩ := h
      refine xloop (σ := Int32 × Int32) (fun s H => I5 s.1 s.2 H) (fun s H => μ5 s.1 s.2 H) (fun s H => g_Model_cut E (d + 1) 35 [some (vr 30 0), some (vi x1), some (vi x2), some (vi (H3 30 0 2)), some (vi s.1), some (vi s.2)] [] H (qi Q)) (fun s H8 hI ih5 => ?_) ((-1), 0) H3 h0
      obtain ⟨z6, z7⟩ := s
      replace h := h z6 z7 H8 hI
      refine g_iload (i := 5) (by decide +kernel) rfl ?_
      refine g_bipush (n := 20) (v := 20) (by decide +kernel) (by decide) ?_
      refine g_icmp_gt (off := 59) (tgt := 98) (by decide +kernel) (by decide) (fun c => ?_) (fun c => ?_)
      · replace h := h.1 c
        refine g_aload_n (q := 0) (i := 0) (by decide +kernel) rfl rfl ?_
        refine g_iload_n (q := 3) (i := 3) (by decide +kernel) rfl rfl ?_
        refine g_put (C := "ThreePointsModel") (T := xT_Model) (N := 39) (ci := 10) (k := 2) xy_Model (by decide +kernel) (by decide) rfl rfl xi_Model xy_Model_ok xn_Model (by decide) kw_1028 rfl (by decide +kernel) (fun _ => rfl) ?_
        refine g_iload (i := 4) (by decide +kernel) rfl ?_
        refine g_heap (fun H9 eH9 => ?_)
        replace h := h H9 eH9
        exact g_iret (by decide +kernel) rfl ⟨_, rfl, h⟩
      · replace h := h.2 c
        refine g_iload (i := 4) (by decide +kernel) rfl ?_
        refine g_iconst (n := (-1)) (v := (-1)) (by decide +kernel) (by decide) ?_
        refine g_icmp_ne (off := 53) (tgt := 98) (by decide +kernel) (by decide) (fun c => ?_) (fun c => ?_)
        · replace h := h.1 c
          refine g_aload_n (q := 0) (i := 0) (by decide +kernel) rfl rfl ?_
          refine g_iload_n (q := 3) (i := 3) (by decide +kernel) rfl rfl ?_
          refine g_put (C := "ThreePointsModel") (T := xT_Model) (N := 39) (ci := 10) (k := 2) xy_Model (by decide +kernel) (by decide) rfl rfl xi_Model xy_Model_ok xn_Model (by decide) kw_1028 rfl (by decide +kernel) (fun _ => rfl) ?_
          refine g_iload (i := 4) (by decide +kernel) rfl ?_
          refine g_heap (fun H10 eH10 => ?_)
          replace h := h H10 eH10
          exact g_iret (by decide +kernel) rfl ⟨_, rfl, h⟩
        · replace h := h.2 c
          refine g_aload_n (q := 0) (i := 0) (by decide +kernel) rfl rfl ?_
          refine g_iload (i := 5) (by decide +kernel) rfl ?_
          refine g_put (C := "ThreePointsModel") (T := xT_Model) (N := 39) (ci := 10) (k := 2) xy_Model (by decide +kernel) (by decide) rfl rfl xi_Model xy_Model_ok xn_Model (by decide) kw_1028 rfl (by decide +kernel) (fun _ => rfl) ?_
          refine g_aload_n (q := 0) (i := 0) (by decide +kernel) rfl rfl ?_
          refine g_iload_n (q := 1) (i := 1) (by decide +kernel) rfl rfl ?_
          refine g_iconst (n := 0) (v := 0) (by decide +kernel) (by decide) ?_
          refine g_heap (fun H11 eH11 => ?_)
          replace h := h H11 eH11
          refine g_callV (kd := 30) (ix := 0) (ci := 10) (N := 39) (T := xT_Model) (vs := [vi x1, vi 0]) (st := []) (by decide +kernel) xm_Model_tellsLane kw_1257 kw_1259 kw_50 (by decide) rfl rfl rfl rfl (Nat.le_of_ble_eq_true rfl) (Nat.le_of_ble_eq_true rfl) h (fun vH12 H12 hq => ?_)
          replace h := hq
          refine g_aload_n (q := 0) (i := 0) (by decide +kernel) rfl rfl ?_
          refine g_iload_n (q := 1) (i := 1) (by decide +kernel) rfl rfl ?_
          refine g_aload_n (q := 0) (i := 0) (by decide +kernel) rfl rfl ?_
          refine g_iload_n (q := 1) (i := 1) (by decide +kernel) rfl rfl ?_
          refine g_callV (kd := 30) (ix := 0) (ci := 10) (N := 39) (T := xT_Model) (vs := [vi x1]) (st := [vi x1, vr 30 0]) (by decide +kernel) xm_Model_stateOf kw_1266 kw_1268 kw_52 (by decide) rfl rfl rfl rfl (Nat.le_of_ble_eq_true rfl) (Nat.le_of_ble_eq_true rfl) h (fun vH13 H13 hq => ?_)
          obtain ⟨r14, rfl, h⟩ := hq
          refine g_iconst (n := 0) (v := 0) (by decide +kernel) (by decide) ?_
          refine g_callV (kd := 30) (ix := 0) (ci := 10) (N := 39) (T := xT_Model) (vs := [vi x1, vi r14, vi 0]) (st := []) (by decide +kernel) xm_Model_seeks kw_1274 kw_1276 kw_54 (by decide) rfl rfl rfl rfl (Nat.le_of_ble_eq_true rfl) (Nat.le_of_ble_eq_true rfl) h (fun vH15 H15 hq => ?_)
          replace h := hq
          refine g_aload_n (q := 0) (i := 0) (by decide +kernel) rfl rfl ?_
          refine g_aload_n (q := 0) (i := 0) (by decide +kernel) rfl rfl ?_
          refine g_iload_n (q := 1) (i := 1) (by decide +kernel) rfl rfl ?_
          refine g_callV (kd := 30) (ix := 0) (ci := 10) (N := 39) (T := xT_Model) (vs := [vi x1]) (st := [vr 30 0]) (by decide +kernel) xm_Model_otherOf kw_1282 kw_1284 kw_56 (by decide) rfl rfl rfl rfl (Nat.le_of_ble_eq_true rfl) (Nat.le_of_ble_eq_true rfl) h (fun vH16 H16 hq => ?_)
          obtain ⟨r17, rfl, h⟩ := hq
          refine g_callV (kd := 30) (ix := 0) (ci := 10) (N := 39) (T := xT_Model) (vs := [vi r17]) (st := []) (by decide +kernel) xm_Model_leastTo kw_1286 kw_1288 kw_57 (by decide) rfl rfl rfl rfl (Nat.le_of_ble_eq_true rfl) (Nat.le_of_ble_eq_true rfl) h (fun vH18 H18 hq => ?_)
          obtain ⟨r19, rfl, h⟩ := hq
          refine g_iload_n (q := 2) (i := 2) (by decide +kernel) rfl rfl ?_
          suffices hj20 : g_Model_cut E (d + 1) 90 [some (vr 30 0), some (vi x1), some (vi x2), some (vi (H3 30 0 2)), some (vi z6), some (vi z7)] [vi (if x2 < r19 then (-1) else z7 : Int32)] H18 (qi Q) by
            refine g_icmp_gt (off := 8) (tgt := 89) (by decide +kernel) (by decide) (fun c => ?_) (fun c => ?_)
            · rw [if_pos c] at hj20
              refine g_iconst (n := (-1)) (v := (-1)) (by decide +kernel) (by decide) ?_
              exact hj20
            · rw [if_neg c] at hj20
              refine g_iload (i := 5) (by decide +kernel) rfl ?_
              refine g_goto (off := 4) (tgt := 90) (by decide +kernel) (by decide) ?_
              exact hj20
          refine g_topi (fun v21 ev21 => ?_)
          replace h := h v21 ev21
          refine g_istore (i := 4) (ls2 := [some (vr 30 0), some (vi x1), some (vi x2), some (vi (H3 30 0 2)), some (vi v21), some (vi z7)]) (by decide +kernel) (by decide) rfl rfl ?_
          refine g_iinc (i := 5) (n := 1) (v := (z7 + 1)) (ls2 := [some (vr 30 0), some (vi x1), some (vi x2), some (vi (H3 30 0 2)), some (vi v21), some (vi (z7 + 1))]) (by decide +kernel) rfl rfl (by decide) rfl rfl ?_
          refine g_goto (off := (-60)) (tgt := 35) (by decide +kernel) (by decide) ?_
          obtain ⟨hI, hlt⟩ := h
          exact g_drop (ls2 := [some (vr 30 0), some (vi x1), some (vi x2), some (vi (H3 30 0 2)), some (vi v21), some (vi (z7 + 1))]) (And.intro rfl (And.intro rfl (And.intro rfl (And.intro rfl (And.intro rfl (And.intro rfl trivial)))))) (ih5 (v21, (z7 + 1)) H18 hI hlt)
    · replace h := h.2 c
      refine g_bipush (n := (-7)) (v := (-7)) (by decide +kernel) (by decide) ?_
      exact g_iret (by decide +kernel) rfl ⟨_, rfl, h⟩
  · replace h := h.2 c
    refine g_bipush (n := (-5)) (v := (-5)) (by decide +kernel) (by decide) ?_
    exact g_iret (by decide +kernel) rfl ⟨_, rfl, h⟩
def p_Model_headings (E : XE) (d : Nat) (x1 : Int32) (H : HH) (Q : Int32 → HH → Prop) : Prop := c_Model_isVehicle E d x1 H (fun r2 H1 => (¬ r2 = 0 → (c_Model_tellsLane E d x1 0 H1 (fun H3 => c_Model_stateOf E d x1 H3 (fun r5 H4 => c_Model_seeks E d x1 r5 0 H4 (fun H6 => ∃ (I7 : Int32 → Int32 → HH → Prop) (μ7 : Int32 → Int32 → HH → Nat), I7 0 0 H6 ∧ ∀ (z8 : Int32) (z9 : Int32) (H10 : HH), I7 z8 z9 H10 → ((16 ≤ z9 → (Q z8 H10)) ∧ (¬ 16 ≤ z9 → (c_Model_leastTo E d z9 H10 (fun r12 H11 => (¬ r12 = 1000000000 → (∀ v13 : Int32, v13 = (z8 ||| (1 <<< (z9 &&& 31))) → (I7 v13 (z9 + 1) H11 ∧ μ7 v13 (z9 + 1) H11 < μ7 z8 z9 H10))) ∧ (r12 = 1000000000 → (I7 (z8 ||| 0) (z9 + 1) H11 ∧ μ7 (z8 ||| 0) (z9 + 1) H11 < μ7 z8 z9 H10))))))))))) ∧ (r2 = 0 → (Q (-5) H1)))
set_option maxHeartbeats 4000000 in
theorem l_Model_headings {E : XE} {d : Nat} {x1 : Int32} {H : HH} {Q : Int32 → HH → Prop} (h : p_Model_headings E d x1 H Q) : c_Model_headings E (d + 1) x1 H Q := by
  show g_Model_headings E (d + 1) 0 (xent [vr 30 0, vi x1]) [] H (qi Q)
  refine g_drop (ls2 := [some (vr 30 0), some (vi x1), none, none]) (And.intro rfl (And.intro rfl trivial)) ?_
  refine g_aload_n (q := 0) (i := 0) (by decide +kernel) rfl rfl ?_
  refine g_iload_n (q := 1) (i := 1) (by decide +kernel) rfl rfl ?_
  refine g_callV (kd := 30) (ix := 0) (ci := 10) (N := 39) (T := xT_Model) (vs := [vi x1]) (st := []) (by decide +kernel) xm_Model_isVehicle kw_1202 kw_1204 kw_43 (by decide) rfl rfl rfl rfl (Nat.le_of_ble_eq_true rfl) (Nat.le_of_ble_eq_true rfl) h (fun vH1 H1 hq => ?_)
  obtain ⟨r2, rfl, h⟩ := hq
  refine g_if_ne (off := 6) (tgt := 11) (by decide +kernel) (by decide) (fun c => ?_) (fun c => ?_)
  · replace h := h.1 c
    refine g_aload_n (q := 0) (i := 0) (by decide +kernel) rfl rfl ?_
    refine g_iload_n (q := 1) (i := 1) (by decide +kernel) rfl rfl ?_
    refine g_iconst (n := 0) (v := 0) (by decide +kernel) (by decide) ?_
    refine g_callV (kd := 30) (ix := 0) (ci := 10) (N := 39) (T := xT_Model) (vs := [vi x1, vi 0]) (st := []) (by decide +kernel) xm_Model_tellsLane kw_1257 kw_1259 kw_50 (by decide) rfl rfl rfl rfl (Nat.le_of_ble_eq_true rfl) (Nat.le_of_ble_eq_true rfl) h (fun vH3 H3 hq => ?_)
    replace h := hq
    refine g_aload_n (q := 0) (i := 0) (by decide +kernel) rfl rfl ?_
    refine g_iload_n (q := 1) (i := 1) (by decide +kernel) rfl rfl ?_
    refine g_aload_n (q := 0) (i := 0) (by decide +kernel) rfl rfl ?_
    refine g_iload_n (q := 1) (i := 1) (by decide +kernel) rfl rfl ?_
    refine g_callV (kd := 30) (ix := 0) (ci := 10) (N := 39) (T := xT_Model) (vs := [vi x1]) (st := [vi x1, vr 30 0]) (by decide +kernel) xm_Model_stateOf kw_1266 kw_1268 kw_52 (by decide) rfl rfl rfl rfl (Nat.le_of_ble_eq_true rfl) (Nat.le_of_ble_eq_true rfl) h (fun vH4 H4 hq => ?_)
    obtain ⟨r5, rfl, h⟩ := hq
    refine g_iconst (n := 0) (v := 0) (by decide +kernel) (by decide) ?_
    refine g_callV (kd := 30) (ix := 0) (ci := 10) (N := 39) (T := xT_Model) (vs := [vi x1, vi r5, vi 0]) (st := []) (by decide +kernel) xm_Model_seeks kw_1274 kw_1276 kw_54 (by decide) rfl rfl rfl rfl (Nat.le_of_ble_eq_true rfl) (Nat.le_of_ble_eq_true rfl) h (fun vH6 H6 hq => ?_)
    replace h := hq
    refine g_iconst (n := 0) (v := 0) (by decide +kernel) (by decide) ?_
    refine g_istore_n (q := 2) (i := 2) (ls2 := [some (vr 30 0), some (vi x1), some (vi 0), none]) (by decide +kernel) rfl (by decide) rfl rfl ?_
    refine g_iconst (n := 0) (v := 0) (by decide +kernel) (by decide) ?_
    refine g_istore_n (q := 3) (i := 3) (ls2 := [some (vr 30 0), some (vi x1), some (vi 0), some (vi 0)]) (by decide +kernel) rfl (by decide) rfl rfl ?_
    refine g_drop (ls2 := [some (vr 30 0), none, some (vi 0), some (vi 0)]) (And.intro rfl (And.intro rfl (And.intro rfl trivial))) ?_
    obtain ⟨I7, μ7, h0, h⟩ := h
    refine xloop (σ := Int32 × Int32) (fun s H => I7 s.1 s.2 H) (fun s H => μ7 s.1 s.2 H) (fun s H => g_Model_headings E (d + 1) 32 [some (vr 30 0), none, some (vi s.1), some (vi s.2)] [] H (qi Q)) (fun s H10 hI ih7 => ?_) (0, 0) H6 h0
    obtain ⟨z8, z9⟩ := s
    replace h := h z8 z9 H10 hI
    refine g_iload_n (q := 3) (i := 3) (by decide +kernel) rfl rfl ?_
    refine g_bipush (n := 16) (v := 16) (by decide +kernel) (by decide) ?_
    refine g_icmp_ge (off := 29) (tgt := 64) (by decide +kernel) (by decide) (fun c => ?_) (fun c => ?_)
    · replace h := h.1 c
      refine g_iload_n (q := 2) (i := 2) (by decide +kernel) rfl rfl ?_
      exact g_iret (by decide +kernel) rfl ⟨_, rfl, h⟩
    · replace h := h.2 c
      refine g_iload_n (q := 2) (i := 2) (by decide +kernel) rfl rfl ?_
      refine g_aload_n (q := 0) (i := 0) (by decide +kernel) rfl rfl ?_
      refine g_iload_n (q := 3) (i := 3) (by decide +kernel) rfl rfl ?_
      refine g_callV (kd := 30) (ix := 0) (ci := 10) (N := 39) (T := xT_Model) (vs := [vi z9]) (st := [vi z8]) (by decide +kernel) xm_Model_leastTo kw_1286 kw_1288 kw_57 (by decide) rfl rfl rfl rfl (Nat.le_of_ble_eq_true rfl) (Nat.le_of_ble_eq_true rfl) h (fun vH11 H11 hq => ?_)
      obtain ⟨r12, rfl, h⟩ := hq
      refine g_ldc (v := 1000000000) (by decide +kernel) kw_1265 ?_
      refine g_icmp_ne (off := 7) (tgt := 53) (by decide +kernel) (by decide) (fun c => ?_) (fun c => ?_)
      · replace h := h.1 c
        refine g_iconst (n := 1) (v := 1) (by decide +kernel) (by decide) ?_
        refine g_iload_n (q := 3) (i := 3) (by decide +kernel) rfl rfl ?_
        refine g_ishl (by decide +kernel) ?_
        refine g_ior (by decide +kernel) ?_
        refine g_topi (fun v13 ev13 => ?_)
        replace h := h v13 ev13
        refine g_istore_n (q := 2) (i := 2) (ls2 := [some (vr 30 0), none, some (vi v13), some (vi z9)]) (by decide +kernel) rfl (by decide) rfl rfl ?_
        refine g_iinc (i := 3) (n := 1) (v := (z9 + 1)) (ls2 := [some (vr 30 0), none, some (vi v13), some (vi (z9 + 1))]) (by decide +kernel) rfl rfl (by decide) rfl rfl ?_
        refine g_goto (off := (-29)) (tgt := 32) (by decide +kernel) (by decide) ?_
        obtain ⟨hI, hlt⟩ := h
        exact g_drop (ls2 := [some (vr 30 0), none, some (vi v13), some (vi (z9 + 1))]) (And.intro rfl (And.intro rfl (And.intro rfl trivial))) (ih7 (v13, (z9 + 1)) H11 hI hlt)
      · replace h := h.2 c
        refine g_iconst (n := 0) (v := 0) (by decide +kernel) (by decide) ?_
        refine g_goto (off := 6) (tgt := 56) (by decide +kernel) (by decide) ?_
        refine g_ior (by decide +kernel) ?_
        refine g_istore_n (q := 2) (i := 2) (ls2 := [some (vr 30 0), none, some (vi (z8 ||| 0)), some (vi z9)]) (by decide +kernel) rfl (by decide) rfl rfl ?_
        refine g_iinc (i := 3) (n := 1) (v := (z9 + 1)) (ls2 := [some (vr 30 0), none, some (vi (z8 ||| 0)), some (vi (z9 + 1))]) (by decide +kernel) rfl rfl (by decide) rfl rfl ?_
        refine g_goto (off := (-29)) (tgt := 32) (by decide +kernel) (by decide) ?_
        obtain ⟨hI, hlt⟩ := h
        exact g_drop (ls2 := [some (vr 30 0), none, some (vi (z8 ||| 0)), some (vi (z9 + 1))]) (And.intro rfl (And.intro rfl (And.intro rfl trivial))) (ih7 ((z8 ||| 0), (z9 + 1)) H11 hI hlt)
  · replace h := h.2 c
    refine g_bipush (n := (-5)) (v := (-5)) (by decide +kernel) (by decide) ?_
    exact g_iret (by decide +kernel) rfl ⟨_, rfl, h⟩
def p_Model_best (E : XE) (d : Nat) (x1 : Int32) (H : HH) (Q : Int32 → HH → Prop) : Prop := c_Model_in E d x1 0 1 H (fun r2 H1 => (¬ r2 = 0 → (∃ (I3 : Int32 → Int32 → Int32 → HH → Prop) (μ3 : Int32 → Int32 → Int32 → HH → Nat), I3 (-1) 1000000000 0 H1 ∧ ∀ (z4 : Int32) (z5 : Int32) (z6 : Int32) (H7 : HH), I3 z4 z5 z6 H7 → (((H7 30 0 3) ≤ z6 → ((¬ x1 = 0 → (c_Model_orNone E d z5 H7 (fun r9 H8 => Q r9 H8))) ∧ (x1 = 0 → (Q z4 H7)))) ∧ (¬ (H7 30 0 3) ≤ z6 → (c_Model_tellsLane E d z6 0 H7 (fun H10 => c_Model_stateOf E d z6 H10 (fun r12 H11 => c_Model_seeks E d z6 r12 0 H11 (fun H13 => c_Model_otherOf E d z6 H13 (fun r15 H14 => c_Model_leastTo E d r15 H14 (fun r17 H16 => ∀ v19 : Int32, v19 = (if z5 ≤ r17 then z4 else z6 : Int32) → (∀ v21 : Int32, v21 = (if z5 ≤ r17 then z5 else r17 : Int32) → (I3 v19 v21 (z6 + 1) H16 ∧ μ3 v19 v21 (z6 + 1) H16 < μ3 z4 z5 z6 H7)))))))))))) ∧ (r2 = 0 → (Q (-2) H1)))
set_option maxHeartbeats 4000000 in
theorem l_Model_best {E : XE} {d : Nat} {x1 : Int32} {H : HH} {Q : Int32 → HH → Prop} (h : p_Model_best E d x1 H Q) : c_Model_best E (d + 1) x1 H Q := by
  show g_Model_best E (d + 1) 0 (xent [vr 30 0, vi x1]) [] H (qi Q)
  refine g_drop (ls2 := [some (vr 30 0), some (vi x1), none, none, none, none]) (And.intro rfl (And.intro rfl trivial)) ?_
  refine g_iload_n (q := 1) (i := 1) (by decide +kernel) rfl rfl ?_
  refine g_iconst (n := 0) (v := 0) (by decide +kernel) (by decide) ?_
  refine g_iconst (n := 1) (v := 1) (by decide +kernel) (by decide) ?_
  refine g_callS (vs := [vi x1, vi 0, vi 1]) (st := []) (by decide +kernel) xm_Model_in kw_987 kw_988 rfl rfl (Nat.le_of_ble_eq_true rfl) (Nat.le_of_ble_eq_true rfl) h (fun vH1 H1 hq => ?_)
  obtain ⟨r2, rfl, h⟩ := hq
  refine g_if_ne (off := 6) (tgt := 12) (by decide +kernel) (by decide) (fun c => ?_) (fun c => ?_)
  · replace h := h.1 c
    refine g_iconst (n := (-1)) (v := (-1)) (by decide +kernel) (by decide) ?_
    refine g_istore_n (q := 2) (i := 2) (ls2 := [some (vr 30 0), some (vi x1), some (vi (-1)), none, none, none]) (by decide +kernel) rfl (by decide) rfl rfl ?_
    refine g_ldc (v := 1000000000) (by decide +kernel) kw_1265 ?_
    refine g_istore_n (q := 3) (i := 3) (ls2 := [some (vr 30 0), some (vi x1), some (vi (-1)), some (vi 1000000000), none, none]) (by decide +kernel) rfl (by decide) rfl rfl ?_
    refine g_iconst (n := 0) (v := 0) (by decide +kernel) (by decide) ?_
    refine g_istore (i := 4) (ls2 := [some (vr 30 0), some (vi x1), some (vi (-1)), some (vi 1000000000), some (vi 0), none]) (by decide +kernel) (by decide) rfl rfl ?_
    refine g_drop (ls2 := [some (vr 30 0), some (vi x1), some (vi (-1)), some (vi 1000000000), some (vi 0), none]) (And.intro rfl (And.intro rfl (And.intro rfl (And.intro rfl (And.intro rfl trivial))))) ?_
    obtain ⟨I3, μ3, h0, h⟩ := h
    refine xloop (σ := Int32 × Int32 × Int32) (fun s H => I3 s.1 s.2.1 s.2.2 H) (fun s H => μ3 s.1 s.2.1 s.2.2 H) (fun s H => g_Model_best E (d + 1) 20 [some (vr 30 0), some (vi x1), some (vi s.1), some (vi s.2.1), some (vi s.2.2), none] [] H (qi Q)) (fun s H7 hI ih3 => ?_) ((-1), 1000000000, 0) H1 h0
    obtain ⟨z4, z5, z6⟩ := s
    replace h := h z4 z5 z6 H7 hI
    refine g_iload (i := 4) (by decide +kernel) rfl ?_
    refine g_aload_n (q := 0) (i := 0) (by decide +kernel) rfl rfl ?_
    refine g_get (C := "ThreePointsModel") (T := xT_Model) (N := 39) (ci := 10) (k := 3) (v := vi (H7 30 0 3)) (by decide +kernel) (by decide) rfl rfl xi_Model (by decide) kw_1029 rfl ?_
    refine g_icmp_ge (off := 67) (tgt := 93) (by decide +kernel) (by decide) (fun c => ?_) (fun c => ?_)
    · replace h := h.1 c
      refine g_iload_n (q := 1) (i := 1) (by decide +kernel) rfl rfl ?_
      refine g_if_ne (off := 7) (tgt := 101) (by decide +kernel) (by decide) (fun c => ?_) (fun c => ?_)
      · replace h := h.1 c
        refine g_iload_n (q := 3) (i := 3) (by decide +kernel) rfl rfl ?_
        refine g_callS (vs := [vi z5]) (st := []) (by decide +kernel) xm_Model_orNone kw_1290 kw_1291 rfl rfl (Nat.le_of_ble_eq_true rfl) (Nat.le_of_ble_eq_true rfl) h (fun vH8 H8 hq => ?_)
        obtain ⟨r9, rfl, h⟩ := hq
        exact g_iret (by decide +kernel) rfl ⟨_, rfl, h⟩
      · replace h := h.2 c
        refine g_iload_n (q := 2) (i := 2) (by decide +kernel) rfl rfl ?_
        refine g_goto (off := 7) (tgt := 105) (by decide +kernel) (by decide) ?_
        exact g_iret (by decide +kernel) rfl ⟨_, rfl, h⟩
    · replace h := h.2 c
      refine g_aload_n (q := 0) (i := 0) (by decide +kernel) rfl rfl ?_
      refine g_iload (i := 4) (by decide +kernel) rfl ?_
      refine g_iconst (n := 0) (v := 0) (by decide +kernel) (by decide) ?_
      refine g_callV (kd := 30) (ix := 0) (ci := 10) (N := 39) (T := xT_Model) (vs := [vi z6, vi 0]) (st := []) (by decide +kernel) xm_Model_tellsLane kw_1257 kw_1259 kw_50 (by decide) rfl rfl rfl rfl (Nat.le_of_ble_eq_true rfl) (Nat.le_of_ble_eq_true rfl) h (fun vH10 H10 hq => ?_)
      replace h := hq
      refine g_aload_n (q := 0) (i := 0) (by decide +kernel) rfl rfl ?_
      refine g_iload (i := 4) (by decide +kernel) rfl ?_
      refine g_aload_n (q := 0) (i := 0) (by decide +kernel) rfl rfl ?_
      refine g_iload (i := 4) (by decide +kernel) rfl ?_
      refine g_callV (kd := 30) (ix := 0) (ci := 10) (N := 39) (T := xT_Model) (vs := [vi z6]) (st := [vi z6, vr 30 0]) (by decide +kernel) xm_Model_stateOf kw_1266 kw_1268 kw_52 (by decide) rfl rfl rfl rfl (Nat.le_of_ble_eq_true rfl) (Nat.le_of_ble_eq_true rfl) h (fun vH11 H11 hq => ?_)
      obtain ⟨r12, rfl, h⟩ := hq
      refine g_iconst (n := 0) (v := 0) (by decide +kernel) (by decide) ?_
      refine g_callV (kd := 30) (ix := 0) (ci := 10) (N := 39) (T := xT_Model) (vs := [vi z6, vi r12, vi 0]) (st := []) (by decide +kernel) xm_Model_seeks kw_1274 kw_1276 kw_54 (by decide) rfl rfl rfl rfl (Nat.le_of_ble_eq_true rfl) (Nat.le_of_ble_eq_true rfl) h (fun vH13 H13 hq => ?_)
      replace h := hq
      refine g_aload_n (q := 0) (i := 0) (by decide +kernel) rfl rfl ?_
      refine g_aload_n (q := 0) (i := 0) (by decide +kernel) rfl rfl ?_
      refine g_iload (i := 4) (by decide +kernel) rfl ?_
      refine g_callV (kd := 30) (ix := 0) (ci := 10) (N := 39) (T := xT_Model) (vs := [vi z6]) (st := [vr 30 0]) (by decide +kernel) xm_Model_otherOf kw_1282 kw_1284 kw_56 (by decide) rfl rfl rfl rfl (Nat.le_of_ble_eq_true rfl) (Nat.le_of_ble_eq_true rfl) h (fun vH14 H14 hq => ?_)
      obtain ⟨r15, rfl, h⟩ := hq
      refine g_callV (kd := 30) (ix := 0) (ci := 10) (N := 39) (T := xT_Model) (vs := [vi r15]) (st := []) (by decide +kernel) xm_Model_leastTo kw_1286 kw_1288 kw_57 (by decide) rfl rfl rfl rfl (Nat.le_of_ble_eq_true rfl) (Nat.le_of_ble_eq_true rfl) h (fun vH16 H16 hq => ?_)
      obtain ⟨r17, rfl, h⟩ := hq
      refine g_istore (i := 5) (ls2 := [some (vr 30 0), some (vi x1), some (vi z4), some (vi z5), some (vi z6), some (vi r17)]) (by decide +kernel) (by decide) rfl rfl ?_
      refine g_iload (i := 5) (by decide +kernel) rfl ?_
      refine g_iload_n (q := 3) (i := 3) (by decide +kernel) rfl rfl ?_
      suffices hj18 : g_Model_best E (d + 1) 73 [some (vr 30 0), some (vi x1), some (vi z4), some (vi z5), some (vi z6), some (vi r17)] [vi (if z5 ≤ r17 then z4 else z6 : Int32)] H16 (qi Q) by
        refine g_icmp_ge (off := 8) (tgt := 72) (by decide +kernel) (by decide) (fun c => ?_) (fun c => ?_)
        · rw [if_pos c] at hj18
          refine g_iload_n (q := 2) (i := 2) (by decide +kernel) rfl rfl ?_
          exact hj18
        · rw [if_neg c] at hj18
          refine g_iload (i := 4) (by decide +kernel) rfl ?_
          refine g_goto (off := 4) (tgt := 73) (by decide +kernel) (by decide) ?_
          exact hj18
      refine g_topi (fun v19 ev19 => ?_)
      replace h := h v19 ev19
      refine g_istore_n (q := 2) (i := 2) (ls2 := [some (vr 30 0), some (vi x1), some (vi v19), some (vi z5), some (vi z6), some (vi r17)]) (by decide +kernel) rfl (by decide) rfl rfl ?_
      refine g_iload (i := 5) (by decide +kernel) rfl ?_
      refine g_iload_n (q := 3) (i := 3) (by decide +kernel) rfl rfl ?_
      suffices hj20 : g_Model_best E (d + 1) 86 [some (vr 30 0), some (vi x1), some (vi v19), some (vi z5), some (vi z6), some (vi r17)] [vi (if z5 ≤ r17 then z5 else r17 : Int32)] H16 (qi Q) by
        refine g_icmp_ge (off := 8) (tgt := 85) (by decide +kernel) (by decide) (fun c => ?_) (fun c => ?_)
        · rw [if_pos c] at hj20
          refine g_iload_n (q := 3) (i := 3) (by decide +kernel) rfl rfl ?_
          exact hj20
        · rw [if_neg c] at hj20
          refine g_iload (i := 5) (by decide +kernel) rfl ?_
          refine g_goto (off := 4) (tgt := 86) (by decide +kernel) (by decide) ?_
          exact hj20
      refine g_topi (fun v21 ev21 => ?_)
      replace h := h v21 ev21
      refine g_istore_n (q := 3) (i := 3) (ls2 := [some (vr 30 0), some (vi x1), some (vi v19), some (vi v21), some (vi z6), some (vi r17)]) (by decide +kernel) rfl (by decide) rfl rfl ?_
      refine g_iinc (i := 4) (n := 1) (v := (z6 + 1)) (ls2 := [some (vr 30 0), some (vi x1), some (vi v19), some (vi v21), some (vi (z6 + 1)), some (vi r17)]) (by decide +kernel) rfl rfl (by decide) rfl rfl ?_
      refine g_goto (off := (-70)) (tgt := 20) (by decide +kernel) (by decide) ?_
      obtain ⟨hI, hlt⟩ := h
      exact g_drop (ls2 := [some (vr 30 0), some (vi x1), some (vi v19), some (vi v21), some (vi (z6 + 1)), none]) (And.intro rfl (And.intro rfl (And.intro rfl (And.intro rfl (And.intro rfl trivial))))) (ih3 (v19, v21, (z6 + 1)) H16 hI hlt)
  · replace h := h.2 c
    refine g_bipush (n := (-2)) (v := (-2)) (by decide +kernel) (by decide) ?_
    exact g_iret (by decide +kernel) rfl ⟨_, rfl, h⟩
def p_Model_sheetWrong (E : XE) (d : Nat) (x1 : Int32) (x2 : Int32) (H : HH) (Q : Int32 → HH → Prop) : Prop := c_Model_in E d x1 0 3 H (fun r2 H1 => (¬ r2 = 0 → (vp_in x1 4 ∧ ((¬ (H1 40 0 (x1.toNatClampNeg)) = (-1) → (vp_in x1 4 ∧ (∀ v4 : Int32, v4 = (if (xrem (H1 41 0 (x1.toNatClampNeg)) 3) = 0 then 1 else 0 : Int32) → (∃ (I5 : Int32 → Int32 → HH → Prop) (μ5 : Int32 → Int32 → HH → Nat), I5 v4 0 H1 ∧ ∀ (z6 : Int32) (z7 : Int32) (H8 : HH), I5 z6 z7 H8 → (vp_in x1 4 ∧ (((H8 41 0 (x1.toNatClampNeg)) ≤ (z7 + 2) → ((¬ z6 = 0 → (c_Model_isVehicle E d x2 H8 (fun r10 H9 => Q (if r10 = 0 then (-5) else 0 : Int32) H9))) ∧ (z6 = 0 → (Q (-2) H8)))) ∧ (¬ (H8 41 0 (x1.toNatClampNeg)) ≤ (z7 + 2) → (∀ v12 : Int32, v12 = ((40 * x1) + z7) → (vp_in v12 160 ∧ (c_Model_in E d (H8 42 0 (v12.toNatClampNeg)) 0 1 H8 (fun r14 H13 => (r14 = 0 → (I5 (z6 &&& 0) (z7 + 3) H13 ∧ μ5 (z6 &&& 0) (z7 + 3) H13 < μ5 z6 z7 H8)) ∧ (¬ r14 = 0 → (vp_in (v12 + 1) 160 ∧ (c_Model_in E d (H13 42 0 ((v12 + 1).toNatClampNeg)) (-1) 1 H13 (fun r16 H15 => (r16 = 0 → (I5 (z6 &&& 0) (z7 + 3) H15 ∧ μ5 (z6 &&& 0) (z7 + 3) H15 < μ5 z6 z7 H8)) ∧ (¬ r16 = 0 → (vp_in (v12 + 2) 160 ∧ (c_Model_in E d (H15 42 0 ((v12 + 2).toNatClampNeg)) 1 30 H15 (fun r18 H17 => ∀ v20 : Int32, v20 = (z6 &&& (if r18 = 0 then 0 else 1 : Int32)) → (I5 v20 (z7 + 3) H17 ∧ μ5 v20 (z7 + 3) H17 < μ5 z6 z7 H8)))))))))))))))))))) ∧ ((H1 40 0 (x1.toNatClampNeg)) = (-1) → (Q (-11) H1))))) ∧ (r2 = 0 → (Q (-2) H1)))
set_option maxHeartbeats 4000000 in
theorem l_Model_sheetWrong {E : XE} {d : Nat} {x1 : Int32} {x2 : Int32} {H : HH} {Q : Int32 → HH → Prop} (h : p_Model_sheetWrong E d x1 x2 H Q) : c_Model_sheetWrong E (d + 1) x1 x2 H Q := by
  show g_Model_sheetWrong E (d + 1) 0 (xent [vr 30 0, vi x1, vi x2]) [] H (qi Q)
  refine g_drop (ls2 := [some (vr 30 0), some (vi x1), some (vi x2), none, none, none]) (And.intro rfl (And.intro rfl (And.intro rfl trivial))) ?_
  refine g_iload_n (q := 1) (i := 1) (by decide +kernel) rfl rfl ?_
  refine g_iconst (n := 0) (v := 0) (by decide +kernel) (by decide) ?_
  refine g_iconst (n := 3) (v := 3) (by decide +kernel) (by decide) ?_
  refine g_callS (vs := [vi x1, vi 0, vi 3]) (st := []) (by decide +kernel) xm_Model_in kw_987 kw_988 rfl rfl (Nat.le_of_ble_eq_true rfl) (Nat.le_of_ble_eq_true rfl) h (fun vH1 H1 hq => ?_)
  obtain ⟨r2, rfl, h⟩ := hq
  refine g_if_ne (off := 6) (tgt := 12) (by decide +kernel) (by decide) (fun c => ?_) (fun c => ?_)
  · replace h := h.1 c
    refine g_aload_n (q := 0) (i := 0) (by decide +kernel) rfl rfl ?_
    refine g_get (C := "ThreePointsModel") (T := xT_Model) (N := 39) (ci := 10) (k := 16) (v := vr 40 0) (by decide +kernel) (by decide) rfl rfl xi_Model (by decide) kw_1042 rfl ?_
    refine g_iload_n (q := 1) (i := 1) (by decide +kernel) rfl rfl ?_
    obtain ⟨hin, h⟩ := h
    refine g_iald (by decide +kernel) (by decide) rfl hin ?_
    refine g_iconst (n := (-1)) (v := (-1)) (by decide +kernel) (by decide) ?_
    refine g_icmp_ne (off := 6) (tgt := 25) (by decide +kernel) (by decide) (fun c => ?_) (fun c => ?_)
    · replace h := h.1 c
      refine g_aload_n (q := 0) (i := 0) (by decide +kernel) rfl rfl ?_
      refine g_get (C := "ThreePointsModel") (T := xT_Model) (N := 39) (ci := 10) (k := 17) (v := vr 41 0) (by decide +kernel) (by decide) rfl rfl xi_Model (by decide) kw_1043 rfl ?_
      refine g_iload_n (q := 1) (i := 1) (by decide +kernel) rfl rfl ?_
      obtain ⟨hin, h⟩ := h
      refine g_iald (by decide +kernel) (by decide) rfl hin ?_
      refine g_iconst (n := 3) (v := 3) (by decide +kernel) (by decide) ?_
      refine g_irem (by decide +kernel) (by decide) ?_
      suffices hj3 : g_Model_sheetWrong E (d + 1) 41 [some (vr 30 0), some (vi x1), some (vi x2), none, none, none] [vi (if (xrem (H1 41 0 (x1.toNatClampNeg)) 3) = 0 then 1 else 0 : Int32)] H1 (qi Q) by
        refine g_if_ne (off := 7) (tgt := 40) (by decide +kernel) (by decide) (fun c => ?_) (fun c => ?_)
        · rw [if_neg c] at hj3
          refine g_iconst (n := 0) (v := 0) (by decide +kernel) (by decide) ?_
          exact hj3
        · rw [if_pos c] at hj3
          refine g_iconst (n := 1) (v := 1) (by decide +kernel) (by decide) ?_
          refine g_goto (off := 4) (tgt := 41) (by decide +kernel) (by decide) ?_
          exact hj3
      refine g_topi (fun v4 ev4 => ?_)
      replace h := h v4 ev4
      refine g_istore_n (q := 3) (i := 3) (ls2 := [some (vr 30 0), some (vi x1), some (vi x2), some (vi v4), none, none]) (by decide +kernel) rfl (by decide) rfl rfl ?_
      refine g_iconst (n := 0) (v := 0) (by decide +kernel) (by decide) ?_
      refine g_istore (i := 4) (ls2 := [some (vr 30 0), some (vi x1), some (vi x2), some (vi v4), some (vi 0), none]) (by decide +kernel) (by decide) rfl rfl ?_
      refine g_drop (ls2 := [some (vr 30 0), some (vi x1), some (vi x2), some (vi v4), some (vi 0), none]) (And.intro rfl (And.intro rfl (And.intro rfl (And.intro rfl (And.intro rfl trivial))))) ?_
      obtain ⟨I5, μ5, h0, h⟩ := h
      refine xloop (σ := Int32 × Int32) (fun s H => I5 s.1 s.2 H) (fun s H => μ5 s.1 s.2 H) (fun s H => g_Model_sheetWrong E (d + 1) 45 [some (vr 30 0), some (vi x1), some (vi x2), some (vi s.1), some (vi s.2), none] [] H (qi Q)) (fun s H8 hI ih5 => ?_) (v4, 0) H1 h0
      obtain ⟨z6, z7⟩ := s
      replace h := h z6 z7 H8 hI
      refine g_iload (i := 4) (by decide +kernel) rfl ?_
      refine g_iconst (n := 2) (v := 2) (by decide +kernel) (by decide) ?_
      refine g_iadd (by decide +kernel) ?_
      refine g_aload_n (q := 0) (i := 0) (by decide +kernel) rfl rfl ?_
      refine g_get (C := "ThreePointsModel") (T := xT_Model) (N := 39) (ci := 10) (k := 17) (v := vr 41 0) (by decide +kernel) (by decide) rfl rfl xi_Model (by decide) kw_1043 rfl ?_
      refine g_iload_n (q := 1) (i := 1) (by decide +kernel) rfl rfl ?_
      obtain ⟨hin, h⟩ := h
      refine g_iald (by decide +kernel) (by decide) rfl hin ?_
      refine g_icmp_ge (off := 76) (tgt := 131) (by decide +kernel) (by decide) (fun c => ?_) (fun c => ?_)
      · replace h := h.1 c
        refine g_iload_n (q := 3) (i := 3) (by decide +kernel) rfl rfl ?_
        refine g_if_ne (off := 8) (tgt := 140) (by decide +kernel) (by decide) (fun c => ?_) (fun c => ?_)
        · replace h := h.1 c
          refine g_aload_n (q := 0) (i := 0) (by decide +kernel) rfl rfl ?_
          refine g_iload_n (q := 2) (i := 2) (by decide +kernel) rfl rfl ?_
          refine g_callV (kd := 30) (ix := 0) (ci := 10) (N := 39) (T := xT_Model) (vs := [vi x2]) (st := []) (by decide +kernel) xm_Model_isVehicle kw_1202 kw_1204 kw_43 (by decide) rfl rfl rfl rfl (Nat.le_of_ble_eq_true rfl) (Nat.le_of_ble_eq_true rfl) h (fun vH9 H9 hq => ?_)
          obtain ⟨r10, rfl, h⟩ := hq
          suffices hj11 : g_Model_sheetWrong E (d + 1) 154 [some (vr 30 0), some (vi x1), some (vi x2), some (vi z6), some (vi z7), none] [vi (if r10 = 0 then (-5) else 0 : Int32)] H9 (qi Q) by
            refine g_if_eq (off := 7) (tgt := 152) (by decide +kernel) (by decide) (fun c => ?_) (fun c => ?_)
            · rw [if_pos c] at hj11
              refine g_bipush (n := (-5)) (v := (-5)) (by decide +kernel) (by decide) ?_
              exact hj11
            · rw [if_neg c] at hj11
              refine g_iconst (n := 0) (v := 0) (by decide +kernel) (by decide) ?_
              refine g_goto (off := 5) (tgt := 154) (by decide +kernel) (by decide) ?_
              exact hj11
          exact g_iret (by decide +kernel) rfl ⟨_, rfl, h⟩
        · replace h := h.2 c
          refine g_bipush (n := (-2)) (v := (-2)) (by decide +kernel) (by decide) ?_
          refine g_goto (off := 17) (tgt := 154) (by decide +kernel) (by decide) ?_
          exact g_iret (by decide +kernel) rfl ⟨_, rfl, h⟩
      · replace h := h.2 c
        refine g_bipush (n := 40) (v := 40) (by decide +kernel) (by decide) ?_
        refine g_iload_n (q := 1) (i := 1) (by decide +kernel) rfl rfl ?_
        refine g_imul (by decide +kernel) ?_
        refine g_iload (i := 4) (by decide +kernel) rfl ?_
        refine g_iadd (by decide +kernel) ?_
        refine g_topi (fun v12 ev12 => ?_)
        replace h := h v12 ev12
        refine g_istore (i := 5) (ls2 := [some (vr 30 0), some (vi x1), some (vi x2), some (vi z6), some (vi z7), some (vi v12)]) (by decide +kernel) (by decide) rfl rfl ?_
        refine g_iload_n (q := 3) (i := 3) (by decide +kernel) rfl rfl ?_
        refine g_aload_n (q := 0) (i := 0) (by decide +kernel) rfl rfl ?_
        refine g_get (C := "ThreePointsModel") (T := xT_Model) (N := 39) (ci := 10) (k := 18) (v := vr 42 0) (by decide +kernel) (by decide) rfl rfl xi_Model (by decide) kw_1044 rfl ?_
        refine g_iload (i := 5) (by decide +kernel) rfl ?_
        obtain ⟨hin, h⟩ := h
        refine g_iald (by decide +kernel) (by decide) rfl hin ?_
        refine g_iconst (n := 0) (v := 0) (by decide +kernel) (by decide) ?_
        refine g_iconst (n := 1) (v := 1) (by decide +kernel) (by decide) ?_
        refine g_callS (vs := [vi (H8 42 0 (v12.toNatClampNeg)), vi 0, vi 1]) (st := [vi z6]) (by decide +kernel) xm_Model_in kw_987 kw_988 rfl rfl (Nat.le_of_ble_eq_true rfl) (Nat.le_of_ble_eq_true rfl) h (fun vH13 H13 hq => ?_)
        obtain ⟨r14, rfl, h⟩ := hq
        refine g_if_eq (off := 42) (tgt := 122) (by decide +kernel) (by decide) (fun c => ?_) (fun c => ?_)
        · replace h := h.1 c
          refine g_iconst (n := 0) (v := 0) (by decide +kernel) (by decide) ?_
          refine g_iand (by decide +kernel) ?_
          refine g_istore_n (q := 3) (i := 3) (ls2 := [some (vr 30 0), some (vi x1), some (vi x2), some (vi (z6 &&& 0)), some (vi z7), some (vi v12)]) (by decide +kernel) rfl (by decide) rfl rfl ?_
          refine g_iinc (i := 4) (n := 3) (v := (z7 + 3)) (ls2 := [some (vr 30 0), some (vi x1), some (vi x2), some (vi (z6 &&& 0)), some (vi (z7 + 3)), some (vi v12)]) (by decide +kernel) rfl rfl (by decide) rfl rfl ?_
          refine g_goto (off := (-83)) (tgt := 45) (by decide +kernel) (by decide) ?_
          obtain ⟨hI, hlt⟩ := h
          exact g_drop (ls2 := [some (vr 30 0), some (vi x1), some (vi x2), some (vi (z6 &&& 0)), some (vi (z7 + 3)), none]) (And.intro rfl (And.intro rfl (And.intro rfl (And.intro rfl (And.intro rfl trivial))))) (ih5 ((z6 &&& 0), (z7 + 3)) H13 hI hlt)
        · replace h := h.2 c
          refine g_aload_n (q := 0) (i := 0) (by decide +kernel) rfl rfl ?_
          refine g_get (C := "ThreePointsModel") (T := xT_Model) (N := 39) (ci := 10) (k := 18) (v := vr 42 0) (by decide +kernel) (by decide) rfl rfl xi_Model (by decide) kw_1044 rfl ?_
          refine g_iload (i := 5) (by decide +kernel) rfl ?_
          refine g_iconst (n := 1) (v := 1) (by decide +kernel) (by decide) ?_
          refine g_iadd (by decide +kernel) ?_
          obtain ⟨hin, h⟩ := h
          refine g_iald (by decide +kernel) (by decide) rfl hin ?_
          refine g_iconst (n := (-1)) (v := (-1)) (by decide +kernel) (by decide) ?_
          refine g_iconst (n := 1) (v := 1) (by decide +kernel) (by decide) ?_
          refine g_callS (vs := [vi (H13 42 0 ((v12 + 1).toNatClampNeg)), vi (-1), vi 1]) (st := [vi z6]) (by decide +kernel) xm_Model_in kw_987 kw_988 rfl rfl (Nat.le_of_ble_eq_true rfl) (Nat.le_of_ble_eq_true rfl) h (fun vH15 H15 hq => ?_)
          obtain ⟨r16, rfl, h⟩ := hq
          refine g_if_eq (off := 25) (tgt := 122) (by decide +kernel) (by decide) (fun c => ?_) (fun c => ?_)
          · replace h := h.1 c
            refine g_iconst (n := 0) (v := 0) (by decide +kernel) (by decide) ?_
            refine g_iand (by decide +kernel) ?_
            refine g_istore_n (q := 3) (i := 3) (ls2 := [some (vr 30 0), some (vi x1), some (vi x2), some (vi (z6 &&& 0)), some (vi z7), some (vi v12)]) (by decide +kernel) rfl (by decide) rfl rfl ?_
            refine g_iinc (i := 4) (n := 3) (v := (z7 + 3)) (ls2 := [some (vr 30 0), some (vi x1), some (vi x2), some (vi (z6 &&& 0)), some (vi (z7 + 3)), some (vi v12)]) (by decide +kernel) rfl rfl (by decide) rfl rfl ?_
            refine g_goto (off := (-83)) (tgt := 45) (by decide +kernel) (by decide) ?_
            obtain ⟨hI, hlt⟩ := h
            exact g_drop (ls2 := [some (vr 30 0), some (vi x1), some (vi x2), some (vi (z6 &&& 0)), some (vi (z7 + 3)), none]) (And.intro rfl (And.intro rfl (And.intro rfl (And.intro rfl (And.intro rfl trivial))))) (ih5 ((z6 &&& 0), (z7 + 3)) H15 hI hlt)
          · replace h := h.2 c
            refine g_aload_n (q := 0) (i := 0) (by decide +kernel) rfl rfl ?_
            refine g_get (C := "ThreePointsModel") (T := xT_Model) (N := 39) (ci := 10) (k := 18) (v := vr 42 0) (by decide +kernel) (by decide) rfl rfl xi_Model (by decide) kw_1044 rfl ?_
            refine g_iload (i := 5) (by decide +kernel) rfl ?_
            refine g_iconst (n := 2) (v := 2) (by decide +kernel) (by decide) ?_
            refine g_iadd (by decide +kernel) ?_
            obtain ⟨hin, h⟩ := h
            refine g_iald (by decide +kernel) (by decide) rfl hin ?_
            refine g_iconst (n := 1) (v := 1) (by decide +kernel) (by decide) ?_
            refine g_bipush (n := 30) (v := 30) (by decide +kernel) (by decide) ?_
            refine g_callS (vs := [vi (H15 42 0 ((v12 + 2).toNatClampNeg)), vi 1, vi 30]) (st := [vi z6]) (by decide +kernel) xm_Model_in kw_987 kw_988 rfl rfl (Nat.le_of_ble_eq_true rfl) (Nat.le_of_ble_eq_true rfl) h (fun vH17 H17 hq => ?_)
            obtain ⟨r18, rfl, h⟩ := hq
            suffices hj19 : g_Model_sheetWrong E (d + 1) 123 [some (vr 30 0), some (vi x1), some (vi x2), some (vi z6), some (vi z7), some (vi v12)] [vi (if r18 = 0 then 0 else 1 : Int32), vi z6] H17 (qi Q) by
              refine g_if_eq (off := 7) (tgt := 122) (by decide +kernel) (by decide) (fun c => ?_) (fun c => ?_)
              · rw [if_pos c] at hj19
                refine g_iconst (n := 0) (v := 0) (by decide +kernel) (by decide) ?_
                exact hj19
              · rw [if_neg c] at hj19
                refine g_iconst (n := 1) (v := 1) (by decide +kernel) (by decide) ?_
                refine g_goto (off := 4) (tgt := 123) (by decide +kernel) (by decide) ?_
                exact hj19
            refine g_iand (by decide +kernel) ?_
            refine g_topi (fun v20 ev20 => ?_)
            replace h := h v20 ev20
            refine g_istore_n (q := 3) (i := 3) (ls2 := [some (vr 30 0), some (vi x1), some (vi x2), some (vi v20), some (vi z7), some (vi v12)]) (by decide +kernel) rfl (by decide) rfl rfl ?_
            refine g_iinc (i := 4) (n := 3) (v := (z7 + 3)) (ls2 := [some (vr 30 0), some (vi x1), some (vi x2), some (vi v20), some (vi (z7 + 3)), some (vi v12)]) (by decide +kernel) rfl rfl (by decide) rfl rfl ?_
            refine g_goto (off := (-83)) (tgt := 45) (by decide +kernel) (by decide) ?_
            obtain ⟨hI, hlt⟩ := h
            exact g_drop (ls2 := [some (vr 30 0), some (vi x1), some (vi x2), some (vi v20), some (vi (z7 + 3)), none]) (And.intro rfl (And.intro rfl (And.intro rfl (And.intro rfl (And.intro rfl trivial))))) (ih5 (v20, (z7 + 3)) H17 hI hlt)
    · replace h := h.2 c
      refine g_bipush (n := (-11)) (v := (-11)) (by decide +kernel) (by decide) ?_
      exact g_iret (by decide +kernel) rfl ⟨_, rfl, h⟩
  · replace h := h.2 c
    refine g_bipush (n := (-2)) (v := (-2)) (by decide +kernel) (by decide) ?_
    exact g_iret (by decide +kernel) rfl ⟨_, rfl, h⟩
def p_Model_keeps (E : XE) (d : Nat) (x1 : Int32) (H : HH) (Q : HH → Prop) : Prop := vp_in ((5 * x1) + 0) 20 ∧ (vp_in ((5 * x1) + 1) 20 ∧ (∀ H1 : HH, H1 = (hu H 53 0 0 (H 34 0 (((5 * x1) + 0).toNatClampNeg))) → (vp_in ((5 * x1) + 2) 20 ∧ (∀ H2 : HH, H2 = (hu H1 53 0 1 (H1 34 0 (((5 * x1) + 1).toNatClampNeg))) → (vp_in ((5 * x1) + 3) 20 ∧ (∀ H3 : HH, H3 = (hu H2 53 0 2 (H2 34 0 (((5 * x1) + 2).toNatClampNeg))) → (vp_in ((5 * x1) + 4) 20 ∧ (∀ H4 : HH, H4 = (hu H3 53 0 3 (H3 34 0 (((5 * x1) + 3).toNatClampNeg))) → (∀ H5 : HH, H5 = (hu H4 53 0 4 (H4 34 0 (((5 * x1) + 4).toNatClampNeg))) → (Q H5))))))))))
set_option maxHeartbeats 4000000 in
theorem l_Model_keeps {E : XE} {d : Nat} {x1 : Int32} {H : HH} {Q : HH → Prop} (h : p_Model_keeps E d x1 H Q) : c_Model_keeps E d x1 H Q := by
  show g_Model_keeps E d 0 (xent [vr 30 0, vi x1]) [] H (qv Q)
  refine g_drop (ls2 := [some (vr 30 0), some (vi x1), none]) (And.intro rfl (And.intro rfl trivial)) ?_
  refine g_iconst (n := 0) (v := 0) (by decide +kernel) (by decide) ?_
  refine g_istore_n (q := 2) (i := 2) (ls2 := [some (vr 30 0), some (vi x1), some (vi 0)]) (by decide +kernel) rfl (by decide) rfl rfl ?_
  refine g_iload_n (q := 2) (i := 2) (by decide +kernel) rfl rfl ?_
  refine g_iconst (n := 5) (v := 5) (by decide +kernel) (by decide) ?_
  refine g_icmp_ge (off := 25) (tgt := 29) (by decide +kernel) (by decide) (fun c => absurd c (by decide)) (fun c => ?_)
  refine g_aload_n (q := 0) (i := 0) (by decide +kernel) rfl rfl ?_
  refine g_get (C := "ThreePointsModel") (T := xT_Model) (N := 39) (ci := 10) (k := 36) (v := vr 53 0) (by decide +kernel) (by decide) rfl rfl xi_Model (by decide) kw_1062 rfl ?_
  refine g_iload_n (q := 2) (i := 2) (by decide +kernel) rfl rfl ?_
  refine g_aload_n (q := 0) (i := 0) (by decide +kernel) rfl rfl ?_
  refine g_get (C := "ThreePointsModel") (T := xT_Model) (N := 39) (ci := 10) (k := 6) (v := vr 34 0) (by decide +kernel) (by decide) rfl rfl xi_Model (by decide) kw_1032 rfl ?_
  refine g_iconst (n := 5) (v := 5) (by decide +kernel) (by decide) ?_
  refine g_iload_n (q := 1) (i := 1) (by decide +kernel) rfl rfl ?_
  refine g_imul (by decide +kernel) ?_
  refine g_iload_n (q := 2) (i := 2) (by decide +kernel) rfl rfl ?_
  refine g_iadd (by decide +kernel) ?_
  obtain ⟨hin, h⟩ := h
  refine g_iald (by decide +kernel) (by decide) rfl hin ?_
  refine g_iast (by decide +kernel) (by decide) rfl (vp_lit (by decide)) ?_
  refine g_heapE (H1 := (hu H 53 0 0 (H 34 0 (((5 * x1) + 0).toNatClampNeg)))) rfl ?_
  refine g_iinc (i := 2) (n := 1) (v := 1) (ls2 := [some (vr 30 0), some (vi x1), some (vi 1)]) (by decide +kernel) rfl (by decide) (by decide) rfl rfl ?_
  refine g_goto (off := (-24)) (tgt := 2) (by decide +kernel) (by decide) ?_
  refine g_iload_n (q := 2) (i := 2) (by decide +kernel) rfl rfl ?_
  refine g_iconst (n := 5) (v := 5) (by decide +kernel) (by decide) ?_
  refine g_icmp_ge (off := 25) (tgt := 29) (by decide +kernel) (by decide) (fun c => absurd c (by decide)) (fun c => ?_)
  refine g_aload_n (q := 0) (i := 0) (by decide +kernel) rfl rfl ?_
  refine g_get (C := "ThreePointsModel") (T := xT_Model) (N := 39) (ci := 10) (k := 36) (v := vr 53 0) (by decide +kernel) (by decide) rfl rfl xi_Model (by decide) kw_1062 rfl ?_
  refine g_iload_n (q := 2) (i := 2) (by decide +kernel) rfl rfl ?_
  refine g_aload_n (q := 0) (i := 0) (by decide +kernel) rfl rfl ?_
  refine g_get (C := "ThreePointsModel") (T := xT_Model) (N := 39) (ci := 10) (k := 6) (v := vr 34 0) (by decide +kernel) (by decide) rfl rfl xi_Model (by decide) kw_1032 rfl ?_
  refine g_iconst (n := 5) (v := 5) (by decide +kernel) (by decide) ?_
  refine g_iload_n (q := 1) (i := 1) (by decide +kernel) rfl rfl ?_
  refine g_imul (by decide +kernel) ?_
  refine g_iload_n (q := 2) (i := 2) (by decide +kernel) rfl rfl ?_
  refine g_iadd (by decide +kernel) ?_
  obtain ⟨hin, h⟩ := h
  refine g_heap (fun H1 eH1 => ?_)
  replace h := h H1 eH1
  refine g_iald (by decide +kernel) (by decide) rfl hin ?_
  refine g_iast (by decide +kernel) (by decide) rfl (vp_lit (by decide)) ?_
  refine g_heapE (H1 := (hu H1 53 0 1 (H1 34 0 (((5 * x1) + 1).toNatClampNeg)))) rfl ?_
  refine g_iinc (i := 2) (n := 1) (v := 2) (ls2 := [some (vr 30 0), some (vi x1), some (vi 2)]) (by decide +kernel) rfl (by decide) (by decide) rfl rfl ?_
  refine g_goto (off := (-24)) (tgt := 2) (by decide +kernel) (by decide) ?_
  refine g_iload_n (q := 2) (i := 2) (by decide +kernel) rfl rfl ?_
  refine g_iconst (n := 5) (v := 5) (by decide +kernel) (by decide) ?_
  refine g_icmp_ge (off := 25) (tgt := 29) (by decide +kernel) (by decide) (fun c => absurd c (by decide)) (fun c => ?_)
  refine g_aload_n (q := 0) (i := 0) (by decide +kernel) rfl rfl ?_
  refine g_get (C := "ThreePointsModel") (T := xT_Model) (N := 39) (ci := 10) (k := 36) (v := vr 53 0) (by decide +kernel) (by decide) rfl rfl xi_Model (by decide) kw_1062 rfl ?_
  refine g_iload_n (q := 2) (i := 2) (by decide +kernel) rfl rfl ?_
  refine g_aload_n (q := 0) (i := 0) (by decide +kernel) rfl rfl ?_
  refine g_get (C := "ThreePointsModel") (T := xT_Model) (N := 39) (ci := 10) (k := 6) (v := vr 34 0) (by decide +kernel) (by decide) rfl rfl xi_Model (by decide) kw_1032 rfl ?_
  refine g_iconst (n := 5) (v := 5) (by decide +kernel) (by decide) ?_
  refine g_iload_n (q := 1) (i := 1) (by decide +kernel) rfl rfl ?_
  refine g_imul (by decide +kernel) ?_
  refine g_iload_n (q := 2) (i := 2) (by decide +kernel) rfl rfl ?_
  refine g_iadd (by decide +kernel) ?_
  obtain ⟨hin, h⟩ := h
  refine g_heap (fun H2 eH2 => ?_)
  replace h := h H2 eH2
  refine g_iald (by decide +kernel) (by decide) rfl hin ?_
  refine g_iast (by decide +kernel) (by decide) rfl (vp_lit (by decide)) ?_
  refine g_heapE (H1 := (hu H2 53 0 2 (H2 34 0 (((5 * x1) + 2).toNatClampNeg)))) rfl ?_
  refine g_iinc (i := 2) (n := 1) (v := 3) (ls2 := [some (vr 30 0), some (vi x1), some (vi 3)]) (by decide +kernel) rfl (by decide) (by decide) rfl rfl ?_
  refine g_goto (off := (-24)) (tgt := 2) (by decide +kernel) (by decide) ?_
  refine g_iload_n (q := 2) (i := 2) (by decide +kernel) rfl rfl ?_
  refine g_iconst (n := 5) (v := 5) (by decide +kernel) (by decide) ?_
  refine g_icmp_ge (off := 25) (tgt := 29) (by decide +kernel) (by decide) (fun c => absurd c (by decide)) (fun c => ?_)
  refine g_aload_n (q := 0) (i := 0) (by decide +kernel) rfl rfl ?_
  refine g_get (C := "ThreePointsModel") (T := xT_Model) (N := 39) (ci := 10) (k := 36) (v := vr 53 0) (by decide +kernel) (by decide) rfl rfl xi_Model (by decide) kw_1062 rfl ?_
  refine g_iload_n (q := 2) (i := 2) (by decide +kernel) rfl rfl ?_
  refine g_aload_n (q := 0) (i := 0) (by decide +kernel) rfl rfl ?_
  refine g_get (C := "ThreePointsModel") (T := xT_Model) (N := 39) (ci := 10) (k := 6) (v := vr 34 0) (by decide +kernel) (by decide) rfl rfl xi_Model (by decide) kw_1032 rfl ?_
  refine g_iconst (n := 5) (v := 5) (by decide +kernel) (by decide) ?_
  refine g_iload_n (q := 1) (i := 1) (by decide +kernel) rfl rfl ?_
  refine g_imul (by decide +kernel) ?_
  refine g_iload_n (q := 2) (i := 2) (by decide +kernel) rfl rfl ?_
  refine g_iadd (by decide +kernel) ?_
  obtain ⟨hin, h⟩ := h
  refine g_heap (fun H3 eH3 => ?_)
  replace h := h H3 eH3
  refine g_iald (by decide +kernel) (by decide) rfl hin ?_
  refine g_iast (by decide +kernel) (by decide) rfl (vp_lit (by decide)) ?_
  refine g_heapE (H1 := (hu H3 53 0 3 (H3 34 0 (((5 * x1) + 3).toNatClampNeg)))) rfl ?_
  refine g_iinc (i := 2) (n := 1) (v := 4) (ls2 := [some (vr 30 0), some (vi x1), some (vi 4)]) (by decide +kernel) rfl (by decide) (by decide) rfl rfl ?_
  refine g_goto (off := (-24)) (tgt := 2) (by decide +kernel) (by decide) ?_
  refine g_iload_n (q := 2) (i := 2) (by decide +kernel) rfl rfl ?_
  refine g_iconst (n := 5) (v := 5) (by decide +kernel) (by decide) ?_
  refine g_icmp_ge (off := 25) (tgt := 29) (by decide +kernel) (by decide) (fun c => absurd c (by decide)) (fun c => ?_)
  refine g_aload_n (q := 0) (i := 0) (by decide +kernel) rfl rfl ?_
  refine g_get (C := "ThreePointsModel") (T := xT_Model) (N := 39) (ci := 10) (k := 36) (v := vr 53 0) (by decide +kernel) (by decide) rfl rfl xi_Model (by decide) kw_1062 rfl ?_
  refine g_iload_n (q := 2) (i := 2) (by decide +kernel) rfl rfl ?_
  refine g_aload_n (q := 0) (i := 0) (by decide +kernel) rfl rfl ?_
  refine g_get (C := "ThreePointsModel") (T := xT_Model) (N := 39) (ci := 10) (k := 6) (v := vr 34 0) (by decide +kernel) (by decide) rfl rfl xi_Model (by decide) kw_1032 rfl ?_
  refine g_iconst (n := 5) (v := 5) (by decide +kernel) (by decide) ?_
  refine g_iload_n (q := 1) (i := 1) (by decide +kernel) rfl rfl ?_
  refine g_imul (by decide +kernel) ?_
  refine g_iload_n (q := 2) (i := 2) (by decide +kernel) rfl rfl ?_
  refine g_iadd (by decide +kernel) ?_
  obtain ⟨hin, h⟩ := h
  refine g_heap (fun H4 eH4 => ?_)
  replace h := h H4 eH4
  refine g_iald (by decide +kernel) (by decide) rfl hin ?_
  refine g_iast (by decide +kernel) (by decide) rfl (vp_lit (by decide)) ?_
  refine g_heapE (H1 := (hu H4 53 0 4 (H4 34 0 (((5 * x1) + 4).toNatClampNeg)))) rfl ?_
  refine g_iinc (i := 2) (n := 1) (v := 5) (ls2 := [some (vr 30 0), some (vi x1), some (vi 5)]) (by decide +kernel) rfl (by decide) (by decide) rfl rfl ?_
  refine g_goto (off := (-24)) (tgt := 2) (by decide +kernel) (by decide) ?_
  refine g_iload_n (q := 2) (i := 2) (by decide +kernel) rfl rfl ?_
  refine g_iconst (n := 5) (v := 5) (by decide +kernel) (by decide) ?_
  refine g_icmp_ge (off := 25) (tgt := 29) (by decide +kernel) (by decide) (fun c => ?_) (fun c => absurd c (by decide))
  refine g_heap (fun H5 eH5 => ?_)
  replace h := h H5 eH5
  exact g_vret (by decide +kernel) rfl h
def p_Model_laysBack (E : XE) (d : Nat) (x1 : Int32) (H : HH) (Q : HH → Prop) : Prop := vp_in ((5 * x1) + 0) 20 ∧ (∀ H1 : HH, H1 = (hu H 54 0 0 (H 34 0 (((5 * x1) + 0).toNatClampNeg))) → (vp_in ((5 * x1) + 0) 20 ∧ (vp_in ((5 * x1) + 1) 20 ∧ (∀ H2 : HH, H2 = (hu H1 34 0 (((5 * x1) + 0).toNatClampNeg) (H1 53 0 0)) → (∀ H3 : HH, H3 = (hu H2 54 0 1 (H2 34 0 (((5 * x1) + 1).toNatClampNeg))) → (vp_in ((5 * x1) + 1) 20 ∧ (vp_in ((5 * x1) + 2) 20 ∧ (∀ H4 : HH, H4 = (hu H3 34 0 (((5 * x1) + 1).toNatClampNeg) (H3 53 0 1)) → (∀ H5 : HH, H5 = (hu H4 54 0 2 (H4 34 0 (((5 * x1) + 2).toNatClampNeg))) → (vp_in ((5 * x1) + 2) 20 ∧ (vp_in ((5 * x1) + 3) 20 ∧ (∀ H6 : HH, H6 = (hu H5 34 0 (((5 * x1) + 2).toNatClampNeg) (H5 53 0 2)) → (∀ H7 : HH, H7 = (hu H6 54 0 3 (H6 34 0 (((5 * x1) + 3).toNatClampNeg))) → (vp_in ((5 * x1) + 3) 20 ∧ (vp_in ((5 * x1) + 4) 20 ∧ (∀ H8 : HH, H8 = (hu H7 34 0 (((5 * x1) + 3).toNatClampNeg) (H7 53 0 3)) → (∀ H9 : HH, H9 = (hu H8 54 0 4 (H8 34 0 (((5 * x1) + 4).toNatClampNeg))) → (vp_in ((5 * x1) + 4) 20 ∧ (∀ H10 : HH, H10 = (hu H9 34 0 (((5 * x1) + 4).toNatClampNeg) (H9 53 0 4)) → (Q H10))))))))))))))))))))
set_option maxHeartbeats 4000000 in
theorem l_Model_laysBack {E : XE} {d : Nat} {x1 : Int32} {H : HH} {Q : HH → Prop} (h : p_Model_laysBack E d x1 H Q) : c_Model_laysBack E d x1 H Q := by
  show g_Model_laysBack E d 0 (xent [vr 30 0, vi x1]) [] H (qv Q)
  refine g_drop (ls2 := [some (vr 30 0), some (vi x1), none]) (And.intro rfl (And.intro rfl trivial)) ?_
  refine g_iconst (n := 0) (v := 0) (by decide +kernel) (by decide) ?_
  refine g_istore_n (q := 2) (i := 2) (ls2 := [some (vr 30 0), some (vi x1), some (vi 0)]) (by decide +kernel) rfl (by decide) rfl rfl ?_
  refine g_iload_n (q := 2) (i := 2) (by decide +kernel) rfl rfl ?_
  refine g_iconst (n := 5) (v := 5) (by decide +kernel) (by decide) ?_
  refine g_icmp_ge (off := 41) (tgt := 45) (by decide +kernel) (by decide) (fun c => absurd c (by decide)) (fun c => ?_)
  refine g_aload_n (q := 0) (i := 0) (by decide +kernel) rfl rfl ?_
  refine g_get (C := "ThreePointsModel") (T := xT_Model) (N := 39) (ci := 10) (k := 37) (v := vr 54 0) (by decide +kernel) (by decide) rfl rfl xi_Model (by decide) kw_1063 rfl ?_
  refine g_iload_n (q := 2) (i := 2) (by decide +kernel) rfl rfl ?_
  refine g_aload_n (q := 0) (i := 0) (by decide +kernel) rfl rfl ?_
  refine g_get (C := "ThreePointsModel") (T := xT_Model) (N := 39) (ci := 10) (k := 6) (v := vr 34 0) (by decide +kernel) (by decide) rfl rfl xi_Model (by decide) kw_1032 rfl ?_
  refine g_iconst (n := 5) (v := 5) (by decide +kernel) (by decide) ?_
  refine g_iload_n (q := 1) (i := 1) (by decide +kernel) rfl rfl ?_
  refine g_imul (by decide +kernel) ?_
  refine g_iload_n (q := 2) (i := 2) (by decide +kernel) rfl rfl ?_
  refine g_iadd (by decide +kernel) ?_
  obtain ⟨hin, h⟩ := h
  refine g_iald (by decide +kernel) (by decide) rfl hin ?_
  refine g_iast (by decide +kernel) (by decide) rfl (vp_lit (by decide)) ?_
  refine g_heapE (H1 := (hu H 54 0 0 (H 34 0 (((5 * x1) + 0).toNatClampNeg)))) rfl ?_
  refine g_aload_n (q := 0) (i := 0) (by decide +kernel) rfl rfl ?_
  refine g_get (C := "ThreePointsModel") (T := xT_Model) (N := 39) (ci := 10) (k := 6) (v := vr 34 0) (by decide +kernel) (by decide) rfl rfl xi_Model (by decide) kw_1032 rfl ?_
  refine g_iconst (n := 5) (v := 5) (by decide +kernel) (by decide) ?_
  refine g_iload_n (q := 1) (i := 1) (by decide +kernel) rfl rfl ?_
  refine g_imul (by decide +kernel) ?_
  refine g_iload_n (q := 2) (i := 2) (by decide +kernel) rfl rfl ?_
  refine g_iadd (by decide +kernel) ?_
  refine g_aload_n (q := 0) (i := 0) (by decide +kernel) rfl rfl ?_
  refine g_get (C := "ThreePointsModel") (T := xT_Model) (N := 39) (ci := 10) (k := 36) (v := vr 53 0) (by decide +kernel) (by decide) rfl rfl xi_Model (by decide) kw_1062 rfl ?_
  refine g_iload_n (q := 2) (i := 2) (by decide +kernel) rfl rfl ?_
  refine g_heap (fun H1 eH1 => ?_)
  replace h := h H1 eH1
  refine g_iald (by decide +kernel) (by decide) rfl (vp_lit (by decide)) ?_
  refine g_topE (y := (H1 53 0 0)) rfl ?_
  obtain ⟨hin, h⟩ := h
  refine g_iast (by decide +kernel) (by decide) rfl hin ?_
  refine g_iinc (i := 2) (n := 1) (v := 1) (ls2 := [some (vr 30 0), some (vi x1), some (vi 1)]) (by decide +kernel) rfl (by decide) (by decide) rfl rfl ?_
  refine g_goto (off := (-40)) (tgt := 2) (by decide +kernel) (by decide) ?_
  refine g_iload_n (q := 2) (i := 2) (by decide +kernel) rfl rfl ?_
  refine g_iconst (n := 5) (v := 5) (by decide +kernel) (by decide) ?_
  refine g_icmp_ge (off := 41) (tgt := 45) (by decide +kernel) (by decide) (fun c => absurd c (by decide)) (fun c => ?_)
  refine g_aload_n (q := 0) (i := 0) (by decide +kernel) rfl rfl ?_
  refine g_get (C := "ThreePointsModel") (T := xT_Model) (N := 39) (ci := 10) (k := 37) (v := vr 54 0) (by decide +kernel) (by decide) rfl rfl xi_Model (by decide) kw_1063 rfl ?_
  refine g_iload_n (q := 2) (i := 2) (by decide +kernel) rfl rfl ?_
  refine g_aload_n (q := 0) (i := 0) (by decide +kernel) rfl rfl ?_
  refine g_get (C := "ThreePointsModel") (T := xT_Model) (N := 39) (ci := 10) (k := 6) (v := vr 34 0) (by decide +kernel) (by decide) rfl rfl xi_Model (by decide) kw_1032 rfl ?_
  refine g_iconst (n := 5) (v := 5) (by decide +kernel) (by decide) ?_
  refine g_iload_n (q := 1) (i := 1) (by decide +kernel) rfl rfl ?_
  refine g_imul (by decide +kernel) ?_
  refine g_iload_n (q := 2) (i := 2) (by decide +kernel) rfl rfl ?_
  refine g_iadd (by decide +kernel) ?_
  obtain ⟨hin, h⟩ := h
  refine g_heap (fun H2 eH2 => ?_)
  replace h := h H2 eH2
  refine g_iald (by decide +kernel) (by decide) rfl hin ?_
  refine g_iast (by decide +kernel) (by decide) rfl (vp_lit (by decide)) ?_
  refine g_heapE (H1 := (hu H2 54 0 1 (H2 34 0 (((5 * x1) + 1).toNatClampNeg)))) rfl ?_
  refine g_aload_n (q := 0) (i := 0) (by decide +kernel) rfl rfl ?_
  refine g_get (C := "ThreePointsModel") (T := xT_Model) (N := 39) (ci := 10) (k := 6) (v := vr 34 0) (by decide +kernel) (by decide) rfl rfl xi_Model (by decide) kw_1032 rfl ?_
  refine g_iconst (n := 5) (v := 5) (by decide +kernel) (by decide) ?_
  refine g_iload_n (q := 1) (i := 1) (by decide +kernel) rfl rfl ?_
  refine g_imul (by decide +kernel) ?_
  refine g_iload_n (q := 2) (i := 2) (by decide +kernel) rfl rfl ?_
  refine g_iadd (by decide +kernel) ?_
  refine g_aload_n (q := 0) (i := 0) (by decide +kernel) rfl rfl ?_
  refine g_get (C := "ThreePointsModel") (T := xT_Model) (N := 39) (ci := 10) (k := 36) (v := vr 53 0) (by decide +kernel) (by decide) rfl rfl xi_Model (by decide) kw_1062 rfl ?_
  refine g_iload_n (q := 2) (i := 2) (by decide +kernel) rfl rfl ?_
  refine g_heap (fun H3 eH3 => ?_)
  replace h := h H3 eH3
  refine g_iald (by decide +kernel) (by decide) rfl (vp_lit (by decide)) ?_
  refine g_topE (y := (H3 53 0 1)) rfl ?_
  obtain ⟨hin, h⟩ := h
  refine g_iast (by decide +kernel) (by decide) rfl hin ?_
  refine g_iinc (i := 2) (n := 1) (v := 2) (ls2 := [some (vr 30 0), some (vi x1), some (vi 2)]) (by decide +kernel) rfl (by decide) (by decide) rfl rfl ?_
  refine g_goto (off := (-40)) (tgt := 2) (by decide +kernel) (by decide) ?_
  refine g_iload_n (q := 2) (i := 2) (by decide +kernel) rfl rfl ?_
  refine g_iconst (n := 5) (v := 5) (by decide +kernel) (by decide) ?_
  refine g_icmp_ge (off := 41) (tgt := 45) (by decide +kernel) (by decide) (fun c => absurd c (by decide)) (fun c => ?_)
  refine g_aload_n (q := 0) (i := 0) (by decide +kernel) rfl rfl ?_
  refine g_get (C := "ThreePointsModel") (T := xT_Model) (N := 39) (ci := 10) (k := 37) (v := vr 54 0) (by decide +kernel) (by decide) rfl rfl xi_Model (by decide) kw_1063 rfl ?_
  refine g_iload_n (q := 2) (i := 2) (by decide +kernel) rfl rfl ?_
  refine g_aload_n (q := 0) (i := 0) (by decide +kernel) rfl rfl ?_
  refine g_get (C := "ThreePointsModel") (T := xT_Model) (N := 39) (ci := 10) (k := 6) (v := vr 34 0) (by decide +kernel) (by decide) rfl rfl xi_Model (by decide) kw_1032 rfl ?_
  refine g_iconst (n := 5) (v := 5) (by decide +kernel) (by decide) ?_
  refine g_iload_n (q := 1) (i := 1) (by decide +kernel) rfl rfl ?_
  refine g_imul (by decide +kernel) ?_
  refine g_iload_n (q := 2) (i := 2) (by decide +kernel) rfl rfl ?_
  refine g_iadd (by decide +kernel) ?_
  obtain ⟨hin, h⟩ := h
  refine g_heap (fun H4 eH4 => ?_)
  replace h := h H4 eH4
  refine g_iald (by decide +kernel) (by decide) rfl hin ?_
  refine g_iast (by decide +kernel) (by decide) rfl (vp_lit (by decide)) ?_
  refine g_heapE (H1 := (hu H4 54 0 2 (H4 34 0 (((5 * x1) + 2).toNatClampNeg)))) rfl ?_
  refine g_aload_n (q := 0) (i := 0) (by decide +kernel) rfl rfl ?_
  refine g_get (C := "ThreePointsModel") (T := xT_Model) (N := 39) (ci := 10) (k := 6) (v := vr 34 0) (by decide +kernel) (by decide) rfl rfl xi_Model (by decide) kw_1032 rfl ?_
  refine g_iconst (n := 5) (v := 5) (by decide +kernel) (by decide) ?_
  refine g_iload_n (q := 1) (i := 1) (by decide +kernel) rfl rfl ?_
  refine g_imul (by decide +kernel) ?_
  refine g_iload_n (q := 2) (i := 2) (by decide +kernel) rfl rfl ?_
  refine g_iadd (by decide +kernel) ?_
  refine g_aload_n (q := 0) (i := 0) (by decide +kernel) rfl rfl ?_
  refine g_get (C := "ThreePointsModel") (T := xT_Model) (N := 39) (ci := 10) (k := 36) (v := vr 53 0) (by decide +kernel) (by decide) rfl rfl xi_Model (by decide) kw_1062 rfl ?_
  refine g_iload_n (q := 2) (i := 2) (by decide +kernel) rfl rfl ?_
  refine g_heap (fun H5 eH5 => ?_)
  replace h := h H5 eH5
  refine g_iald (by decide +kernel) (by decide) rfl (vp_lit (by decide)) ?_
  refine g_topE (y := (H5 53 0 2)) rfl ?_
  obtain ⟨hin, h⟩ := h
  refine g_iast (by decide +kernel) (by decide) rfl hin ?_
  refine g_iinc (i := 2) (n := 1) (v := 3) (ls2 := [some (vr 30 0), some (vi x1), some (vi 3)]) (by decide +kernel) rfl (by decide) (by decide) rfl rfl ?_
  refine g_goto (off := (-40)) (tgt := 2) (by decide +kernel) (by decide) ?_
  refine g_iload_n (q := 2) (i := 2) (by decide +kernel) rfl rfl ?_
  refine g_iconst (n := 5) (v := 5) (by decide +kernel) (by decide) ?_
  refine g_icmp_ge (off := 41) (tgt := 45) (by decide +kernel) (by decide) (fun c => absurd c (by decide)) (fun c => ?_)
  refine g_aload_n (q := 0) (i := 0) (by decide +kernel) rfl rfl ?_
  refine g_get (C := "ThreePointsModel") (T := xT_Model) (N := 39) (ci := 10) (k := 37) (v := vr 54 0) (by decide +kernel) (by decide) rfl rfl xi_Model (by decide) kw_1063 rfl ?_
  refine g_iload_n (q := 2) (i := 2) (by decide +kernel) rfl rfl ?_
  refine g_aload_n (q := 0) (i := 0) (by decide +kernel) rfl rfl ?_
  refine g_get (C := "ThreePointsModel") (T := xT_Model) (N := 39) (ci := 10) (k := 6) (v := vr 34 0) (by decide +kernel) (by decide) rfl rfl xi_Model (by decide) kw_1032 rfl ?_
  refine g_iconst (n := 5) (v := 5) (by decide +kernel) (by decide) ?_
  refine g_iload_n (q := 1) (i := 1) (by decide +kernel) rfl rfl ?_
  refine g_imul (by decide +kernel) ?_
  refine g_iload_n (q := 2) (i := 2) (by decide +kernel) rfl rfl ?_
  refine g_iadd (by decide +kernel) ?_
  obtain ⟨hin, h⟩ := h
  refine g_heap (fun H6 eH6 => ?_)
  replace h := h H6 eH6
  refine g_iald (by decide +kernel) (by decide) rfl hin ?_
  refine g_iast (by decide +kernel) (by decide) rfl (vp_lit (by decide)) ?_
  refine g_heapE (H1 := (hu H6 54 0 3 (H6 34 0 (((5 * x1) + 3).toNatClampNeg)))) rfl ?_
  refine g_aload_n (q := 0) (i := 0) (by decide +kernel) rfl rfl ?_
  refine g_get (C := "ThreePointsModel") (T := xT_Model) (N := 39) (ci := 10) (k := 6) (v := vr 34 0) (by decide +kernel) (by decide) rfl rfl xi_Model (by decide) kw_1032 rfl ?_
  refine g_iconst (n := 5) (v := 5) (by decide +kernel) (by decide) ?_
  refine g_iload_n (q := 1) (i := 1) (by decide +kernel) rfl rfl ?_
  refine g_imul (by decide +kernel) ?_
  refine g_iload_n (q := 2) (i := 2) (by decide +kernel) rfl rfl ?_
  refine g_iadd (by decide +kernel) ?_
  refine g_aload_n (q := 0) (i := 0) (by decide +kernel) rfl rfl ?_
  refine g_get (C := "ThreePointsModel") (T := xT_Model) (N := 39) (ci := 10) (k := 36) (v := vr 53 0) (by decide +kernel) (by decide) rfl rfl xi_Model (by decide) kw_1062 rfl ?_
  refine g_iload_n (q := 2) (i := 2) (by decide +kernel) rfl rfl ?_
  refine g_heap (fun H7 eH7 => ?_)
  replace h := h H7 eH7
  refine g_iald (by decide +kernel) (by decide) rfl (vp_lit (by decide)) ?_
  refine g_topE (y := (H7 53 0 3)) rfl ?_
  obtain ⟨hin, h⟩ := h
  refine g_iast (by decide +kernel) (by decide) rfl hin ?_
  refine g_iinc (i := 2) (n := 1) (v := 4) (ls2 := [some (vr 30 0), some (vi x1), some (vi 4)]) (by decide +kernel) rfl (by decide) (by decide) rfl rfl ?_
  refine g_goto (off := (-40)) (tgt := 2) (by decide +kernel) (by decide) ?_
  refine g_iload_n (q := 2) (i := 2) (by decide +kernel) rfl rfl ?_
  refine g_iconst (n := 5) (v := 5) (by decide +kernel) (by decide) ?_
  refine g_icmp_ge (off := 41) (tgt := 45) (by decide +kernel) (by decide) (fun c => absurd c (by decide)) (fun c => ?_)
  refine g_aload_n (q := 0) (i := 0) (by decide +kernel) rfl rfl ?_
  refine g_get (C := "ThreePointsModel") (T := xT_Model) (N := 39) (ci := 10) (k := 37) (v := vr 54 0) (by decide +kernel) (by decide) rfl rfl xi_Model (by decide) kw_1063 rfl ?_
  refine g_iload_n (q := 2) (i := 2) (by decide +kernel) rfl rfl ?_
  refine g_aload_n (q := 0) (i := 0) (by decide +kernel) rfl rfl ?_
  refine g_get (C := "ThreePointsModel") (T := xT_Model) (N := 39) (ci := 10) (k := 6) (v := vr 34 0) (by decide +kernel) (by decide) rfl rfl xi_Model (by decide) kw_1032 rfl ?_
  refine g_iconst (n := 5) (v := 5) (by decide +kernel) (by decide) ?_
  refine g_iload_n (q := 1) (i := 1) (by decide +kernel) rfl rfl ?_
  refine g_imul (by decide +kernel) ?_
  refine g_iload_n (q := 2) (i := 2) (by decide +kernel) rfl rfl ?_
  refine g_iadd (by decide +kernel) ?_
  obtain ⟨hin, h⟩ := h
  refine g_heap (fun H8 eH8 => ?_)
  replace h := h H8 eH8
  refine g_iald (by decide +kernel) (by decide) rfl hin ?_
  refine g_iast (by decide +kernel) (by decide) rfl (vp_lit (by decide)) ?_
  refine g_heapE (H1 := (hu H8 54 0 4 (H8 34 0 (((5 * x1) + 4).toNatClampNeg)))) rfl ?_
  refine g_aload_n (q := 0) (i := 0) (by decide +kernel) rfl rfl ?_
  refine g_get (C := "ThreePointsModel") (T := xT_Model) (N := 39) (ci := 10) (k := 6) (v := vr 34 0) (by decide +kernel) (by decide) rfl rfl xi_Model (by decide) kw_1032 rfl ?_
  refine g_iconst (n := 5) (v := 5) (by decide +kernel) (by decide) ?_
  refine g_iload_n (q := 1) (i := 1) (by decide +kernel) rfl rfl ?_
  refine g_imul (by decide +kernel) ?_
  refine g_iload_n (q := 2) (i := 2) (by decide +kernel) rfl rfl ?_
  refine g_iadd (by decide +kernel) ?_
  refine g_aload_n (q := 0) (i := 0) (by decide +kernel) rfl rfl ?_
  refine g_get (C := "ThreePointsModel") (T := xT_Model) (N := 39) (ci := 10) (k := 36) (v := vr 53 0) (by decide +kernel) (by decide) rfl rfl xi_Model (by decide) kw_1062 rfl ?_
  refine g_iload_n (q := 2) (i := 2) (by decide +kernel) rfl rfl ?_
  refine g_heap (fun H9 eH9 => ?_)
  replace h := h H9 eH9
  refine g_iald (by decide +kernel) (by decide) rfl (vp_lit (by decide)) ?_
  refine g_topE (y := (H9 53 0 4)) rfl ?_
  obtain ⟨hin, h⟩ := h
  refine g_iast (by decide +kernel) (by decide) rfl hin ?_
  refine g_iinc (i := 2) (n := 1) (v := 5) (ls2 := [some (vr 30 0), some (vi x1), some (vi 5)]) (by decide +kernel) rfl (by decide) (by decide) rfl rfl ?_
  refine g_goto (off := (-40)) (tgt := 2) (by decide +kernel) (by decide) ?_
  refine g_iload_n (q := 2) (i := 2) (by decide +kernel) rfl rfl ?_
  refine g_iconst (n := 5) (v := 5) (by decide +kernel) (by decide) ?_
  refine g_icmp_ge (off := 41) (tgt := 45) (by decide +kernel) (by decide) (fun c => ?_) (fun c => absurd c (by decide))
  refine g_heap (fun H10 eH10 => ?_)
  replace h := h H10 eH10
  exact g_vret (by decide +kernel) rfl h
def p_Model_firstWrong (E : XE) (d : Nat) (x1 : Int32) (x2 : Int32) (H : HH) (Q : Int32 → HH → Prop) : Prop := c_Model_keeps E d x2 H (fun H1 => ∃ (I2 : Int32 → Int32 → HH → Prop) (μ2 : Int32 → Int32 → HH → Nat), I2 (-1) 0 H1 ∧ ∀ (z3 : Int32) (z4 : Int32) (H5 : HH), I2 z3 z4 H5 → (vp_in x1 4 ∧ ((((H5 41 0 (x1.toNatClampNeg)) / 3) ≤ z4 → (c_Model_laysBack E d x2 H5 (fun H6 => Q z3 H6))) ∧ (¬ ((H5 41 0 (x1.toNatClampNeg)) / 3) ≤ z4 → ((¬ z3 = (-1) → (c_Model_laysBack E d x2 H5 (fun H7 => Q z3 H7))) ∧ (z3 = (-1) → (∀ v8 : Int32, v8 = ((40 * x1) + (3 * z4)) → (∃ (I9 : Int32 → Int32 → HH → Prop) (μ9 : Int32 → Int32 → HH → Nat), I9 z3 0 H5 ∧ ∀ (z10 : Int32) (z11 : Int32) (H12 : HH), I9 z10 z11 H12 → (vp_in (v8 + 2) 160 ∧ (((H12 42 0 ((v8 + 2).toNatClampNeg)) ≤ z11 → (I2 z10 (z4 + 1) H12 ∧ μ2 z10 (z4 + 1) H12 < μ2 z3 z4 H5)) ∧ (¬ (H12 42 0 ((v8 + 2).toNatClampNeg)) ≤ z11 → ((¬ z10 = (-1) → (I2 z10 (z4 + 1) H12 ∧ μ2 z10 (z4 + 1) H12 < μ2 z3 z4 H5)) ∧ (z10 = (-1) → (vp_in v8 160 ∧ (vp_in (v8 + 1) 160 ∧ (c_Model_canGo E d x2 (H12 42 0 (v8.toNatClampNeg)) (H12 42 0 ((v8 + 1).toNatClampNeg)) H12 (fun r14 H13 => (r14 = 0 → (I9 z4 (z11 + 1) H13 ∧ μ9 z4 (z11 + 1) H13 < μ9 z10 z11 H12)) ∧ (¬ r14 = 0 → (vp_in v8 160 ∧ (vp_in (v8 + 1) 160 ∧ (c_Model_goes E d x2 (H13 42 0 (v8.toNatClampNeg)) (H13 42 0 ((v8 + 1).toNatClampNeg)) H13 (fun H15 => I9 z10 (z11 + 1) H15 ∧ μ9 z10 (z11 + 1) H15 < μ9 z10 z11 H12))))))))))))))))))))))
set_option maxHeartbeats 4000000 in
theorem l_Model_firstWrong {E : XE} {d : Nat} {x1 : Int32} {x2 : Int32} {H : HH} {Q : Int32 → HH → Prop} (h : p_Model_firstWrong E d x1 x2 H Q) : c_Model_firstWrong E (d + 1) x1 x2 H Q := by
  show g_Model_firstWrong E (d + 1) 0 (xent [vr 30 0, vi x1, vi x2]) [] H (qi Q)
  refine g_drop (ls2 := [some (vr 30 0), some (vi x1), some (vi x2), none, none, none, none]) (And.intro rfl (And.intro rfl (And.intro rfl trivial))) ?_
  refine g_iconst (n := (-1)) (v := (-1)) (by decide +kernel) (by decide) ?_
  refine g_istore_n (q := 3) (i := 3) (ls2 := [some (vr 30 0), some (vi x1), some (vi x2), some (vi (-1)), none, none, none]) (by decide +kernel) rfl (by decide) rfl rfl ?_
  refine g_aload_n (q := 0) (i := 0) (by decide +kernel) rfl rfl ?_
  refine g_iload_n (q := 2) (i := 2) (by decide +kernel) rfl rfl ?_
  refine g_callV (kd := 30) (ix := 0) (ci := 10) (N := 39) (T := xT_Model) (vs := [vi x2]) (st := []) (by decide +kernel) xm_Model_keeps kw_1329 kw_1331 kw_61 (by decide) rfl rfl rfl rfl (Nat.le_of_ble_eq_true rfl) (Nat.le_of_ble_eq_true rfl) h (fun vH1 H1 hq => ?_)
  replace h := hq
  refine g_iconst (n := 0) (v := 0) (by decide +kernel) (by decide) ?_
  refine g_istore (i := 4) (ls2 := [some (vr 30 0), some (vi x1), some (vi x2), some (vi (-1)), some (vi 0), none, none]) (by decide +kernel) (by decide) rfl rfl ?_
  refine g_drop (ls2 := [some (vr 30 0), some (vi x1), some (vi x2), some (vi (-1)), some (vi 0), none, none]) (And.intro rfl (And.intro rfl (And.intro rfl (And.intro rfl (And.intro rfl trivial))))) ?_
  obtain ⟨I2, μ2, h0, h⟩ := h
  refine xloop (σ := Int32 × Int32) (fun s H => I2 s.1 s.2 H) (fun s H => μ2 s.1 s.2 H) (fun s H => g_Model_firstWrong E (d + 1) 10 [some (vr 30 0), some (vi x1), some (vi x2), some (vi s.1), some (vi s.2), none, none] [] H (qi Q)) (fun s H5 hI ih2 => ?_) ((-1), 0) H1 h0
  obtain ⟨z3, z4⟩ := s
  replace h := h z3 z4 H5 hI
  refine g_iload (i := 4) (by decide +kernel) rfl ?_
  refine g_aload_n (q := 0) (i := 0) (by decide +kernel) rfl rfl ?_
  refine g_get (C := "ThreePointsModel") (T := xT_Model) (N := 39) (ci := 10) (k := 17) (v := vr 41 0) (by decide +kernel) (by decide) rfl rfl xi_Model (by decide) kw_1043 rfl ?_
  refine g_iload_n (q := 1) (i := 1) (by decide +kernel) rfl rfl ?_
  obtain ⟨hin, h⟩ := h
  refine g_iald (by decide +kernel) (by decide) rfl hin ?_
  refine g_iconst (n := 3) (v := 3) (by decide +kernel) (by decide) ?_
  refine g_idiv (by decide +kernel) (by decide) ?_
  refine g_icmp_ge (off := 104) (tgt := 124) (by decide +kernel) (by decide) (fun c => ?_) (fun c => ?_)
  · replace h := h.1 c
    refine g_aload_n (q := 0) (i := 0) (by decide +kernel) rfl rfl ?_
    refine g_iload_n (q := 2) (i := 2) (by decide +kernel) rfl rfl ?_
    refine g_callV (kd := 30) (ix := 0) (ci := 10) (N := 39) (T := xT_Model) (vs := [vi x2]) (st := []) (by decide +kernel) xm_Model_laysBack kw_1333 kw_1335 kw_62 (by decide) rfl rfl rfl rfl (Nat.le_of_ble_eq_true rfl) (Nat.le_of_ble_eq_true rfl) h (fun vH6 H6 hq => ?_)
    replace h := hq
    refine g_iload_n (q := 3) (i := 3) (by decide +kernel) rfl rfl ?_
    exact g_iret (by decide +kernel) rfl ⟨_, rfl, h⟩
  · replace h := h.2 c
    refine g_iload_n (q := 3) (i := 3) (by decide +kernel) rfl rfl ?_
    refine g_iconst (n := (-1)) (v := (-1)) (by decide +kernel) (by decide) ?_
    refine g_icmp_ne (off := 99) (tgt := 124) (by decide +kernel) (by decide) (fun c => ?_) (fun c => ?_)
    · replace h := h.1 c
      refine g_aload_n (q := 0) (i := 0) (by decide +kernel) rfl rfl ?_
      refine g_iload_n (q := 2) (i := 2) (by decide +kernel) rfl rfl ?_
      refine g_callV (kd := 30) (ix := 0) (ci := 10) (N := 39) (T := xT_Model) (vs := [vi x2]) (st := []) (by decide +kernel) xm_Model_laysBack kw_1333 kw_1335 kw_62 (by decide) rfl rfl rfl rfl (Nat.le_of_ble_eq_true rfl) (Nat.le_of_ble_eq_true rfl) h (fun vH7 H7 hq => ?_)
      replace h := hq
      refine g_iload_n (q := 3) (i := 3) (by decide +kernel) rfl rfl ?_
      exact g_iret (by decide +kernel) rfl ⟨_, rfl, h⟩
    · replace h := h.2 c
      refine g_bipush (n := 40) (v := 40) (by decide +kernel) (by decide) ?_
      refine g_iload_n (q := 1) (i := 1) (by decide +kernel) rfl rfl ?_
      refine g_imul (by decide +kernel) ?_
      refine g_iconst (n := 3) (v := 3) (by decide +kernel) (by decide) ?_
      refine g_iload (i := 4) (by decide +kernel) rfl ?_
      refine g_imul (by decide +kernel) ?_
      refine g_iadd (by decide +kernel) ?_
      refine g_topi (fun v8 ev8 => ?_)
      replace h := h v8 ev8
      refine g_istore (i := 5) (ls2 := [some (vr 30 0), some (vi x1), some (vi x2), some (vi z3), some (vi z4), some (vi v8), none]) (by decide +kernel) (by decide) rfl rfl ?_
      refine g_iconst (n := 0) (v := 0) (by decide +kernel) (by decide) ?_
      refine g_istore (i := 6) (ls2 := [some (vr 30 0), some (vi x1), some (vi x2), some (vi z3), some (vi z4), some (vi v8), some (vi 0)]) (by decide +kernel) (by decide) rfl rfl ?_
      refine g_drop (ls2 := [some (vr 30 0), some (vi x1), some (vi x2), some (vi z3), some (vi z4), some (vi v8), some (vi 0)]) (And.intro rfl (And.intro rfl (And.intro rfl (And.intro rfl (And.intro rfl (And.intro rfl (And.intro rfl trivial))))))) ?_
      obtain ⟨I9, μ9, h0, h⟩ := h
      refine xloop (σ := Int32 × Int32) (fun s H => I9 s.1 s.2 H) (fun s H => μ9 s.1 s.2 H) (fun s H => g_Model_firstWrong E (d + 1) 42 [some (vr 30 0), some (vi x1), some (vi x2), some (vi s.1), some (vi z4), some (vi v8), some (vi s.2)] [] H (qi Q)) (fun s H12 hI ih9 => ?_) (z3, 0) H5 h0
      obtain ⟨z10, z11⟩ := s
      replace h := h z10 z11 H12 hI
      refine g_iload (i := 6) (by decide +kernel) rfl ?_
      refine g_aload_n (q := 0) (i := 0) (by decide +kernel) rfl rfl ?_
      refine g_get (C := "ThreePointsModel") (T := xT_Model) (N := 39) (ci := 10) (k := 18) (v := vr 42 0) (by decide +kernel) (by decide) rfl rfl xi_Model (by decide) kw_1044 rfl ?_
      refine g_iload (i := 5) (by decide +kernel) rfl ?_
      refine g_iconst (n := 2) (v := 2) (by decide +kernel) (by decide) ?_
      refine g_iadd (by decide +kernel) ?_
      obtain ⟨hin, h⟩ := h
      refine g_iald (by decide +kernel) (by decide) rfl hin ?_
      refine g_icmp_ge (off := 65) (tgt := 118) (by decide +kernel) (by decide) (fun c => ?_) (fun c => ?_)
      · replace h := h.1 c
        refine g_iinc (i := 4) (n := 1) (v := (z4 + 1)) (ls2 := [some (vr 30 0), some (vi x1), some (vi x2), some (vi z10), some (vi (z4 + 1)), some (vi v8), some (vi z11)]) (by decide +kernel) rfl rfl (by decide) rfl rfl ?_
        refine g_goto (off := (-111)) (tgt := 10) (by decide +kernel) (by decide) ?_
        obtain ⟨hI, hlt⟩ := h
        exact g_drop (ls2 := [some (vr 30 0), some (vi x1), some (vi x2), some (vi z10), some (vi (z4 + 1)), none, none]) (And.intro rfl (And.intro rfl (And.intro rfl (And.intro rfl (And.intro rfl trivial))))) (ih2 (z10, (z4 + 1)) H12 hI hlt)
      · replace h := h.2 c
        refine g_iload_n (q := 3) (i := 3) (by decide +kernel) rfl rfl ?_
        refine g_iconst (n := (-1)) (v := (-1)) (by decide +kernel) (by decide) ?_
        refine g_icmp_ne (off := 60) (tgt := 118) (by decide +kernel) (by decide) (fun c => ?_) (fun c => ?_)
        · replace h := h.1 c
          refine g_iinc (i := 4) (n := 1) (v := (z4 + 1)) (ls2 := [some (vr 30 0), some (vi x1), some (vi x2), some (vi z10), some (vi (z4 + 1)), some (vi v8), some (vi z11)]) (by decide +kernel) rfl rfl (by decide) rfl rfl ?_
          refine g_goto (off := (-111)) (tgt := 10) (by decide +kernel) (by decide) ?_
          obtain ⟨hI, hlt⟩ := h
          exact g_drop (ls2 := [some (vr 30 0), some (vi x1), some (vi x2), some (vi z10), some (vi (z4 + 1)), none, none]) (And.intro rfl (And.intro rfl (And.intro rfl (And.intro rfl (And.intro rfl trivial))))) (ih2 (z10, (z4 + 1)) H12 hI hlt)
        · replace h := h.2 c
          refine g_aload_n (q := 0) (i := 0) (by decide +kernel) rfl rfl ?_
          refine g_iload_n (q := 2) (i := 2) (by decide +kernel) rfl rfl ?_
          refine g_aload_n (q := 0) (i := 0) (by decide +kernel) rfl rfl ?_
          refine g_get (C := "ThreePointsModel") (T := xT_Model) (N := 39) (ci := 10) (k := 18) (v := vr 42 0) (by decide +kernel) (by decide) rfl rfl xi_Model (by decide) kw_1044 rfl ?_
          refine g_iload (i := 5) (by decide +kernel) rfl ?_
          obtain ⟨hin, h⟩ := h
          refine g_iald (by decide +kernel) (by decide) rfl hin ?_
          refine g_aload_n (q := 0) (i := 0) (by decide +kernel) rfl rfl ?_
          refine g_get (C := "ThreePointsModel") (T := xT_Model) (N := 39) (ci := 10) (k := 18) (v := vr 42 0) (by decide +kernel) (by decide) rfl rfl xi_Model (by decide) kw_1044 rfl ?_
          refine g_iload (i := 5) (by decide +kernel) rfl ?_
          refine g_iconst (n := 1) (v := 1) (by decide +kernel) (by decide) ?_
          refine g_iadd (by decide +kernel) ?_
          obtain ⟨hin, h⟩ := h
          refine g_iald (by decide +kernel) (by decide) rfl hin ?_
          refine g_callV (kd := 30) (ix := 0) (ci := 10) (N := 39) (T := xT_Model) (vs := [vi x2, vi (H12 42 0 (v8.toNatClampNeg)), vi (H12 42 0 ((v8 + 1).toNatClampNeg))]) (st := []) (by decide +kernel) xm_Model_canGo kw_1226 kw_1228 kw_45 (by decide) rfl rfl rfl rfl (Nat.le_of_ble_eq_true rfl) (Nat.le_of_ble_eq_true rfl) h (fun vH13 H13 hq => ?_)
          obtain ⟨r14, rfl, h⟩ := hq
          refine g_if_eq (off := 27) (tgt := 109) (by decide +kernel) (by decide) (fun c => ?_) (fun c => ?_)
          · replace h := h.1 c
            refine g_iload (i := 4) (by decide +kernel) rfl ?_
            refine g_istore_n (q := 3) (i := 3) (ls2 := [some (vr 30 0), some (vi x1), some (vi x2), some (vi z4), some (vi z4), some (vi v8), some (vi z11)]) (by decide +kernel) rfl (by decide) rfl rfl ?_
            refine g_iinc (i := 6) (n := 1) (v := (z11 + 1)) (ls2 := [some (vr 30 0), some (vi x1), some (vi x2), some (vi z4), some (vi z4), some (vi v8), some (vi (z11 + 1))]) (by decide +kernel) rfl rfl (by decide) rfl rfl ?_
            refine g_goto (off := (-73)) (tgt := 42) (by decide +kernel) (by decide) ?_
            obtain ⟨hI, hlt⟩ := h
            exact g_drop (ls2 := [some (vr 30 0), some (vi x1), some (vi x2), some (vi z4), some (vi z4), some (vi v8), some (vi (z11 + 1))]) (And.intro rfl (And.intro rfl (And.intro rfl (And.intro rfl (And.intro rfl (And.intro rfl (And.intro rfl trivial))))))) (ih9 (z4, (z11 + 1)) H13 hI hlt)
          · replace h := h.2 c
            refine g_aload_n (q := 0) (i := 0) (by decide +kernel) rfl rfl ?_
            refine g_iload_n (q := 2) (i := 2) (by decide +kernel) rfl rfl ?_
            refine g_aload_n (q := 0) (i := 0) (by decide +kernel) rfl rfl ?_
            refine g_get (C := "ThreePointsModel") (T := xT_Model) (N := 39) (ci := 10) (k := 18) (v := vr 42 0) (by decide +kernel) (by decide) rfl rfl xi_Model (by decide) kw_1044 rfl ?_
            refine g_iload (i := 5) (by decide +kernel) rfl ?_
            obtain ⟨hin, h⟩ := h
            refine g_iald (by decide +kernel) (by decide) rfl hin ?_
            refine g_aload_n (q := 0) (i := 0) (by decide +kernel) rfl rfl ?_
            refine g_get (C := "ThreePointsModel") (T := xT_Model) (N := 39) (ci := 10) (k := 18) (v := vr 42 0) (by decide +kernel) (by decide) rfl rfl xi_Model (by decide) kw_1044 rfl ?_
            refine g_iload (i := 5) (by decide +kernel) rfl ?_
            refine g_iconst (n := 1) (v := 1) (by decide +kernel) (by decide) ?_
            refine g_iadd (by decide +kernel) ?_
            obtain ⟨hin, h⟩ := h
            refine g_iald (by decide +kernel) (by decide) rfl hin ?_
            refine g_callV (kd := 30) (ix := 0) (ci := 10) (N := 39) (T := xT_Model) (vs := [vi x2, vi (H13 42 0 (v8.toNatClampNeg)), vi (H13 42 0 ((v8 + 1).toNatClampNeg))]) (st := []) (by decide +kernel) xm_Model_goes kw_1242 kw_1244 kw_49 (by decide) rfl rfl rfl rfl (Nat.le_of_ble_eq_true rfl) (Nat.le_of_ble_eq_true rfl) h (fun vH15 H15 hq => ?_)
            replace h := hq
            refine g_goto (off := 6) (tgt := 112) (by decide +kernel) (by decide) ?_
            refine g_iinc (i := 6) (n := 1) (v := (z11 + 1)) (ls2 := [some (vr 30 0), some (vi x1), some (vi x2), some (vi z10), some (vi z4), some (vi v8), some (vi (z11 + 1))]) (by decide +kernel) rfl rfl (by decide) rfl rfl ?_
            refine g_goto (off := (-73)) (tgt := 42) (by decide +kernel) (by decide) ?_
            obtain ⟨hI, hlt⟩ := h
            exact g_drop (ls2 := [some (vr 30 0), some (vi x1), some (vi x2), some (vi z10), some (vi z4), some (vi v8), some (vi (z11 + 1))]) (And.intro rfl (And.intro rfl (And.intro rfl (And.intro rfl (And.intro rfl (And.intro rfl (And.intro rfl trivial))))))) (ih9 (z10, (z11 + 1)) H15 hI hlt)
def p_Model_judge (E : XE) (d : Nat) (x1 : Int32) (x2 : Int32) (H : HH) (Q : Int32 → HH → Prop) : Prop := c_Model_sheetWrong E d x1 x2 H (fun r2 H1 => (¬ r2 = 0 → (Q r2 H1)) ∧ (r2 = 0 → (c_Model_firstWrong E d x1 x2 H1 (fun r4 H3 => Q r4 H3))))
set_option maxHeartbeats 4000000 in
theorem l_Model_judge {E : XE} {d : Nat} {x1 : Int32} {x2 : Int32} {H : HH} {Q : Int32 → HH → Prop} (h : p_Model_judge E d x1 x2 H Q) : c_Model_judge E (d + 1) x1 x2 H Q := by
  show g_Model_judge E (d + 1) 0 (xent [vr 30 0, vi x1, vi x2]) [] H (qi Q)
  refine g_drop (ls2 := [some (vr 30 0), some (vi x1), some (vi x2), none]) (And.intro rfl (And.intro rfl (And.intro rfl trivial))) ?_
  refine g_aload_n (q := 0) (i := 0) (by decide +kernel) rfl rfl ?_
  refine g_iload_n (q := 1) (i := 1) (by decide +kernel) rfl rfl ?_
  refine g_iload_n (q := 2) (i := 2) (by decide +kernel) rfl rfl ?_
  refine g_callV (kd := 30) (ix := 0) (ci := 10) (N := 39) (T := xT_Model) (vs := [vi x1, vi x2]) (st := []) (by decide +kernel) xm_Model_sheetWrong kw_1321 kw_1323 kw_59 (by decide) rfl rfl rfl rfl (Nat.le_of_ble_eq_true rfl) (Nat.le_of_ble_eq_true rfl) h (fun vH1 H1 hq => ?_)
  obtain ⟨r2, rfl, h⟩ := hq
  refine g_istore_n (q := 3) (i := 3) (ls2 := [some (vr 30 0), some (vi x1), some (vi x2), some (vi r2)]) (by decide +kernel) rfl (by decide) rfl rfl ?_
  refine g_iload_n (q := 3) (i := 3) (by decide +kernel) rfl rfl ?_
  refine g_if_ne (off := 12) (tgt := 20) (by decide +kernel) (by decide) (fun c => ?_) (fun c => ?_)
  · replace h := h.1 c
    refine g_iload_n (q := 3) (i := 3) (by decide +kernel) rfl rfl ?_
    exact g_iret (by decide +kernel) rfl ⟨_, rfl, h⟩
  · replace h := h.2 c
    refine g_aload_n (q := 0) (i := 0) (by decide +kernel) rfl rfl ?_
    refine g_iload_n (q := 1) (i := 1) (by decide +kernel) rfl rfl ?_
    refine g_iload_n (q := 2) (i := 2) (by decide +kernel) rfl rfl ?_
    refine g_callV (kd := 30) (ix := 0) (ci := 10) (N := 39) (T := xT_Model) (vs := [vi x1, vi x2]) (st := []) (by decide +kernel) xm_Model_firstWrong kw_1325 kw_1327 kw_60 (by decide) rfl rfl rfl rfl (Nat.le_of_ble_eq_true rfl) (Nat.le_of_ble_eq_true rfl) h (fun vH3 H3 hq => ?_)
    obtain ⟨r4, rfl, h⟩ := hq
    refine g_goto (off := 4) (tgt := 21) (by decide +kernel) (by decide) ?_
    exact g_iret (by decide +kernel) rfl ⟨_, rfl, h⟩
def p_Model_ends (E : XE) (d : Nat) (x1 : Int32) (x2 : Int32) (x3 : Int32) (H : HH) (Q : Int32 → HH → Prop) : Prop := c_Model_sheetWrong E d x1 x2 H (fun r2 H1 => (r2 = 0 → (c_Model_in E d x3 0 3 H1 (fun r4 H3 => (¬ r4 = 0 → (c_Model_firstWrong E d x1 x2 H3 (fun r6 H5 => vp_in x3 5 ∧ (Q (H5 54 0 (x3.toNatClampNeg)) H5)))) ∧ (r4 = 0 → (Q (-7) H3))))) ∧ (¬ r2 = 0 → (Q r2 H1)))
set_option maxHeartbeats 4000000 in
theorem l_Model_ends {E : XE} {d : Nat} {x1 : Int32} {x2 : Int32} {x3 : Int32} {H : HH} {Q : Int32 → HH → Prop} (h : p_Model_ends E d x1 x2 x3 H Q) : c_Model_ends E (d + 1) x1 x2 x3 H Q := by
  show g_Model_ends E (d + 1) 0 (xent [vr 30 0, vi x1, vi x2, vi x3]) [] H (qi Q)
  refine g_drop (ls2 := [some (vr 30 0), some (vi x1), some (vi x2), some (vi x3), none]) (And.intro rfl (And.intro rfl (And.intro rfl (And.intro rfl trivial)))) ?_
  refine g_aload_n (q := 0) (i := 0) (by decide +kernel) rfl rfl ?_
  refine g_iload_n (q := 1) (i := 1) (by decide +kernel) rfl rfl ?_
  refine g_iload_n (q := 2) (i := 2) (by decide +kernel) rfl rfl ?_
  refine g_callV (kd := 30) (ix := 0) (ci := 10) (N := 39) (T := xT_Model) (vs := [vi x1, vi x2]) (st := []) (by decide +kernel) xm_Model_sheetWrong kw_1321 kw_1323 kw_59 (by decide) rfl rfl rfl rfl (Nat.le_of_ble_eq_true rfl) (Nat.le_of_ble_eq_true rfl) h (fun vH1 H1 hq => ?_)
  obtain ⟨r2, rfl, h⟩ := hq
  refine g_istore (i := 4) (ls2 := [some (vr 30 0), some (vi x1), some (vi x2), some (vi x3), some (vi r2)]) (by decide +kernel) (by decide) rfl rfl ?_
  refine g_iload (i := 4) (by decide +kernel) rfl ?_
  refine g_if_eq (off := 6) (tgt := 16) (by decide +kernel) (by decide) (fun c => ?_) (fun c => ?_)
  · replace h := h.1 c
    refine g_iload_n (q := 3) (i := 3) (by decide +kernel) rfl rfl ?_
    refine g_iconst (n := 0) (v := 0) (by decide +kernel) (by decide) ?_
    refine g_iconst (n := 3) (v := 3) (by decide +kernel) (by decide) ?_
    refine g_callS (vs := [vi x3, vi 0, vi 3]) (st := []) (by decide +kernel) xm_Model_in kw_987 kw_988 rfl rfl (Nat.le_of_ble_eq_true rfl) (Nat.le_of_ble_eq_true rfl) h (fun vH3 H3 hq => ?_)
    obtain ⟨r4, rfl, h⟩ := hq
    refine g_if_ne (off := 6) (tgt := 28) (by decide +kernel) (by decide) (fun c => ?_) (fun c => ?_)
    · replace h := h.1 c
      refine g_aload_n (q := 0) (i := 0) (by decide +kernel) rfl rfl ?_
      refine g_iload_n (q := 1) (i := 1) (by decide +kernel) rfl rfl ?_
      refine g_iload_n (q := 2) (i := 2) (by decide +kernel) rfl rfl ?_
      refine g_callV (kd := 30) (ix := 0) (ci := 10) (N := 39) (T := xT_Model) (vs := [vi x1, vi x2]) (st := []) (by decide +kernel) xm_Model_firstWrong kw_1325 kw_1327 kw_60 (by decide) rfl rfl rfl rfl (Nat.le_of_ble_eq_true rfl) (Nat.le_of_ble_eq_true rfl) h (fun vH5 H5 hq => ?_)
      obtain ⟨r6, rfl, h⟩ := hq
      refine g_pop (by decide +kernel) rfl ?_
      refine g_aload_n (q := 0) (i := 0) (by decide +kernel) rfl rfl ?_
      refine g_get (C := "ThreePointsModel") (T := xT_Model) (N := 39) (ci := 10) (k := 37) (v := vr 54 0) (by decide +kernel) (by decide) rfl rfl xi_Model (by decide) kw_1063 rfl ?_
      refine g_iload_n (q := 3) (i := 3) (by decide +kernel) rfl rfl ?_
      obtain ⟨hin, h⟩ := h
      refine g_iald (by decide +kernel) (by decide) rfl hin ?_
      exact g_iret (by decide +kernel) rfl ⟨_, rfl, h⟩
    · replace h := h.2 c
      refine g_bipush (n := (-7)) (v := (-7)) (by decide +kernel) (by decide) ?_
      exact g_iret (by decide +kernel) rfl ⟨_, rfl, h⟩
  · replace h := h.2 c
    refine g_iload (i := 4) (by decide +kernel) rfl ?_
    exact g_iret (by decide +kernel) rfl ⟨_, rfl, h⟩
def p_Model_kinds (E : XE) (d : Nat) (x1 : Int32) (x2 : Int32) (x3 : Int32) (H : HH) (Q : Int32 → HH → Prop) : Prop := c_Model_sheetWrong E d x1 x2 H (fun r2 H1 => (r2 = 0 → (c_Model_in E d x3 0 1 H1 (fun r4 H3 => (¬ r4 = 0 → (vp_in x2 4 ∧ (∀ v5 : Int32, v5 = (H3 32 0 (x2.toNatClampNeg)) → (vp_in x2 4 ∧ (∀ v6 : Int32, v6 = (H3 33 0 (x2.toNatClampNeg)) → (∃ (I7 : Int32 → Int32 → HH → Prop) (μ7 : Int32 → Int32 → HH → Nat), I7 0 0 H3 ∧ ∀ (z8 : Int32) (z9 : Int32) (H10 : HH), I7 z8 z9 H10 → (((if x3 = 0 then 6 else 10 : Int32) ≤ z9 → (vp_in x2 4 ∧ (vp_in x2 4 ∧ (∀ H12 : HH, H12 = (hu (hu H10 32 0 (x2.toNatClampNeg) v5) 33 0 (x2.toNatClampNeg) v6) → (Q z8 H12))))) ∧ (¬ (if x3 = 0 then 6 else 10 : Int32) ≤ z9 → (vp_in x2 4 ∧ (vp_in x2 4 ∧ (∀ H15 : HH, H15 = (hu (hu H10 32 0 (x2.toNatClampNeg) (if x3 = 0 then z9 else v5 : Int32)) 33 0 (x2.toNatClampNeg) (if x3 = 1 then z9 else v6 : Int32)) → (c_Model_firstWrong E d x1 x2 H15 (fun r17 H16 => ∀ v19 : Int32, v19 = (if r17 = (-1) then 1 else 0 : Int32) → ((v19 = 0 → (I7 (z8 ||| 0) (z9 + 1) H16 ∧ μ7 (z8 ||| 0) (z9 + 1) H16 < μ7 z8 z9 H10)) ∧ (¬ v19 = 0 → (c_Model_otherOf E d x2 H16 (fun r21 H20 => (¬ (H16 54 0 1) = r21 → (I7 (z8 ||| 0) (z9 + 1) H20 ∧ μ7 (z8 ||| 0) (z9 + 1) H20 < μ7 z8 z9 H10)) ∧ ((H16 54 0 1) = r21 → (∀ v22 : Int32, v22 = (z8 ||| (1 <<< (z9 &&& 31))) → (I7 v22 (z9 + 1) H20 ∧ μ7 v22 (z9 + 1) H20 < μ7 z8 z9 H10)))))))))))))))))))) ∧ (r4 = 0 → (Q (-7) H3))))) ∧ (¬ r2 = 0 → (Q r2 H1)))
set_option maxHeartbeats 4000000 in
theorem l_Model_kinds {E : XE} {d : Nat} {x1 : Int32} {x2 : Int32} {x3 : Int32} {H : HH} {Q : Int32 → HH → Prop} (h : p_Model_kinds E d x1 x2 x3 H Q) : c_Model_kinds E (d + 1) x1 x2 x3 H Q := by
  show g_Model_kinds E (d + 1) 0 (xent [vr 30 0, vi x1, vi x2, vi x3]) [] H (qi Q)
  refine g_drop (ls2 := [some (vr 30 0), some (vi x1), some (vi x2), some (vi x3), none, none, none, none, none, none]) (And.intro rfl (And.intro rfl (And.intro rfl (And.intro rfl trivial)))) ?_
  refine g_aload_n (q := 0) (i := 0) (by decide +kernel) rfl rfl ?_
  refine g_iload_n (q := 1) (i := 1) (by decide +kernel) rfl rfl ?_
  refine g_iload_n (q := 2) (i := 2) (by decide +kernel) rfl rfl ?_
  refine g_callV (kd := 30) (ix := 0) (ci := 10) (N := 39) (T := xT_Model) (vs := [vi x1, vi x2]) (st := []) (by decide +kernel) xm_Model_sheetWrong kw_1321 kw_1323 kw_59 (by decide) rfl rfl rfl rfl (Nat.le_of_ble_eq_true rfl) (Nat.le_of_ble_eq_true rfl) h (fun vH1 H1 hq => ?_)
  obtain ⟨r2, rfl, h⟩ := hq
  refine g_istore (i := 4) (ls2 := [some (vr 30 0), some (vi x1), some (vi x2), some (vi x3), some (vi r2), none, none, none, none, none]) (by decide +kernel) (by decide) rfl rfl ?_
  refine g_iload (i := 4) (by decide +kernel) rfl ?_
  refine g_if_eq (off := 6) (tgt := 16) (by decide +kernel) (by decide) (fun c => ?_) (fun c => ?_)
  · replace h := h.1 c
    refine g_iload_n (q := 3) (i := 3) (by decide +kernel) rfl rfl ?_
    refine g_iconst (n := 0) (v := 0) (by decide +kernel) (by decide) ?_
    refine g_iconst (n := 1) (v := 1) (by decide +kernel) (by decide) ?_
    refine g_callS (vs := [vi x3, vi 0, vi 1]) (st := []) (by decide +kernel) xm_Model_in kw_987 kw_988 rfl rfl (Nat.le_of_ble_eq_true rfl) (Nat.le_of_ble_eq_true rfl) h (fun vH3 H3 hq => ?_)
    obtain ⟨r4, rfl, h⟩ := hq
    refine g_if_ne (off := 6) (tgt := 28) (by decide +kernel) (by decide) (fun c => ?_) (fun c => ?_)
    · replace h := h.1 c
      refine g_aload_n (q := 0) (i := 0) (by decide +kernel) rfl rfl ?_
      refine g_get (C := "ThreePointsModel") (T := xT_Model) (N := 39) (ci := 10) (k := 4) (v := vr 32 0) (by decide +kernel) (by decide) rfl rfl xi_Model (by decide) kw_1030 rfl ?_
      refine g_iload_n (q := 2) (i := 2) (by decide +kernel) rfl rfl ?_
      obtain ⟨hin, h⟩ := h
      refine g_iald (by decide +kernel) (by decide) rfl hin ?_
      refine g_topi (fun v5 ev5 => ?_)
      replace h := h v5 ev5
      refine g_istore (i := 5) (ls2 := [some (vr 30 0), some (vi x1), some (vi x2), some (vi x3), some (vi r2), some (vi v5), none, none, none, none]) (by decide +kernel) (by decide) rfl rfl ?_
      refine g_aload_n (q := 0) (i := 0) (by decide +kernel) rfl rfl ?_
      refine g_get (C := "ThreePointsModel") (T := xT_Model) (N := 39) (ci := 10) (k := 5) (v := vr 33 0) (by decide +kernel) (by decide) rfl rfl xi_Model (by decide) kw_1031 rfl ?_
      refine g_iload_n (q := 2) (i := 2) (by decide +kernel) rfl rfl ?_
      obtain ⟨hin, h⟩ := h
      refine g_iald (by decide +kernel) (by decide) rfl hin ?_
      refine g_topi (fun v6 ev6 => ?_)
      replace h := h v6 ev6
      refine g_istore (i := 6) (ls2 := [some (vr 30 0), some (vi x1), some (vi x2), some (vi x3), some (vi r2), some (vi v5), some (vi v6), none, none, none]) (by decide +kernel) (by decide) rfl rfl ?_
      refine g_iconst (n := 0) (v := 0) (by decide +kernel) (by decide) ?_
      refine g_istore (i := 7) (ls2 := [some (vr 30 0), some (vi x1), some (vi x2), some (vi x3), some (vi r2), some (vi v5), some (vi v6), some (vi 0), none, none]) (by decide +kernel) (by decide) rfl rfl ?_
      refine g_iconst (n := 0) (v := 0) (by decide +kernel) (by decide) ?_
      refine g_istore (i := 8) (ls2 := [some (vr 30 0), some (vi x1), some (vi x2), some (vi x3), some (vi r2), some (vi v5), some (vi v6), some (vi 0), some (vi 0), none]) (by decide +kernel) (by decide) rfl rfl ?_
      refine g_drop (ls2 := [some (vr 30 0), some (vi x1), some (vi x2), some (vi x3), none, some (vi v5), some (vi v6), some (vi 0), some (vi 0), none]) (And.intro rfl (And.intro rfl (And.intro rfl (And.intro rfl (And.intro rfl (And.intro rfl (And.intro rfl (And.intro rfl trivial)))))))) ?_
      obtain ⟨I7, μ7, h0, h⟩ := h
      refine xloop (σ := Int32 × Int32) (fun s H => I7 s.1 s.2 H) (fun s H => μ7 s.1 s.2 H) (fun s H => g_Model_kinds E (d + 1) 50 [some (vr 30 0), some (vi x1), some (vi x2), some (vi x3), none, some (vi v5), some (vi v6), some (vi s.1), some (vi s.2), none] [] H (qi Q)) (fun s H10 hI ih7 => ?_) (0, 0) H3 h0
      obtain ⟨z8, z9⟩ := s
      replace h := h z8 z9 H10 hI
      refine g_iload (i := 8) (by decide +kernel) rfl ?_
      refine g_iload_n (q := 3) (i := 3) (by decide +kernel) rfl rfl ?_
      suffices hj11 : g_Model_kinds E (d + 1) 63 [some (vr 30 0), some (vi x1), some (vi x2), some (vi x3), none, some (vi v5), some (vi v6), some (vi z8), some (vi z9), none] [vi (if x3 = 0 then 6 else 10 : Int32), vi z9] H10 (qi Q) by
        refine g_if_ne (off := 8) (tgt := 61) (by decide +kernel) (by decide) (fun c => ?_) (fun c => ?_)
        · rw [if_neg c] at hj11
          refine g_bipush (n := 10) (v := 10) (by decide +kernel) (by decide) ?_
          exact hj11
        · rw [if_pos c] at hj11
          refine g_bipush (n := 6) (v := 6) (by decide +kernel) (by decide) ?_
          refine g_goto (off := 5) (tgt := 63) (by decide +kernel) (by decide) ?_
          exact hj11
      refine g_icmp_ge (off := 93) (tgt := 156) (by decide +kernel) (by decide) (fun c => ?_) (fun c => ?_)
      · replace h := h.1 c
        refine g_aload_n (q := 0) (i := 0) (by decide +kernel) rfl rfl ?_
        refine g_get (C := "ThreePointsModel") (T := xT_Model) (N := 39) (ci := 10) (k := 4) (v := vr 32 0) (by decide +kernel) (by decide) rfl rfl xi_Model (by decide) kw_1030 rfl ?_
        refine g_iload_n (q := 2) (i := 2) (by decide +kernel) rfl rfl ?_
        refine g_iload (i := 5) (by decide +kernel) rfl ?_
        obtain ⟨hin, h⟩ := h
        refine g_iast (by decide +kernel) (by decide) rfl hin ?_
        refine g_aload_n (q := 0) (i := 0) (by decide +kernel) rfl rfl ?_
        refine g_get (C := "ThreePointsModel") (T := xT_Model) (N := 39) (ci := 10) (k := 5) (v := vr 33 0) (by decide +kernel) (by decide) rfl rfl xi_Model (by decide) kw_1031 rfl ?_
        refine g_iload_n (q := 2) (i := 2) (by decide +kernel) rfl rfl ?_
        refine g_iload (i := 6) (by decide +kernel) rfl ?_
        obtain ⟨hin, h⟩ := h
        refine g_iast (by decide +kernel) (by decide) rfl hin ?_
        refine g_iload (i := 7) (by decide +kernel) rfl ?_
        refine g_heap (fun H12 eH12 => ?_)
        replace h := h H12 eH12
        exact g_iret (by decide +kernel) rfl ⟨_, rfl, h⟩
      · replace h := h.2 c
        refine g_aload_n (q := 0) (i := 0) (by decide +kernel) rfl rfl ?_
        refine g_get (C := "ThreePointsModel") (T := xT_Model) (N := 39) (ci := 10) (k := 4) (v := vr 32 0) (by decide +kernel) (by decide) rfl rfl xi_Model (by decide) kw_1030 rfl ?_
        refine g_iload_n (q := 2) (i := 2) (by decide +kernel) rfl rfl ?_
        refine g_iload_n (q := 3) (i := 3) (by decide +kernel) rfl rfl ?_
        suffices hj13 : g_Model_kinds E (d + 1) 82 [some (vr 30 0), some (vi x1), some (vi x2), some (vi x3), none, some (vi v5), some (vi v6), some (vi z8), some (vi z9), none] [vi (if x3 = 0 then z9 else v5 : Int32), vi x2, vr 32 0] H10 (qi Q) by
          refine g_if_ne (off := 8) (tgt := 80) (by decide +kernel) (by decide) (fun c => ?_) (fun c => ?_)
          · rw [if_neg c] at hj13
            refine g_iload (i := 5) (by decide +kernel) rfl ?_
            exact hj13
          · rw [if_pos c] at hj13
            refine g_iload (i := 8) (by decide +kernel) rfl ?_
            refine g_goto (off := 5) (tgt := 82) (by decide +kernel) (by decide) ?_
            exact hj13
        obtain ⟨hin, h⟩ := h
        refine g_iast (by decide +kernel) (by decide) rfl hin ?_
        refine g_aload_n (q := 0) (i := 0) (by decide +kernel) rfl rfl ?_
        refine g_get (C := "ThreePointsModel") (T := xT_Model) (N := 39) (ci := 10) (k := 5) (v := vr 33 0) (by decide +kernel) (by decide) rfl rfl xi_Model (by decide) kw_1031 rfl ?_
        refine g_iload_n (q := 2) (i := 2) (by decide +kernel) rfl rfl ?_
        refine g_iload_n (q := 3) (i := 3) (by decide +kernel) rfl rfl ?_
        refine g_iconst (n := 1) (v := 1) (by decide +kernel) (by decide) ?_
        suffices hj14 : g_Model_kinds E (d + 1) 100 [some (vr 30 0), some (vi x1), some (vi x2), some (vi x3), none, some (vi v5), some (vi v6), some (vi z8), some (vi z9), none] [vi (if x3 = 1 then z9 else v6 : Int32), vi x2, vr 33 0] (hu H10 32 0 (x2.toNatClampNeg) (if x3 = 0 then z9 else v5 : Int32)) (qi Q) by
          refine g_icmp_ne (off := 8) (tgt := 98) (by decide +kernel) (by decide) (fun c => ?_) (fun c => ?_)
          · rw [if_neg c] at hj14
            refine g_iload (i := 6) (by decide +kernel) rfl ?_
            exact hj14
          · rw [if_pos c] at hj14
            refine g_iload (i := 8) (by decide +kernel) rfl ?_
            refine g_goto (off := 5) (tgt := 100) (by decide +kernel) (by decide) ?_
            exact hj14
        obtain ⟨hin, h⟩ := h
        refine g_iast (by decide +kernel) (by decide) rfl hin ?_
        refine g_aload_n (q := 0) (i := 0) (by decide +kernel) rfl rfl ?_
        refine g_iload_n (q := 1) (i := 1) (by decide +kernel) rfl rfl ?_
        refine g_iload_n (q := 2) (i := 2) (by decide +kernel) rfl rfl ?_
        refine g_heap (fun H15 eH15 => ?_)
        replace h := h H15 eH15
        refine g_callV (kd := 30) (ix := 0) (ci := 10) (N := 39) (T := xT_Model) (vs := [vi x1, vi x2]) (st := []) (by decide +kernel) xm_Model_firstWrong kw_1325 kw_1327 kw_60 (by decide) rfl rfl rfl rfl (Nat.le_of_ble_eq_true rfl) (Nat.le_of_ble_eq_true rfl) h (fun vH16 H16 hq => ?_)
        obtain ⟨r17, rfl, h⟩ := hq
        refine g_iconst (n := (-1)) (v := (-1)) (by decide +kernel) (by decide) ?_
        suffices hj18 : g_Model_kinds E (d + 1) 116 [some (vr 30 0), some (vi x1), some (vi x2), some (vi x3), none, some (vi v5), some (vi v6), some (vi z8), some (vi z9), none] [vi (if r17 = (-1) then 1 else 0 : Int32)] H16 (qi Q) by
          refine g_icmp_ne (off := 7) (tgt := 115) (by decide +kernel) (by decide) (fun c => ?_) (fun c => ?_)
          · rw [if_neg c] at hj18
            refine g_iconst (n := 0) (v := 0) (by decide +kernel) (by decide) ?_
            exact hj18
          · rw [if_pos c] at hj18
            refine g_iconst (n := 1) (v := 1) (by decide +kernel) (by decide) ?_
            refine g_goto (off := 4) (tgt := 116) (by decide +kernel) (by decide) ?_
            exact hj18
        refine g_topi (fun v19 ev19 => ?_)
        replace h := h v19 ev19
        refine g_istore (i := 9) (ls2 := [some (vr 30 0), some (vi x1), some (vi x2), some (vi x3), none, some (vi v5), some (vi v6), some (vi z8), some (vi z9), some (vi v19)]) (by decide +kernel) (by decide) rfl rfl ?_
        refine g_iload (i := 7) (by decide +kernel) rfl ?_
        refine g_iload (i := 9) (by decide +kernel) rfl ?_
        refine g_if_eq (off := 24) (tgt := 146) (by decide +kernel) (by decide) (fun c => ?_) (fun c => ?_)
        · replace h := h.1 c
          refine g_iconst (n := 0) (v := 0) (by decide +kernel) (by decide) ?_
          refine g_ior (by decide +kernel) ?_
          refine g_istore (i := 7) (ls2 := [some (vr 30 0), some (vi x1), some (vi x2), some (vi x3), none, some (vi v5), some (vi v6), some (vi (z8 ||| 0)), some (vi z9), some (vi v19)]) (by decide +kernel) (by decide) rfl rfl ?_
          refine g_iinc (i := 8) (n := 1) (v := (z9 + 1)) (ls2 := [some (vr 30 0), some (vi x1), some (vi x2), some (vi x3), none, some (vi v5), some (vi v6), some (vi (z8 ||| 0)), some (vi (z9 + 1)), some (vi v19)]) (by decide +kernel) rfl rfl (by decide) rfl rfl ?_
          refine g_goto (off := (-103)) (tgt := 50) (by decide +kernel) (by decide) ?_
          obtain ⟨hI, hlt⟩ := h
          exact g_drop (ls2 := [some (vr 30 0), some (vi x1), some (vi x2), some (vi x3), none, some (vi v5), some (vi v6), some (vi (z8 ||| 0)), some (vi (z9 + 1)), none]) (And.intro rfl (And.intro rfl (And.intro rfl (And.intro rfl (And.intro rfl (And.intro rfl (And.intro rfl (And.intro rfl trivial)))))))) (ih7 ((z8 ||| 0), (z9 + 1)) H16 hI hlt)
        · replace h := h.2 c
          refine g_aload_n (q := 0) (i := 0) (by decide +kernel) rfl rfl ?_
          refine g_get (C := "ThreePointsModel") (T := xT_Model) (N := 39) (ci := 10) (k := 37) (v := vr 54 0) (by decide +kernel) (by decide) rfl rfl xi_Model (by decide) kw_1063 rfl ?_
          refine g_iconst (n := 1) (v := 1) (by decide +kernel) (by decide) ?_
          refine g_iald (by decide +kernel) (by decide) rfl (vp_lit (by decide)) ?_
          refine g_topE (y := (H16 54 0 1)) rfl ?_
          refine g_aload_n (q := 0) (i := 0) (by decide +kernel) rfl rfl ?_
          refine g_iload_n (q := 2) (i := 2) (by decide +kernel) rfl rfl ?_
          refine g_callV (kd := 30) (ix := 0) (ci := 10) (N := 39) (T := xT_Model) (vs := [vi x2]) (st := [vi (H16 54 0 1), vi z8]) (by decide +kernel) xm_Model_otherOf kw_1282 kw_1284 kw_56 (by decide) rfl rfl rfl rfl (Nat.le_of_ble_eq_true rfl) (Nat.le_of_ble_eq_true rfl) h (fun vH20 H20 hq => ?_)
          obtain ⟨r21, rfl, h⟩ := hq
          refine g_icmp_ne (off := 10) (tgt := 146) (by decide +kernel) (by decide) (fun c => ?_) (fun c => ?_)
          · replace h := h.1 c
            refine g_iconst (n := 0) (v := 0) (by decide +kernel) (by decide) ?_
            refine g_ior (by decide +kernel) ?_
            refine g_istore (i := 7) (ls2 := [some (vr 30 0), some (vi x1), some (vi x2), some (vi x3), none, some (vi v5), some (vi v6), some (vi (z8 ||| 0)), some (vi z9), some (vi v19)]) (by decide +kernel) (by decide) rfl rfl ?_
            refine g_iinc (i := 8) (n := 1) (v := (z9 + 1)) (ls2 := [some (vr 30 0), some (vi x1), some (vi x2), some (vi x3), none, some (vi v5), some (vi v6), some (vi (z8 ||| 0)), some (vi (z9 + 1)), some (vi v19)]) (by decide +kernel) rfl rfl (by decide) rfl rfl ?_
            refine g_goto (off := (-103)) (tgt := 50) (by decide +kernel) (by decide) ?_
            obtain ⟨hI, hlt⟩ := h
            exact g_drop (ls2 := [some (vr 30 0), some (vi x1), some (vi x2), some (vi x3), none, some (vi v5), some (vi v6), some (vi (z8 ||| 0)), some (vi (z9 + 1)), none]) (And.intro rfl (And.intro rfl (And.intro rfl (And.intro rfl (And.intro rfl (And.intro rfl (And.intro rfl (And.intro rfl trivial)))))))) (ih7 ((z8 ||| 0), (z9 + 1)) H20 hI hlt)
          · replace h := h.2 c
            refine g_iconst (n := 1) (v := 1) (by decide +kernel) (by decide) ?_
            refine g_iload (i := 8) (by decide +kernel) rfl ?_
            refine g_ishl (by decide +kernel) ?_
            refine g_goto (off := 4) (tgt := 147) (by decide +kernel) (by decide) ?_
            refine g_ior (by decide +kernel) ?_
            refine g_topi (fun v22 ev22 => ?_)
            replace h := h v22 ev22
            refine g_istore (i := 7) (ls2 := [some (vr 30 0), some (vi x1), some (vi x2), some (vi x3), none, some (vi v5), some (vi v6), some (vi v22), some (vi z9), some (vi v19)]) (by decide +kernel) (by decide) rfl rfl ?_
            refine g_iinc (i := 8) (n := 1) (v := (z9 + 1)) (ls2 := [some (vr 30 0), some (vi x1), some (vi x2), some (vi x3), none, some (vi v5), some (vi v6), some (vi v22), some (vi (z9 + 1)), some (vi v19)]) (by decide +kernel) rfl rfl (by decide) rfl rfl ?_
            refine g_goto (off := (-103)) (tgt := 50) (by decide +kernel) (by decide) ?_
            obtain ⟨hI, hlt⟩ := h
            exact g_drop (ls2 := [some (vr 30 0), some (vi x1), some (vi x2), some (vi x3), none, some (vi v5), some (vi v6), some (vi v22), some (vi (z9 + 1)), none]) (And.intro rfl (And.intro rfl (And.intro rfl (And.intro rfl (And.intro rfl (And.intro rfl (And.intro rfl (And.intro rfl trivial)))))))) (ih7 (v22, (z9 + 1)) H20 hI hlt)
    · replace h := h.2 c
      refine g_bipush (n := (-7)) (v := (-7)) (by decide +kernel) (by decide) ?_
      exact g_iret (by decide +kernel) rfl ⟨_, rfl, h⟩
  · replace h := h.2 c
    refine g_iload (i := 4) (by decide +kernel) rfl ?_
    exact g_iret (by decide +kernel) rfl ⟨_, rfl, h⟩
def p_Model_widths (E : XE) (d : Nat) (x1 : Int32) (x2 : Int32) (x3 : Int32) (H : HH) (Q : Int32 → HH → Prop) : Prop := c_Model_sheetWrong E d x1 x2 H (fun r2 H1 => (r2 = 0 → (c_Model_in E d x3 0 1 H1 (fun r4 H3 => (¬ r4 = 0 → (∃ (I5 : Int32 → Int32 → Int32 → HH → Prop) (μ5 : Int32 → Int32 → Int32 → HH → Nat), I5 (-1) 0 8 H3 ∧ ∀ (z6 : Int32) (z7 : Int32) (z8 : Int32) (H9 : HH), I5 z6 z7 z8 H9 → ((60 < z8 → (∀ H11 : HH, H11 = (hu H9 30 0 1 (H3 30 0 1)) → (Q (if x3 = 0 then z6 else z7 : Int32) H11))) ∧ (¬ 60 < z8 → (vp_in (5 * x2) 20 ∧ (∀ H12 : HH, H12 = (hu H9 30 0 1 z8) → (c_Model_isPlace E d (H12 34 0 ((5 * x2).toNatClampNeg)) H12 (fun r14 H13 => (r14 = 0 → (I5 z6 (z7 + 0) (z8 + 1) H13 ∧ μ5 z6 (z7 + 0) (z8 + 1) H13 < μ5 z6 z7 z8 H9)) ∧ (¬ r14 = 0 → (vp_in (5 * x2) 20 ∧ (vp_in ((5 * x2) + 1) 20 ∧ (c_Model_fitsAt E d x2 (H13 34 0 ((5 * x2).toNatClampNeg)) (H13 34 0 (((5 * x2) + 1).toNatClampNeg)) H13 (fun r16 H15 => (r16 = 0 → (I5 z6 (z7 + 0) (z8 + 1) H15 ∧ μ5 z6 (z7 + 0) (z8 + 1) H15 < μ5 z6 z7 z8 H9)) ∧ (¬ r16 = 0 → (c_Model_firstWrong E d x1 x2 H15 (fun r18 H17 => ∀ v20 : Int32, v20 = (if r18 = (-1) then 1 else 0 : Int32) → (∀ v23 : Int32, v23 = (if v20 = 0 then z6 else (if z6 = (-1) then z8 else z6 : Int32) : Int32) → (∀ v25 : Int32, v25 = (z7 + (if v20 = 0 then 0 else 1 : Int32)) → (I5 v23 v25 (z8 + 1) H17 ∧ μ5 v23 v25 (z8 + 1) H17 < μ5 z6 z7 z8 H9))))))))))))))))))) ∧ (r4 = 0 → (Q (-7) H3))))) ∧ (¬ r2 = 0 → (Q r2 H1)))
set_option maxHeartbeats 4000000 in
theorem l_Model_widths {E : XE} {d : Nat} {x1 : Int32} {x2 : Int32} {x3 : Int32} {H : HH} {Q : Int32 → HH → Prop} (h : p_Model_widths E d x1 x2 x3 H Q) : c_Model_widths E (d + 1) x1 x2 x3 H Q := by
  show g_Model_widths E (d + 1) 0 (xent [vr 30 0, vi x1, vi x2, vi x3]) [] H (qi Q)
  refine g_drop (ls2 := [some (vr 30 0), some (vi x1), some (vi x2), some (vi x3), none, none, none, none, none, none]) (And.intro rfl (And.intro rfl (And.intro rfl (And.intro rfl trivial)))) ?_
  refine g_aload_n (q := 0) (i := 0) (by decide +kernel) rfl rfl ?_
  refine g_iload_n (q := 1) (i := 1) (by decide +kernel) rfl rfl ?_
  refine g_iload_n (q := 2) (i := 2) (by decide +kernel) rfl rfl ?_
  refine g_callV (kd := 30) (ix := 0) (ci := 10) (N := 39) (T := xT_Model) (vs := [vi x1, vi x2]) (st := []) (by decide +kernel) xm_Model_sheetWrong kw_1321 kw_1323 kw_59 (by decide) rfl rfl rfl rfl (Nat.le_of_ble_eq_true rfl) (Nat.le_of_ble_eq_true rfl) h (fun vH1 H1 hq => ?_)
  obtain ⟨r2, rfl, h⟩ := hq
  refine g_istore (i := 4) (ls2 := [some (vr 30 0), some (vi x1), some (vi x2), some (vi x3), some (vi r2), none, none, none, none, none]) (by decide +kernel) (by decide) rfl rfl ?_
  refine g_iload (i := 4) (by decide +kernel) rfl ?_
  refine g_if_eq (off := 6) (tgt := 16) (by decide +kernel) (by decide) (fun c => ?_) (fun c => ?_)
  · replace h := h.1 c
    refine g_iload_n (q := 3) (i := 3) (by decide +kernel) rfl rfl ?_
    refine g_iconst (n := 0) (v := 0) (by decide +kernel) (by decide) ?_
    refine g_iconst (n := 1) (v := 1) (by decide +kernel) (by decide) ?_
    refine g_callS (vs := [vi x3, vi 0, vi 1]) (st := []) (by decide +kernel) xm_Model_in kw_987 kw_988 rfl rfl (Nat.le_of_ble_eq_true rfl) (Nat.le_of_ble_eq_true rfl) h (fun vH3 H3 hq => ?_)
    obtain ⟨r4, rfl, h⟩ := hq
    refine g_if_ne (off := 6) (tgt := 28) (by decide +kernel) (by decide) (fun c => ?_) (fun c => ?_)
    · replace h := h.1 c
      refine g_aload_n (q := 0) (i := 0) (by decide +kernel) rfl rfl ?_
      refine g_get (C := "ThreePointsModel") (T := xT_Model) (N := 39) (ci := 10) (k := 1) (v := vi (H3 30 0 1)) (by decide +kernel) (by decide) rfl rfl xi_Model (by decide) kw_1027 rfl ?_
      refine g_istore (i := 5) (ls2 := [some (vr 30 0), some (vi x1), some (vi x2), some (vi x3), some (vi r2), some (vi (H3 30 0 1)), none, none, none, none]) (by decide +kernel) (by decide) rfl rfl ?_
      refine g_iconst (n := (-1)) (v := (-1)) (by decide +kernel) (by decide) ?_
      refine g_istore (i := 6) (ls2 := [some (vr 30 0), some (vi x1), some (vi x2), some (vi x3), some (vi r2), some (vi (H3 30 0 1)), some (vi (-1)), none, none, none]) (by decide +kernel) (by decide) rfl rfl ?_
      refine g_iconst (n := 0) (v := 0) (by decide +kernel) (by decide) ?_
      refine g_istore (i := 7) (ls2 := [some (vr 30 0), some (vi x1), some (vi x2), some (vi x3), some (vi r2), some (vi (H3 30 0 1)), some (vi (-1)), some (vi 0), none, none]) (by decide +kernel) (by decide) rfl rfl ?_
      refine g_bipush (n := 8) (v := 8) (by decide +kernel) (by decide) ?_
      refine g_istore (i := 8) (ls2 := [some (vr 30 0), some (vi x1), some (vi x2), some (vi x3), some (vi r2), some (vi (H3 30 0 1)), some (vi (-1)), some (vi 0), some (vi 8), none]) (by decide +kernel) (by decide) rfl rfl ?_
      refine g_drop (ls2 := [some (vr 30 0), some (vi x1), some (vi x2), some (vi x3), none, some (vi (H3 30 0 1)), some (vi (-1)), some (vi 0), some (vi 8), none]) (And.intro rfl (And.intro rfl (And.intro rfl (And.intro rfl (And.intro rfl (And.intro rfl (And.intro rfl (And.intro rfl trivial)))))))) ?_
      obtain ⟨I5, μ5, h0, h⟩ := h
      refine xloop (σ := Int32 × Int32 × Int32) (fun s H => I5 s.1 s.2.1 s.2.2 H) (fun s H => μ5 s.1 s.2.1 s.2.2 H) (fun s H => g_Model_widths E (d + 1) 44 [some (vr 30 0), some (vi x1), some (vi x2), some (vi x3), none, some (vi (H3 30 0 1)), some (vi s.1), some (vi s.2.1), some (vi s.2.2), none] [] H (qi Q)) (fun s H9 hI ih5 => ?_) ((-1), 0, 8) H3 h0
      obtain ⟨z6, z7, z8⟩ := s
      replace h := h z6 z7 z8 H9 hI
      refine g_iload (i := 8) (by decide +kernel) rfl ?_
      refine g_bipush (n := 60) (v := 60) (by decide +kernel) (by decide) ?_
      refine g_icmp_gt (off := 108) (tgt := 156) (by decide +kernel) (by decide) (fun c => ?_) (fun c => ?_)
      · replace h := h.1 c
        refine g_aload_n (q := 0) (i := 0) (by decide +kernel) rfl rfl ?_
        refine g_iload (i := 5) (by decide +kernel) rfl ?_
        refine g_put (C := "ThreePointsModel") (T := xT_Model) (N := 39) (ci := 10) (k := 1) xy_Model (by decide +kernel) (by decide) rfl rfl xi_Model xy_Model_ok xn_Model (by decide) kw_1027 rfl (by decide +kernel) (fun _ => rfl) ?_
        refine g_iload_n (q := 3) (i := 3) (by decide +kernel) rfl rfl ?_
        suffices hj10 : g_Model_widths E (d + 1) 173 [some (vr 30 0), some (vi x1), some (vi x2), some (vi x3), none, some (vi (H3 30 0 1)), some (vi z6), some (vi z7), some (vi z8), none] [vi (if x3 = 0 then z6 else z7 : Int32)] (hu H9 30 0 1 (H3 30 0 1)) (qi Q) by
          refine g_if_ne (off := 8) (tgt := 171) (by decide +kernel) (by decide) (fun c => ?_) (fun c => ?_)
          · rw [if_neg c] at hj10
            refine g_iload (i := 7) (by decide +kernel) rfl ?_
            exact hj10
          · rw [if_pos c] at hj10
            refine g_iload (i := 6) (by decide +kernel) rfl ?_
            refine g_goto (off := 5) (tgt := 173) (by decide +kernel) (by decide) ?_
            exact hj10
        refine g_heap (fun H11 eH11 => ?_)
        replace h := h H11 eH11
        exact g_iret (by decide +kernel) rfl ⟨_, rfl, h⟩
      · replace h := h.2 c
        refine g_aload_n (q := 0) (i := 0) (by decide +kernel) rfl rfl ?_
        refine g_iload (i := 8) (by decide +kernel) rfl ?_
        refine g_put (C := "ThreePointsModel") (T := xT_Model) (N := 39) (ci := 10) (k := 1) xy_Model (by decide +kernel) (by decide) rfl rfl xi_Model xy_Model_ok xn_Model (by decide) kw_1027 rfl (by decide +kernel) (fun _ => rfl) ?_
        refine g_aload_n (q := 0) (i := 0) (by decide +kernel) rfl rfl ?_
        refine g_aload_n (q := 0) (i := 0) (by decide +kernel) rfl rfl ?_
        refine g_get (C := "ThreePointsModel") (T := xT_Model) (N := 39) (ci := 10) (k := 6) (v := vr 34 0) (by decide +kernel) (by decide) rfl rfl xi_Model (by decide) kw_1032 rfl ?_
        refine g_iconst (n := 5) (v := 5) (by decide +kernel) (by decide) ?_
        refine g_iload_n (q := 2) (i := 2) (by decide +kernel) rfl rfl ?_
        refine g_imul (by decide +kernel) ?_
        obtain ⟨hin, h⟩ := h
        refine g_heap (fun H12 eH12 => ?_)
        replace h := h H12 eH12
        refine g_iald (by decide +kernel) (by decide) rfl hin ?_
        refine g_callV (kd := 30) (ix := 0) (ci := 10) (N := 39) (T := xT_Model) (vs := [vi (H12 34 0 ((5 * x2).toNatClampNeg))]) (st := []) (by decide +kernel) xm_Model_isPlace kw_1156 kw_1158 kw_37 (by decide) rfl rfl rfl rfl (Nat.le_of_ble_eq_true rfl) (Nat.le_of_ble_eq_true rfl) h (fun vH13 H13 hq => ?_)
        obtain ⟨r14, rfl, h⟩ := hq
        refine g_if_eq (off := 43) (tgt := 112) (by decide +kernel) (by decide) (fun c => ?_) (fun c => ?_)
        · replace h := h.1 c
          refine g_iconst (n := 0) (v := 0) (by decide +kernel) (by decide) ?_
          refine g_istore (i := 9) (ls2 := [some (vr 30 0), some (vi x1), some (vi x2), some (vi x3), none, some (vi (H3 30 0 1)), some (vi z6), some (vi z7), some (vi z8), some (vi 0)]) (by decide +kernel) (by decide) rfl rfl ?_
          refine g_iload (i := 9) (by decide +kernel) rfl ?_
          refine g_if_eq (off := 14) (tgt := 131) (by decide +kernel) (by decide) (fun c => ?_) (fun c => absurd c (by decide))
          refine g_iload (i := 6) (by decide +kernel) rfl ?_
          refine g_istore (i := 6) (ls2 := [some (vr 30 0), some (vi x1), some (vi x2), some (vi x3), none, some (vi (H3 30 0 1)), some (vi z6), some (vi z7), some (vi z8), some (vi 0)]) (by decide +kernel) (by decide) rfl rfl ?_
          refine g_iload (i := 7) (by decide +kernel) rfl ?_
          refine g_iload (i := 9) (by decide +kernel) rfl ?_
          refine g_if_eq (off := 7) (tgt := 146) (by decide +kernel) (by decide) (fun c => ?_) (fun c => absurd c (by decide))
          refine g_iconst (n := 0) (v := 0) (by decide +kernel) (by decide) ?_
          refine g_iadd (by decide +kernel) ?_
          refine g_istore (i := 7) (ls2 := [some (vr 30 0), some (vi x1), some (vi x2), some (vi x3), none, some (vi (H3 30 0 1)), some (vi z6), some (vi (z7 + 0)), some (vi z8), some (vi 0)]) (by decide +kernel) (by decide) rfl rfl ?_
          refine g_iinc (i := 8) (n := 1) (v := (z8 + 1)) (ls2 := [some (vr 30 0), some (vi x1), some (vi x2), some (vi x3), none, some (vi (H3 30 0 1)), some (vi z6), some (vi (z7 + 0)), some (vi (z8 + 1)), some (vi 0)]) (by decide +kernel) rfl rfl (by decide) rfl rfl ?_
          refine g_goto (off := (-109)) (tgt := 44) (by decide +kernel) (by decide) ?_
          obtain ⟨hI, hlt⟩ := h
          exact g_drop (ls2 := [some (vr 30 0), some (vi x1), some (vi x2), some (vi x3), none, some (vi (H3 30 0 1)), some (vi z6), some (vi (z7 + 0)), some (vi (z8 + 1)), none]) (And.intro rfl (And.intro rfl (And.intro rfl (And.intro rfl (And.intro rfl (And.intro rfl (And.intro rfl (And.intro rfl trivial)))))))) (ih5 (z6, (z7 + 0), (z8 + 1)) H13 hI hlt)
        · replace h := h.2 c
          refine g_aload_n (q := 0) (i := 0) (by decide +kernel) rfl rfl ?_
          refine g_iload_n (q := 2) (i := 2) (by decide +kernel) rfl rfl ?_
          refine g_aload_n (q := 0) (i := 0) (by decide +kernel) rfl rfl ?_
          refine g_get (C := "ThreePointsModel") (T := xT_Model) (N := 39) (ci := 10) (k := 6) (v := vr 34 0) (by decide +kernel) (by decide) rfl rfl xi_Model (by decide) kw_1032 rfl ?_
          refine g_iconst (n := 5) (v := 5) (by decide +kernel) (by decide) ?_
          refine g_iload_n (q := 2) (i := 2) (by decide +kernel) rfl rfl ?_
          refine g_imul (by decide +kernel) ?_
          obtain ⟨hin, h⟩ := h
          refine g_iald (by decide +kernel) (by decide) rfl hin ?_
          refine g_aload_n (q := 0) (i := 0) (by decide +kernel) rfl rfl ?_
          refine g_get (C := "ThreePointsModel") (T := xT_Model) (N := 39) (ci := 10) (k := 6) (v := vr 34 0) (by decide +kernel) (by decide) rfl rfl xi_Model (by decide) kw_1032 rfl ?_
          refine g_iconst (n := 5) (v := 5) (by decide +kernel) (by decide) ?_
          refine g_iload_n (q := 2) (i := 2) (by decide +kernel) rfl rfl ?_
          refine g_imul (by decide +kernel) ?_
          refine g_iconst (n := 1) (v := 1) (by decide +kernel) (by decide) ?_
          refine g_iadd (by decide +kernel) ?_
          obtain ⟨hin, h⟩ := h
          refine g_iald (by decide +kernel) (by decide) rfl hin ?_
          refine g_callV (kd := 30) (ix := 0) (ci := 10) (N := 39) (T := xT_Model) (vs := [vi x2, vi (H13 34 0 ((5 * x2).toNatClampNeg)), vi (H13 34 0 (((5 * x2) + 1).toNatClampNeg))]) (st := []) (by decide +kernel) xm_Model_fitsAt kw_1160 kw_1162 kw_38 (by decide) rfl rfl rfl rfl (Nat.le_of_ble_eq_true rfl) (Nat.le_of_ble_eq_true rfl) h (fun vH15 H15 hq => ?_)
          obtain ⟨r16, rfl, h⟩ := hq
          refine g_if_eq (off := 17) (tgt := 112) (by decide +kernel) (by decide) (fun c => ?_) (fun c => ?_)
          · replace h := h.1 c
            refine g_iconst (n := 0) (v := 0) (by decide +kernel) (by decide) ?_
            refine g_istore (i := 9) (ls2 := [some (vr 30 0), some (vi x1), some (vi x2), some (vi x3), none, some (vi (H3 30 0 1)), some (vi z6), some (vi z7), some (vi z8), some (vi 0)]) (by decide +kernel) (by decide) rfl rfl ?_
            refine g_iload (i := 9) (by decide +kernel) rfl ?_
            refine g_if_eq (off := 14) (tgt := 131) (by decide +kernel) (by decide) (fun c => ?_) (fun c => absurd c (by decide))
            refine g_iload (i := 6) (by decide +kernel) rfl ?_
            refine g_istore (i := 6) (ls2 := [some (vr 30 0), some (vi x1), some (vi x2), some (vi x3), none, some (vi (H3 30 0 1)), some (vi z6), some (vi z7), some (vi z8), some (vi 0)]) (by decide +kernel) (by decide) rfl rfl ?_
            refine g_iload (i := 7) (by decide +kernel) rfl ?_
            refine g_iload (i := 9) (by decide +kernel) rfl ?_
            refine g_if_eq (off := 7) (tgt := 146) (by decide +kernel) (by decide) (fun c => ?_) (fun c => absurd c (by decide))
            refine g_iconst (n := 0) (v := 0) (by decide +kernel) (by decide) ?_
            refine g_iadd (by decide +kernel) ?_
            refine g_istore (i := 7) (ls2 := [some (vr 30 0), some (vi x1), some (vi x2), some (vi x3), none, some (vi (H3 30 0 1)), some (vi z6), some (vi (z7 + 0)), some (vi z8), some (vi 0)]) (by decide +kernel) (by decide) rfl rfl ?_
            refine g_iinc (i := 8) (n := 1) (v := (z8 + 1)) (ls2 := [some (vr 30 0), some (vi x1), some (vi x2), some (vi x3), none, some (vi (H3 30 0 1)), some (vi z6), some (vi (z7 + 0)), some (vi (z8 + 1)), some (vi 0)]) (by decide +kernel) rfl rfl (by decide) rfl rfl ?_
            refine g_goto (off := (-109)) (tgt := 44) (by decide +kernel) (by decide) ?_
            obtain ⟨hI, hlt⟩ := h
            exact g_drop (ls2 := [some (vr 30 0), some (vi x1), some (vi x2), some (vi x3), none, some (vi (H3 30 0 1)), some (vi z6), some (vi (z7 + 0)), some (vi (z8 + 1)), none]) (And.intro rfl (And.intro rfl (And.intro rfl (And.intro rfl (And.intro rfl (And.intro rfl (And.intro rfl (And.intro rfl trivial)))))))) (ih5 (z6, (z7 + 0), (z8 + 1)) H15 hI hlt)
          · replace h := h.2 c
            refine g_aload_n (q := 0) (i := 0) (by decide +kernel) rfl rfl ?_
            refine g_iload_n (q := 1) (i := 1) (by decide +kernel) rfl rfl ?_
            refine g_iload_n (q := 2) (i := 2) (by decide +kernel) rfl rfl ?_
            refine g_callV (kd := 30) (ix := 0) (ci := 10) (N := 39) (T := xT_Model) (vs := [vi x1, vi x2]) (st := []) (by decide +kernel) xm_Model_firstWrong kw_1325 kw_1327 kw_60 (by decide) rfl rfl rfl rfl (Nat.le_of_ble_eq_true rfl) (Nat.le_of_ble_eq_true rfl) h (fun vH17 H17 hq => ?_)
            obtain ⟨r18, rfl, h⟩ := hq
            refine g_iconst (n := (-1)) (v := (-1)) (by decide +kernel) (by decide) ?_
            suffices hj19 : g_Model_widths E (d + 1) 113 [some (vr 30 0), some (vi x1), some (vi x2), some (vi x3), none, some (vi (H3 30 0 1)), some (vi z6), some (vi z7), some (vi z8), none] [vi (if r18 = (-1) then 1 else 0 : Int32)] H17 (qi Q) by
              refine g_icmp_ne (off := 7) (tgt := 112) (by decide +kernel) (by decide) (fun c => ?_) (fun c => ?_)
              · rw [if_neg c] at hj19
                refine g_iconst (n := 0) (v := 0) (by decide +kernel) (by decide) ?_
                exact hj19
              · rw [if_pos c] at hj19
                refine g_iconst (n := 1) (v := 1) (by decide +kernel) (by decide) ?_
                refine g_goto (off := 4) (tgt := 113) (by decide +kernel) (by decide) ?_
                exact hj19
            refine g_topi (fun v20 ev20 => ?_)
            replace h := h v20 ev20
            refine g_istore (i := 9) (ls2 := [some (vr 30 0), some (vi x1), some (vi x2), some (vi x3), none, some (vi (H3 30 0 1)), some (vi z6), some (vi z7), some (vi z8), some (vi v20)]) (by decide +kernel) (by decide) rfl rfl ?_
            refine g_iload (i := 9) (by decide +kernel) rfl ?_
            suffices hj22 : g_Model_widths E (d + 1) 133 [some (vr 30 0), some (vi x1), some (vi x2), some (vi x3), none, some (vi (H3 30 0 1)), some (vi z6), some (vi z7), some (vi z8), some (vi v20)] [vi (if v20 = 0 then z6 else (if z6 = (-1) then z8 else z6 : Int32) : Int32)] H17 (qi Q) by
              refine g_if_eq (off := 14) (tgt := 131) (by decide +kernel) (by decide) (fun c => ?_) (fun c => ?_)
              · rw [if_pos c] at hj22
                refine g_iload (i := 6) (by decide +kernel) rfl ?_
                exact hj22
              · rw [if_neg c] at hj22
                refine g_iload (i := 6) (by decide +kernel) rfl ?_
                refine g_iconst (n := (-1)) (v := (-1)) (by decide +kernel) (by decide) ?_
                suffices hj21 : g_Model_widths E (d + 1) 133 [some (vr 30 0), some (vi x1), some (vi x2), some (vi x3), none, some (vi (H3 30 0 1)), some (vi z6), some (vi z7), some (vi z8), some (vi v20)] [vi (if z6 = (-1) then z8 else z6 : Int32)] H17 (qi Q) by
                  refine g_icmp_ne (off := 8) (tgt := 131) (by decide +kernel) (by decide) (fun c => ?_) (fun c => ?_)
                  · rw [if_neg c] at hj21
                    refine g_iload (i := 6) (by decide +kernel) rfl ?_
                    exact hj21
                  · rw [if_pos c] at hj21
                    refine g_iload (i := 8) (by decide +kernel) rfl ?_
                    refine g_goto (off := 5) (tgt := 133) (by decide +kernel) (by decide) ?_
                    exact hj21
                exact hj22
            refine g_topi (fun v23 ev23 => ?_)
            replace h := h v23 ev23
            refine g_istore (i := 6) (ls2 := [some (vr 30 0), some (vi x1), some (vi x2), some (vi x3), none, some (vi (H3 30 0 1)), some (vi v23), some (vi z7), some (vi z8), some (vi v20)]) (by decide +kernel) (by decide) rfl rfl ?_
            refine g_iload (i := 7) (by decide +kernel) rfl ?_
            refine g_iload (i := 9) (by decide +kernel) rfl ?_
            suffices hj24 : g_Model_widths E (d + 1) 147 [some (vr 30 0), some (vi x1), some (vi x2), some (vi x3), none, some (vi (H3 30 0 1)), some (vi v23), some (vi z7), some (vi z8), some (vi v20)] [vi (if v20 = 0 then 0 else 1 : Int32), vi z7] H17 (qi Q) by
              refine g_if_eq (off := 7) (tgt := 146) (by decide +kernel) (by decide) (fun c => ?_) (fun c => ?_)
              · rw [if_pos c] at hj24
                refine g_iconst (n := 0) (v := 0) (by decide +kernel) (by decide) ?_
                exact hj24
              · rw [if_neg c] at hj24
                refine g_iconst (n := 1) (v := 1) (by decide +kernel) (by decide) ?_
                refine g_goto (off := 4) (tgt := 147) (by decide +kernel) (by decide) ?_
                exact hj24
            refine g_iadd (by decide +kernel) ?_
            refine g_topi (fun v25 ev25 => ?_)
            replace h := h v25 ev25
            refine g_istore (i := 7) (ls2 := [some (vr 30 0), some (vi x1), some (vi x2), some (vi x3), none, some (vi (H3 30 0 1)), some (vi v23), some (vi v25), some (vi z8), some (vi v20)]) (by decide +kernel) (by decide) rfl rfl ?_
            refine g_iinc (i := 8) (n := 1) (v := (z8 + 1)) (ls2 := [some (vr 30 0), some (vi x1), some (vi x2), some (vi x3), none, some (vi (H3 30 0 1)), some (vi v23), some (vi v25), some (vi (z8 + 1)), some (vi v20)]) (by decide +kernel) rfl rfl (by decide) rfl rfl ?_
            refine g_goto (off := (-109)) (tgt := 44) (by decide +kernel) (by decide) ?_
            obtain ⟨hI, hlt⟩ := h
            exact g_drop (ls2 := [some (vr 30 0), some (vi x1), some (vi x2), some (vi x3), none, some (vi (H3 30 0 1)), some (vi v23), some (vi v25), some (vi (z8 + 1)), none]) (And.intro rfl (And.intro rfl (And.intro rfl (And.intro rfl (And.intro rfl (And.intro rfl (And.intro rfl (And.intro rfl trivial)))))))) (ih5 (v23, v25, (z8 + 1)) H17 hI hlt)
    · replace h := h.2 c
      refine g_bipush (n := (-7)) (v := (-7)) (by decide +kernel) (by decide) ?_
      exact g_iret (by decide +kernel) rfl ⟨_, rfl, h⟩
  · replace h := h.2 c
    refine g_iload (i := 4) (by decide +kernel) rfl ?_
    exact g_iret (by decide +kernel) rfl ⟨_, rfl, h⟩
def p_Model_laws (E : XE) (d : Nat) (x1 : Int32) (x2 : Int32) (H : HH) (Q : Int32 → HH → Prop) : Prop := c_Model_sheetWrong E d x1 x2 H (fun r2 H1 => (r2 = 0 → (∃ (I3 : Int32 → Int32 → HH → Prop) (μ3 : Int32 → Int32 → HH → Nat), I3 0 0 H1 ∧ ∀ (z4 : Int32) (z5 : Int32) (H6 : HH), I3 z4 z5 H6 → (((H6 30 0 11) ≤ z5 → (∀ H7 : HH, H7 = (hu H6 30 0 12 (H1 30 0 12)) → (Q z4 H7))) ∧ (¬ (H6 30 0 11) ≤ z5 → (∀ H8 : HH, H8 = (hu H6 30 0 12 z5) → (c_Model_firstWrong E d x1 x2 H8 (fun r10 H9 => (¬ r10 = (-1) → (I3 (z4 ||| 0) (z5 + 1) H9 ∧ μ3 (z4 ||| 0) (z5 + 1) H9 < μ3 z4 z5 H6)) ∧ (r10 = (-1) → (∀ v11 : Int32, v11 = (z4 ||| (1 <<< (z5 &&& 31))) → (I3 v11 (z5 + 1) H9 ∧ μ3 v11 (z5 + 1) H9 < μ3 z4 z5 H6)))))))))) ∧ (¬ r2 = 0 → (Q r2 H1)))
set_option maxHeartbeats 4000000 in
theorem l_Model_laws {E : XE} {d : Nat} {x1 : Int32} {x2 : Int32} {H : HH} {Q : Int32 → HH → Prop} (h : p_Model_laws E d x1 x2 H Q) : c_Model_laws E (d + 1) x1 x2 H Q := by
  show g_Model_laws E (d + 1) 0 (xent [vr 30 0, vi x1, vi x2]) [] H (qi Q)
  refine g_drop (ls2 := [some (vr 30 0), some (vi x1), some (vi x2), none, none, none, none]) (And.intro rfl (And.intro rfl (And.intro rfl trivial))) ?_
  refine g_aload_n (q := 0) (i := 0) (by decide +kernel) rfl rfl ?_
  refine g_iload_n (q := 1) (i := 1) (by decide +kernel) rfl rfl ?_
  refine g_iload_n (q := 2) (i := 2) (by decide +kernel) rfl rfl ?_
  refine g_callV (kd := 30) (ix := 0) (ci := 10) (N := 39) (T := xT_Model) (vs := [vi x1, vi x2]) (st := []) (by decide +kernel) xm_Model_sheetWrong kw_1321 kw_1323 kw_59 (by decide) rfl rfl rfl rfl (Nat.le_of_ble_eq_true rfl) (Nat.le_of_ble_eq_true rfl) h (fun vH1 H1 hq => ?_)
  obtain ⟨r2, rfl, h⟩ := hq
  refine g_istore_n (q := 3) (i := 3) (ls2 := [some (vr 30 0), some (vi x1), some (vi x2), some (vi r2), none, none, none]) (by decide +kernel) rfl (by decide) rfl rfl ?_
  refine g_iload_n (q := 3) (i := 3) (by decide +kernel) rfl rfl ?_
  refine g_if_eq (off := 5) (tgt := 13) (by decide +kernel) (by decide) (fun c => ?_) (fun c => ?_)
  · replace h := h.1 c
    refine g_aload_n (q := 0) (i := 0) (by decide +kernel) rfl rfl ?_
    refine g_get (C := "ThreePointsModel") (T := xT_Model) (N := 39) (ci := 10) (k := 12) (v := vi (H1 30 0 12)) (by decide +kernel) (by decide) rfl rfl xi_Model (by decide) kw_1038 rfl ?_
    refine g_istore (i := 4) (ls2 := [some (vr 30 0), some (vi x1), some (vi x2), some (vi r2), some (vi (H1 30 0 12)), none, none]) (by decide +kernel) (by decide) rfl rfl ?_
    refine g_iconst (n := 0) (v := 0) (by decide +kernel) (by decide) ?_
    refine g_istore (i := 5) (ls2 := [some (vr 30 0), some (vi x1), some (vi x2), some (vi r2), some (vi (H1 30 0 12)), some (vi 0), none]) (by decide +kernel) (by decide) rfl rfl ?_
    refine g_iconst (n := 0) (v := 0) (by decide +kernel) (by decide) ?_
    refine g_istore (i := 6) (ls2 := [some (vr 30 0), some (vi x1), some (vi x2), some (vi r2), some (vi (H1 30 0 12)), some (vi 0), some (vi 0)]) (by decide +kernel) (by decide) rfl rfl ?_
    refine g_drop (ls2 := [some (vr 30 0), some (vi x1), some (vi x2), none, some (vi (H1 30 0 12)), some (vi 0), some (vi 0)]) (And.intro rfl (And.intro rfl (And.intro rfl (And.intro rfl (And.intro rfl (And.intro rfl trivial)))))) ?_
    obtain ⟨I3, μ3, h0, h⟩ := h
    refine xloop (σ := Int32 × Int32) (fun s H => I3 s.1 s.2 H) (fun s H => μ3 s.1 s.2 H) (fun s H => g_Model_laws E (d + 1) 25 [some (vr 30 0), some (vi x1), some (vi x2), none, some (vi (H1 30 0 12)), some (vi s.1), some (vi s.2)] [] H (qi Q)) (fun s H6 hI ih3 => ?_) (0, 0) H1 h0
    obtain ⟨z4, z5⟩ := s
    replace h := h z4 z5 H6 hI
    refine g_iload (i := 6) (by decide +kernel) rfl ?_
    refine g_aload_n (q := 0) (i := 0) (by decide +kernel) rfl rfl ?_
    refine g_get (C := "ThreePointsModel") (T := xT_Model) (N := 39) (ci := 10) (k := 11) (v := vi (H6 30 0 11)) (by decide +kernel) (by decide) rfl rfl xi_Model (by decide) kw_1037 rfl ?_
    refine g_icmp_ge (off := 38) (tgt := 69) (by decide +kernel) (by decide) (fun c => ?_) (fun c => ?_)
    · replace h := h.1 c
      refine g_aload_n (q := 0) (i := 0) (by decide +kernel) rfl rfl ?_
      refine g_iload (i := 4) (by decide +kernel) rfl ?_
      refine g_put (C := "ThreePointsModel") (T := xT_Model) (N := 39) (ci := 10) (k := 12) xy_Model (by decide +kernel) (by decide) rfl rfl xi_Model xy_Model_ok xn_Model (by decide) kw_1038 rfl (by decide +kernel) (fun _ => rfl) ?_
      refine g_iload (i := 5) (by decide +kernel) rfl ?_
      refine g_heap (fun H7 eH7 => ?_)
      replace h := h H7 eH7
      exact g_iret (by decide +kernel) rfl ⟨_, rfl, h⟩
    · replace h := h.2 c
      refine g_aload_n (q := 0) (i := 0) (by decide +kernel) rfl rfl ?_
      refine g_iload (i := 6) (by decide +kernel) rfl ?_
      refine g_put (C := "ThreePointsModel") (T := xT_Model) (N := 39) (ci := 10) (k := 12) xy_Model (by decide +kernel) (by decide) rfl rfl xi_Model xy_Model_ok xn_Model (by decide) kw_1038 rfl (by decide +kernel) (fun _ => rfl) ?_
      refine g_iload (i := 5) (by decide +kernel) rfl ?_
      refine g_aload_n (q := 0) (i := 0) (by decide +kernel) rfl rfl ?_
      refine g_iload_n (q := 1) (i := 1) (by decide +kernel) rfl rfl ?_
      refine g_iload_n (q := 2) (i := 2) (by decide +kernel) rfl rfl ?_
      refine g_heap (fun H8 eH8 => ?_)
      replace h := h H8 eH8
      refine g_callV (kd := 30) (ix := 0) (ci := 10) (N := 39) (T := xT_Model) (vs := [vi x1, vi x2]) (st := [vi z4]) (by decide +kernel) xm_Model_firstWrong kw_1325 kw_1327 kw_60 (by decide) rfl rfl rfl rfl (Nat.le_of_ble_eq_true rfl) (Nat.le_of_ble_eq_true rfl) h (fun vH9 H9 hq => ?_)
      obtain ⟨r10, rfl, h⟩ := hq
      refine g_iconst (n := (-1)) (v := (-1)) (by decide +kernel) (by decide) ?_
      refine g_icmp_ne (off := 10) (tgt := 59) (by decide +kernel) (by decide) (fun c => ?_) (fun c => ?_)
      · replace h := h.1 c
        refine g_iconst (n := 0) (v := 0) (by decide +kernel) (by decide) ?_
        refine g_ior (by decide +kernel) ?_
        refine g_istore (i := 5) (ls2 := [some (vr 30 0), some (vi x1), some (vi x2), none, some (vi (H1 30 0 12)), some (vi (z4 ||| 0)), some (vi z5)]) (by decide +kernel) (by decide) rfl rfl ?_
        refine g_iinc (i := 6) (n := 1) (v := (z5 + 1)) (ls2 := [some (vr 30 0), some (vi x1), some (vi x2), none, some (vi (H1 30 0 12)), some (vi (z4 ||| 0)), some (vi (z5 + 1))]) (by decide +kernel) rfl rfl (by decide) rfl rfl ?_
        refine g_goto (off := (-41)) (tgt := 25) (by decide +kernel) (by decide) ?_
        obtain ⟨hI, hlt⟩ := h
        exact g_drop (ls2 := [some (vr 30 0), some (vi x1), some (vi x2), none, some (vi (H1 30 0 12)), some (vi (z4 ||| 0)), some (vi (z5 + 1))]) (And.intro rfl (And.intro rfl (And.intro rfl (And.intro rfl (And.intro rfl (And.intro rfl trivial)))))) (ih3 ((z4 ||| 0), (z5 + 1)) H9 hI hlt)
      · replace h := h.2 c
        refine g_iconst (n := 1) (v := 1) (by decide +kernel) (by decide) ?_
        refine g_iload (i := 6) (by decide +kernel) rfl ?_
        refine g_ishl (by decide +kernel) ?_
        refine g_goto (off := 4) (tgt := 60) (by decide +kernel) (by decide) ?_
        refine g_ior (by decide +kernel) ?_
        refine g_topi (fun v11 ev11 => ?_)
        replace h := h v11 ev11
        refine g_istore (i := 5) (ls2 := [some (vr 30 0), some (vi x1), some (vi x2), none, some (vi (H1 30 0 12)), some (vi v11), some (vi z5)]) (by decide +kernel) (by decide) rfl rfl ?_
        refine g_iinc (i := 6) (n := 1) (v := (z5 + 1)) (ls2 := [some (vr 30 0), some (vi x1), some (vi x2), none, some (vi (H1 30 0 12)), some (vi v11), some (vi (z5 + 1))]) (by decide +kernel) rfl rfl (by decide) rfl rfl ?_
        refine g_goto (off := (-41)) (tgt := 25) (by decide +kernel) (by decide) ?_
        obtain ⟨hI, hlt⟩ := h
        exact g_drop (ls2 := [some (vr 30 0), some (vi x1), some (vi x2), none, some (vi (H1 30 0 12)), some (vi v11), some (vi (z5 + 1))]) (And.intro rfl (And.intro rfl (And.intro rfl (And.intro rfl (And.intro rfl (And.intro rfl trivial)))))) (ih3 (v11, (z5 + 1)) H9 hI hlt)
  · replace h := h.2 c
    refine g_iload_n (q := 3) (i := 3) (by decide +kernel) rfl rfl ?_
    exact g_iret (by decide +kernel) rfl ⟨_, rfl, h⟩
def p_Model_driveBy (E : XE) (d : Nat) (x1 : Int32) (x2 : Int32) (x3 : Int32) (H : HH) (Q : HH → Prop) : Prop := ∀ v1 : Int64, v1 = ((x1.toInt64) + 1) → (∀ H2 : HH, H2 = (hu H 30 0 38 (-1)) → (c_Model_keeps E d x3 H2 (fun H3 => ∃ (I4 : Int64 → Int32 → HH → Prop) (μ4 : Int64 → Int32 → HH → Nat), I4 v1 0 H3 ∧ ∀ (z5 : Int64) (z6 : Int32) (H7 : HH), I4 z5 z6 H7 → ((x2 ≤ z6 → (c_Model_laysBack E d x3 H7 (fun H8 => Q H8))) ∧ (¬ x2 ≤ z6 → ((¬ (H7 30 0 38) = (-1) → (c_Model_laysBack E d x3 H7 (fun H9 => Q H9))) ∧ ((H7 30 0 38) = (-1) → (∀ v10 : Int64, v10 = ((z5 * 48271) - (z5 * 48271) / 2147483647 * 2147483647) → (∀ v11 : Int64, v11 = (v10 - v10 / 2 * 2) → (∀ v13 : Int32, v13 = (if (lg_cmp v11 0) = 0 then 0 else 1 : Int32) → (∀ v14 : Int64, v14 = ((v10 / 2) - (v10 / 2) / 3 * 3) → (∀ v15 : Int32, v15 = ((v14.toInt32) - 1) → (c_Model_canGo E d x3 v13 v15 H7 (fun r17 H16 => (r17 = 0 → (∀ v18 : Int64, v18 = ((v10 / 6) - (v10 / 6) / 100 * 100) → (vp_in (5 * x3) 20 ∧ (vp_in ((5 * x3) + 1) 20 ∧ (c_Model_asksOf E d 2 x3 (H16 34 0 ((5 * x3).toNatClampNeg)) (H16 34 0 (((5 * x3) + 1).toNatClampNeg)) 0 (if v15 = 0 then 0 else 1 : Int32) H16 (fun r21 H20 => ∀ H23 : HH, H23 = (hu H20 30 0 38 (if (lg_cmp v18 (r21.toInt64)) < 0 then (-1) else z6 : Int32)) → (I4 v10 (z6 + 1) H23 ∧ μ4 v10 (z6 + 1) H23 < μ4 z5 z6 H7))))))) ∧ (¬ r17 = 0 → (c_Model_goes E d x3 v13 v15 H16 (fun H24 => I4 v10 (z6 + 1) H24 ∧ μ4 v10 (z6 + 1) H24 < μ4 z5 z6 H7)))))))))))))))))
set_option maxHeartbeats 4000000 in
theorem l_Model_driveBy {E : XE} {d : Nat} {x1 : Int32} {x2 : Int32} {x3 : Int32} {H : HH} {Q : HH → Prop} (h : p_Model_driveBy E d x1 x2 x3 H Q) : c_Model_driveBy E (d + 1) x1 x2 x3 H Q := by
  show g_Model_driveBy E (d + 1) 0 (xent [vr 30 0, vi x1, vi x2, vi x3]) [] H (qv Q)
  refine g_drop (ls2 := [some (vr 30 0), some (vi x1), some (vi x2), some (vi x3), none, none, none, none, none]) (And.intro rfl (And.intro rfl (And.intro rfl (And.intro rfl trivial)))) ?_
  refine g_iload_n (q := 1) (i := 1) (by decide +kernel) rfl rfl ?_
  refine g_i2l (by decide +kernel) ?_
  refine g_lconst (n := 1) (v := 1) (by decide +kernel) (by decide) ?_
  refine g_ladd (by decide +kernel) ?_
  refine g_topl (fun v1 ev1 => ?_)
  replace h := h v1 ev1
  refine g_lstore (i := 4) (ls2 := [some (vr 30 0), some (vi x1), some (vi x2), some (vi x3), some (vl v1), none, none, none, none]) (by decide +kernel) (by decide) rfl rfl ?_
  refine g_aload_n (q := 0) (i := 0) (by decide +kernel) rfl rfl ?_
  refine g_iconst (n := (-1)) (v := (-1)) (by decide +kernel) (by decide) ?_
  refine g_put (C := "ThreePointsModel") (T := xT_Model) (N := 39) (ci := 10) (k := 38) xy_Model (by decide +kernel) (by decide) rfl rfl xi_Model xy_Model_ok xn_Model (by decide) kw_1064 rfl (by decide +kernel) (fun _ => rfl) ?_
  refine g_aload_n (q := 0) (i := 0) (by decide +kernel) rfl rfl ?_
  refine g_iload_n (q := 3) (i := 3) (by decide +kernel) rfl rfl ?_
  refine g_heap (fun H2 eH2 => ?_)
  replace h := h H2 eH2
  refine g_callV (kd := 30) (ix := 0) (ci := 10) (N := 39) (T := xT_Model) (vs := [vi x3]) (st := []) (by decide +kernel) xm_Model_keeps kw_1329 kw_1331 kw_61 (by decide) rfl rfl rfl rfl (Nat.le_of_ble_eq_true rfl) (Nat.le_of_ble_eq_true rfl) h (fun vH3 H3 hq => ?_)
  replace h := hq
  refine g_iconst (n := 0) (v := 0) (by decide +kernel) (by decide) ?_
  refine g_istore (i := 6) (ls2 := [some (vr 30 0), some (vi x1), some (vi x2), some (vi x3), some (vl v1), none, some (vi 0), none, none]) (by decide +kernel) (by decide) rfl rfl ?_
  refine g_drop (ls2 := [some (vr 30 0), none, some (vi x2), some (vi x3), some (vl v1), none, some (vi 0), none, none]) (And.intro rfl (And.intro rfl (And.intro rfl (And.intro rfl (And.intro rfl trivial))))) ?_
  obtain ⟨I4, μ4, h0, h⟩ := h
  refine xloop (σ := Int64 × Int32) (fun s H => I4 s.1 s.2 H) (fun s H => μ4 s.1 s.2 H) (fun s H => g_Model_driveBy E (d + 1) 19 [some (vr 30 0), none, some (vi x2), some (vi x3), some (vl s.1), none, some (vi s.2), none, none] [] H (qv Q)) (fun s H7 hI ih4 => ?_) (v1, 0) H3 h0
  obtain ⟨z5, z6⟩ := s
  replace h := h z5 z6 H7 hI
  refine g_iload (i := 6) (by decide +kernel) rfl ?_
  refine g_iload_n (q := 2) (i := 2) (by decide +kernel) rfl rfl ?_
  refine g_icmp_ge (off := 146) (tgt := 168) (by decide +kernel) (by decide) (fun c => ?_) (fun c => ?_)
  · replace h := h.1 c
    refine g_aload_n (q := 0) (i := 0) (by decide +kernel) rfl rfl ?_
    refine g_iload_n (q := 3) (i := 3) (by decide +kernel) rfl rfl ?_
    refine g_callV (kd := 30) (ix := 0) (ci := 10) (N := 39) (T := xT_Model) (vs := [vi x3]) (st := []) (by decide +kernel) xm_Model_laysBack kw_1333 kw_1335 kw_62 (by decide) rfl rfl rfl rfl (Nat.le_of_ble_eq_true rfl) (Nat.le_of_ble_eq_true rfl) h (fun vH8 H8 hq => ?_)
    replace h := hq
    exact g_vret (by decide +kernel) rfl h
  · replace h := h.2 c
    refine g_aload_n (q := 0) (i := 0) (by decide +kernel) rfl rfl ?_
    refine g_get (C := "ThreePointsModel") (T := xT_Model) (N := 39) (ci := 10) (k := 38) (v := vi (H7 30 0 38)) (by decide +kernel) (by decide) rfl rfl xi_Model (by decide) kw_1064 rfl ?_
    refine g_iconst (n := (-1)) (v := (-1)) (by decide +kernel) (by decide) ?_
    refine g_icmp_ne (off := 138) (tgt := 168) (by decide +kernel) (by decide) (fun c => ?_) (fun c => ?_)
    · replace h := h.1 c
      refine g_aload_n (q := 0) (i := 0) (by decide +kernel) rfl rfl ?_
      refine g_iload_n (q := 3) (i := 3) (by decide +kernel) rfl rfl ?_
      refine g_callV (kd := 30) (ix := 0) (ci := 10) (N := 39) (T := xT_Model) (vs := [vi x3]) (st := []) (by decide +kernel) xm_Model_laysBack kw_1333 kw_1335 kw_62 (by decide) rfl rfl rfl rfl (Nat.le_of_ble_eq_true rfl) (Nat.le_of_ble_eq_true rfl) h (fun vH9 H9 hq => ?_)
      replace h := hq
      exact g_vret (by decide +kernel) rfl h
    · replace h := h.2 c
      refine g_lload (i := 4) (by decide +kernel) rfl ?_
      refine g_ldc2 (v := 48271) (by decide +kernel) kw_1362 ?_
      refine g_lmul (by decide +kernel) ?_
      refine g_ldc2 (v := 2147483647) (by decide +kernel) kw_1363 ?_
      refine g_lrem (by decide +kernel) (by decide) ?_
      refine g_topl (fun v10 ev10 => ?_)
      replace h := h v10 ev10
      refine g_lstore (i := 4) (ls2 := [some (vr 30 0), none, some (vi x2), some (vi x3), some (vl v10), none, some (vi z6), none, none]) (by decide +kernel) (by decide) rfl rfl ?_
      refine g_lload (i := 4) (by decide +kernel) rfl ?_
      refine g_ldc2 (v := 2) (by decide +kernel) kw_1364 ?_
      refine g_lrem (by decide +kernel) (by decide) ?_
      refine g_topl (fun v11 ev11 => ?_)
      replace h := h v11 ev11
      refine g_lconst (n := 0) (v := 0) (by decide +kernel) (by decide) ?_
      refine g_lcmp (by decide +kernel) ?_
      suffices hj12 : g_Model_driveBy E (d + 1) 61 [some (vr 30 0), none, some (vi x2), some (vi x3), some (vl v10), none, some (vi z6), none, none] [vi (if (lg_cmp v11 0) = 0 then 0 else 1 : Int32)] H7 (qv Q) by
        refine g_if_ne (off := 7) (tgt := 60) (by decide +kernel) (by decide) (fun c => ?_) (fun c => ?_)
        · rw [if_neg c] at hj12
          refine g_iconst (n := 1) (v := 1) (by decide +kernel) (by decide) ?_
          exact hj12
        · rw [if_pos c] at hj12
          refine g_iconst (n := 0) (v := 0) (by decide +kernel) (by decide) ?_
          refine g_goto (off := 4) (tgt := 61) (by decide +kernel) (by decide) ?_
          exact hj12
      refine g_topi (fun v13 ev13 => ?_)
      replace h := h v13 ev13
      refine g_istore (i := 7) (ls2 := [some (vr 30 0), none, some (vi x2), some (vi x3), some (vl v10), none, some (vi z6), some (vi v13), none]) (by decide +kernel) (by decide) rfl rfl ?_
      refine g_lload (i := 4) (by decide +kernel) rfl ?_
      refine g_ldc2 (v := 2) (by decide +kernel) kw_1364 ?_
      refine g_ldiv (by decide +kernel) (by decide) ?_
      refine g_ldc2 (v := 3) (by decide +kernel) kw_1365 ?_
      refine g_lrem (by decide +kernel) (by decide) ?_
      refine g_topl (fun v14 ev14 => ?_)
      replace h := h v14 ev14
      refine g_l2i (by decide +kernel) ?_
      refine g_iconst (n := 1) (v := 1) (by decide +kernel) (by decide) ?_
      refine g_isub (by decide +kernel) ?_
      refine g_topi (fun v15 ev15 => ?_)
      replace h := h v15 ev15
      refine g_istore (i := 8) (ls2 := [some (vr 30 0), none, some (vi x2), some (vi x3), some (vl v10), none, some (vi z6), some (vi v13), some (vi v15)]) (by decide +kernel) (by decide) rfl rfl ?_
      refine g_aload_n (q := 0) (i := 0) (by decide +kernel) rfl rfl ?_
      refine g_iload_n (q := 3) (i := 3) (by decide +kernel) rfl rfl ?_
      refine g_iload (i := 7) (by decide +kernel) rfl ?_
      refine g_iload (i := 8) (by decide +kernel) rfl ?_
      refine g_callV (kd := 30) (ix := 0) (ci := 10) (N := 39) (T := xT_Model) (vs := [vi x3, vi v13, vi v15]) (st := []) (by decide +kernel) xm_Model_canGo kw_1226 kw_1228 kw_45 (by decide) rfl rfl rfl rfl (Nat.le_of_ble_eq_true rfl) (Nat.le_of_ble_eq_true rfl) h (fun vH16 H16 hq => ?_)
      obtain ⟨r17, rfl, h⟩ := hq
      refine g_if_eq (off := 15) (tgt := 102) (by decide +kernel) (by decide) (fun c => ?_) (fun c => ?_)
      · replace h := h.1 c
        refine g_aload_n (q := 0) (i := 0) (by decide +kernel) rfl rfl ?_
        refine g_lload (i := 4) (by decide +kernel) rfl ?_
        refine g_ldc2 (v := 6) (by decide +kernel) kw_1366 ?_
        refine g_ldiv (by decide +kernel) (by decide) ?_
        refine g_ldc2 (v := 100) (by decide +kernel) kw_1367 ?_
        refine g_lrem (by decide +kernel) (by decide) ?_
        refine g_topl (fun v18 ev18 => ?_)
        replace h := h v18 ev18
        refine g_aload_n (q := 0) (i := 0) (by decide +kernel) rfl rfl ?_
        refine g_iconst (n := 2) (v := 2) (by decide +kernel) (by decide) ?_
        refine g_iload_n (q := 3) (i := 3) (by decide +kernel) rfl rfl ?_
        refine g_aload_n (q := 0) (i := 0) (by decide +kernel) rfl rfl ?_
        refine g_get (C := "ThreePointsModel") (T := xT_Model) (N := 39) (ci := 10) (k := 6) (v := vr 34 0) (by decide +kernel) (by decide) rfl rfl xi_Model (by decide) kw_1032 rfl ?_
        refine g_iconst (n := 5) (v := 5) (by decide +kernel) (by decide) ?_
        refine g_iload_n (q := 3) (i := 3) (by decide +kernel) rfl rfl ?_
        refine g_imul (by decide +kernel) ?_
        obtain ⟨hin, h⟩ := h
        refine g_iald (by decide +kernel) (by decide) rfl hin ?_
        refine g_aload_n (q := 0) (i := 0) (by decide +kernel) rfl rfl ?_
        refine g_get (C := "ThreePointsModel") (T := xT_Model) (N := 39) (ci := 10) (k := 6) (v := vr 34 0) (by decide +kernel) (by decide) rfl rfl xi_Model (by decide) kw_1032 rfl ?_
        refine g_iconst (n := 5) (v := 5) (by decide +kernel) (by decide) ?_
        refine g_iload_n (q := 3) (i := 3) (by decide +kernel) rfl rfl ?_
        refine g_imul (by decide +kernel) ?_
        refine g_iconst (n := 1) (v := 1) (by decide +kernel) (by decide) ?_
        refine g_iadd (by decide +kernel) ?_
        obtain ⟨hin, h⟩ := h
        refine g_iald (by decide +kernel) (by decide) rfl hin ?_
        refine g_iconst (n := 0) (v := 0) (by decide +kernel) (by decide) ?_
        refine g_iload (i := 8) (by decide +kernel) rfl ?_
        suffices hj19 : g_Model_driveBy E (d + 1) 145 [some (vr 30 0), none, some (vi x2), some (vi x3), some (vl v10), none, some (vi z6), some (vi v13), some (vi v15)] [vi (if v15 = 0 then 0 else 1 : Int32), vi 0, vi (H16 34 0 (((5 * x3) + 1).toNatClampNeg)), vi (H16 34 0 ((5 * x3).toNatClampNeg)), vi x3, vi 2, vr 30 0, vl v18, vr 30 0] H16 (qv Q) by
          refine g_if_ne (off := 7) (tgt := 144) (by decide +kernel) (by decide) (fun c => ?_) (fun c => ?_)
          · rw [if_neg c] at hj19
            refine g_iconst (n := 1) (v := 1) (by decide +kernel) (by decide) ?_
            exact hj19
          · rw [if_pos c] at hj19
            refine g_iconst (n := 0) (v := 0) (by decide +kernel) (by decide) ?_
            refine g_goto (off := 4) (tgt := 145) (by decide +kernel) (by decide) ?_
            exact hj19
        refine g_callV (kd := 30) (ix := 0) (ci := 10) (N := 39) (T := xT_Model) (vs := [vi 2, vi x3, vi (H16 34 0 ((5 * x3).toNatClampNeg)), vi (H16 34 0 (((5 * x3) + 1).toNatClampNeg)), vi 0, vi (if v15 = 0 then 0 else 1 : Int32)]) (st := [vl v18, vr 30 0]) (by decide +kernel) xm_Model_asksOf kw_1172 kw_1174 kw_41 (by decide) rfl rfl rfl rfl (Nat.le_of_ble_eq_true rfl) (Nat.le_of_ble_eq_true rfl) h (fun vH20 H20 hq => ?_)
        obtain ⟨r21, rfl, h⟩ := hq
        refine g_i2l (by decide +kernel) ?_
        refine g_lcmp (by decide +kernel) ?_
        suffices hj22 : g_Model_driveBy E (d + 1) 159 [some (vr 30 0), none, some (vi x2), some (vi x3), some (vl v10), none, some (vi z6), some (vi v13), some (vi v15)] [vi (if (lg_cmp v18 (r21.toInt64)) < 0 then (-1) else z6 : Int32), vr 30 0] H20 (qv Q) by
          refine g_if_lt (off := 8) (tgt := 158) (by decide +kernel) (by decide) (fun c => ?_) (fun c => ?_)
          · rw [if_pos c] at hj22
            refine g_iconst (n := (-1)) (v := (-1)) (by decide +kernel) (by decide) ?_
            exact hj22
          · rw [if_neg c] at hj22
            refine g_iload (i := 6) (by decide +kernel) rfl ?_
            refine g_goto (off := 4) (tgt := 159) (by decide +kernel) (by decide) ?_
            exact hj22
        refine g_put (C := "ThreePointsModel") (T := xT_Model) (N := 39) (ci := 10) (k := 38) xy_Model (by decide +kernel) (by decide) rfl rfl xi_Model xy_Model_ok xn_Model (by decide) kw_1064 rfl (by decide +kernel) (fun _ => rfl) ?_
        refine g_iinc (i := 6) (n := 1) (v := (z6 + 1)) (ls2 := [some (vr 30 0), none, some (vi x2), some (vi x3), some (vl v10), none, some (vi (z6 + 1)), some (vi v13), some (vi v15)]) (by decide +kernel) rfl rfl (by decide) rfl rfl ?_
        refine g_goto (off := (-146)) (tgt := 19) (by decide +kernel) (by decide) ?_
        refine g_heap (fun H23 eH23 => ?_)
        replace h := h H23 eH23
        obtain ⟨hI, hlt⟩ := h
        exact g_drop (ls2 := [some (vr 30 0), none, some (vi x2), some (vi x3), some (vl v10), none, some (vi (z6 + 1)), none, none]) (And.intro rfl (And.intro rfl (And.intro rfl (And.intro rfl (And.intro rfl trivial))))) (ih4 (v10, (z6 + 1)) H23 hI hlt)
      · replace h := h.2 c
        refine g_aload_n (q := 0) (i := 0) (by decide +kernel) rfl rfl ?_
        refine g_iload_n (q := 3) (i := 3) (by decide +kernel) rfl rfl ?_
        refine g_iload (i := 7) (by decide +kernel) rfl ?_
        refine g_iload (i := 8) (by decide +kernel) rfl ?_
        refine g_callV (kd := 30) (ix := 0) (ci := 10) (N := 39) (T := xT_Model) (vs := [vi x3, vi v13, vi v15]) (st := []) (by decide +kernel) xm_Model_goes kw_1242 kw_1244 kw_49 (by decide) rfl rfl rfl rfl (Nat.le_of_ble_eq_true rfl) (Nat.le_of_ble_eq_true rfl) h (fun vH24 H24 hq => ?_)
        replace h := hq
        refine g_goto (off := 63) (tgt := 162) (by decide +kernel) (by decide) ?_
        refine g_iinc (i := 6) (n := 1) (v := (z6 + 1)) (ls2 := [some (vr 30 0), none, some (vi x2), some (vi x3), some (vl v10), none, some (vi (z6 + 1)), some (vi v13), some (vi v15)]) (by decide +kernel) rfl rfl (by decide) rfl rfl ?_
        refine g_goto (off := (-146)) (tgt := 19) (by decide +kernel) (by decide) ?_
        obtain ⟨hI, hlt⟩ := h
        exact g_drop (ls2 := [some (vr 30 0), none, some (vi x2), some (vi x3), some (vl v10), none, some (vi (z6 + 1)), none, none]) (And.intro rfl (And.intro rfl (And.intro rfl (And.intro rfl (And.intro rfl trivial))))) (ih4 (v10, (z6 + 1)) H24 hI hlt)
def p_Model_drawn (E : XE) (d : Nat) (x1 : Int32) (x2 : Int32) (x3 : Int32) (x4 : Int32) (H : HH) (Q : Int32 → HH → Prop) : Prop := c_Model_isVehicle E d x3 H (fun r2 H1 => (¬ r2 = 0 → (c_Model_in E d x1 0 99999 H1 (fun r4 H3 => (r4 = 0 → (Q (-7) H3)) ∧ (¬ r4 = 0 → (c_Model_in E d x2 0 60 H3 (fun r6 H5 => (r6 = 0 → (Q (-7) H5)) ∧ (¬ r6 = 0 → (c_Model_in E d x4 0 2 H5 (fun r8 H7 => (¬ r8 = 0 → (c_Model_driveBy E d x1 x2 x3 H7 (fun H9 => (¬ x4 = 0 → (vp_in (x4 - 1) 5 ∧ (Q (H9 54 0 ((x4 - 1).toNatClampNeg)) H9))) ∧ (x4 = 0 → (Q (H9 30 0 38) H9))))) ∧ (r8 = 0 → (Q (-7) H7))))))))))) ∧ (r2 = 0 → (Q (-5) H1)))
set_option maxHeartbeats 4000000 in
theorem l_Model_drawn {E : XE} {d : Nat} {x1 : Int32} {x2 : Int32} {x3 : Int32} {x4 : Int32} {H : HH} {Q : Int32 → HH → Prop} (h : p_Model_drawn E d x1 x2 x3 x4 H Q) : c_Model_drawn E (d + 1) x1 x2 x3 x4 H Q := by
  show g_Model_drawn E (d + 1) 0 (xent [vr 30 0, vi x1, vi x2, vi x3, vi x4]) [] H (qi Q)
  refine g_drop (ls2 := [some (vr 30 0), some (vi x1), some (vi x2), some (vi x3), some (vi x4)]) (And.intro rfl (And.intro rfl (And.intro rfl (And.intro rfl (And.intro rfl trivial))))) ?_
  refine g_aload_n (q := 0) (i := 0) (by decide +kernel) rfl rfl ?_
  refine g_iload_n (q := 3) (i := 3) (by decide +kernel) rfl rfl ?_
  refine g_callV (kd := 30) (ix := 0) (ci := 10) (N := 39) (T := xT_Model) (vs := [vi x3]) (st := []) (by decide +kernel) xm_Model_isVehicle kw_1202 kw_1204 kw_43 (by decide) rfl rfl rfl rfl (Nat.le_of_ble_eq_true rfl) (Nat.le_of_ble_eq_true rfl) h (fun vH1 H1 hq => ?_)
  obtain ⟨r2, rfl, h⟩ := hq
  refine g_if_ne (off := 6) (tgt := 11) (by decide +kernel) (by decide) (fun c => ?_) (fun c => ?_)
  · replace h := h.1 c
    refine g_iload_n (q := 1) (i := 1) (by decide +kernel) rfl rfl ?_
    refine g_iconst (n := 0) (v := 0) (by decide +kernel) (by decide) ?_
    refine g_ldcw (v := 99999) (by decide +kernel) kw_1357 ?_
    refine g_callS (vs := [vi x1, vi 0, vi 99999]) (st := []) (by decide +kernel) xm_Model_in kw_987 kw_988 rfl rfl (Nat.le_of_ble_eq_true rfl) (Nat.le_of_ble_eq_true rfl) h (fun vH3 H3 hq => ?_)
    obtain ⟨r4, rfl, h⟩ := hq
    refine g_if_eq (off := 23) (tgt := 42) (by decide +kernel) (by decide) (fun c => ?_) (fun c => ?_)
    · replace h := h.1 c
      refine g_bipush (n := (-7)) (v := (-7)) (by decide +kernel) (by decide) ?_
      exact g_iret (by decide +kernel) rfl ⟨_, rfl, h⟩
    · replace h := h.2 c
      refine g_iload_n (q := 2) (i := 2) (by decide +kernel) rfl rfl ?_
      refine g_iconst (n := 0) (v := 0) (by decide +kernel) (by decide) ?_
      refine g_bipush (n := 60) (v := 60) (by decide +kernel) (by decide) ?_
      refine g_callS (vs := [vi x2, vi 0, vi 60]) (st := []) (by decide +kernel) xm_Model_in kw_987 kw_988 rfl rfl (Nat.le_of_ble_eq_true rfl) (Nat.le_of_ble_eq_true rfl) h (fun vH5 H5 hq => ?_)
      obtain ⟨r6, rfl, h⟩ := hq
      refine g_if_eq (off := 13) (tgt := 42) (by decide +kernel) (by decide) (fun c => ?_) (fun c => ?_)
      · replace h := h.1 c
        refine g_bipush (n := (-7)) (v := (-7)) (by decide +kernel) (by decide) ?_
        exact g_iret (by decide +kernel) rfl ⟨_, rfl, h⟩
      · replace h := h.2 c
        refine g_iload (i := 4) (by decide +kernel) rfl ?_
        refine g_iconst (n := 0) (v := 0) (by decide +kernel) (by decide) ?_
        refine g_iconst (n := 2) (v := 2) (by decide +kernel) (by decide) ?_
        refine g_callS (vs := [vi x4, vi 0, vi 2]) (st := []) (by decide +kernel) xm_Model_in kw_987 kw_988 rfl rfl (Nat.le_of_ble_eq_true rfl) (Nat.le_of_ble_eq_true rfl) h (fun vH7 H7 hq => ?_)
        obtain ⟨r8, rfl, h⟩ := hq
        refine g_if_ne (off := 6) (tgt := 45) (by decide +kernel) (by decide) (fun c => ?_) (fun c => ?_)
        · replace h := h.1 c
          refine g_aload_n (q := 0) (i := 0) (by decide +kernel) rfl rfl ?_
          refine g_iload_n (q := 1) (i := 1) (by decide +kernel) rfl rfl ?_
          refine g_iload_n (q := 2) (i := 2) (by decide +kernel) rfl rfl ?_
          refine g_iload_n (q := 3) (i := 3) (by decide +kernel) rfl rfl ?_
          refine g_callV (kd := 30) (ix := 0) (ci := 10) (N := 39) (T := xT_Model) (vs := [vi x1, vi x2, vi x3]) (st := []) (by decide +kernel) xm_Model_driveBy kw_1358 kw_1360 kw_63 (by decide) rfl rfl rfl rfl (Nat.le_of_ble_eq_true rfl) (Nat.le_of_ble_eq_true rfl) h (fun vH9 H9 hq => ?_)
          replace h := hq
          refine g_iload (i := 4) (by decide +kernel) rfl ?_
          refine g_if_ne (off := 10) (tgt := 64) (by decide +kernel) (by decide) (fun c => ?_) (fun c => ?_)
          · replace h := h.1 c
            refine g_aload_n (q := 0) (i := 0) (by decide +kernel) rfl rfl ?_
            refine g_get (C := "ThreePointsModel") (T := xT_Model) (N := 39) (ci := 10) (k := 37) (v := vr 54 0) (by decide +kernel) (by decide) rfl rfl xi_Model (by decide) kw_1063 rfl ?_
            refine g_iload (i := 4) (by decide +kernel) rfl ?_
            refine g_iconst (n := 1) (v := 1) (by decide +kernel) (by decide) ?_
            refine g_isub (by decide +kernel) ?_
            obtain ⟨hin, h⟩ := h
            refine g_iald (by decide +kernel) (by decide) rfl hin ?_
            exact g_iret (by decide +kernel) rfl ⟨_, rfl, h⟩
          · replace h := h.2 c
            refine g_aload_n (q := 0) (i := 0) (by decide +kernel) rfl rfl ?_
            refine g_get (C := "ThreePointsModel") (T := xT_Model) (N := 39) (ci := 10) (k := 38) (v := vi (H9 30 0 38)) (by decide +kernel) (by decide) rfl rfl xi_Model (by decide) kw_1064 rfl ?_
            refine g_goto (off := 12) (tgt := 73) (by decide +kernel) (by decide) ?_
            exact g_iret (by decide +kernel) rfl ⟨_, rfl, h⟩
        · replace h := h.2 c
          refine g_bipush (n := (-7)) (v := (-7)) (by decide +kernel) (by decide) ?_
          exact g_iret (by decide +kernel) rfl ⟨_, rfl, h⟩
  · replace h := h.2 c
    refine g_bipush (n := (-5)) (v := (-5)) (by decide +kernel) (by decide) ?_
    exact g_iret (by decide +kernel) rfl ⟨_, rfl, h⟩
def p_Model_lowest (E : XE) (d : Nat) (x0 : Int64) (x2 : Int64) (x4 : Int32) (H : HH) (Q : Int64 → HH → Prop) : Prop := (¬ (lg_cmp x0 0) = 0 → (∃ (I1 : Int64 → Int64 → HH → Prop) (μ1 : Int64 → Int64 → HH → Nat), I1 x0 x2 H ∧ ∀ (z2 : Int64) (z3 : Int64) (H4 : HH), I1 z2 z3 H4 → (((lg_cmp z3 0) = 0 → ((¬ x4 = 0 → (¬ z2 = 0 ∧ (Q (x2 / z2) H4))) ∧ (x4 = 0 → (¬ z2 = 0 ∧ (Q (x0 / z2) H4))))) ∧ (¬ (lg_cmp z3 0) = 0 → (¬ z3 = 0 ∧ (∀ v5 : Int64, v5 = (z2 - z2 / z3 * z3) → (I1 z3 v5 H4 ∧ μ1 z3 v5 H4 < μ1 z2 z3 H4))))))) ∧ ((lg_cmp x0 0) = 0 → (Q (x4.toInt64) H))
set_option maxHeartbeats 4000000 in
theorem l_Model_lowest {E : XE} {d : Nat} {x0 : Int64} {x2 : Int64} {x4 : Int32} {H : HH} {Q : Int64 → HH → Prop} (h : p_Model_lowest E d x0 x2 x4 H Q) : c_Model_lowest E d x0 x2 x4 H Q := by
  show g_Model_lowest E d 0 (xent [vl x0, vl x2, vi x4]) [] H (ql Q)
  refine g_drop (ls2 := [some (vl x0), none, some (vl x2), none, some (vi x4), none, none, none, none, none, none]) (And.intro rfl (And.intro rfl (And.intro rfl trivial))) ?_
  refine g_lload_n (q := 0) (i := 0) (by decide +kernel) rfl rfl ?_
  refine g_lconst (n := 0) (v := 0) (by decide +kernel) (by decide) ?_
  refine g_lcmp (by decide +kernel) ?_
  refine g_if_ne (off := 7) (tgt := 10) (by decide +kernel) (by decide) (fun c => ?_) (fun c => ?_)
  · replace h := h.1 c
    refine g_lload_n (q := 0) (i := 0) (by decide +kernel) rfl rfl ?_
    refine g_lstore (i := 5) (ls2 := [some (vl x0), none, some (vl x2), none, some (vi x4), some (vl x0), none, none, none, none, none]) (by decide +kernel) (by decide) rfl rfl ?_
    refine g_lload_n (q := 2) (i := 2) (by decide +kernel) rfl rfl ?_
    refine g_lstore (i := 7) (ls2 := [some (vl x0), none, some (vl x2), none, some (vi x4), some (vl x0), none, some (vl x2), none, none, none]) (by decide +kernel) (by decide) rfl rfl ?_
    refine g_drop (ls2 := [some (vl x0), none, some (vl x2), none, some (vi x4), some (vl x0), none, some (vl x2), none, none, none]) (And.intro rfl (And.intro rfl (And.intro rfl (And.intro rfl (And.intro rfl trivial))))) ?_
    obtain ⟨I1, μ1, h0, h⟩ := h
    refine xloop (σ := Int64 × Int64) (fun s H => I1 s.1 s.2 H) (fun s H => μ1 s.1 s.2 H) (fun s H => g_Model_lowest E d 16 [some (vl x0), none, some (vl x2), none, some (vi x4), some (vl s.1), none, some (vl s.2), none, none, none] [] H (ql Q)) (fun s H4 hI ih1 => ?_) (x0, x2) H h0
    obtain ⟨z2, z3⟩ := s
    replace h := h z2 z3 H4 hI
    refine g_lload (i := 7) (by decide +kernel) rfl ?_
    refine g_lconst (n := 0) (v := 0) (by decide +kernel) (by decide) ?_
    refine g_lcmp (by decide +kernel) ?_
    refine g_if_eq (off := 21) (tgt := 41) (by decide +kernel) (by decide) (fun c => ?_) (fun c => ?_)
    · replace h := h.1 c
      refine g_iload (i := 4) (by decide +kernel) rfl ?_
      refine g_if_ne (off := 7) (tgt := 50) (by decide +kernel) (by decide) (fun c => ?_) (fun c => ?_)
      · replace h := h.1 c
        refine g_lload_n (q := 2) (i := 2) (by decide +kernel) rfl rfl ?_
        refine g_lload (i := 5) (by decide +kernel) rfl ?_
        obtain ⟨hnz, h⟩ := h
        refine g_ldiv (by decide +kernel) hnz ?_
        exact g_lret (by decide +kernel) rfl ⟨_, rfl, h⟩
      · replace h := h.2 c
        refine g_lload_n (q := 0) (i := 0) (by decide +kernel) rfl rfl ?_
        refine g_goto (off := 4) (tgt := 51) (by decide +kernel) (by decide) ?_
        refine g_lload (i := 5) (by decide +kernel) rfl ?_
        obtain ⟨hnz, h⟩ := h
        refine g_ldiv (by decide +kernel) hnz ?_
        exact g_lret (by decide +kernel) rfl ⟨_, rfl, h⟩
    · replace h := h.2 c
      refine g_lload (i := 5) (by decide +kernel) rfl ?_
      refine g_lload (i := 7) (by decide +kernel) rfl ?_
      obtain ⟨hnz, h⟩ := h
      refine g_lrem (by decide +kernel) hnz ?_
      refine g_topl (fun v5 ev5 => ?_)
      replace h := h v5 ev5
      refine g_lstore (i := 9) (ls2 := [some (vl x0), none, some (vl x2), none, some (vi x4), some (vl z2), none, some (vl z3), none, some (vl v5), none]) (by decide +kernel) (by decide) rfl rfl ?_
      refine g_lload (i := 7) (by decide +kernel) rfl ?_
      refine g_lstore (i := 5) (ls2 := [some (vl x0), none, some (vl x2), none, some (vi x4), some (vl z3), none, some (vl z3), none, some (vl v5), none]) (by decide +kernel) (by decide) rfl rfl ?_
      refine g_lload (i := 9) (by decide +kernel) rfl ?_
      refine g_lstore (i := 7) (ls2 := [some (vl x0), none, some (vl x2), none, some (vi x4), some (vl z3), none, some (vl v5), none, some (vl v5), none]) (by decide +kernel) (by decide) rfl rfl ?_
      refine g_goto (off := (-22)) (tgt := 16) (by decide +kernel) (by decide) ?_
      obtain ⟨hI, hlt⟩ := h
      exact g_drop (ls2 := [some (vl x0), none, some (vl x2), none, some (vi x4), some (vl z3), none, some (vl v5), none, none, none]) (And.intro rfl (And.intro rfl (And.intro rfl (And.intro rfl (And.intro rfl trivial))))) (ih1 (z3, v5) H4 hI hlt)
  · replace h := h.2 c
    refine g_iload (i := 4) (by decide +kernel) rfl ?_
    refine g_i2l (by decide +kernel) ?_
    exact g_lret (by decide +kernel) rfl ⟨_, rfl, h⟩
def p_Model_odds (E : XE) (d : Nat) (x1 : Int32) (x2 : Int32) (x3 : Int32) (x4 : Int32) (H : HH) (Q : Int64 → HH → Prop) : Prop := c_Model_in E d x1 0 99999 H (fun r2 H1 => ∃ J3 : Int32 → HH → Prop, ((r2 = 0 → (J3 0 H1)) ∧ (¬ r2 = 0 → (c_Model_in E d x2 0 6040 H1 (fun r14 H13 => (r14 = 0 → (J3 0 H13)) ∧ (¬ r14 = 0 → (c_Model_in E d (xrem x2 100) 1 40 H13 (fun r16 H15 => (r16 = 0 → (J3 0 H15)) ∧ (¬ r16 = 0 → (c_Model_isVehicle E d x3 H15 (fun r18 H17 => (r18 = 0 → (J3 0 H17)) ∧ (¬ r18 = 0 → (c_Model_in E d x4 0 1 H17 (fun r20 H19 => J3 (if r20 = 0 then 0 else 1 : Int32) H19))))))))))))) ∧ ∀ (y4 : Int32) (H5 : HH), J3 y4 H5 → ((¬ y4 = 0 → (∃ (I6 : Int64 → Int32 → HH → Prop) (μ6 : Int64 → Int32 → HH → Nat), I6 0 0 H5 ∧ ∀ (z7 : Int64) (z8 : Int32) (H9 : HH), I6 z7 z8 H9 → (((xrem x2 100) ≤ z8 → (c_Model_lowest E d z7 ((xrem x2 100).toInt64) x4 H9 (fun r11 H10 => Q r11 H10))) ∧ (¬ (xrem x2 100) ≤ z8 → (c_Model_driveBy E d (x1 + z8) (x2 / 100) x3 H9 (fun H12 => (¬ (H12 30 0 38) = (-1) → (I6 (z7 + 0) (z8 + 1) H12 ∧ μ6 (z7 + 0) (z8 + 1) H12 < μ6 z7 z8 H9)) ∧ ((H12 30 0 38) = (-1) → (I6 (z7 + 1) (z8 + 1) H12 ∧ μ6 (z7 + 1) (z8 + 1) H12 < μ6 z7 z8 H9)))))))) ∧ (y4 = 0 → (Q (-4611686018427387904) H5))))
set_option maxHeartbeats 4000000 in
theorem l_Model_odds {E : XE} {d : Nat} {x1 : Int32} {x2 : Int32} {x3 : Int32} {x4 : Int32} {H : HH} {Q : Int64 → HH → Prop} (h : p_Model_odds E d x1 x2 x3 x4 H Q) : c_Model_odds E (d + 1) x1 x2 x3 x4 H Q := by
  show g_Model_odds E (d + 1) 0 (xent [vr 30 0, vi x1, vi x2, vi x3, vi x4]) [] H (ql Q)
  refine g_drop (ls2 := [some (vr 30 0), some (vi x1), some (vi x2), some (vi x3), some (vi x4), none, none, none, none]) (And.intro rfl (And.intro rfl (And.intro rfl (And.intro rfl (And.intro rfl trivial))))) ?_
  refine g_iload_n (q := 1) (i := 1) (by decide +kernel) rfl rfl ?_
  refine g_iconst (n := 0) (v := 0) (by decide +kernel) (by decide) ?_
  refine g_ldcw (v := 99999) (by decide +kernel) kw_1357 ?_
  refine g_callS (vs := [vi x1, vi 0, vi 99999]) (st := []) (by decide +kernel) xm_Model_in kw_987 kw_988 rfl rfl (Nat.le_of_ble_eq_true rfl) (Nat.le_of_ble_eq_true rfl) h (fun vH1 H1 hq => ?_)
  obtain ⟨r2, rfl, h⟩ := hq
  obtain ⟨J3, h, hk3⟩ := h
  have hc3 : ∀ (y4 : Int32) (H5 : HH), J3 y4 H5 → g_Model_odds E (d + 1) 58 [some (vr 30 0), some (vi x1), some (vi x2), some (vi x3), some (vi x4), none, none, none, none] [vi y4] H5 (ql Q) := by
    intro y4 H5 h
    replace h := hk3 y4 H5 h
    refine g_istore (i := 5) (ls2 := [some (vr 30 0), some (vi x1), some (vi x2), some (vi x3), some (vi x4), some (vi y4), none, none, none]) (by decide +kernel) (by decide) rfl rfl ?_
    refine g_iload (i := 5) (by decide +kernel) rfl ?_
    refine g_if_ne (off := 7) (tgt := 69) (by decide +kernel) (by decide) (fun c => ?_) (fun c => ?_)
    · replace h := h.1 c
      refine g_lconst (n := 0) (v := 0) (by decide +kernel) (by decide) ?_
      refine g_lstore (i := 6) (ls2 := [some (vr 30 0), some (vi x1), some (vi x2), some (vi x3), some (vi x4), some (vi y4), some (vl 0), none, none]) (by decide +kernel) (by decide) rfl rfl ?_
      refine g_iconst (n := 0) (v := 0) (by decide +kernel) (by decide) ?_
      refine g_istore (i := 8) (ls2 := [some (vr 30 0), some (vi x1), some (vi x2), some (vi x3), some (vi x4), some (vi y4), some (vl 0), none, some (vi 0)]) (by decide +kernel) (by decide) rfl rfl ?_
      refine g_drop (ls2 := [some (vr 30 0), some (vi x1), some (vi x2), some (vi x3), some (vi x4), none, some (vl 0), none, some (vi 0)]) (And.intro rfl (And.intro rfl (And.intro rfl (And.intro rfl (And.intro rfl (And.intro rfl (And.intro rfl trivial))))))) ?_
      obtain ⟨I6, μ6, h0, h⟩ := h
      refine xloop (σ := Int64 × Int32) (fun s H => I6 s.1 s.2 H) (fun s H => μ6 s.1 s.2 H) (fun s H => g_Model_odds E (d + 1) 75 [some (vr 30 0), some (vi x1), some (vi x2), some (vi x3), some (vi x4), none, some (vl s.1), none, some (vi s.2)] [] H (ql Q)) (fun s H9 hI ih6 => ?_) (0, 0) H5 h0
      obtain ⟨z7, z8⟩ := s
      replace h := h z7 z8 H9 hI
      refine g_iload (i := 8) (by decide +kernel) rfl ?_
      refine g_iload_n (q := 2) (i := 2) (by decide +kernel) rfl rfl ?_
      refine g_bipush (n := 100) (v := 100) (by decide +kernel) (by decide) ?_
      refine g_irem (by decide +kernel) (by decide) ?_
      refine g_icmp_ge (off := 40) (tgt := 121) (by decide +kernel) (by decide) (fun c => ?_) (fun c => ?_)
      · replace h := h.1 c
        refine g_lload (i := 6) (by decide +kernel) rfl ?_
        refine g_iload_n (q := 2) (i := 2) (by decide +kernel) rfl rfl ?_
        refine g_bipush (n := 100) (v := 100) (by decide +kernel) (by decide) ?_
        refine g_irem (by decide +kernel) (by decide) ?_
        refine g_i2l (by decide +kernel) ?_
        refine g_iload (i := 4) (by decide +kernel) rfl ?_
        refine g_callS (vs := [vl z7, vl ((xrem x2 100).toInt64), vi x4]) (st := []) (by decide +kernel) xm_Model_lowest kw_1373 kw_1374 rfl rfl (Nat.le_of_ble_eq_true rfl) (Nat.le_of_ble_eq_true rfl) h (fun vH10 H10 hq => ?_)
        obtain ⟨r11, rfl, h⟩ := hq
        exact g_lret (by decide +kernel) rfl ⟨_, rfl, h⟩
      · replace h := h.2 c
        refine g_aload_n (q := 0) (i := 0) (by decide +kernel) rfl rfl ?_
        refine g_iload_n (q := 1) (i := 1) (by decide +kernel) rfl rfl ?_
        refine g_iload (i := 8) (by decide +kernel) rfl ?_
        refine g_iadd (by decide +kernel) ?_
        refine g_iload_n (q := 2) (i := 2) (by decide +kernel) rfl rfl ?_
        refine g_bipush (n := 100) (v := 100) (by decide +kernel) (by decide) ?_
        refine g_idiv (by decide +kernel) (by decide) ?_
        refine g_iload_n (q := 3) (i := 3) (by decide +kernel) rfl rfl ?_
        refine g_callV (kd := 30) (ix := 0) (ci := 10) (N := 39) (T := xT_Model) (vs := [vi (x1 + z8), vi (x2 / 100), vi x3]) (st := []) (by decide +kernel) xm_Model_driveBy kw_1358 kw_1360 kw_63 (by decide) rfl rfl rfl rfl (Nat.le_of_ble_eq_true rfl) (Nat.le_of_ble_eq_true rfl) h (fun vH12 H12 hq => ?_)
        replace h := hq
        refine g_lload (i := 6) (by decide +kernel) rfl ?_
        refine g_aload_n (q := 0) (i := 0) (by decide +kernel) rfl rfl ?_
        refine g_get (C := "ThreePointsModel") (T := xT_Model) (N := 39) (ci := 10) (k := 38) (v := vi (H12 30 0 38)) (by decide +kernel) (by decide) rfl rfl xi_Model (by decide) kw_1064 rfl ?_
        refine g_iconst (n := (-1)) (v := (-1)) (by decide +kernel) (by decide) ?_
        refine g_icmp_ne (off := 7) (tgt := 111) (by decide +kernel) (by decide) (fun c => ?_) (fun c => ?_)
        · replace h := h.1 c
          refine g_lconst (n := 0) (v := 0) (by decide +kernel) (by decide) ?_
          refine g_ladd (by decide +kernel) ?_
          refine g_lstore (i := 6) (ls2 := [some (vr 30 0), some (vi x1), some (vi x2), some (vi x3), some (vi x4), none, some (vl (z7 + 0)), none, some (vi z8)]) (by decide +kernel) (by decide) rfl rfl ?_
          refine g_iinc (i := 8) (n := 1) (v := (z8 + 1)) (ls2 := [some (vr 30 0), some (vi x1), some (vi x2), some (vi x3), some (vi x4), none, some (vl (z7 + 0)), none, some (vi (z8 + 1))]) (by decide +kernel) rfl rfl (by decide) rfl rfl ?_
          refine g_goto (off := (-43)) (tgt := 75) (by decide +kernel) (by decide) ?_
          obtain ⟨hI, hlt⟩ := h
          exact g_drop (ls2 := [some (vr 30 0), some (vi x1), some (vi x2), some (vi x3), some (vi x4), none, some (vl (z7 + 0)), none, some (vi (z8 + 1))]) (And.intro rfl (And.intro rfl (And.intro rfl (And.intro rfl (And.intro rfl (And.intro rfl (And.intro rfl trivial))))))) (ih6 ((z7 + 0), (z8 + 1)) H12 hI hlt)
        · replace h := h.2 c
          refine g_lconst (n := 1) (v := 1) (by decide +kernel) (by decide) ?_
          refine g_goto (off := 4) (tgt := 112) (by decide +kernel) (by decide) ?_
          refine g_ladd (by decide +kernel) ?_
          refine g_lstore (i := 6) (ls2 := [some (vr 30 0), some (vi x1), some (vi x2), some (vi x3), some (vi x4), none, some (vl (z7 + 1)), none, some (vi z8)]) (by decide +kernel) (by decide) rfl rfl ?_
          refine g_iinc (i := 8) (n := 1) (v := (z8 + 1)) (ls2 := [some (vr 30 0), some (vi x1), some (vi x2), some (vi x3), some (vi x4), none, some (vl (z7 + 1)), none, some (vi (z8 + 1))]) (by decide +kernel) rfl rfl (by decide) rfl rfl ?_
          refine g_goto (off := (-43)) (tgt := 75) (by decide +kernel) (by decide) ?_
          obtain ⟨hI, hlt⟩ := h
          exact g_drop (ls2 := [some (vr 30 0), some (vi x1), some (vi x2), some (vi x3), some (vi x4), none, some (vl (z7 + 1)), none, some (vi (z8 + 1))]) (And.intro rfl (And.intro rfl (And.intro rfl (And.intro rfl (And.intro rfl (And.intro rfl (And.intro rfl trivial))))))) (ih6 ((z7 + 1), (z8 + 1)) H12 hI hlt)
    · replace h := h.2 c
      refine g_ldc2 (v := (-4611686018427387904)) (by decide +kernel) kw_1372 ?_
      exact g_lret (by decide +kernel) rfl ⟨_, rfl, h⟩
  refine g_if_eq (off := 49) (tgt := 57) (by decide +kernel) (by decide) (fun c => ?_) (fun c => ?_)
  · replace h := h.1 c
    refine g_iconst (n := 0) (v := 0) (by decide +kernel) (by decide) ?_
    exact g_drop (ls2 := [some (vr 30 0), some (vi x1), some (vi x2), some (vi x3), some (vi x4), none, none, none, none]) (And.intro rfl (And.intro rfl (And.intro rfl (And.intro rfl (And.intro rfl trivial))))) (hc3 0 H1 h)
  · replace h := h.2 c
    refine g_iload_n (q := 2) (i := 2) (by decide +kernel) rfl rfl ?_
    refine g_iconst (n := 0) (v := 0) (by decide +kernel) (by decide) ?_
    refine g_sipush (n := 6040) (v := 6040) (by decide +kernel) (by decide) ?_
    refine g_callS (vs := [vi x2, vi 0, vi 6040]) (st := []) (by decide +kernel) xm_Model_in kw_987 kw_988 rfl rfl (Nat.le_of_ble_eq_true rfl) (Nat.le_of_ble_eq_true rfl) h (fun vH13 H13 hq => ?_)
    obtain ⟨r14, rfl, h⟩ := hq
    refine g_if_eq (off := 38) (tgt := 57) (by decide +kernel) (by decide) (fun c => ?_) (fun c => ?_)
    · replace h := h.1 c
      refine g_iconst (n := 0) (v := 0) (by decide +kernel) (by decide) ?_
      exact g_drop (ls2 := [some (vr 30 0), some (vi x1), some (vi x2), some (vi x3), some (vi x4), none, none, none, none]) (And.intro rfl (And.intro rfl (And.intro rfl (And.intro rfl (And.intro rfl trivial))))) (hc3 0 H13 h)
    · replace h := h.2 c
      refine g_iload_n (q := 2) (i := 2) (by decide +kernel) rfl rfl ?_
      refine g_bipush (n := 100) (v := 100) (by decide +kernel) (by decide) ?_
      refine g_irem (by decide +kernel) (by decide) ?_
      refine g_iconst (n := 1) (v := 1) (by decide +kernel) (by decide) ?_
      refine g_bipush (n := 40) (v := 40) (by decide +kernel) (by decide) ?_
      refine g_callS (vs := [vi (xrem x2 100), vi 1, vi 40]) (st := []) (by decide +kernel) xm_Model_in kw_987 kw_988 rfl rfl (Nat.le_of_ble_eq_true rfl) (Nat.le_of_ble_eq_true rfl) h (fun vH15 H15 hq => ?_)
      obtain ⟨r16, rfl, h⟩ := hq
      refine g_if_eq (off := 25) (tgt := 57) (by decide +kernel) (by decide) (fun c => ?_) (fun c => ?_)
      · replace h := h.1 c
        refine g_iconst (n := 0) (v := 0) (by decide +kernel) (by decide) ?_
        exact g_drop (ls2 := [some (vr 30 0), some (vi x1), some (vi x2), some (vi x3), some (vi x4), none, none, none, none]) (And.intro rfl (And.intro rfl (And.intro rfl (And.intro rfl (And.intro rfl trivial))))) (hc3 0 H15 h)
      · replace h := h.2 c
        refine g_aload_n (q := 0) (i := 0) (by decide +kernel) rfl rfl ?_
        refine g_iload_n (q := 3) (i := 3) (by decide +kernel) rfl rfl ?_
        refine g_callV (kd := 30) (ix := 0) (ci := 10) (N := 39) (T := xT_Model) (vs := [vi x3]) (st := []) (by decide +kernel) xm_Model_isVehicle kw_1202 kw_1204 kw_43 (by decide) rfl rfl rfl rfl (Nat.le_of_ble_eq_true rfl) (Nat.le_of_ble_eq_true rfl) h (fun vH17 H17 hq => ?_)
        obtain ⟨r18, rfl, h⟩ := hq
        refine g_if_eq (off := 17) (tgt := 57) (by decide +kernel) (by decide) (fun c => ?_) (fun c => ?_)
        · replace h := h.1 c
          refine g_iconst (n := 0) (v := 0) (by decide +kernel) (by decide) ?_
          exact g_drop (ls2 := [some (vr 30 0), some (vi x1), some (vi x2), some (vi x3), some (vi x4), none, none, none, none]) (And.intro rfl (And.intro rfl (And.intro rfl (And.intro rfl (And.intro rfl trivial))))) (hc3 0 H17 h)
        · replace h := h.2 c
          refine g_iload (i := 4) (by decide +kernel) rfl ?_
          refine g_iconst (n := 0) (v := 0) (by decide +kernel) (by decide) ?_
          refine g_iconst (n := 1) (v := 1) (by decide +kernel) (by decide) ?_
          refine g_callS (vs := [vi x4, vi 0, vi 1]) (st := []) (by decide +kernel) xm_Model_in kw_987 kw_988 rfl rfl (Nat.le_of_ble_eq_true rfl) (Nat.le_of_ble_eq_true rfl) h (fun vH19 H19 hq => ?_)
          obtain ⟨r20, rfl, h⟩ := hq
          suffices hj21 : g_Model_odds E (d + 1) 58 [some (vr 30 0), some (vi x1), some (vi x2), some (vi x3), some (vi x4), none, none, none, none] [vi (if r20 = 0 then 0 else 1 : Int32)] H19 (ql Q) by
            refine g_if_eq (off := 7) (tgt := 57) (by decide +kernel) (by decide) (fun c => ?_) (fun c => ?_)
            · rw [if_pos c] at hj21
              refine g_iconst (n := 0) (v := 0) (by decide +kernel) (by decide) ?_
              exact hj21
            · rw [if_neg c] at hj21
              refine g_iconst (n := 1) (v := 1) (by decide +kernel) (by decide) ?_
              refine g_goto (off := 4) (tgt := 58) (by decide +kernel) (by decide) ?_
              exact hj21
          exact g_drop (ls2 := [some (vr 30 0), some (vi x1), some (vi x2), some (vi x3), some (vi x4), none, none, none, none]) (And.intro rfl (And.intro rfl (And.intro rfl (And.intro rfl (And.intro rfl trivial))))) (hc3 (if r20 = 0 then 0 else 1 : Int32) H19 h)
def p_Model_image (E : XE) (d : Nat)  (H : HH) (Q : Int32 → HH → Prop) : Prop := ∀ H1 : HH, H1 = (hu H 30 0 13 1) → (∀ H2 : HH, H2 = (hu H1 38 0 0 (H1 34 0 0)) → (∀ H3 : HH, H3 = (hu H2 38 0 1 (H2 34 0 1)) → (∀ H4 : HH, H4 = (hu H3 38 0 2 (H3 34 0 2)) → (∀ H5 : HH, H5 = (hu H4 38 0 3 (H4 34 0 3)) → (∀ H6 : HH, H6 = (hu H5 38 0 4 (H5 34 0 4)) → (∀ H7 : HH, H7 = (hu H6 38 0 5 (H6 34 0 5)) → (∀ H8 : HH, H8 = (hu H7 38 0 6 (H7 34 0 6)) → (∀ H9 : HH, H9 = (hu H8 38 0 7 (H8 34 0 7)) → (∀ H10 : HH, H10 = (hu H9 38 0 8 (H9 34 0 8)) → (∀ H11 : HH, H11 = (hu H10 38 0 9 (H10 34 0 9)) → (∀ H12 : HH, H12 = (hu H11 38 0 10 (H11 34 0 10)) → (∀ H13 : HH, H13 = (hu H12 38 0 11 (H12 34 0 11)) → (∀ H14 : HH, H14 = (hu H13 38 0 12 (H13 34 0 12)) → (∀ H15 : HH, H15 = (hu H14 38 0 13 (H14 34 0 13)) → (∀ H16 : HH, H16 = (hu H15 38 0 14 (H15 34 0 14)) → (∀ H17 : HH, H17 = (hu H16 38 0 15 (H16 34 0 15)) → (∀ H18 : HH, H18 = (hu H17 38 0 16 (H17 34 0 16)) → (∀ H19 : HH, H19 = (hu H18 38 0 17 (H18 34 0 17)) → (∀ H20 : HH, H20 = (hu H19 38 0 18 (H19 34 0 18)) → (∀ H21 : HH, H21 = (hu H20 38 0 19 (H20 34 0 19)) → (∀ H22 : HH, H22 = (hu H21 39 0 0 (H21 30 0 3)) → (∀ H23 : HH, H23 = (hu H22 39 0 1 (H22 30 0 1)) → (∀ H24 : HH, H24 = (hu H23 39 0 2 (H23 30 0 2)) → (∀ H25 : HH, H25 = (hu H24 39 0 3 (H24 30 0 12)) → (Q (H25 30 0 3) H25)))))))))))))))))))))))))
set_option maxHeartbeats 4000000 in
theorem l_Model_image {E : XE} {d : Nat}  {H : HH} {Q : Int32 → HH → Prop} (h : p_Model_image E d  H Q) : c_Model_image E d  H Q := by
  show g_Model_image E d 0 (xent [vr 30 0]) [] H (qi Q)
  refine g_drop (ls2 := [some (vr 30 0), none]) (And.intro rfl trivial) ?_
  refine g_aload_n (q := 0) (i := 0) (by decide +kernel) rfl rfl ?_
  refine g_iconst (n := 1) (v := 1) (by decide +kernel) (by decide) ?_
  refine g_putZ (C := "ThreePointsModel") (T := xT_Model) (N := 39) (ci := 10) (k := 13) xy_Model (by decide +kernel) (by decide) rfl rfl xi_Model xy_Model_ok xn_Model (by decide) kw_1039 rfl (by decide +kernel) (fun _ => rfl) (by decide) ?_
  refine g_iconst (n := 0) (v := 0) (by decide +kernel) (by decide) ?_
  refine g_istore_n (q := 1) (i := 1) (ls2 := [some (vr 30 0), some (vi 0)]) (by decide +kernel) rfl (by decide) rfl rfl ?_
  refine g_iload_n (q := 1) (i := 1) (by decide +kernel) rfl rfl ?_
  refine g_bipush (n := 20) (v := 20) (by decide +kernel) (by decide) ?_
  refine g_icmp_ge (off := 21) (tgt := 31) (by decide +kernel) (by decide) (fun c => absurd c (by decide)) (fun c => ?_)
  refine g_aload_n (q := 0) (i := 0) (by decide +kernel) rfl rfl ?_
  refine g_get (C := "ThreePointsModel") (T := xT_Model) (N := 39) (ci := 10) (k := 14) (v := vr 38 0) (by decide +kernel) (by decide) rfl rfl xi_Model (by decide) kw_1040 rfl ?_
  refine g_iload_n (q := 1) (i := 1) (by decide +kernel) rfl rfl ?_
  refine g_aload_n (q := 0) (i := 0) (by decide +kernel) rfl rfl ?_
  refine g_get (C := "ThreePointsModel") (T := xT_Model) (N := 39) (ci := 10) (k := 6) (v := vr 34 0) (by decide +kernel) (by decide) rfl rfl xi_Model (by decide) kw_1032 rfl ?_
  refine g_iload_n (q := 1) (i := 1) (by decide +kernel) rfl rfl ?_
  refine g_heap (fun H1 eH1 => ?_)
  replace h := h H1 eH1
  refine g_iald (by decide +kernel) (by decide) rfl (vp_lit (by decide)) ?_
  refine g_topE (y := (H1 34 0 0)) rfl ?_
  refine g_iast (by decide +kernel) (by decide) rfl (vp_lit (by decide)) ?_
  refine g_heapE (H1 := (hu H1 38 0 0 (H1 34 0 0))) rfl ?_
  refine g_iinc (i := 1) (n := 1) (v := 1) (ls2 := [some (vr 30 0), some (vi 1)]) (by decide +kernel) rfl (by decide) (by decide) rfl rfl ?_
  refine g_goto (off := (-21)) (tgt := 7) (by decide +kernel) (by decide) ?_
  refine g_iload_n (q := 1) (i := 1) (by decide +kernel) rfl rfl ?_
  refine g_bipush (n := 20) (v := 20) (by decide +kernel) (by decide) ?_
  refine g_icmp_ge (off := 21) (tgt := 31) (by decide +kernel) (by decide) (fun c => absurd c (by decide)) (fun c => ?_)
  refine g_aload_n (q := 0) (i := 0) (by decide +kernel) rfl rfl ?_
  refine g_get (C := "ThreePointsModel") (T := xT_Model) (N := 39) (ci := 10) (k := 14) (v := vr 38 0) (by decide +kernel) (by decide) rfl rfl xi_Model (by decide) kw_1040 rfl ?_
  refine g_iload_n (q := 1) (i := 1) (by decide +kernel) rfl rfl ?_
  refine g_aload_n (q := 0) (i := 0) (by decide +kernel) rfl rfl ?_
  refine g_get (C := "ThreePointsModel") (T := xT_Model) (N := 39) (ci := 10) (k := 6) (v := vr 34 0) (by decide +kernel) (by decide) rfl rfl xi_Model (by decide) kw_1032 rfl ?_
  refine g_iload_n (q := 1) (i := 1) (by decide +kernel) rfl rfl ?_
  refine g_heap (fun H2 eH2 => ?_)
  replace h := h H2 eH2
  refine g_iald (by decide +kernel) (by decide) rfl (vp_lit (by decide)) ?_
  refine g_topE (y := (H2 34 0 1)) rfl ?_
  refine g_iast (by decide +kernel) (by decide) rfl (vp_lit (by decide)) ?_
  refine g_heapE (H1 := (hu H2 38 0 1 (H2 34 0 1))) rfl ?_
  refine g_iinc (i := 1) (n := 1) (v := 2) (ls2 := [some (vr 30 0), some (vi 2)]) (by decide +kernel) rfl (by decide) (by decide) rfl rfl ?_
  refine g_goto (off := (-21)) (tgt := 7) (by decide +kernel) (by decide) ?_
  refine g_iload_n (q := 1) (i := 1) (by decide +kernel) rfl rfl ?_
  refine g_bipush (n := 20) (v := 20) (by decide +kernel) (by decide) ?_
  refine g_icmp_ge (off := 21) (tgt := 31) (by decide +kernel) (by decide) (fun c => absurd c (by decide)) (fun c => ?_)
  refine g_aload_n (q := 0) (i := 0) (by decide +kernel) rfl rfl ?_
  refine g_get (C := "ThreePointsModel") (T := xT_Model) (N := 39) (ci := 10) (k := 14) (v := vr 38 0) (by decide +kernel) (by decide) rfl rfl xi_Model (by decide) kw_1040 rfl ?_
  refine g_iload_n (q := 1) (i := 1) (by decide +kernel) rfl rfl ?_
  refine g_aload_n (q := 0) (i := 0) (by decide +kernel) rfl rfl ?_
  refine g_get (C := "ThreePointsModel") (T := xT_Model) (N := 39) (ci := 10) (k := 6) (v := vr 34 0) (by decide +kernel) (by decide) rfl rfl xi_Model (by decide) kw_1032 rfl ?_
  refine g_iload_n (q := 1) (i := 1) (by decide +kernel) rfl rfl ?_
  refine g_heap (fun H3 eH3 => ?_)
  replace h := h H3 eH3
  refine g_iald (by decide +kernel) (by decide) rfl (vp_lit (by decide)) ?_
  refine g_topE (y := (H3 34 0 2)) rfl ?_
  refine g_iast (by decide +kernel) (by decide) rfl (vp_lit (by decide)) ?_
  refine g_heapE (H1 := (hu H3 38 0 2 (H3 34 0 2))) rfl ?_
  refine g_iinc (i := 1) (n := 1) (v := 3) (ls2 := [some (vr 30 0), some (vi 3)]) (by decide +kernel) rfl (by decide) (by decide) rfl rfl ?_
  refine g_goto (off := (-21)) (tgt := 7) (by decide +kernel) (by decide) ?_
  refine g_iload_n (q := 1) (i := 1) (by decide +kernel) rfl rfl ?_
  refine g_bipush (n := 20) (v := 20) (by decide +kernel) (by decide) ?_
  refine g_icmp_ge (off := 21) (tgt := 31) (by decide +kernel) (by decide) (fun c => absurd c (by decide)) (fun c => ?_)
  refine g_aload_n (q := 0) (i := 0) (by decide +kernel) rfl rfl ?_
  refine g_get (C := "ThreePointsModel") (T := xT_Model) (N := 39) (ci := 10) (k := 14) (v := vr 38 0) (by decide +kernel) (by decide) rfl rfl xi_Model (by decide) kw_1040 rfl ?_
  refine g_iload_n (q := 1) (i := 1) (by decide +kernel) rfl rfl ?_
  refine g_aload_n (q := 0) (i := 0) (by decide +kernel) rfl rfl ?_
  refine g_get (C := "ThreePointsModel") (T := xT_Model) (N := 39) (ci := 10) (k := 6) (v := vr 34 0) (by decide +kernel) (by decide) rfl rfl xi_Model (by decide) kw_1032 rfl ?_
  refine g_iload_n (q := 1) (i := 1) (by decide +kernel) rfl rfl ?_
  refine g_heap (fun H4 eH4 => ?_)
  replace h := h H4 eH4
  refine g_iald (by decide +kernel) (by decide) rfl (vp_lit (by decide)) ?_
  refine g_topE (y := (H4 34 0 3)) rfl ?_
  refine g_iast (by decide +kernel) (by decide) rfl (vp_lit (by decide)) ?_
  refine g_heapE (H1 := (hu H4 38 0 3 (H4 34 0 3))) rfl ?_
  refine g_iinc (i := 1) (n := 1) (v := 4) (ls2 := [some (vr 30 0), some (vi 4)]) (by decide +kernel) rfl (by decide) (by decide) rfl rfl ?_
  refine g_goto (off := (-21)) (tgt := 7) (by decide +kernel) (by decide) ?_
  refine g_iload_n (q := 1) (i := 1) (by decide +kernel) rfl rfl ?_
  refine g_bipush (n := 20) (v := 20) (by decide +kernel) (by decide) ?_
  refine g_icmp_ge (off := 21) (tgt := 31) (by decide +kernel) (by decide) (fun c => absurd c (by decide)) (fun c => ?_)
  refine g_aload_n (q := 0) (i := 0) (by decide +kernel) rfl rfl ?_
  refine g_get (C := "ThreePointsModel") (T := xT_Model) (N := 39) (ci := 10) (k := 14) (v := vr 38 0) (by decide +kernel) (by decide) rfl rfl xi_Model (by decide) kw_1040 rfl ?_
  refine g_iload_n (q := 1) (i := 1) (by decide +kernel) rfl rfl ?_
  refine g_aload_n (q := 0) (i := 0) (by decide +kernel) rfl rfl ?_
  refine g_get (C := "ThreePointsModel") (T := xT_Model) (N := 39) (ci := 10) (k := 6) (v := vr 34 0) (by decide +kernel) (by decide) rfl rfl xi_Model (by decide) kw_1032 rfl ?_
  refine g_iload_n (q := 1) (i := 1) (by decide +kernel) rfl rfl ?_
  refine g_heap (fun H5 eH5 => ?_)
  replace h := h H5 eH5
  refine g_iald (by decide +kernel) (by decide) rfl (vp_lit (by decide)) ?_
  refine g_topE (y := (H5 34 0 4)) rfl ?_
  refine g_iast (by decide +kernel) (by decide) rfl (vp_lit (by decide)) ?_
  refine g_heapE (H1 := (hu H5 38 0 4 (H5 34 0 4))) rfl ?_
  refine g_iinc (i := 1) (n := 1) (v := 5) (ls2 := [some (vr 30 0), some (vi 5)]) (by decide +kernel) rfl (by decide) (by decide) rfl rfl ?_
  refine g_goto (off := (-21)) (tgt := 7) (by decide +kernel) (by decide) ?_
  refine g_iload_n (q := 1) (i := 1) (by decide +kernel) rfl rfl ?_
  refine g_bipush (n := 20) (v := 20) (by decide +kernel) (by decide) ?_
  refine g_icmp_ge (off := 21) (tgt := 31) (by decide +kernel) (by decide) (fun c => absurd c (by decide)) (fun c => ?_)
  refine g_aload_n (q := 0) (i := 0) (by decide +kernel) rfl rfl ?_
  refine g_get (C := "ThreePointsModel") (T := xT_Model) (N := 39) (ci := 10) (k := 14) (v := vr 38 0) (by decide +kernel) (by decide) rfl rfl xi_Model (by decide) kw_1040 rfl ?_
  refine g_iload_n (q := 1) (i := 1) (by decide +kernel) rfl rfl ?_
  refine g_aload_n (q := 0) (i := 0) (by decide +kernel) rfl rfl ?_
  refine g_get (C := "ThreePointsModel") (T := xT_Model) (N := 39) (ci := 10) (k := 6) (v := vr 34 0) (by decide +kernel) (by decide) rfl rfl xi_Model (by decide) kw_1032 rfl ?_
  refine g_iload_n (q := 1) (i := 1) (by decide +kernel) rfl rfl ?_
  refine g_heap (fun H6 eH6 => ?_)
  replace h := h H6 eH6
  refine g_iald (by decide +kernel) (by decide) rfl (vp_lit (by decide)) ?_
  refine g_topE (y := (H6 34 0 5)) rfl ?_
  refine g_iast (by decide +kernel) (by decide) rfl (vp_lit (by decide)) ?_
  refine g_heapE (H1 := (hu H6 38 0 5 (H6 34 0 5))) rfl ?_
  refine g_iinc (i := 1) (n := 1) (v := 6) (ls2 := [some (vr 30 0), some (vi 6)]) (by decide +kernel) rfl (by decide) (by decide) rfl rfl ?_
  refine g_goto (off := (-21)) (tgt := 7) (by decide +kernel) (by decide) ?_
  refine g_iload_n (q := 1) (i := 1) (by decide +kernel) rfl rfl ?_
  refine g_bipush (n := 20) (v := 20) (by decide +kernel) (by decide) ?_
  refine g_icmp_ge (off := 21) (tgt := 31) (by decide +kernel) (by decide) (fun c => absurd c (by decide)) (fun c => ?_)
  refine g_aload_n (q := 0) (i := 0) (by decide +kernel) rfl rfl ?_
  refine g_get (C := "ThreePointsModel") (T := xT_Model) (N := 39) (ci := 10) (k := 14) (v := vr 38 0) (by decide +kernel) (by decide) rfl rfl xi_Model (by decide) kw_1040 rfl ?_
  refine g_iload_n (q := 1) (i := 1) (by decide +kernel) rfl rfl ?_
  refine g_aload_n (q := 0) (i := 0) (by decide +kernel) rfl rfl ?_
  refine g_get (C := "ThreePointsModel") (T := xT_Model) (N := 39) (ci := 10) (k := 6) (v := vr 34 0) (by decide +kernel) (by decide) rfl rfl xi_Model (by decide) kw_1032 rfl ?_
  refine g_iload_n (q := 1) (i := 1) (by decide +kernel) rfl rfl ?_
  refine g_heap (fun H7 eH7 => ?_)
  replace h := h H7 eH7
  refine g_iald (by decide +kernel) (by decide) rfl (vp_lit (by decide)) ?_
  refine g_topE (y := (H7 34 0 6)) rfl ?_
  refine g_iast (by decide +kernel) (by decide) rfl (vp_lit (by decide)) ?_
  refine g_heapE (H1 := (hu H7 38 0 6 (H7 34 0 6))) rfl ?_
  refine g_iinc (i := 1) (n := 1) (v := 7) (ls2 := [some (vr 30 0), some (vi 7)]) (by decide +kernel) rfl (by decide) (by decide) rfl rfl ?_
  refine g_goto (off := (-21)) (tgt := 7) (by decide +kernel) (by decide) ?_
  refine g_iload_n (q := 1) (i := 1) (by decide +kernel) rfl rfl ?_
  refine g_bipush (n := 20) (v := 20) (by decide +kernel) (by decide) ?_
  refine g_icmp_ge (off := 21) (tgt := 31) (by decide +kernel) (by decide) (fun c => absurd c (by decide)) (fun c => ?_)
  refine g_aload_n (q := 0) (i := 0) (by decide +kernel) rfl rfl ?_
  refine g_get (C := "ThreePointsModel") (T := xT_Model) (N := 39) (ci := 10) (k := 14) (v := vr 38 0) (by decide +kernel) (by decide) rfl rfl xi_Model (by decide) kw_1040 rfl ?_
  refine g_iload_n (q := 1) (i := 1) (by decide +kernel) rfl rfl ?_
  refine g_aload_n (q := 0) (i := 0) (by decide +kernel) rfl rfl ?_
  refine g_get (C := "ThreePointsModel") (T := xT_Model) (N := 39) (ci := 10) (k := 6) (v := vr 34 0) (by decide +kernel) (by decide) rfl rfl xi_Model (by decide) kw_1032 rfl ?_
  refine g_iload_n (q := 1) (i := 1) (by decide +kernel) rfl rfl ?_
  refine g_heap (fun H8 eH8 => ?_)
  replace h := h H8 eH8
  refine g_iald (by decide +kernel) (by decide) rfl (vp_lit (by decide)) ?_
  refine g_topE (y := (H8 34 0 7)) rfl ?_
  refine g_iast (by decide +kernel) (by decide) rfl (vp_lit (by decide)) ?_
  refine g_heapE (H1 := (hu H8 38 0 7 (H8 34 0 7))) rfl ?_
  refine g_iinc (i := 1) (n := 1) (v := 8) (ls2 := [some (vr 30 0), some (vi 8)]) (by decide +kernel) rfl (by decide) (by decide) rfl rfl ?_
  refine g_goto (off := (-21)) (tgt := 7) (by decide +kernel) (by decide) ?_
  refine g_iload_n (q := 1) (i := 1) (by decide +kernel) rfl rfl ?_
  refine g_bipush (n := 20) (v := 20) (by decide +kernel) (by decide) ?_
  refine g_icmp_ge (off := 21) (tgt := 31) (by decide +kernel) (by decide) (fun c => absurd c (by decide)) (fun c => ?_)
  refine g_aload_n (q := 0) (i := 0) (by decide +kernel) rfl rfl ?_
  refine g_get (C := "ThreePointsModel") (T := xT_Model) (N := 39) (ci := 10) (k := 14) (v := vr 38 0) (by decide +kernel) (by decide) rfl rfl xi_Model (by decide) kw_1040 rfl ?_
  refine g_iload_n (q := 1) (i := 1) (by decide +kernel) rfl rfl ?_
  refine g_aload_n (q := 0) (i := 0) (by decide +kernel) rfl rfl ?_
  refine g_get (C := "ThreePointsModel") (T := xT_Model) (N := 39) (ci := 10) (k := 6) (v := vr 34 0) (by decide +kernel) (by decide) rfl rfl xi_Model (by decide) kw_1032 rfl ?_
  refine g_iload_n (q := 1) (i := 1) (by decide +kernel) rfl rfl ?_
  refine g_heap (fun H9 eH9 => ?_)
  replace h := h H9 eH9
  refine g_iald (by decide +kernel) (by decide) rfl (vp_lit (by decide)) ?_
  refine g_topE (y := (H9 34 0 8)) rfl ?_
  refine g_iast (by decide +kernel) (by decide) rfl (vp_lit (by decide)) ?_
  refine g_heapE (H1 := (hu H9 38 0 8 (H9 34 0 8))) rfl ?_
  refine g_iinc (i := 1) (n := 1) (v := 9) (ls2 := [some (vr 30 0), some (vi 9)]) (by decide +kernel) rfl (by decide) (by decide) rfl rfl ?_
  refine g_goto (off := (-21)) (tgt := 7) (by decide +kernel) (by decide) ?_
  refine g_iload_n (q := 1) (i := 1) (by decide +kernel) rfl rfl ?_
  refine g_bipush (n := 20) (v := 20) (by decide +kernel) (by decide) ?_
  refine g_icmp_ge (off := 21) (tgt := 31) (by decide +kernel) (by decide) (fun c => absurd c (by decide)) (fun c => ?_)
  refine g_aload_n (q := 0) (i := 0) (by decide +kernel) rfl rfl ?_
  refine g_get (C := "ThreePointsModel") (T := xT_Model) (N := 39) (ci := 10) (k := 14) (v := vr 38 0) (by decide +kernel) (by decide) rfl rfl xi_Model (by decide) kw_1040 rfl ?_
  refine g_iload_n (q := 1) (i := 1) (by decide +kernel) rfl rfl ?_
  refine g_aload_n (q := 0) (i := 0) (by decide +kernel) rfl rfl ?_
  refine g_get (C := "ThreePointsModel") (T := xT_Model) (N := 39) (ci := 10) (k := 6) (v := vr 34 0) (by decide +kernel) (by decide) rfl rfl xi_Model (by decide) kw_1032 rfl ?_
  refine g_iload_n (q := 1) (i := 1) (by decide +kernel) rfl rfl ?_
  refine g_heap (fun H10 eH10 => ?_)
  replace h := h H10 eH10
  refine g_iald (by decide +kernel) (by decide) rfl (vp_lit (by decide)) ?_
  refine g_topE (y := (H10 34 0 9)) rfl ?_
  refine g_iast (by decide +kernel) (by decide) rfl (vp_lit (by decide)) ?_
  refine g_heapE (H1 := (hu H10 38 0 9 (H10 34 0 9))) rfl ?_
  refine g_iinc (i := 1) (n := 1) (v := 10) (ls2 := [some (vr 30 0), some (vi 10)]) (by decide +kernel) rfl (by decide) (by decide) rfl rfl ?_
  refine g_goto (off := (-21)) (tgt := 7) (by decide +kernel) (by decide) ?_
  refine g_iload_n (q := 1) (i := 1) (by decide +kernel) rfl rfl ?_
  refine g_bipush (n := 20) (v := 20) (by decide +kernel) (by decide) ?_
  refine g_icmp_ge (off := 21) (tgt := 31) (by decide +kernel) (by decide) (fun c => absurd c (by decide)) (fun c => ?_)
  refine g_aload_n (q := 0) (i := 0) (by decide +kernel) rfl rfl ?_
  refine g_get (C := "ThreePointsModel") (T := xT_Model) (N := 39) (ci := 10) (k := 14) (v := vr 38 0) (by decide +kernel) (by decide) rfl rfl xi_Model (by decide) kw_1040 rfl ?_
  refine g_iload_n (q := 1) (i := 1) (by decide +kernel) rfl rfl ?_
  refine g_aload_n (q := 0) (i := 0) (by decide +kernel) rfl rfl ?_
  refine g_get (C := "ThreePointsModel") (T := xT_Model) (N := 39) (ci := 10) (k := 6) (v := vr 34 0) (by decide +kernel) (by decide) rfl rfl xi_Model (by decide) kw_1032 rfl ?_
  refine g_iload_n (q := 1) (i := 1) (by decide +kernel) rfl rfl ?_
  refine g_heap (fun H11 eH11 => ?_)
  replace h := h H11 eH11
  refine g_iald (by decide +kernel) (by decide) rfl (vp_lit (by decide)) ?_
  refine g_topE (y := (H11 34 0 10)) rfl ?_
  refine g_iast (by decide +kernel) (by decide) rfl (vp_lit (by decide)) ?_
  refine g_heapE (H1 := (hu H11 38 0 10 (H11 34 0 10))) rfl ?_
  refine g_iinc (i := 1) (n := 1) (v := 11) (ls2 := [some (vr 30 0), some (vi 11)]) (by decide +kernel) rfl (by decide) (by decide) rfl rfl ?_
  refine g_goto (off := (-21)) (tgt := 7) (by decide +kernel) (by decide) ?_
  refine g_iload_n (q := 1) (i := 1) (by decide +kernel) rfl rfl ?_
  refine g_bipush (n := 20) (v := 20) (by decide +kernel) (by decide) ?_
  refine g_icmp_ge (off := 21) (tgt := 31) (by decide +kernel) (by decide) (fun c => absurd c (by decide)) (fun c => ?_)
  refine g_aload_n (q := 0) (i := 0) (by decide +kernel) rfl rfl ?_
  refine g_get (C := "ThreePointsModel") (T := xT_Model) (N := 39) (ci := 10) (k := 14) (v := vr 38 0) (by decide +kernel) (by decide) rfl rfl xi_Model (by decide) kw_1040 rfl ?_
  refine g_iload_n (q := 1) (i := 1) (by decide +kernel) rfl rfl ?_
  refine g_aload_n (q := 0) (i := 0) (by decide +kernel) rfl rfl ?_
  refine g_get (C := "ThreePointsModel") (T := xT_Model) (N := 39) (ci := 10) (k := 6) (v := vr 34 0) (by decide +kernel) (by decide) rfl rfl xi_Model (by decide) kw_1032 rfl ?_
  refine g_iload_n (q := 1) (i := 1) (by decide +kernel) rfl rfl ?_
  refine g_heap (fun H12 eH12 => ?_)
  replace h := h H12 eH12
  refine g_iald (by decide +kernel) (by decide) rfl (vp_lit (by decide)) ?_
  refine g_topE (y := (H12 34 0 11)) rfl ?_
  refine g_iast (by decide +kernel) (by decide) rfl (vp_lit (by decide)) ?_
  refine g_heapE (H1 := (hu H12 38 0 11 (H12 34 0 11))) rfl ?_
  refine g_iinc (i := 1) (n := 1) (v := 12) (ls2 := [some (vr 30 0), some (vi 12)]) (by decide +kernel) rfl (by decide) (by decide) rfl rfl ?_
  refine g_goto (off := (-21)) (tgt := 7) (by decide +kernel) (by decide) ?_
  refine g_iload_n (q := 1) (i := 1) (by decide +kernel) rfl rfl ?_
  refine g_bipush (n := 20) (v := 20) (by decide +kernel) (by decide) ?_
  refine g_icmp_ge (off := 21) (tgt := 31) (by decide +kernel) (by decide) (fun c => absurd c (by decide)) (fun c => ?_)
  refine g_aload_n (q := 0) (i := 0) (by decide +kernel) rfl rfl ?_
  refine g_get (C := "ThreePointsModel") (T := xT_Model) (N := 39) (ci := 10) (k := 14) (v := vr 38 0) (by decide +kernel) (by decide) rfl rfl xi_Model (by decide) kw_1040 rfl ?_
  refine g_iload_n (q := 1) (i := 1) (by decide +kernel) rfl rfl ?_
  refine g_aload_n (q := 0) (i := 0) (by decide +kernel) rfl rfl ?_
  refine g_get (C := "ThreePointsModel") (T := xT_Model) (N := 39) (ci := 10) (k := 6) (v := vr 34 0) (by decide +kernel) (by decide) rfl rfl xi_Model (by decide) kw_1032 rfl ?_
  refine g_iload_n (q := 1) (i := 1) (by decide +kernel) rfl rfl ?_
  refine g_heap (fun H13 eH13 => ?_)
  replace h := h H13 eH13
  refine g_iald (by decide +kernel) (by decide) rfl (vp_lit (by decide)) ?_
  refine g_topE (y := (H13 34 0 12)) rfl ?_
  refine g_iast (by decide +kernel) (by decide) rfl (vp_lit (by decide)) ?_
  refine g_heapE (H1 := (hu H13 38 0 12 (H13 34 0 12))) rfl ?_
  refine g_iinc (i := 1) (n := 1) (v := 13) (ls2 := [some (vr 30 0), some (vi 13)]) (by decide +kernel) rfl (by decide) (by decide) rfl rfl ?_
  refine g_goto (off := (-21)) (tgt := 7) (by decide +kernel) (by decide) ?_
  refine g_iload_n (q := 1) (i := 1) (by decide +kernel) rfl rfl ?_
  refine g_bipush (n := 20) (v := 20) (by decide +kernel) (by decide) ?_
  refine g_icmp_ge (off := 21) (tgt := 31) (by decide +kernel) (by decide) (fun c => absurd c (by decide)) (fun c => ?_)
  refine g_aload_n (q := 0) (i := 0) (by decide +kernel) rfl rfl ?_
  refine g_get (C := "ThreePointsModel") (T := xT_Model) (N := 39) (ci := 10) (k := 14) (v := vr 38 0) (by decide +kernel) (by decide) rfl rfl xi_Model (by decide) kw_1040 rfl ?_
  refine g_iload_n (q := 1) (i := 1) (by decide +kernel) rfl rfl ?_
  refine g_aload_n (q := 0) (i := 0) (by decide +kernel) rfl rfl ?_
  refine g_get (C := "ThreePointsModel") (T := xT_Model) (N := 39) (ci := 10) (k := 6) (v := vr 34 0) (by decide +kernel) (by decide) rfl rfl xi_Model (by decide) kw_1032 rfl ?_
  refine g_iload_n (q := 1) (i := 1) (by decide +kernel) rfl rfl ?_
  refine g_heap (fun H14 eH14 => ?_)
  replace h := h H14 eH14
  refine g_iald (by decide +kernel) (by decide) rfl (vp_lit (by decide)) ?_
  refine g_topE (y := (H14 34 0 13)) rfl ?_
  refine g_iast (by decide +kernel) (by decide) rfl (vp_lit (by decide)) ?_
  refine g_heapE (H1 := (hu H14 38 0 13 (H14 34 0 13))) rfl ?_
  refine g_iinc (i := 1) (n := 1) (v := 14) (ls2 := [some (vr 30 0), some (vi 14)]) (by decide +kernel) rfl (by decide) (by decide) rfl rfl ?_
  refine g_goto (off := (-21)) (tgt := 7) (by decide +kernel) (by decide) ?_
  refine g_iload_n (q := 1) (i := 1) (by decide +kernel) rfl rfl ?_
  refine g_bipush (n := 20) (v := 20) (by decide +kernel) (by decide) ?_
  refine g_icmp_ge (off := 21) (tgt := 31) (by decide +kernel) (by decide) (fun c => absurd c (by decide)) (fun c => ?_)
  refine g_aload_n (q := 0) (i := 0) (by decide +kernel) rfl rfl ?_
  refine g_get (C := "ThreePointsModel") (T := xT_Model) (N := 39) (ci := 10) (k := 14) (v := vr 38 0) (by decide +kernel) (by decide) rfl rfl xi_Model (by decide) kw_1040 rfl ?_
  refine g_iload_n (q := 1) (i := 1) (by decide +kernel) rfl rfl ?_
  refine g_aload_n (q := 0) (i := 0) (by decide +kernel) rfl rfl ?_
  refine g_get (C := "ThreePointsModel") (T := xT_Model) (N := 39) (ci := 10) (k := 6) (v := vr 34 0) (by decide +kernel) (by decide) rfl rfl xi_Model (by decide) kw_1032 rfl ?_
  refine g_iload_n (q := 1) (i := 1) (by decide +kernel) rfl rfl ?_
  refine g_heap (fun H15 eH15 => ?_)
  replace h := h H15 eH15
  refine g_iald (by decide +kernel) (by decide) rfl (vp_lit (by decide)) ?_
  refine g_topE (y := (H15 34 0 14)) rfl ?_
  refine g_iast (by decide +kernel) (by decide) rfl (vp_lit (by decide)) ?_
  refine g_heapE (H1 := (hu H15 38 0 14 (H15 34 0 14))) rfl ?_
  refine g_iinc (i := 1) (n := 1) (v := 15) (ls2 := [some (vr 30 0), some (vi 15)]) (by decide +kernel) rfl (by decide) (by decide) rfl rfl ?_
  refine g_goto (off := (-21)) (tgt := 7) (by decide +kernel) (by decide) ?_
  refine g_iload_n (q := 1) (i := 1) (by decide +kernel) rfl rfl ?_
  refine g_bipush (n := 20) (v := 20) (by decide +kernel) (by decide) ?_
  refine g_icmp_ge (off := 21) (tgt := 31) (by decide +kernel) (by decide) (fun c => absurd c (by decide)) (fun c => ?_)
  refine g_aload_n (q := 0) (i := 0) (by decide +kernel) rfl rfl ?_
  refine g_get (C := "ThreePointsModel") (T := xT_Model) (N := 39) (ci := 10) (k := 14) (v := vr 38 0) (by decide +kernel) (by decide) rfl rfl xi_Model (by decide) kw_1040 rfl ?_
  refine g_iload_n (q := 1) (i := 1) (by decide +kernel) rfl rfl ?_
  refine g_aload_n (q := 0) (i := 0) (by decide +kernel) rfl rfl ?_
  refine g_get (C := "ThreePointsModel") (T := xT_Model) (N := 39) (ci := 10) (k := 6) (v := vr 34 0) (by decide +kernel) (by decide) rfl rfl xi_Model (by decide) kw_1032 rfl ?_
  refine g_iload_n (q := 1) (i := 1) (by decide +kernel) rfl rfl ?_
  refine g_heap (fun H16 eH16 => ?_)
  replace h := h H16 eH16
  refine g_iald (by decide +kernel) (by decide) rfl (vp_lit (by decide)) ?_
  refine g_topE (y := (H16 34 0 15)) rfl ?_
  refine g_iast (by decide +kernel) (by decide) rfl (vp_lit (by decide)) ?_
  refine g_heapE (H1 := (hu H16 38 0 15 (H16 34 0 15))) rfl ?_
  refine g_iinc (i := 1) (n := 1) (v := 16) (ls2 := [some (vr 30 0), some (vi 16)]) (by decide +kernel) rfl (by decide) (by decide) rfl rfl ?_
  refine g_goto (off := (-21)) (tgt := 7) (by decide +kernel) (by decide) ?_
  refine g_iload_n (q := 1) (i := 1) (by decide +kernel) rfl rfl ?_
  refine g_bipush (n := 20) (v := 20) (by decide +kernel) (by decide) ?_
  refine g_icmp_ge (off := 21) (tgt := 31) (by decide +kernel) (by decide) (fun c => absurd c (by decide)) (fun c => ?_)
  refine g_aload_n (q := 0) (i := 0) (by decide +kernel) rfl rfl ?_
  refine g_get (C := "ThreePointsModel") (T := xT_Model) (N := 39) (ci := 10) (k := 14) (v := vr 38 0) (by decide +kernel) (by decide) rfl rfl xi_Model (by decide) kw_1040 rfl ?_
  refine g_iload_n (q := 1) (i := 1) (by decide +kernel) rfl rfl ?_
  refine g_aload_n (q := 0) (i := 0) (by decide +kernel) rfl rfl ?_
  refine g_get (C := "ThreePointsModel") (T := xT_Model) (N := 39) (ci := 10) (k := 6) (v := vr 34 0) (by decide +kernel) (by decide) rfl rfl xi_Model (by decide) kw_1032 rfl ?_
  refine g_iload_n (q := 1) (i := 1) (by decide +kernel) rfl rfl ?_
  refine g_heap (fun H17 eH17 => ?_)
  replace h := h H17 eH17
  refine g_iald (by decide +kernel) (by decide) rfl (vp_lit (by decide)) ?_
  refine g_topE (y := (H17 34 0 16)) rfl ?_
  refine g_iast (by decide +kernel) (by decide) rfl (vp_lit (by decide)) ?_
  refine g_heapE (H1 := (hu H17 38 0 16 (H17 34 0 16))) rfl ?_
  refine g_iinc (i := 1) (n := 1) (v := 17) (ls2 := [some (vr 30 0), some (vi 17)]) (by decide +kernel) rfl (by decide) (by decide) rfl rfl ?_
  refine g_goto (off := (-21)) (tgt := 7) (by decide +kernel) (by decide) ?_
  refine g_iload_n (q := 1) (i := 1) (by decide +kernel) rfl rfl ?_
  refine g_bipush (n := 20) (v := 20) (by decide +kernel) (by decide) ?_
  refine g_icmp_ge (off := 21) (tgt := 31) (by decide +kernel) (by decide) (fun c => absurd c (by decide)) (fun c => ?_)
  refine g_aload_n (q := 0) (i := 0) (by decide +kernel) rfl rfl ?_
  refine g_get (C := "ThreePointsModel") (T := xT_Model) (N := 39) (ci := 10) (k := 14) (v := vr 38 0) (by decide +kernel) (by decide) rfl rfl xi_Model (by decide) kw_1040 rfl ?_
  refine g_iload_n (q := 1) (i := 1) (by decide +kernel) rfl rfl ?_
  refine g_aload_n (q := 0) (i := 0) (by decide +kernel) rfl rfl ?_
  refine g_get (C := "ThreePointsModel") (T := xT_Model) (N := 39) (ci := 10) (k := 6) (v := vr 34 0) (by decide +kernel) (by decide) rfl rfl xi_Model (by decide) kw_1032 rfl ?_
  refine g_iload_n (q := 1) (i := 1) (by decide +kernel) rfl rfl ?_
  refine g_heap (fun H18 eH18 => ?_)
  replace h := h H18 eH18
  refine g_iald (by decide +kernel) (by decide) rfl (vp_lit (by decide)) ?_
  refine g_topE (y := (H18 34 0 17)) rfl ?_
  refine g_iast (by decide +kernel) (by decide) rfl (vp_lit (by decide)) ?_
  refine g_heapE (H1 := (hu H18 38 0 17 (H18 34 0 17))) rfl ?_
  refine g_iinc (i := 1) (n := 1) (v := 18) (ls2 := [some (vr 30 0), some (vi 18)]) (by decide +kernel) rfl (by decide) (by decide) rfl rfl ?_
  refine g_goto (off := (-21)) (tgt := 7) (by decide +kernel) (by decide) ?_
  refine g_iload_n (q := 1) (i := 1) (by decide +kernel) rfl rfl ?_
  refine g_bipush (n := 20) (v := 20) (by decide +kernel) (by decide) ?_
  refine g_icmp_ge (off := 21) (tgt := 31) (by decide +kernel) (by decide) (fun c => absurd c (by decide)) (fun c => ?_)
  refine g_aload_n (q := 0) (i := 0) (by decide +kernel) rfl rfl ?_
  refine g_get (C := "ThreePointsModel") (T := xT_Model) (N := 39) (ci := 10) (k := 14) (v := vr 38 0) (by decide +kernel) (by decide) rfl rfl xi_Model (by decide) kw_1040 rfl ?_
  refine g_iload_n (q := 1) (i := 1) (by decide +kernel) rfl rfl ?_
  refine g_aload_n (q := 0) (i := 0) (by decide +kernel) rfl rfl ?_
  refine g_get (C := "ThreePointsModel") (T := xT_Model) (N := 39) (ci := 10) (k := 6) (v := vr 34 0) (by decide +kernel) (by decide) rfl rfl xi_Model (by decide) kw_1032 rfl ?_
  refine g_iload_n (q := 1) (i := 1) (by decide +kernel) rfl rfl ?_
  refine g_heap (fun H19 eH19 => ?_)
  replace h := h H19 eH19
  refine g_iald (by decide +kernel) (by decide) rfl (vp_lit (by decide)) ?_
  refine g_topE (y := (H19 34 0 18)) rfl ?_
  refine g_iast (by decide +kernel) (by decide) rfl (vp_lit (by decide)) ?_
  refine g_heapE (H1 := (hu H19 38 0 18 (H19 34 0 18))) rfl ?_
  refine g_iinc (i := 1) (n := 1) (v := 19) (ls2 := [some (vr 30 0), some (vi 19)]) (by decide +kernel) rfl (by decide) (by decide) rfl rfl ?_
  refine g_goto (off := (-21)) (tgt := 7) (by decide +kernel) (by decide) ?_
  refine g_iload_n (q := 1) (i := 1) (by decide +kernel) rfl rfl ?_
  refine g_bipush (n := 20) (v := 20) (by decide +kernel) (by decide) ?_
  refine g_icmp_ge (off := 21) (tgt := 31) (by decide +kernel) (by decide) (fun c => absurd c (by decide)) (fun c => ?_)
  refine g_aload_n (q := 0) (i := 0) (by decide +kernel) rfl rfl ?_
  refine g_get (C := "ThreePointsModel") (T := xT_Model) (N := 39) (ci := 10) (k := 14) (v := vr 38 0) (by decide +kernel) (by decide) rfl rfl xi_Model (by decide) kw_1040 rfl ?_
  refine g_iload_n (q := 1) (i := 1) (by decide +kernel) rfl rfl ?_
  refine g_aload_n (q := 0) (i := 0) (by decide +kernel) rfl rfl ?_
  refine g_get (C := "ThreePointsModel") (T := xT_Model) (N := 39) (ci := 10) (k := 6) (v := vr 34 0) (by decide +kernel) (by decide) rfl rfl xi_Model (by decide) kw_1032 rfl ?_
  refine g_iload_n (q := 1) (i := 1) (by decide +kernel) rfl rfl ?_
  refine g_heap (fun H20 eH20 => ?_)
  replace h := h H20 eH20
  refine g_iald (by decide +kernel) (by decide) rfl (vp_lit (by decide)) ?_
  refine g_topE (y := (H20 34 0 19)) rfl ?_
  refine g_iast (by decide +kernel) (by decide) rfl (vp_lit (by decide)) ?_
  refine g_heapE (H1 := (hu H20 38 0 19 (H20 34 0 19))) rfl ?_
  refine g_iinc (i := 1) (n := 1) (v := 20) (ls2 := [some (vr 30 0), some (vi 20)]) (by decide +kernel) rfl (by decide) (by decide) rfl rfl ?_
  refine g_goto (off := (-21)) (tgt := 7) (by decide +kernel) (by decide) ?_
  refine g_iload_n (q := 1) (i := 1) (by decide +kernel) rfl rfl ?_
  refine g_bipush (n := 20) (v := 20) (by decide +kernel) (by decide) ?_
  refine g_icmp_ge (off := 21) (tgt := 31) (by decide +kernel) (by decide) (fun c => ?_) (fun c => absurd c (by decide))
  refine g_aload_n (q := 0) (i := 0) (by decide +kernel) rfl rfl ?_
  refine g_get (C := "ThreePointsModel") (T := xT_Model) (N := 39) (ci := 10) (k := 15) (v := vr 39 0) (by decide +kernel) (by decide) rfl rfl xi_Model (by decide) kw_1041 rfl ?_
  refine g_iconst (n := 0) (v := 0) (by decide +kernel) (by decide) ?_
  refine g_aload_n (q := 0) (i := 0) (by decide +kernel) rfl rfl ?_
  refine g_heap (fun H21 eH21 => ?_)
  replace h := h H21 eH21
  refine g_get (C := "ThreePointsModel") (T := xT_Model) (N := 39) (ci := 10) (k := 3) (v := vi (H21 30 0 3)) (by decide +kernel) (by decide) rfl rfl xi_Model (by decide) kw_1029 rfl ?_
  refine g_iast (by decide +kernel) (by decide) rfl (vp_lit (by decide)) ?_
  refine g_heapE (H1 := (hu H21 39 0 0 (H21 30 0 3))) rfl ?_
  refine g_aload_n (q := 0) (i := 0) (by decide +kernel) rfl rfl ?_
  refine g_get (C := "ThreePointsModel") (T := xT_Model) (N := 39) (ci := 10) (k := 15) (v := vr 39 0) (by decide +kernel) (by decide) rfl rfl xi_Model (by decide) kw_1041 rfl ?_
  refine g_iconst (n := 1) (v := 1) (by decide +kernel) (by decide) ?_
  refine g_aload_n (q := 0) (i := 0) (by decide +kernel) rfl rfl ?_
  refine g_heap (fun H22 eH22 => ?_)
  replace h := h H22 eH22
  refine g_get (C := "ThreePointsModel") (T := xT_Model) (N := 39) (ci := 10) (k := 1) (v := vi (H22 30 0 1)) (by decide +kernel) (by decide) rfl rfl xi_Model (by decide) kw_1027 rfl ?_
  refine g_iast (by decide +kernel) (by decide) rfl (vp_lit (by decide)) ?_
  refine g_heapE (H1 := (hu H22 39 0 1 (H22 30 0 1))) rfl ?_
  refine g_aload_n (q := 0) (i := 0) (by decide +kernel) rfl rfl ?_
  refine g_get (C := "ThreePointsModel") (T := xT_Model) (N := 39) (ci := 10) (k := 15) (v := vr 39 0) (by decide +kernel) (by decide) rfl rfl xi_Model (by decide) kw_1041 rfl ?_
  refine g_iconst (n := 2) (v := 2) (by decide +kernel) (by decide) ?_
  refine g_aload_n (q := 0) (i := 0) (by decide +kernel) rfl rfl ?_
  refine g_heap (fun H23 eH23 => ?_)
  replace h := h H23 eH23
  refine g_get (C := "ThreePointsModel") (T := xT_Model) (N := 39) (ci := 10) (k := 2) (v := vi (H23 30 0 2)) (by decide +kernel) (by decide) rfl rfl xi_Model (by decide) kw_1028 rfl ?_
  refine g_iast (by decide +kernel) (by decide) rfl (vp_lit (by decide)) ?_
  refine g_heapE (H1 := (hu H23 39 0 2 (H23 30 0 2))) rfl ?_
  refine g_aload_n (q := 0) (i := 0) (by decide +kernel) rfl rfl ?_
  refine g_get (C := "ThreePointsModel") (T := xT_Model) (N := 39) (ci := 10) (k := 15) (v := vr 39 0) (by decide +kernel) (by decide) rfl rfl xi_Model (by decide) kw_1041 rfl ?_
  refine g_iconst (n := 3) (v := 3) (by decide +kernel) (by decide) ?_
  refine g_aload_n (q := 0) (i := 0) (by decide +kernel) rfl rfl ?_
  refine g_heap (fun H24 eH24 => ?_)
  replace h := h H24 eH24
  refine g_get (C := "ThreePointsModel") (T := xT_Model) (N := 39) (ci := 10) (k := 12) (v := vi (H24 30 0 12)) (by decide +kernel) (by decide) rfl rfl xi_Model (by decide) kw_1038 rfl ?_
  refine g_iast (by decide +kernel) (by decide) rfl (vp_lit (by decide)) ?_
  refine g_heapE (H1 := (hu H24 39 0 3 (H24 30 0 12))) rfl ?_
  refine g_aload_n (q := 0) (i := 0) (by decide +kernel) rfl rfl ?_
  refine g_heap (fun H25 eH25 => ?_)
  replace h := h H25 eH25
  refine g_get (C := "ThreePointsModel") (T := xT_Model) (N := 39) (ci := 10) (k := 3) (v := vi (H25 30 0 3)) (by decide +kernel) (by decide) rfl rfl xi_Model (by decide) kw_1029 rfl ?_
  exact g_iret (by decide +kernel) rfl ⟨_, rfl, h⟩
def p_Model_back (E : XE) (d : Nat)  (H : HH) (Q : Int32 → HH → Prop) : Prop := (¬ (H 30 0 13) = 0 → (∀ H1 : HH, H1 = (hu H 34 0 0 (H 38 0 0)) → (∀ H2 : HH, H2 = (hu H1 34 0 1 (H1 38 0 1)) → (∀ H3 : HH, H3 = (hu H2 34 0 2 (H2 38 0 2)) → (∀ H4 : HH, H4 = (hu H3 34 0 3 (H3 38 0 3)) → (∀ H5 : HH, H5 = (hu H4 34 0 4 (H4 38 0 4)) → (∀ H6 : HH, H6 = (hu H5 34 0 5 (H5 38 0 5)) → (∀ H7 : HH, H7 = (hu H6 34 0 6 (H6 38 0 6)) → (∀ H8 : HH, H8 = (hu H7 34 0 7 (H7 38 0 7)) → (∀ H9 : HH, H9 = (hu H8 34 0 8 (H8 38 0 8)) → (∀ H10 : HH, H10 = (hu H9 34 0 9 (H9 38 0 9)) → (∀ H11 : HH, H11 = (hu H10 34 0 10 (H10 38 0 10)) → (∀ H12 : HH, H12 = (hu H11 34 0 11 (H11 38 0 11)) → (∀ H13 : HH, H13 = (hu H12 34 0 12 (H12 38 0 12)) → (∀ H14 : HH, H14 = (hu H13 34 0 13 (H13 38 0 13)) → (∀ H15 : HH, H15 = (hu H14 34 0 14 (H14 38 0 14)) → (∀ H16 : HH, H16 = (hu H15 34 0 15 (H15 38 0 15)) → (∀ H17 : HH, H17 = (hu H16 34 0 16 (H16 38 0 16)) → (∀ H18 : HH, H18 = (hu H17 34 0 17 (H17 38 0 17)) → (∀ H19 : HH, H19 = (hu H18 34 0 18 (H18 38 0 18)) → (∀ H20 : HH, H20 = (hu H19 34 0 19 (H19 38 0 19)) → (∀ H21 : HH, H21 = (hu H20 30 0 3 (H20 39 0 0)) → (∀ H22 : HH, H22 = (hu H21 30 0 1 (H21 39 0 1)) → (∀ H23 : HH, H23 = (hu H22 30 0 2 (H22 39 0 2)) → (∀ H24 : HH, H24 = (hu H23 30 0 12 (H23 39 0 3)) → (Q (H24 30 0 3) H24)))))))))))))))))))))))))) ∧ ((H 30 0 13) = 0 → (Q (-3) H))
set_option maxHeartbeats 4000000 in
theorem l_Model_back {E : XE} {d : Nat}  {H : HH} {Q : Int32 → HH → Prop} (h : p_Model_back E d  H Q) : c_Model_back E d  H Q := by
  show g_Model_back E d 0 (xent [vr 30 0]) [] H (qi Q)
  refine g_drop (ls2 := [some (vr 30 0), none]) (And.intro rfl trivial) ?_
  refine g_aload_n (q := 0) (i := 0) (by decide +kernel) rfl rfl ?_
  refine g_get (C := "ThreePointsModel") (T := xT_Model) (N := 39) (ci := 10) (k := 13) (v := vi (H 30 0 13)) (by decide +kernel) (by decide) rfl rfl xi_Model (by decide) kw_1039 rfl ?_
  refine g_if_ne (off := 6) (tgt := 10) (by decide +kernel) (by decide) (fun c => ?_) (fun c => ?_)
  · replace h := h.1 c
    refine g_iconst (n := 0) (v := 0) (by decide +kernel) (by decide) ?_
    refine g_istore_n (q := 1) (i := 1) (ls2 := [some (vr 30 0), some (vi 0)]) (by decide +kernel) rfl (by decide) rfl rfl ?_
    refine g_iload_n (q := 1) (i := 1) (by decide +kernel) rfl rfl ?_
    refine g_bipush (n := 20) (v := 20) (by decide +kernel) (by decide) ?_
    refine g_icmp_ge (off := 21) (tgt := 36) (by decide +kernel) (by decide) (fun c => absurd c (by decide)) (fun c => ?_)
    refine g_aload_n (q := 0) (i := 0) (by decide +kernel) rfl rfl ?_
    refine g_get (C := "ThreePointsModel") (T := xT_Model) (N := 39) (ci := 10) (k := 6) (v := vr 34 0) (by decide +kernel) (by decide) rfl rfl xi_Model (by decide) kw_1032 rfl ?_
    refine g_iload_n (q := 1) (i := 1) (by decide +kernel) rfl rfl ?_
    refine g_aload_n (q := 0) (i := 0) (by decide +kernel) rfl rfl ?_
    refine g_get (C := "ThreePointsModel") (T := xT_Model) (N := 39) (ci := 10) (k := 14) (v := vr 38 0) (by decide +kernel) (by decide) rfl rfl xi_Model (by decide) kw_1040 rfl ?_
    refine g_iload_n (q := 1) (i := 1) (by decide +kernel) rfl rfl ?_
    refine g_iald (by decide +kernel) (by decide) rfl (vp_lit (by decide)) ?_
    refine g_topE (y := (H 38 0 0)) rfl ?_
    refine g_iast (by decide +kernel) (by decide) rfl (vp_lit (by decide)) ?_
    refine g_heapE (H1 := (hu H 34 0 0 (H 38 0 0))) rfl ?_
    refine g_iinc (i := 1) (n := 1) (v := 1) (ls2 := [some (vr 30 0), some (vi 1)]) (by decide +kernel) rfl (by decide) (by decide) rfl rfl ?_
    refine g_goto (off := (-21)) (tgt := 12) (by decide +kernel) (by decide) ?_
    refine g_iload_n (q := 1) (i := 1) (by decide +kernel) rfl rfl ?_
    refine g_bipush (n := 20) (v := 20) (by decide +kernel) (by decide) ?_
    refine g_icmp_ge (off := 21) (tgt := 36) (by decide +kernel) (by decide) (fun c => absurd c (by decide)) (fun c => ?_)
    refine g_aload_n (q := 0) (i := 0) (by decide +kernel) rfl rfl ?_
    refine g_get (C := "ThreePointsModel") (T := xT_Model) (N := 39) (ci := 10) (k := 6) (v := vr 34 0) (by decide +kernel) (by decide) rfl rfl xi_Model (by decide) kw_1032 rfl ?_
    refine g_iload_n (q := 1) (i := 1) (by decide +kernel) rfl rfl ?_
    refine g_aload_n (q := 0) (i := 0) (by decide +kernel) rfl rfl ?_
    refine g_get (C := "ThreePointsModel") (T := xT_Model) (N := 39) (ci := 10) (k := 14) (v := vr 38 0) (by decide +kernel) (by decide) rfl rfl xi_Model (by decide) kw_1040 rfl ?_
    refine g_iload_n (q := 1) (i := 1) (by decide +kernel) rfl rfl ?_
    refine g_heap (fun H1 eH1 => ?_)
    replace h := h H1 eH1
    refine g_iald (by decide +kernel) (by decide) rfl (vp_lit (by decide)) ?_
    refine g_topE (y := (H1 38 0 1)) rfl ?_
    refine g_iast (by decide +kernel) (by decide) rfl (vp_lit (by decide)) ?_
    refine g_heapE (H1 := (hu H1 34 0 1 (H1 38 0 1))) rfl ?_
    refine g_iinc (i := 1) (n := 1) (v := 2) (ls2 := [some (vr 30 0), some (vi 2)]) (by decide +kernel) rfl (by decide) (by decide) rfl rfl ?_
    refine g_goto (off := (-21)) (tgt := 12) (by decide +kernel) (by decide) ?_
    refine g_iload_n (q := 1) (i := 1) (by decide +kernel) rfl rfl ?_
    refine g_bipush (n := 20) (v := 20) (by decide +kernel) (by decide) ?_
    refine g_icmp_ge (off := 21) (tgt := 36) (by decide +kernel) (by decide) (fun c => absurd c (by decide)) (fun c => ?_)
    refine g_aload_n (q := 0) (i := 0) (by decide +kernel) rfl rfl ?_
    refine g_get (C := "ThreePointsModel") (T := xT_Model) (N := 39) (ci := 10) (k := 6) (v := vr 34 0) (by decide +kernel) (by decide) rfl rfl xi_Model (by decide) kw_1032 rfl ?_
    refine g_iload_n (q := 1) (i := 1) (by decide +kernel) rfl rfl ?_
    refine g_aload_n (q := 0) (i := 0) (by decide +kernel) rfl rfl ?_
    refine g_get (C := "ThreePointsModel") (T := xT_Model) (N := 39) (ci := 10) (k := 14) (v := vr 38 0) (by decide +kernel) (by decide) rfl rfl xi_Model (by decide) kw_1040 rfl ?_
    refine g_iload_n (q := 1) (i := 1) (by decide +kernel) rfl rfl ?_
    refine g_heap (fun H2 eH2 => ?_)
    replace h := h H2 eH2
    refine g_iald (by decide +kernel) (by decide) rfl (vp_lit (by decide)) ?_
    refine g_topE (y := (H2 38 0 2)) rfl ?_
    refine g_iast (by decide +kernel) (by decide) rfl (vp_lit (by decide)) ?_
    refine g_heapE (H1 := (hu H2 34 0 2 (H2 38 0 2))) rfl ?_
    refine g_iinc (i := 1) (n := 1) (v := 3) (ls2 := [some (vr 30 0), some (vi 3)]) (by decide +kernel) rfl (by decide) (by decide) rfl rfl ?_
    refine g_goto (off := (-21)) (tgt := 12) (by decide +kernel) (by decide) ?_
    refine g_iload_n (q := 1) (i := 1) (by decide +kernel) rfl rfl ?_
    refine g_bipush (n := 20) (v := 20) (by decide +kernel) (by decide) ?_
    refine g_icmp_ge (off := 21) (tgt := 36) (by decide +kernel) (by decide) (fun c => absurd c (by decide)) (fun c => ?_)
    refine g_aload_n (q := 0) (i := 0) (by decide +kernel) rfl rfl ?_
    refine g_get (C := "ThreePointsModel") (T := xT_Model) (N := 39) (ci := 10) (k := 6) (v := vr 34 0) (by decide +kernel) (by decide) rfl rfl xi_Model (by decide) kw_1032 rfl ?_
    refine g_iload_n (q := 1) (i := 1) (by decide +kernel) rfl rfl ?_
    refine g_aload_n (q := 0) (i := 0) (by decide +kernel) rfl rfl ?_
    refine g_get (C := "ThreePointsModel") (T := xT_Model) (N := 39) (ci := 10) (k := 14) (v := vr 38 0) (by decide +kernel) (by decide) rfl rfl xi_Model (by decide) kw_1040 rfl ?_
    refine g_iload_n (q := 1) (i := 1) (by decide +kernel) rfl rfl ?_
    refine g_heap (fun H3 eH3 => ?_)
    replace h := h H3 eH3
    refine g_iald (by decide +kernel) (by decide) rfl (vp_lit (by decide)) ?_
    refine g_topE (y := (H3 38 0 3)) rfl ?_
    refine g_iast (by decide +kernel) (by decide) rfl (vp_lit (by decide)) ?_
    refine g_heapE (H1 := (hu H3 34 0 3 (H3 38 0 3))) rfl ?_
    refine g_iinc (i := 1) (n := 1) (v := 4) (ls2 := [some (vr 30 0), some (vi 4)]) (by decide +kernel) rfl (by decide) (by decide) rfl rfl ?_
    refine g_goto (off := (-21)) (tgt := 12) (by decide +kernel) (by decide) ?_
    refine g_iload_n (q := 1) (i := 1) (by decide +kernel) rfl rfl ?_
    refine g_bipush (n := 20) (v := 20) (by decide +kernel) (by decide) ?_
    refine g_icmp_ge (off := 21) (tgt := 36) (by decide +kernel) (by decide) (fun c => absurd c (by decide)) (fun c => ?_)
    refine g_aload_n (q := 0) (i := 0) (by decide +kernel) rfl rfl ?_
    refine g_get (C := "ThreePointsModel") (T := xT_Model) (N := 39) (ci := 10) (k := 6) (v := vr 34 0) (by decide +kernel) (by decide) rfl rfl xi_Model (by decide) kw_1032 rfl ?_
    refine g_iload_n (q := 1) (i := 1) (by decide +kernel) rfl rfl ?_
    refine g_aload_n (q := 0) (i := 0) (by decide +kernel) rfl rfl ?_
    refine g_get (C := "ThreePointsModel") (T := xT_Model) (N := 39) (ci := 10) (k := 14) (v := vr 38 0) (by decide +kernel) (by decide) rfl rfl xi_Model (by decide) kw_1040 rfl ?_
    refine g_iload_n (q := 1) (i := 1) (by decide +kernel) rfl rfl ?_
    refine g_heap (fun H4 eH4 => ?_)
    replace h := h H4 eH4
    refine g_iald (by decide +kernel) (by decide) rfl (vp_lit (by decide)) ?_
    refine g_topE (y := (H4 38 0 4)) rfl ?_
    refine g_iast (by decide +kernel) (by decide) rfl (vp_lit (by decide)) ?_
    refine g_heapE (H1 := (hu H4 34 0 4 (H4 38 0 4))) rfl ?_
    refine g_iinc (i := 1) (n := 1) (v := 5) (ls2 := [some (vr 30 0), some (vi 5)]) (by decide +kernel) rfl (by decide) (by decide) rfl rfl ?_
    refine g_goto (off := (-21)) (tgt := 12) (by decide +kernel) (by decide) ?_
    refine g_iload_n (q := 1) (i := 1) (by decide +kernel) rfl rfl ?_
    refine g_bipush (n := 20) (v := 20) (by decide +kernel) (by decide) ?_
    refine g_icmp_ge (off := 21) (tgt := 36) (by decide +kernel) (by decide) (fun c => absurd c (by decide)) (fun c => ?_)
    refine g_aload_n (q := 0) (i := 0) (by decide +kernel) rfl rfl ?_
    refine g_get (C := "ThreePointsModel") (T := xT_Model) (N := 39) (ci := 10) (k := 6) (v := vr 34 0) (by decide +kernel) (by decide) rfl rfl xi_Model (by decide) kw_1032 rfl ?_
    refine g_iload_n (q := 1) (i := 1) (by decide +kernel) rfl rfl ?_
    refine g_aload_n (q := 0) (i := 0) (by decide +kernel) rfl rfl ?_
    refine g_get (C := "ThreePointsModel") (T := xT_Model) (N := 39) (ci := 10) (k := 14) (v := vr 38 0) (by decide +kernel) (by decide) rfl rfl xi_Model (by decide) kw_1040 rfl ?_
    refine g_iload_n (q := 1) (i := 1) (by decide +kernel) rfl rfl ?_
    refine g_heap (fun H5 eH5 => ?_)
    replace h := h H5 eH5
    refine g_iald (by decide +kernel) (by decide) rfl (vp_lit (by decide)) ?_
    refine g_topE (y := (H5 38 0 5)) rfl ?_
    refine g_iast (by decide +kernel) (by decide) rfl (vp_lit (by decide)) ?_
    refine g_heapE (H1 := (hu H5 34 0 5 (H5 38 0 5))) rfl ?_
    refine g_iinc (i := 1) (n := 1) (v := 6) (ls2 := [some (vr 30 0), some (vi 6)]) (by decide +kernel) rfl (by decide) (by decide) rfl rfl ?_
    refine g_goto (off := (-21)) (tgt := 12) (by decide +kernel) (by decide) ?_
    refine g_iload_n (q := 1) (i := 1) (by decide +kernel) rfl rfl ?_
    refine g_bipush (n := 20) (v := 20) (by decide +kernel) (by decide) ?_
    refine g_icmp_ge (off := 21) (tgt := 36) (by decide +kernel) (by decide) (fun c => absurd c (by decide)) (fun c => ?_)
    refine g_aload_n (q := 0) (i := 0) (by decide +kernel) rfl rfl ?_
    refine g_get (C := "ThreePointsModel") (T := xT_Model) (N := 39) (ci := 10) (k := 6) (v := vr 34 0) (by decide +kernel) (by decide) rfl rfl xi_Model (by decide) kw_1032 rfl ?_
    refine g_iload_n (q := 1) (i := 1) (by decide +kernel) rfl rfl ?_
    refine g_aload_n (q := 0) (i := 0) (by decide +kernel) rfl rfl ?_
    refine g_get (C := "ThreePointsModel") (T := xT_Model) (N := 39) (ci := 10) (k := 14) (v := vr 38 0) (by decide +kernel) (by decide) rfl rfl xi_Model (by decide) kw_1040 rfl ?_
    refine g_iload_n (q := 1) (i := 1) (by decide +kernel) rfl rfl ?_
    refine g_heap (fun H6 eH6 => ?_)
    replace h := h H6 eH6
    refine g_iald (by decide +kernel) (by decide) rfl (vp_lit (by decide)) ?_
    refine g_topE (y := (H6 38 0 6)) rfl ?_
    refine g_iast (by decide +kernel) (by decide) rfl (vp_lit (by decide)) ?_
    refine g_heapE (H1 := (hu H6 34 0 6 (H6 38 0 6))) rfl ?_
    refine g_iinc (i := 1) (n := 1) (v := 7) (ls2 := [some (vr 30 0), some (vi 7)]) (by decide +kernel) rfl (by decide) (by decide) rfl rfl ?_
    refine g_goto (off := (-21)) (tgt := 12) (by decide +kernel) (by decide) ?_
    refine g_iload_n (q := 1) (i := 1) (by decide +kernel) rfl rfl ?_
    refine g_bipush (n := 20) (v := 20) (by decide +kernel) (by decide) ?_
    refine g_icmp_ge (off := 21) (tgt := 36) (by decide +kernel) (by decide) (fun c => absurd c (by decide)) (fun c => ?_)
    refine g_aload_n (q := 0) (i := 0) (by decide +kernel) rfl rfl ?_
    refine g_get (C := "ThreePointsModel") (T := xT_Model) (N := 39) (ci := 10) (k := 6) (v := vr 34 0) (by decide +kernel) (by decide) rfl rfl xi_Model (by decide) kw_1032 rfl ?_
    refine g_iload_n (q := 1) (i := 1) (by decide +kernel) rfl rfl ?_
    refine g_aload_n (q := 0) (i := 0) (by decide +kernel) rfl rfl ?_
    refine g_get (C := "ThreePointsModel") (T := xT_Model) (N := 39) (ci := 10) (k := 14) (v := vr 38 0) (by decide +kernel) (by decide) rfl rfl xi_Model (by decide) kw_1040 rfl ?_
    refine g_iload_n (q := 1) (i := 1) (by decide +kernel) rfl rfl ?_
    refine g_heap (fun H7 eH7 => ?_)
    replace h := h H7 eH7
    refine g_iald (by decide +kernel) (by decide) rfl (vp_lit (by decide)) ?_
    refine g_topE (y := (H7 38 0 7)) rfl ?_
    refine g_iast (by decide +kernel) (by decide) rfl (vp_lit (by decide)) ?_
    refine g_heapE (H1 := (hu H7 34 0 7 (H7 38 0 7))) rfl ?_
    refine g_iinc (i := 1) (n := 1) (v := 8) (ls2 := [some (vr 30 0), some (vi 8)]) (by decide +kernel) rfl (by decide) (by decide) rfl rfl ?_
    refine g_goto (off := (-21)) (tgt := 12) (by decide +kernel) (by decide) ?_
    refine g_iload_n (q := 1) (i := 1) (by decide +kernel) rfl rfl ?_
    refine g_bipush (n := 20) (v := 20) (by decide +kernel) (by decide) ?_
    refine g_icmp_ge (off := 21) (tgt := 36) (by decide +kernel) (by decide) (fun c => absurd c (by decide)) (fun c => ?_)
    refine g_aload_n (q := 0) (i := 0) (by decide +kernel) rfl rfl ?_
    refine g_get (C := "ThreePointsModel") (T := xT_Model) (N := 39) (ci := 10) (k := 6) (v := vr 34 0) (by decide +kernel) (by decide) rfl rfl xi_Model (by decide) kw_1032 rfl ?_
    refine g_iload_n (q := 1) (i := 1) (by decide +kernel) rfl rfl ?_
    refine g_aload_n (q := 0) (i := 0) (by decide +kernel) rfl rfl ?_
    refine g_get (C := "ThreePointsModel") (T := xT_Model) (N := 39) (ci := 10) (k := 14) (v := vr 38 0) (by decide +kernel) (by decide) rfl rfl xi_Model (by decide) kw_1040 rfl ?_
    refine g_iload_n (q := 1) (i := 1) (by decide +kernel) rfl rfl ?_
    refine g_heap (fun H8 eH8 => ?_)
    replace h := h H8 eH8
    refine g_iald (by decide +kernel) (by decide) rfl (vp_lit (by decide)) ?_
    refine g_topE (y := (H8 38 0 8)) rfl ?_
    refine g_iast (by decide +kernel) (by decide) rfl (vp_lit (by decide)) ?_
    refine g_heapE (H1 := (hu H8 34 0 8 (H8 38 0 8))) rfl ?_
    refine g_iinc (i := 1) (n := 1) (v := 9) (ls2 := [some (vr 30 0), some (vi 9)]) (by decide +kernel) rfl (by decide) (by decide) rfl rfl ?_
    refine g_goto (off := (-21)) (tgt := 12) (by decide +kernel) (by decide) ?_
    refine g_iload_n (q := 1) (i := 1) (by decide +kernel) rfl rfl ?_
    refine g_bipush (n := 20) (v := 20) (by decide +kernel) (by decide) ?_
    refine g_icmp_ge (off := 21) (tgt := 36) (by decide +kernel) (by decide) (fun c => absurd c (by decide)) (fun c => ?_)
    refine g_aload_n (q := 0) (i := 0) (by decide +kernel) rfl rfl ?_
    refine g_get (C := "ThreePointsModel") (T := xT_Model) (N := 39) (ci := 10) (k := 6) (v := vr 34 0) (by decide +kernel) (by decide) rfl rfl xi_Model (by decide) kw_1032 rfl ?_
    refine g_iload_n (q := 1) (i := 1) (by decide +kernel) rfl rfl ?_
    refine g_aload_n (q := 0) (i := 0) (by decide +kernel) rfl rfl ?_
    refine g_get (C := "ThreePointsModel") (T := xT_Model) (N := 39) (ci := 10) (k := 14) (v := vr 38 0) (by decide +kernel) (by decide) rfl rfl xi_Model (by decide) kw_1040 rfl ?_
    refine g_iload_n (q := 1) (i := 1) (by decide +kernel) rfl rfl ?_
    refine g_heap (fun H9 eH9 => ?_)
    replace h := h H9 eH9
    refine g_iald (by decide +kernel) (by decide) rfl (vp_lit (by decide)) ?_
    refine g_topE (y := (H9 38 0 9)) rfl ?_
    refine g_iast (by decide +kernel) (by decide) rfl (vp_lit (by decide)) ?_
    refine g_heapE (H1 := (hu H9 34 0 9 (H9 38 0 9))) rfl ?_
    refine g_iinc (i := 1) (n := 1) (v := 10) (ls2 := [some (vr 30 0), some (vi 10)]) (by decide +kernel) rfl (by decide) (by decide) rfl rfl ?_
    refine g_goto (off := (-21)) (tgt := 12) (by decide +kernel) (by decide) ?_
    refine g_iload_n (q := 1) (i := 1) (by decide +kernel) rfl rfl ?_
    refine g_bipush (n := 20) (v := 20) (by decide +kernel) (by decide) ?_
    refine g_icmp_ge (off := 21) (tgt := 36) (by decide +kernel) (by decide) (fun c => absurd c (by decide)) (fun c => ?_)
    refine g_aload_n (q := 0) (i := 0) (by decide +kernel) rfl rfl ?_
    refine g_get (C := "ThreePointsModel") (T := xT_Model) (N := 39) (ci := 10) (k := 6) (v := vr 34 0) (by decide +kernel) (by decide) rfl rfl xi_Model (by decide) kw_1032 rfl ?_
    refine g_iload_n (q := 1) (i := 1) (by decide +kernel) rfl rfl ?_
    refine g_aload_n (q := 0) (i := 0) (by decide +kernel) rfl rfl ?_
    refine g_get (C := "ThreePointsModel") (T := xT_Model) (N := 39) (ci := 10) (k := 14) (v := vr 38 0) (by decide +kernel) (by decide) rfl rfl xi_Model (by decide) kw_1040 rfl ?_
    refine g_iload_n (q := 1) (i := 1) (by decide +kernel) rfl rfl ?_
    refine g_heap (fun H10 eH10 => ?_)
    replace h := h H10 eH10
    refine g_iald (by decide +kernel) (by decide) rfl (vp_lit (by decide)) ?_
    refine g_topE (y := (H10 38 0 10)) rfl ?_
    refine g_iast (by decide +kernel) (by decide) rfl (vp_lit (by decide)) ?_
    refine g_heapE (H1 := (hu H10 34 0 10 (H10 38 0 10))) rfl ?_
    refine g_iinc (i := 1) (n := 1) (v := 11) (ls2 := [some (vr 30 0), some (vi 11)]) (by decide +kernel) rfl (by decide) (by decide) rfl rfl ?_
    refine g_goto (off := (-21)) (tgt := 12) (by decide +kernel) (by decide) ?_
    refine g_iload_n (q := 1) (i := 1) (by decide +kernel) rfl rfl ?_
    refine g_bipush (n := 20) (v := 20) (by decide +kernel) (by decide) ?_
    refine g_icmp_ge (off := 21) (tgt := 36) (by decide +kernel) (by decide) (fun c => absurd c (by decide)) (fun c => ?_)
    refine g_aload_n (q := 0) (i := 0) (by decide +kernel) rfl rfl ?_
    refine g_get (C := "ThreePointsModel") (T := xT_Model) (N := 39) (ci := 10) (k := 6) (v := vr 34 0) (by decide +kernel) (by decide) rfl rfl xi_Model (by decide) kw_1032 rfl ?_
    refine g_iload_n (q := 1) (i := 1) (by decide +kernel) rfl rfl ?_
    refine g_aload_n (q := 0) (i := 0) (by decide +kernel) rfl rfl ?_
    refine g_get (C := "ThreePointsModel") (T := xT_Model) (N := 39) (ci := 10) (k := 14) (v := vr 38 0) (by decide +kernel) (by decide) rfl rfl xi_Model (by decide) kw_1040 rfl ?_
    refine g_iload_n (q := 1) (i := 1) (by decide +kernel) rfl rfl ?_
    refine g_heap (fun H11 eH11 => ?_)
    replace h := h H11 eH11
    refine g_iald (by decide +kernel) (by decide) rfl (vp_lit (by decide)) ?_
    refine g_topE (y := (H11 38 0 11)) rfl ?_
    refine g_iast (by decide +kernel) (by decide) rfl (vp_lit (by decide)) ?_
    refine g_heapE (H1 := (hu H11 34 0 11 (H11 38 0 11))) rfl ?_
    refine g_iinc (i := 1) (n := 1) (v := 12) (ls2 := [some (vr 30 0), some (vi 12)]) (by decide +kernel) rfl (by decide) (by decide) rfl rfl ?_
    refine g_goto (off := (-21)) (tgt := 12) (by decide +kernel) (by decide) ?_
    refine g_iload_n (q := 1) (i := 1) (by decide +kernel) rfl rfl ?_
    refine g_bipush (n := 20) (v := 20) (by decide +kernel) (by decide) ?_
    refine g_icmp_ge (off := 21) (tgt := 36) (by decide +kernel) (by decide) (fun c => absurd c (by decide)) (fun c => ?_)
    refine g_aload_n (q := 0) (i := 0) (by decide +kernel) rfl rfl ?_
    refine g_get (C := "ThreePointsModel") (T := xT_Model) (N := 39) (ci := 10) (k := 6) (v := vr 34 0) (by decide +kernel) (by decide) rfl rfl xi_Model (by decide) kw_1032 rfl ?_
    refine g_iload_n (q := 1) (i := 1) (by decide +kernel) rfl rfl ?_
    refine g_aload_n (q := 0) (i := 0) (by decide +kernel) rfl rfl ?_
    refine g_get (C := "ThreePointsModel") (T := xT_Model) (N := 39) (ci := 10) (k := 14) (v := vr 38 0) (by decide +kernel) (by decide) rfl rfl xi_Model (by decide) kw_1040 rfl ?_
    refine g_iload_n (q := 1) (i := 1) (by decide +kernel) rfl rfl ?_
    refine g_heap (fun H12 eH12 => ?_)
    replace h := h H12 eH12
    refine g_iald (by decide +kernel) (by decide) rfl (vp_lit (by decide)) ?_
    refine g_topE (y := (H12 38 0 12)) rfl ?_
    refine g_iast (by decide +kernel) (by decide) rfl (vp_lit (by decide)) ?_
    refine g_heapE (H1 := (hu H12 34 0 12 (H12 38 0 12))) rfl ?_
    refine g_iinc (i := 1) (n := 1) (v := 13) (ls2 := [some (vr 30 0), some (vi 13)]) (by decide +kernel) rfl (by decide) (by decide) rfl rfl ?_
    refine g_goto (off := (-21)) (tgt := 12) (by decide +kernel) (by decide) ?_
    refine g_iload_n (q := 1) (i := 1) (by decide +kernel) rfl rfl ?_
    refine g_bipush (n := 20) (v := 20) (by decide +kernel) (by decide) ?_
    refine g_icmp_ge (off := 21) (tgt := 36) (by decide +kernel) (by decide) (fun c => absurd c (by decide)) (fun c => ?_)
    refine g_aload_n (q := 0) (i := 0) (by decide +kernel) rfl rfl ?_
    refine g_get (C := "ThreePointsModel") (T := xT_Model) (N := 39) (ci := 10) (k := 6) (v := vr 34 0) (by decide +kernel) (by decide) rfl rfl xi_Model (by decide) kw_1032 rfl ?_
    refine g_iload_n (q := 1) (i := 1) (by decide +kernel) rfl rfl ?_
    refine g_aload_n (q := 0) (i := 0) (by decide +kernel) rfl rfl ?_
    refine g_get (C := "ThreePointsModel") (T := xT_Model) (N := 39) (ci := 10) (k := 14) (v := vr 38 0) (by decide +kernel) (by decide) rfl rfl xi_Model (by decide) kw_1040 rfl ?_
    refine g_iload_n (q := 1) (i := 1) (by decide +kernel) rfl rfl ?_
    refine g_heap (fun H13 eH13 => ?_)
    replace h := h H13 eH13
    refine g_iald (by decide +kernel) (by decide) rfl (vp_lit (by decide)) ?_
    refine g_topE (y := (H13 38 0 13)) rfl ?_
    refine g_iast (by decide +kernel) (by decide) rfl (vp_lit (by decide)) ?_
    refine g_heapE (H1 := (hu H13 34 0 13 (H13 38 0 13))) rfl ?_
    refine g_iinc (i := 1) (n := 1) (v := 14) (ls2 := [some (vr 30 0), some (vi 14)]) (by decide +kernel) rfl (by decide) (by decide) rfl rfl ?_
    refine g_goto (off := (-21)) (tgt := 12) (by decide +kernel) (by decide) ?_
    refine g_iload_n (q := 1) (i := 1) (by decide +kernel) rfl rfl ?_
    refine g_bipush (n := 20) (v := 20) (by decide +kernel) (by decide) ?_
    refine g_icmp_ge (off := 21) (tgt := 36) (by decide +kernel) (by decide) (fun c => absurd c (by decide)) (fun c => ?_)
    refine g_aload_n (q := 0) (i := 0) (by decide +kernel) rfl rfl ?_
    refine g_get (C := "ThreePointsModel") (T := xT_Model) (N := 39) (ci := 10) (k := 6) (v := vr 34 0) (by decide +kernel) (by decide) rfl rfl xi_Model (by decide) kw_1032 rfl ?_
    refine g_iload_n (q := 1) (i := 1) (by decide +kernel) rfl rfl ?_
    refine g_aload_n (q := 0) (i := 0) (by decide +kernel) rfl rfl ?_
    refine g_get (C := "ThreePointsModel") (T := xT_Model) (N := 39) (ci := 10) (k := 14) (v := vr 38 0) (by decide +kernel) (by decide) rfl rfl xi_Model (by decide) kw_1040 rfl ?_
    refine g_iload_n (q := 1) (i := 1) (by decide +kernel) rfl rfl ?_
    refine g_heap (fun H14 eH14 => ?_)
    replace h := h H14 eH14
    refine g_iald (by decide +kernel) (by decide) rfl (vp_lit (by decide)) ?_
    refine g_topE (y := (H14 38 0 14)) rfl ?_
    refine g_iast (by decide +kernel) (by decide) rfl (vp_lit (by decide)) ?_
    refine g_heapE (H1 := (hu H14 34 0 14 (H14 38 0 14))) rfl ?_
    refine g_iinc (i := 1) (n := 1) (v := 15) (ls2 := [some (vr 30 0), some (vi 15)]) (by decide +kernel) rfl (by decide) (by decide) rfl rfl ?_
    refine g_goto (off := (-21)) (tgt := 12) (by decide +kernel) (by decide) ?_
    refine g_iload_n (q := 1) (i := 1) (by decide +kernel) rfl rfl ?_
    refine g_bipush (n := 20) (v := 20) (by decide +kernel) (by decide) ?_
    refine g_icmp_ge (off := 21) (tgt := 36) (by decide +kernel) (by decide) (fun c => absurd c (by decide)) (fun c => ?_)
    refine g_aload_n (q := 0) (i := 0) (by decide +kernel) rfl rfl ?_
    refine g_get (C := "ThreePointsModel") (T := xT_Model) (N := 39) (ci := 10) (k := 6) (v := vr 34 0) (by decide +kernel) (by decide) rfl rfl xi_Model (by decide) kw_1032 rfl ?_
    refine g_iload_n (q := 1) (i := 1) (by decide +kernel) rfl rfl ?_
    refine g_aload_n (q := 0) (i := 0) (by decide +kernel) rfl rfl ?_
    refine g_get (C := "ThreePointsModel") (T := xT_Model) (N := 39) (ci := 10) (k := 14) (v := vr 38 0) (by decide +kernel) (by decide) rfl rfl xi_Model (by decide) kw_1040 rfl ?_
    refine g_iload_n (q := 1) (i := 1) (by decide +kernel) rfl rfl ?_
    refine g_heap (fun H15 eH15 => ?_)
    replace h := h H15 eH15
    refine g_iald (by decide +kernel) (by decide) rfl (vp_lit (by decide)) ?_
    refine g_topE (y := (H15 38 0 15)) rfl ?_
    refine g_iast (by decide +kernel) (by decide) rfl (vp_lit (by decide)) ?_
    refine g_heapE (H1 := (hu H15 34 0 15 (H15 38 0 15))) rfl ?_
    refine g_iinc (i := 1) (n := 1) (v := 16) (ls2 := [some (vr 30 0), some (vi 16)]) (by decide +kernel) rfl (by decide) (by decide) rfl rfl ?_
    refine g_goto (off := (-21)) (tgt := 12) (by decide +kernel) (by decide) ?_
    refine g_iload_n (q := 1) (i := 1) (by decide +kernel) rfl rfl ?_
    refine g_bipush (n := 20) (v := 20) (by decide +kernel) (by decide) ?_
    refine g_icmp_ge (off := 21) (tgt := 36) (by decide +kernel) (by decide) (fun c => absurd c (by decide)) (fun c => ?_)
    refine g_aload_n (q := 0) (i := 0) (by decide +kernel) rfl rfl ?_
    refine g_get (C := "ThreePointsModel") (T := xT_Model) (N := 39) (ci := 10) (k := 6) (v := vr 34 0) (by decide +kernel) (by decide) rfl rfl xi_Model (by decide) kw_1032 rfl ?_
    refine g_iload_n (q := 1) (i := 1) (by decide +kernel) rfl rfl ?_
    refine g_aload_n (q := 0) (i := 0) (by decide +kernel) rfl rfl ?_
    refine g_get (C := "ThreePointsModel") (T := xT_Model) (N := 39) (ci := 10) (k := 14) (v := vr 38 0) (by decide +kernel) (by decide) rfl rfl xi_Model (by decide) kw_1040 rfl ?_
    refine g_iload_n (q := 1) (i := 1) (by decide +kernel) rfl rfl ?_
    refine g_heap (fun H16 eH16 => ?_)
    replace h := h H16 eH16
    refine g_iald (by decide +kernel) (by decide) rfl (vp_lit (by decide)) ?_
    refine g_topE (y := (H16 38 0 16)) rfl ?_
    refine g_iast (by decide +kernel) (by decide) rfl (vp_lit (by decide)) ?_
    refine g_heapE (H1 := (hu H16 34 0 16 (H16 38 0 16))) rfl ?_
    refine g_iinc (i := 1) (n := 1) (v := 17) (ls2 := [some (vr 30 0), some (vi 17)]) (by decide +kernel) rfl (by decide) (by decide) rfl rfl ?_
    refine g_goto (off := (-21)) (tgt := 12) (by decide +kernel) (by decide) ?_
    refine g_iload_n (q := 1) (i := 1) (by decide +kernel) rfl rfl ?_
    refine g_bipush (n := 20) (v := 20) (by decide +kernel) (by decide) ?_
    refine g_icmp_ge (off := 21) (tgt := 36) (by decide +kernel) (by decide) (fun c => absurd c (by decide)) (fun c => ?_)
    refine g_aload_n (q := 0) (i := 0) (by decide +kernel) rfl rfl ?_
    refine g_get (C := "ThreePointsModel") (T := xT_Model) (N := 39) (ci := 10) (k := 6) (v := vr 34 0) (by decide +kernel) (by decide) rfl rfl xi_Model (by decide) kw_1032 rfl ?_
    refine g_iload_n (q := 1) (i := 1) (by decide +kernel) rfl rfl ?_
    refine g_aload_n (q := 0) (i := 0) (by decide +kernel) rfl rfl ?_
    refine g_get (C := "ThreePointsModel") (T := xT_Model) (N := 39) (ci := 10) (k := 14) (v := vr 38 0) (by decide +kernel) (by decide) rfl rfl xi_Model (by decide) kw_1040 rfl ?_
    refine g_iload_n (q := 1) (i := 1) (by decide +kernel) rfl rfl ?_
    refine g_heap (fun H17 eH17 => ?_)
    replace h := h H17 eH17
    refine g_iald (by decide +kernel) (by decide) rfl (vp_lit (by decide)) ?_
    refine g_topE (y := (H17 38 0 17)) rfl ?_
    refine g_iast (by decide +kernel) (by decide) rfl (vp_lit (by decide)) ?_
    refine g_heapE (H1 := (hu H17 34 0 17 (H17 38 0 17))) rfl ?_
    refine g_iinc (i := 1) (n := 1) (v := 18) (ls2 := [some (vr 30 0), some (vi 18)]) (by decide +kernel) rfl (by decide) (by decide) rfl rfl ?_
    refine g_goto (off := (-21)) (tgt := 12) (by decide +kernel) (by decide) ?_
    refine g_iload_n (q := 1) (i := 1) (by decide +kernel) rfl rfl ?_
    refine g_bipush (n := 20) (v := 20) (by decide +kernel) (by decide) ?_
    refine g_icmp_ge (off := 21) (tgt := 36) (by decide +kernel) (by decide) (fun c => absurd c (by decide)) (fun c => ?_)
    refine g_aload_n (q := 0) (i := 0) (by decide +kernel) rfl rfl ?_
    refine g_get (C := "ThreePointsModel") (T := xT_Model) (N := 39) (ci := 10) (k := 6) (v := vr 34 0) (by decide +kernel) (by decide) rfl rfl xi_Model (by decide) kw_1032 rfl ?_
    refine g_iload_n (q := 1) (i := 1) (by decide +kernel) rfl rfl ?_
    refine g_aload_n (q := 0) (i := 0) (by decide +kernel) rfl rfl ?_
    refine g_get (C := "ThreePointsModel") (T := xT_Model) (N := 39) (ci := 10) (k := 14) (v := vr 38 0) (by decide +kernel) (by decide) rfl rfl xi_Model (by decide) kw_1040 rfl ?_
    refine g_iload_n (q := 1) (i := 1) (by decide +kernel) rfl rfl ?_
    refine g_heap (fun H18 eH18 => ?_)
    replace h := h H18 eH18
    refine g_iald (by decide +kernel) (by decide) rfl (vp_lit (by decide)) ?_
    refine g_topE (y := (H18 38 0 18)) rfl ?_
    refine g_iast (by decide +kernel) (by decide) rfl (vp_lit (by decide)) ?_
    refine g_heapE (H1 := (hu H18 34 0 18 (H18 38 0 18))) rfl ?_
    refine g_iinc (i := 1) (n := 1) (v := 19) (ls2 := [some (vr 30 0), some (vi 19)]) (by decide +kernel) rfl (by decide) (by decide) rfl rfl ?_
    refine g_goto (off := (-21)) (tgt := 12) (by decide +kernel) (by decide) ?_
    refine g_iload_n (q := 1) (i := 1) (by decide +kernel) rfl rfl ?_
    refine g_bipush (n := 20) (v := 20) (by decide +kernel) (by decide) ?_
    refine g_icmp_ge (off := 21) (tgt := 36) (by decide +kernel) (by decide) (fun c => absurd c (by decide)) (fun c => ?_)
    refine g_aload_n (q := 0) (i := 0) (by decide +kernel) rfl rfl ?_
    refine g_get (C := "ThreePointsModel") (T := xT_Model) (N := 39) (ci := 10) (k := 6) (v := vr 34 0) (by decide +kernel) (by decide) rfl rfl xi_Model (by decide) kw_1032 rfl ?_
    refine g_iload_n (q := 1) (i := 1) (by decide +kernel) rfl rfl ?_
    refine g_aload_n (q := 0) (i := 0) (by decide +kernel) rfl rfl ?_
    refine g_get (C := "ThreePointsModel") (T := xT_Model) (N := 39) (ci := 10) (k := 14) (v := vr 38 0) (by decide +kernel) (by decide) rfl rfl xi_Model (by decide) kw_1040 rfl ?_
    refine g_iload_n (q := 1) (i := 1) (by decide +kernel) rfl rfl ?_
    refine g_heap (fun H19 eH19 => ?_)
    replace h := h H19 eH19
    refine g_iald (by decide +kernel) (by decide) rfl (vp_lit (by decide)) ?_
    refine g_topE (y := (H19 38 0 19)) rfl ?_
    refine g_iast (by decide +kernel) (by decide) rfl (vp_lit (by decide)) ?_
    refine g_heapE (H1 := (hu H19 34 0 19 (H19 38 0 19))) rfl ?_
    refine g_iinc (i := 1) (n := 1) (v := 20) (ls2 := [some (vr 30 0), some (vi 20)]) (by decide +kernel) rfl (by decide) (by decide) rfl rfl ?_
    refine g_goto (off := (-21)) (tgt := 12) (by decide +kernel) (by decide) ?_
    refine g_iload_n (q := 1) (i := 1) (by decide +kernel) rfl rfl ?_
    refine g_bipush (n := 20) (v := 20) (by decide +kernel) (by decide) ?_
    refine g_icmp_ge (off := 21) (tgt := 36) (by decide +kernel) (by decide) (fun c => ?_) (fun c => absurd c (by decide))
    refine g_aload_n (q := 0) (i := 0) (by decide +kernel) rfl rfl ?_
    refine g_aload_n (q := 0) (i := 0) (by decide +kernel) rfl rfl ?_
    refine g_get (C := "ThreePointsModel") (T := xT_Model) (N := 39) (ci := 10) (k := 15) (v := vr 39 0) (by decide +kernel) (by decide) rfl rfl xi_Model (by decide) kw_1041 rfl ?_
    refine g_iconst (n := 0) (v := 0) (by decide +kernel) (by decide) ?_
    refine g_heap (fun H20 eH20 => ?_)
    replace h := h H20 eH20
    refine g_iald (by decide +kernel) (by decide) rfl (vp_lit (by decide)) ?_
    refine g_topE (y := (H20 39 0 0)) rfl ?_
    refine g_put (C := "ThreePointsModel") (T := xT_Model) (N := 39) (ci := 10) (k := 3) xy_Model (by decide +kernel) (by decide) rfl rfl xi_Model xy_Model_ok xn_Model (by decide) kw_1029 rfl (by decide +kernel) (fun _ => rfl) ?_
    refine g_aload_n (q := 0) (i := 0) (by decide +kernel) rfl rfl ?_
    refine g_aload_n (q := 0) (i := 0) (by decide +kernel) rfl rfl ?_
    refine g_get (C := "ThreePointsModel") (T := xT_Model) (N := 39) (ci := 10) (k := 15) (v := vr 39 0) (by decide +kernel) (by decide) rfl rfl xi_Model (by decide) kw_1041 rfl ?_
    refine g_iconst (n := 1) (v := 1) (by decide +kernel) (by decide) ?_
    refine g_heap (fun H21 eH21 => ?_)
    replace h := h H21 eH21
    refine g_iald (by decide +kernel) (by decide) rfl (vp_lit (by decide)) ?_
    refine g_topE (y := (H21 39 0 1)) rfl ?_
    refine g_put (C := "ThreePointsModel") (T := xT_Model) (N := 39) (ci := 10) (k := 1) xy_Model (by decide +kernel) (by decide) rfl rfl xi_Model xy_Model_ok xn_Model (by decide) kw_1027 rfl (by decide +kernel) (fun _ => rfl) ?_
    refine g_aload_n (q := 0) (i := 0) (by decide +kernel) rfl rfl ?_
    refine g_aload_n (q := 0) (i := 0) (by decide +kernel) rfl rfl ?_
    refine g_get (C := "ThreePointsModel") (T := xT_Model) (N := 39) (ci := 10) (k := 15) (v := vr 39 0) (by decide +kernel) (by decide) rfl rfl xi_Model (by decide) kw_1041 rfl ?_
    refine g_iconst (n := 2) (v := 2) (by decide +kernel) (by decide) ?_
    refine g_heap (fun H22 eH22 => ?_)
    replace h := h H22 eH22
    refine g_iald (by decide +kernel) (by decide) rfl (vp_lit (by decide)) ?_
    refine g_topE (y := (H22 39 0 2)) rfl ?_
    refine g_put (C := "ThreePointsModel") (T := xT_Model) (N := 39) (ci := 10) (k := 2) xy_Model (by decide +kernel) (by decide) rfl rfl xi_Model xy_Model_ok xn_Model (by decide) kw_1028 rfl (by decide +kernel) (fun _ => rfl) ?_
    refine g_aload_n (q := 0) (i := 0) (by decide +kernel) rfl rfl ?_
    refine g_aload_n (q := 0) (i := 0) (by decide +kernel) rfl rfl ?_
    refine g_get (C := "ThreePointsModel") (T := xT_Model) (N := 39) (ci := 10) (k := 15) (v := vr 39 0) (by decide +kernel) (by decide) rfl rfl xi_Model (by decide) kw_1041 rfl ?_
    refine g_iconst (n := 3) (v := 3) (by decide +kernel) (by decide) ?_
    refine g_heap (fun H23 eH23 => ?_)
    replace h := h H23 eH23
    refine g_iald (by decide +kernel) (by decide) rfl (vp_lit (by decide)) ?_
    refine g_topE (y := (H23 39 0 3)) rfl ?_
    refine g_put (C := "ThreePointsModel") (T := xT_Model) (N := 39) (ci := 10) (k := 12) xy_Model (by decide +kernel) (by decide) rfl rfl xi_Model xy_Model_ok xn_Model (by decide) kw_1038 rfl (by decide +kernel) (fun _ => rfl) ?_
    refine g_aload_n (q := 0) (i := 0) (by decide +kernel) rfl rfl ?_
    refine g_heap (fun H24 eH24 => ?_)
    replace h := h H24 eH24
    refine g_get (C := "ThreePointsModel") (T := xT_Model) (N := 39) (ci := 10) (k := 3) (v := vi (H24 30 0 3)) (by decide +kernel) (by decide) rfl rfl xi_Model (by decide) kw_1029 rfl ?_
    exact g_iret (by decide +kernel) rfl ⟨_, rfl, h⟩
  · replace h := h.2 c
    refine g_bipush (n := (-3)) (v := (-3)) (by decide +kernel) (by decide) ?_
    exact g_iret (by decide +kernel) rfl ⟨_, rfl, h⟩
def p_Model_sheet (E : XE) (d : Nat) (x1 : Int32) (x2 : Int32) (x3 : Int32) (H : HH) (Q : Int32 → HH → Prop) : Prop := c_Model_in E d x1 0 3 H (fun r2 H1 => (r2 = 0 → (Q (-2) H1)) ∧ (¬ r2 = 0 → (c_Model_in E d x2 (-1) 2 H1 (fun r4 H3 => (r4 = 0 → (Q (-2) H3)) ∧ (¬ r4 = 0 → ((x2 = (-1) → ((x2 = (-1) → (vp_in x1 4 ∧ (vp_in x1 4 ∧ (∀ H6 : HH, H6 = (hu (hu H3 40 0 (x1.toNatClampNeg) x2) 41 0 (x1.toNatClampNeg) (if x2 = (-1) then 0 else x3 : Int32)) → (∃ (I7 : Int32 → HH → Prop) (μ7 : Int32 → HH → Nat), I7 0 H6 ∧ ∀ (z8 : Int32) (H9 : HH), I7 z8 H9 → ((40 ≤ z8 → (Q 1 H9)) ∧ (¬ 40 ≤ z8 → (vp_in ((40 * x1) + z8) 160 ∧ (∀ H10 : HH, H10 = (hu H9 42 0 (((40 * x1) + z8).toNatClampNeg) 0) → (I7 (z8 + 1) H10 ∧ μ7 (z8 + 1) H10 < μ7 z8 H9)))))))))) ∧ (¬ x2 = (-1) → ((0 ≤ x3 → (vp_in x1 4 ∧ (vp_in x1 4 ∧ (∀ H12 : HH, H12 = (hu (hu H3 40 0 (x1.toNatClampNeg) x2) 41 0 (x1.toNatClampNeg) (if x2 = (-1) then 0 else x3 : Int32)) → (∃ (I13 : Int32 → HH → Prop) (μ13 : Int32 → HH → Nat), I13 0 H12 ∧ ∀ (z14 : Int32) (H15 : HH), I13 z14 H15 → ((40 ≤ z14 → (Q 1 H15)) ∧ (¬ 40 ≤ z14 → (vp_in ((40 * x1) + z14) 160 ∧ (∀ H16 : HH, H16 = (hu H15 42 0 (((40 * x1) + z14).toNatClampNeg) 0) → (I13 (z14 + 1) H16 ∧ μ13 (z14 + 1) H16 < μ13 z14 H15)))))))))) ∧ (¬ 0 ≤ x3 → (Q (-14) H3)))))) ∧ (¬ x2 = (-1) → ((x3 ≤ 40 → ((x2 = (-1) → (vp_in x1 4 ∧ (vp_in x1 4 ∧ (∀ H18 : HH, H18 = (hu (hu H3 40 0 (x1.toNatClampNeg) x2) 41 0 (x1.toNatClampNeg) (if x2 = (-1) then 0 else x3 : Int32)) → (∃ (I19 : Int32 → HH → Prop) (μ19 : Int32 → HH → Nat), I19 0 H18 ∧ ∀ (z20 : Int32) (H21 : HH), I19 z20 H21 → ((40 ≤ z20 → (Q 1 H21)) ∧ (¬ 40 ≤ z20 → (vp_in ((40 * x1) + z20) 160 ∧ (∀ H22 : HH, H22 = (hu H21 42 0 (((40 * x1) + z20).toNatClampNeg) 0) → (I19 (z20 + 1) H22 ∧ μ19 (z20 + 1) H22 < μ19 z20 H21)))))))))) ∧ (¬ x2 = (-1) → ((0 ≤ x3 → (vp_in x1 4 ∧ (vp_in x1 4 ∧ (∀ H24 : HH, H24 = (hu (hu H3 40 0 (x1.toNatClampNeg) x2) 41 0 (x1.toNatClampNeg) (if x2 = (-1) then 0 else x3 : Int32)) → (∃ (I25 : Int32 → HH → Prop) (μ25 : Int32 → HH → Nat), I25 0 H24 ∧ ∀ (z26 : Int32) (H27 : HH), I25 z26 H27 → ((40 ≤ z26 → (Q 1 H27)) ∧ (¬ 40 ≤ z26 → (vp_in ((40 * x1) + z26) 160 ∧ (∀ H28 : HH, H28 = (hu H27 42 0 (((40 * x1) + z26).toNatClampNeg) 0) → (I25 (z26 + 1) H28 ∧ μ25 (z26 + 1) H28 < μ25 z26 H27)))))))))) ∧ (¬ 0 ≤ x3 → (Q (-14) H3)))))) ∧ (¬ x3 ≤ 40 → (Q (-2) H3))))))))))
set_option maxHeartbeats 4000000 in
theorem l_Model_sheet {E : XE} {d : Nat} {x1 : Int32} {x2 : Int32} {x3 : Int32} {H : HH} {Q : Int32 → HH → Prop} (h : p_Model_sheet E d x1 x2 x3 H Q) : c_Model_sheet E (d + 1) x1 x2 x3 H Q := by
  show g_Model_sheet E (d + 1) 0 (xent [vr 30 0, vi x1, vi x2, vi x3]) [] H (qi Q)
  refine g_drop (ls2 := [some (vr 30 0), some (vi x1), some (vi x2), some (vi x3), none]) (And.intro rfl (And.intro rfl (And.intro rfl (And.intro rfl trivial)))) ?_
  refine g_iload_n (q := 1) (i := 1) (by decide +kernel) rfl rfl ?_
  refine g_iconst (n := 0) (v := 0) (by decide +kernel) (by decide) ?_
  refine g_iconst (n := 3) (v := 3) (by decide +kernel) (by decide) ?_
  refine g_callS (vs := [vi x1, vi 0, vi 3]) (st := []) (by decide +kernel) xm_Model_in kw_987 kw_988 rfl rfl (Nat.le_of_ble_eq_true rfl) (Nat.le_of_ble_eq_true rfl) h (fun vH1 H1 hq => ?_)
  obtain ⟨r2, rfl, h⟩ := hq
  refine g_if_eq (off := 23) (tgt := 29) (by decide +kernel) (by decide) (fun c => ?_) (fun c => ?_)
  · replace h := h.1 c
    refine g_bipush (n := (-2)) (v := (-2)) (by decide +kernel) (by decide) ?_
    exact g_iret (by decide +kernel) rfl ⟨_, rfl, h⟩
  · replace h := h.2 c
    refine g_iload_n (q := 2) (i := 2) (by decide +kernel) rfl rfl ?_
    refine g_iconst (n := (-1)) (v := (-1)) (by decide +kernel) (by decide) ?_
    refine g_iconst (n := 2) (v := 2) (by decide +kernel) (by decide) ?_
    refine g_callS (vs := [vi x2, vi (-1), vi 2]) (st := []) (by decide +kernel) xm_Model_in kw_987 kw_988 rfl rfl (Nat.le_of_ble_eq_true rfl) (Nat.le_of_ble_eq_true rfl) h (fun vH3 H3 hq => ?_)
    obtain ⟨r4, rfl, h⟩ := hq
    refine g_if_eq (off := 14) (tgt := 29) (by decide +kernel) (by decide) (fun c => ?_) (fun c => ?_)
    · replace h := h.1 c
      refine g_bipush (n := (-2)) (v := (-2)) (by decide +kernel) (by decide) ?_
      exact g_iret (by decide +kernel) rfl ⟨_, rfl, h⟩
    · replace h := h.2 c
      refine g_iload_n (q := 2) (i := 2) (by decide +kernel) rfl rfl ?_
      refine g_iconst (n := (-1)) (v := (-1)) (by decide +kernel) (by decide) ?_
      refine g_icmp_eq (off := 12) (tgt := 32) (by decide +kernel) (by decide) (fun c => ?_) (fun c => ?_)
      · replace h := h.1 c
        refine g_iload_n (q := 2) (i := 2) (by decide +kernel) rfl rfl ?_
        refine g_iconst (n := (-1)) (v := (-1)) (by decide +kernel) (by decide) ?_
        refine g_icmp_eq (off := 10) (tgt := 44) (by decide +kernel) (by decide) (fun c => ?_) (fun c => ?_)
        · replace h := h.1 c
          refine g_aload_n (q := 0) (i := 0) (by decide +kernel) rfl rfl ?_
          refine g_get (C := "ThreePointsModel") (T := xT_Model) (N := 39) (ci := 10) (k := 16) (v := vr 40 0) (by decide +kernel) (by decide) rfl rfl xi_Model (by decide) kw_1042 rfl ?_
          refine g_iload_n (q := 1) (i := 1) (by decide +kernel) rfl rfl ?_
          refine g_iload_n (q := 2) (i := 2) (by decide +kernel) rfl rfl ?_
          obtain ⟨hin, h⟩ := h
          refine g_iast (by decide +kernel) (by decide) rfl hin ?_
          refine g_aload_n (q := 0) (i := 0) (by decide +kernel) rfl rfl ?_
          refine g_get (C := "ThreePointsModel") (T := xT_Model) (N := 39) (ci := 10) (k := 17) (v := vr 41 0) (by decide +kernel) (by decide) rfl rfl xi_Model (by decide) kw_1043 rfl ?_
          refine g_iload_n (q := 1) (i := 1) (by decide +kernel) rfl rfl ?_
          refine g_iload_n (q := 2) (i := 2) (by decide +kernel) rfl rfl ?_
          refine g_iconst (n := (-1)) (v := (-1)) (by decide +kernel) (by decide) ?_
          suffices hj5 : g_Model_sheet E (d + 1) 66 [some (vr 30 0), some (vi x1), some (vi x2), some (vi x3), none] [vi (if x2 = (-1) then 0 else x3 : Int32), vi x1, vr 41 0] (hu H3 40 0 (x1.toNatClampNeg) x2) (qi Q) by
            refine g_icmp_ne (off := 7) (tgt := 65) (by decide +kernel) (by decide) (fun c => ?_) (fun c => ?_)
            · rw [if_neg c] at hj5
              refine g_iload_n (q := 3) (i := 3) (by decide +kernel) rfl rfl ?_
              exact hj5
            · rw [if_pos c] at hj5
              refine g_iconst (n := 0) (v := 0) (by decide +kernel) (by decide) ?_
              refine g_goto (off := 4) (tgt := 66) (by decide +kernel) (by decide) ?_
              exact hj5
          obtain ⟨hin, h⟩ := h
          refine g_iast (by decide +kernel) (by decide) rfl hin ?_
          refine g_iconst (n := 0) (v := 0) (by decide +kernel) (by decide) ?_
          refine g_istore (i := 4) (ls2 := [some (vr 30 0), some (vi x1), some (vi x2), some (vi x3), some (vi 0)]) (by decide +kernel) (by decide) rfl rfl ?_
          refine g_heap (fun H6 eH6 => ?_)
          replace h := h H6 eH6
          refine g_drop (ls2 := [some (vr 30 0), some (vi x1), none, none, some (vi 0)]) (And.intro rfl (And.intro rfl (And.intro rfl trivial))) ?_
          obtain ⟨I7, μ7, h0, h⟩ := h
          refine xloop (σ := Int32) (fun s H => I7 s H) (fun s H => μ7 s H) (fun s H => g_Model_sheet E (d + 1) 70 [some (vr 30 0), some (vi x1), none, none, some (vi s)] [] H (qi Q)) (fun s H9 hI ih7 => ?_) 0 H6 h0
          obtain ⟨z8, es⟩ : ∃ z, z = s := ⟨s, rfl⟩
          subst es
          replace h := h z8 H9 hI
          refine g_iload (i := 4) (by decide +kernel) rfl ?_
          refine g_bipush (n := 40) (v := 40) (by decide +kernel) (by decide) ?_
          refine g_icmp_ge (off := 22) (tgt := 96) (by decide +kernel) (by decide) (fun c => ?_) (fun c => ?_)
          · replace h := h.1 c
            refine g_iconst (n := 1) (v := 1) (by decide +kernel) (by decide) ?_
            exact g_iret (by decide +kernel) rfl ⟨_, rfl, h⟩
          · replace h := h.2 c
            refine g_aload_n (q := 0) (i := 0) (by decide +kernel) rfl rfl ?_
            refine g_get (C := "ThreePointsModel") (T := xT_Model) (N := 39) (ci := 10) (k := 18) (v := vr 42 0) (by decide +kernel) (by decide) rfl rfl xi_Model (by decide) kw_1044 rfl ?_
            refine g_bipush (n := 40) (v := 40) (by decide +kernel) (by decide) ?_
            refine g_iload_n (q := 1) (i := 1) (by decide +kernel) rfl rfl ?_
            refine g_imul (by decide +kernel) ?_
            refine g_iload (i := 4) (by decide +kernel) rfl ?_
            refine g_iadd (by decide +kernel) ?_
            refine g_iconst (n := 0) (v := 0) (by decide +kernel) (by decide) ?_
            obtain ⟨hin, h⟩ := h
            refine g_iast (by decide +kernel) (by decide) rfl hin ?_
            refine g_iinc (i := 4) (n := 1) (v := (z8 + 1)) (ls2 := [some (vr 30 0), some (vi x1), none, none, some (vi (z8 + 1))]) (by decide +kernel) rfl rfl (by decide) rfl rfl ?_
            refine g_goto (off := (-23)) (tgt := 70) (by decide +kernel) (by decide) ?_
            refine g_heap (fun H10 eH10 => ?_)
            replace h := h H10 eH10
            obtain ⟨hI, hlt⟩ := h
            exact g_drop (ls2 := [some (vr 30 0), some (vi x1), none, none, some (vi (z8 + 1))]) (And.intro rfl (And.intro rfl (And.intro rfl trivial))) (ih7 (z8 + 1) H10 hI hlt)
        · replace h := h.2 c
          refine g_iload_n (q := 3) (i := 3) (by decide +kernel) rfl rfl ?_
          refine g_if_ge (off := 6) (tgt := 44) (by decide +kernel) (by decide) (fun c => ?_) (fun c => ?_)
          · replace h := h.1 c
            refine g_aload_n (q := 0) (i := 0) (by decide +kernel) rfl rfl ?_
            refine g_get (C := "ThreePointsModel") (T := xT_Model) (N := 39) (ci := 10) (k := 16) (v := vr 40 0) (by decide +kernel) (by decide) rfl rfl xi_Model (by decide) kw_1042 rfl ?_
            refine g_iload_n (q := 1) (i := 1) (by decide +kernel) rfl rfl ?_
            refine g_iload_n (q := 2) (i := 2) (by decide +kernel) rfl rfl ?_
            obtain ⟨hin, h⟩ := h
            refine g_iast (by decide +kernel) (by decide) rfl hin ?_
            refine g_aload_n (q := 0) (i := 0) (by decide +kernel) rfl rfl ?_
            refine g_get (C := "ThreePointsModel") (T := xT_Model) (N := 39) (ci := 10) (k := 17) (v := vr 41 0) (by decide +kernel) (by decide) rfl rfl xi_Model (by decide) kw_1043 rfl ?_
            refine g_iload_n (q := 1) (i := 1) (by decide +kernel) rfl rfl ?_
            refine g_iload_n (q := 2) (i := 2) (by decide +kernel) rfl rfl ?_
            refine g_iconst (n := (-1)) (v := (-1)) (by decide +kernel) (by decide) ?_
            suffices hj11 : g_Model_sheet E (d + 1) 66 [some (vr 30 0), some (vi x1), some (vi x2), some (vi x3), none] [vi (if x2 = (-1) then 0 else x3 : Int32), vi x1, vr 41 0] (hu H3 40 0 (x1.toNatClampNeg) x2) (qi Q) by
              refine g_icmp_ne (off := 7) (tgt := 65) (by decide +kernel) (by decide) (fun c => ?_) (fun c => ?_)
              · rw [if_neg c] at hj11
                refine g_iload_n (q := 3) (i := 3) (by decide +kernel) rfl rfl ?_
                exact hj11
              · rw [if_pos c] at hj11
                refine g_iconst (n := 0) (v := 0) (by decide +kernel) (by decide) ?_
                refine g_goto (off := 4) (tgt := 66) (by decide +kernel) (by decide) ?_
                exact hj11
            obtain ⟨hin, h⟩ := h
            refine g_iast (by decide +kernel) (by decide) rfl hin ?_
            refine g_iconst (n := 0) (v := 0) (by decide +kernel) (by decide) ?_
            refine g_istore (i := 4) (ls2 := [some (vr 30 0), some (vi x1), some (vi x2), some (vi x3), some (vi 0)]) (by decide +kernel) (by decide) rfl rfl ?_
            refine g_heap (fun H12 eH12 => ?_)
            replace h := h H12 eH12
            refine g_drop (ls2 := [some (vr 30 0), some (vi x1), none, none, some (vi 0)]) (And.intro rfl (And.intro rfl (And.intro rfl trivial))) ?_
            obtain ⟨I13, μ13, h0, h⟩ := h
            refine xloop (σ := Int32) (fun s H => I13 s H) (fun s H => μ13 s H) (fun s H => g_Model_sheet E (d + 1) 70 [some (vr 30 0), some (vi x1), none, none, some (vi s)] [] H (qi Q)) (fun s H15 hI ih13 => ?_) 0 H12 h0
            obtain ⟨z14, es⟩ : ∃ z, z = s := ⟨s, rfl⟩
            subst es
            replace h := h z14 H15 hI
            refine g_iload (i := 4) (by decide +kernel) rfl ?_
            refine g_bipush (n := 40) (v := 40) (by decide +kernel) (by decide) ?_
            refine g_icmp_ge (off := 22) (tgt := 96) (by decide +kernel) (by decide) (fun c => ?_) (fun c => ?_)
            · replace h := h.1 c
              refine g_iconst (n := 1) (v := 1) (by decide +kernel) (by decide) ?_
              exact g_iret (by decide +kernel) rfl ⟨_, rfl, h⟩
            · replace h := h.2 c
              refine g_aload_n (q := 0) (i := 0) (by decide +kernel) rfl rfl ?_
              refine g_get (C := "ThreePointsModel") (T := xT_Model) (N := 39) (ci := 10) (k := 18) (v := vr 42 0) (by decide +kernel) (by decide) rfl rfl xi_Model (by decide) kw_1044 rfl ?_
              refine g_bipush (n := 40) (v := 40) (by decide +kernel) (by decide) ?_
              refine g_iload_n (q := 1) (i := 1) (by decide +kernel) rfl rfl ?_
              refine g_imul (by decide +kernel) ?_
              refine g_iload (i := 4) (by decide +kernel) rfl ?_
              refine g_iadd (by decide +kernel) ?_
              refine g_iconst (n := 0) (v := 0) (by decide +kernel) (by decide) ?_
              obtain ⟨hin, h⟩ := h
              refine g_iast (by decide +kernel) (by decide) rfl hin ?_
              refine g_iinc (i := 4) (n := 1) (v := (z14 + 1)) (ls2 := [some (vr 30 0), some (vi x1), none, none, some (vi (z14 + 1))]) (by decide +kernel) rfl rfl (by decide) rfl rfl ?_
              refine g_goto (off := (-23)) (tgt := 70) (by decide +kernel) (by decide) ?_
              refine g_heap (fun H16 eH16 => ?_)
              replace h := h H16 eH16
              obtain ⟨hI, hlt⟩ := h
              exact g_drop (ls2 := [some (vr 30 0), some (vi x1), none, none, some (vi (z14 + 1))]) (And.intro rfl (And.intro rfl (And.intro rfl trivial))) (ih13 (z14 + 1) H16 hI hlt)
          · replace h := h.2 c
            refine g_bipush (n := (-14)) (v := (-14)) (by decide +kernel) (by decide) ?_
            exact g_iret (by decide +kernel) rfl ⟨_, rfl, h⟩
      · replace h := h.2 c
        refine g_iload_n (q := 3) (i := 3) (by decide +kernel) rfl rfl ?_
        refine g_bipush (n := 40) (v := 40) (by decide +kernel) (by decide) ?_
        refine g_icmp_le (off := 6) (tgt := 32) (by decide +kernel) (by decide) (fun c => ?_) (fun c => ?_)
        · replace h := h.1 c
          refine g_iload_n (q := 2) (i := 2) (by decide +kernel) rfl rfl ?_
          refine g_iconst (n := (-1)) (v := (-1)) (by decide +kernel) (by decide) ?_
          refine g_icmp_eq (off := 10) (tgt := 44) (by decide +kernel) (by decide) (fun c => ?_) (fun c => ?_)
          · replace h := h.1 c
            refine g_aload_n (q := 0) (i := 0) (by decide +kernel) rfl rfl ?_
            refine g_get (C := "ThreePointsModel") (T := xT_Model) (N := 39) (ci := 10) (k := 16) (v := vr 40 0) (by decide +kernel) (by decide) rfl rfl xi_Model (by decide) kw_1042 rfl ?_
            refine g_iload_n (q := 1) (i := 1) (by decide +kernel) rfl rfl ?_
            refine g_iload_n (q := 2) (i := 2) (by decide +kernel) rfl rfl ?_
            obtain ⟨hin, h⟩ := h
            refine g_iast (by decide +kernel) (by decide) rfl hin ?_
            refine g_aload_n (q := 0) (i := 0) (by decide +kernel) rfl rfl ?_
            refine g_get (C := "ThreePointsModel") (T := xT_Model) (N := 39) (ci := 10) (k := 17) (v := vr 41 0) (by decide +kernel) (by decide) rfl rfl xi_Model (by decide) kw_1043 rfl ?_
            refine g_iload_n (q := 1) (i := 1) (by decide +kernel) rfl rfl ?_
            refine g_iload_n (q := 2) (i := 2) (by decide +kernel) rfl rfl ?_
            refine g_iconst (n := (-1)) (v := (-1)) (by decide +kernel) (by decide) ?_
            suffices hj17 : g_Model_sheet E (d + 1) 66 [some (vr 30 0), some (vi x1), some (vi x2), some (vi x3), none] [vi (if x2 = (-1) then 0 else x3 : Int32), vi x1, vr 41 0] (hu H3 40 0 (x1.toNatClampNeg) x2) (qi Q) by
              refine g_icmp_ne (off := 7) (tgt := 65) (by decide +kernel) (by decide) (fun c => ?_) (fun c => ?_)
              · rw [if_neg c] at hj17
                refine g_iload_n (q := 3) (i := 3) (by decide +kernel) rfl rfl ?_
                exact hj17
              · rw [if_pos c] at hj17
                refine g_iconst (n := 0) (v := 0) (by decide +kernel) (by decide) ?_
                refine g_goto (off := 4) (tgt := 66) (by decide +kernel) (by decide) ?_
                exact hj17
            obtain ⟨hin, h⟩ := h
            refine g_iast (by decide +kernel) (by decide) rfl hin ?_
            refine g_iconst (n := 0) (v := 0) (by decide +kernel) (by decide) ?_
            refine g_istore (i := 4) (ls2 := [some (vr 30 0), some (vi x1), some (vi x2), some (vi x3), some (vi 0)]) (by decide +kernel) (by decide) rfl rfl ?_
            refine g_heap (fun H18 eH18 => ?_)
            replace h := h H18 eH18
            refine g_drop (ls2 := [some (vr 30 0), some (vi x1), none, none, some (vi 0)]) (And.intro rfl (And.intro rfl (And.intro rfl trivial))) ?_
            obtain ⟨I19, μ19, h0, h⟩ := h
            refine xloop (σ := Int32) (fun s H => I19 s H) (fun s H => μ19 s H) (fun s H => g_Model_sheet E (d + 1) 70 [some (vr 30 0), some (vi x1), none, none, some (vi s)] [] H (qi Q)) (fun s H21 hI ih19 => ?_) 0 H18 h0
            obtain ⟨z20, es⟩ : ∃ z, z = s := ⟨s, rfl⟩
            subst es
            replace h := h z20 H21 hI
            refine g_iload (i := 4) (by decide +kernel) rfl ?_
            refine g_bipush (n := 40) (v := 40) (by decide +kernel) (by decide) ?_
            refine g_icmp_ge (off := 22) (tgt := 96) (by decide +kernel) (by decide) (fun c => ?_) (fun c => ?_)
            · replace h := h.1 c
              refine g_iconst (n := 1) (v := 1) (by decide +kernel) (by decide) ?_
              exact g_iret (by decide +kernel) rfl ⟨_, rfl, h⟩
            · replace h := h.2 c
              refine g_aload_n (q := 0) (i := 0) (by decide +kernel) rfl rfl ?_
              refine g_get (C := "ThreePointsModel") (T := xT_Model) (N := 39) (ci := 10) (k := 18) (v := vr 42 0) (by decide +kernel) (by decide) rfl rfl xi_Model (by decide) kw_1044 rfl ?_
              refine g_bipush (n := 40) (v := 40) (by decide +kernel) (by decide) ?_
              refine g_iload_n (q := 1) (i := 1) (by decide +kernel) rfl rfl ?_
              refine g_imul (by decide +kernel) ?_
              refine g_iload (i := 4) (by decide +kernel) rfl ?_
              refine g_iadd (by decide +kernel) ?_
              refine g_iconst (n := 0) (v := 0) (by decide +kernel) (by decide) ?_
              obtain ⟨hin, h⟩ := h
              refine g_iast (by decide +kernel) (by decide) rfl hin ?_
              refine g_iinc (i := 4) (n := 1) (v := (z20 + 1)) (ls2 := [some (vr 30 0), some (vi x1), none, none, some (vi (z20 + 1))]) (by decide +kernel) rfl rfl (by decide) rfl rfl ?_
              refine g_goto (off := (-23)) (tgt := 70) (by decide +kernel) (by decide) ?_
              refine g_heap (fun H22 eH22 => ?_)
              replace h := h H22 eH22
              obtain ⟨hI, hlt⟩ := h
              exact g_drop (ls2 := [some (vr 30 0), some (vi x1), none, none, some (vi (z20 + 1))]) (And.intro rfl (And.intro rfl (And.intro rfl trivial))) (ih19 (z20 + 1) H22 hI hlt)
          · replace h := h.2 c
            refine g_iload_n (q := 3) (i := 3) (by decide +kernel) rfl rfl ?_
            refine g_if_ge (off := 6) (tgt := 44) (by decide +kernel) (by decide) (fun c => ?_) (fun c => ?_)
            · replace h := h.1 c
              refine g_aload_n (q := 0) (i := 0) (by decide +kernel) rfl rfl ?_
              refine g_get (C := "ThreePointsModel") (T := xT_Model) (N := 39) (ci := 10) (k := 16) (v := vr 40 0) (by decide +kernel) (by decide) rfl rfl xi_Model (by decide) kw_1042 rfl ?_
              refine g_iload_n (q := 1) (i := 1) (by decide +kernel) rfl rfl ?_
              refine g_iload_n (q := 2) (i := 2) (by decide +kernel) rfl rfl ?_
              obtain ⟨hin, h⟩ := h
              refine g_iast (by decide +kernel) (by decide) rfl hin ?_
              refine g_aload_n (q := 0) (i := 0) (by decide +kernel) rfl rfl ?_
              refine g_get (C := "ThreePointsModel") (T := xT_Model) (N := 39) (ci := 10) (k := 17) (v := vr 41 0) (by decide +kernel) (by decide) rfl rfl xi_Model (by decide) kw_1043 rfl ?_
              refine g_iload_n (q := 1) (i := 1) (by decide +kernel) rfl rfl ?_
              refine g_iload_n (q := 2) (i := 2) (by decide +kernel) rfl rfl ?_
              refine g_iconst (n := (-1)) (v := (-1)) (by decide +kernel) (by decide) ?_
              suffices hj23 : g_Model_sheet E (d + 1) 66 [some (vr 30 0), some (vi x1), some (vi x2), some (vi x3), none] [vi (if x2 = (-1) then 0 else x3 : Int32), vi x1, vr 41 0] (hu H3 40 0 (x1.toNatClampNeg) x2) (qi Q) by
                refine g_icmp_ne (off := 7) (tgt := 65) (by decide +kernel) (by decide) (fun c => ?_) (fun c => ?_)
                · rw [if_neg c] at hj23
                  refine g_iload_n (q := 3) (i := 3) (by decide +kernel) rfl rfl ?_
                  exact hj23
                · rw [if_pos c] at hj23
                  refine g_iconst (n := 0) (v := 0) (by decide +kernel) (by decide) ?_
                  refine g_goto (off := 4) (tgt := 66) (by decide +kernel) (by decide) ?_
                  exact hj23
              obtain ⟨hin, h⟩ := h
              refine g_iast (by decide +kernel) (by decide) rfl hin ?_
              refine g_iconst (n := 0) (v := 0) (by decide +kernel) (by decide) ?_
              refine g_istore (i := 4) (ls2 := [some (vr 30 0), some (vi x1), some (vi x2), some (vi x3), some (vi 0)]) (by decide +kernel) (by decide) rfl rfl ?_
              refine g_heap (fun H24 eH24 => ?_)
              replace h := h H24 eH24
              refine g_drop (ls2 := [some (vr 30 0), some (vi x1), none, none, some (vi 0)]) (And.intro rfl (And.intro rfl (And.intro rfl trivial))) ?_
              obtain ⟨I25, μ25, h0, h⟩ := h
              refine xloop (σ := Int32) (fun s H => I25 s H) (fun s H => μ25 s H) (fun s H => g_Model_sheet E (d + 1) 70 [some (vr 30 0), some (vi x1), none, none, some (vi s)] [] H (qi Q)) (fun s H27 hI ih25 => ?_) 0 H24 h0
              obtain ⟨z26, es⟩ : ∃ z, z = s := ⟨s, rfl⟩
              subst es
              replace h := h z26 H27 hI
              refine g_iload (i := 4) (by decide +kernel) rfl ?_
              refine g_bipush (n := 40) (v := 40) (by decide +kernel) (by decide) ?_
              refine g_icmp_ge (off := 22) (tgt := 96) (by decide +kernel) (by decide) (fun c => ?_) (fun c => ?_)
              · replace h := h.1 c
                refine g_iconst (n := 1) (v := 1) (by decide +kernel) (by decide) ?_
                exact g_iret (by decide +kernel) rfl ⟨_, rfl, h⟩
              · replace h := h.2 c
                refine g_aload_n (q := 0) (i := 0) (by decide +kernel) rfl rfl ?_
                refine g_get (C := "ThreePointsModel") (T := xT_Model) (N := 39) (ci := 10) (k := 18) (v := vr 42 0) (by decide +kernel) (by decide) rfl rfl xi_Model (by decide) kw_1044 rfl ?_
                refine g_bipush (n := 40) (v := 40) (by decide +kernel) (by decide) ?_
                refine g_iload_n (q := 1) (i := 1) (by decide +kernel) rfl rfl ?_
                refine g_imul (by decide +kernel) ?_
                refine g_iload (i := 4) (by decide +kernel) rfl ?_
                refine g_iadd (by decide +kernel) ?_
                refine g_iconst (n := 0) (v := 0) (by decide +kernel) (by decide) ?_
                obtain ⟨hin, h⟩ := h
                refine g_iast (by decide +kernel) (by decide) rfl hin ?_
                refine g_iinc (i := 4) (n := 1) (v := (z26 + 1)) (ls2 := [some (vr 30 0), some (vi x1), none, none, some (vi (z26 + 1))]) (by decide +kernel) rfl rfl (by decide) rfl rfl ?_
                refine g_goto (off := (-23)) (tgt := 70) (by decide +kernel) (by decide) ?_
                refine g_heap (fun H28 eH28 => ?_)
                replace h := h H28 eH28
                obtain ⟨hI, hlt⟩ := h
                exact g_drop (ls2 := [some (vr 30 0), some (vi x1), none, none, some (vi (z26 + 1))]) (And.intro rfl (And.intro rfl (And.intro rfl trivial))) (ih25 (z26 + 1) H28 hI hlt)
            · replace h := h.2 c
              refine g_bipush (n := (-14)) (v := (-14)) (by decide +kernel) (by decide) ?_
              exact g_iret (by decide +kernel) rfl ⟨_, rfl, h⟩
        · replace h := h.2 c
          refine g_bipush (n := (-2)) (v := (-2)) (by decide +kernel) (by decide) ?_
          exact g_iret (by decide +kernel) rfl ⟨_, rfl, h⟩
def p_Model_cell (E : XE) (d : Nat) (x1 : Int32) (x2 : Int32) (x3 : Int32) (H : HH) (Q : Int32 → HH → Prop) : Prop := c_Model_in E d x1 0 3 H (fun r2 H1 => (¬ r2 = 0 → (vp_in x1 4 ∧ ((¬ (H1 40 0 (x1.toNatClampNeg)) = (-1) → (vp_in x1 4 ∧ (c_Model_in E d x2 0 ((H1 41 0 (x1.toNatClampNeg)) - 1) H1 (fun r4 H3 => (¬ r4 = 0 → (vp_in x1 4 ∧ ((¬ (H3 40 0 (x1.toNatClampNeg)) = 0 → (vp_in x1 4 ∧ ((¬ (H3 40 0 (x1.toNatClampNeg)) = 1 → (vp_in ((40 * x1) + x2) 160 ∧ (∀ H5 : HH, H5 = (hu H3 42 0 (((40 * x1) + x2).toNatClampNeg) x3) → (Q 1 H5)))) ∧ ((H3 40 0 (x1.toNatClampNeg)) = 1 → (vp_in ((40 * x1) + x2) 160 ∧ (∀ H6 : HH, H6 = (hu H3 42 0 (((40 * x1) + x2).toNatClampNeg) (x3.toInt16.toInt32)) → (Q 1 H6))))))) ∧ ((H3 40 0 (x1.toNatClampNeg)) = 0 → (vp_in ((40 * x1) + x2) 160 ∧ (∀ H7 : HH, H7 = (hu H3 42 0 (((40 * x1) + x2).toNatClampNeg) (x3.toInt8.toInt32)) → (Q 1 H7))))))) ∧ (r4 = 0 → (Q (-12) H3)))))) ∧ ((H1 40 0 (x1.toNatClampNeg)) = (-1) → (Q (-11) H1))))) ∧ (r2 = 0 → (Q (-2) H1)))
set_option maxHeartbeats 4000000 in
theorem l_Model_cell {E : XE} {d : Nat} {x1 : Int32} {x2 : Int32} {x3 : Int32} {H : HH} {Q : Int32 → HH → Prop} (h : p_Model_cell E d x1 x2 x3 H Q) : c_Model_cell E (d + 1) x1 x2 x3 H Q := by
  show g_Model_cell E (d + 1) 0 (xent [vr 30 0, vi x1, vi x2, vi x3]) [] H (qi Q)
  refine g_drop (ls2 := [some (vr 30 0), some (vi x1), some (vi x2), some (vi x3)]) (And.intro rfl (And.intro rfl (And.intro rfl (And.intro rfl trivial)))) ?_
  refine g_iload_n (q := 1) (i := 1) (by decide +kernel) rfl rfl ?_
  refine g_iconst (n := 0) (v := 0) (by decide +kernel) (by decide) ?_
  refine g_iconst (n := 3) (v := 3) (by decide +kernel) (by decide) ?_
  refine g_callS (vs := [vi x1, vi 0, vi 3]) (st := []) (by decide +kernel) xm_Model_in kw_987 kw_988 rfl rfl (Nat.le_of_ble_eq_true rfl) (Nat.le_of_ble_eq_true rfl) h (fun vH1 H1 hq => ?_)
  obtain ⟨r2, rfl, h⟩ := hq
  refine g_if_ne (off := 6) (tgt := 12) (by decide +kernel) (by decide) (fun c => ?_) (fun c => ?_)
  · replace h := h.1 c
    refine g_aload_n (q := 0) (i := 0) (by decide +kernel) rfl rfl ?_
    refine g_get (C := "ThreePointsModel") (T := xT_Model) (N := 39) (ci := 10) (k := 16) (v := vr 40 0) (by decide +kernel) (by decide) rfl rfl xi_Model (by decide) kw_1042 rfl ?_
    refine g_iload_n (q := 1) (i := 1) (by decide +kernel) rfl rfl ?_
    obtain ⟨hin, h⟩ := h
    refine g_iald (by decide +kernel) (by decide) rfl hin ?_
    refine g_iconst (n := (-1)) (v := (-1)) (by decide +kernel) (by decide) ?_
    refine g_icmp_ne (off := 6) (tgt := 25) (by decide +kernel) (by decide) (fun c => ?_) (fun c => ?_)
    · replace h := h.1 c
      refine g_iload_n (q := 2) (i := 2) (by decide +kernel) rfl rfl ?_
      refine g_iconst (n := 0) (v := 0) (by decide +kernel) (by decide) ?_
      refine g_aload_n (q := 0) (i := 0) (by decide +kernel) rfl rfl ?_
      refine g_get (C := "ThreePointsModel") (T := xT_Model) (N := 39) (ci := 10) (k := 17) (v := vr 41 0) (by decide +kernel) (by decide) rfl rfl xi_Model (by decide) kw_1043 rfl ?_
      refine g_iload_n (q := 1) (i := 1) (by decide +kernel) rfl rfl ?_
      obtain ⟨hin, h⟩ := h
      refine g_iald (by decide +kernel) (by decide) rfl hin ?_
      refine g_iconst (n := 1) (v := 1) (by decide +kernel) (by decide) ?_
      refine g_isub (by decide +kernel) ?_
      refine g_callS (vs := [vi x2, vi 0, vi ((H1 41 0 (x1.toNatClampNeg)) - 1)]) (st := []) (by decide +kernel) xm_Model_in kw_987 kw_988 rfl rfl (Nat.le_of_ble_eq_true rfl) (Nat.le_of_ble_eq_true rfl) h (fun vH3 H3 hq => ?_)
      obtain ⟨r4, rfl, h⟩ := hq
      refine g_if_ne (off := 6) (tgt := 44) (by decide +kernel) (by decide) (fun c => ?_) (fun c => ?_)
      · replace h := h.1 c
        refine g_aload_n (q := 0) (i := 0) (by decide +kernel) rfl rfl ?_
        refine g_get (C := "ThreePointsModel") (T := xT_Model) (N := 39) (ci := 10) (k := 18) (v := vr 42 0) (by decide +kernel) (by decide) rfl rfl xi_Model (by decide) kw_1044 rfl ?_
        refine g_bipush (n := 40) (v := 40) (by decide +kernel) (by decide) ?_
        refine g_iload_n (q := 1) (i := 1) (by decide +kernel) rfl rfl ?_
        refine g_imul (by decide +kernel) ?_
        refine g_iload_n (q := 2) (i := 2) (by decide +kernel) rfl rfl ?_
        refine g_iadd (by decide +kernel) ?_
        refine g_aload_n (q := 0) (i := 0) (by decide +kernel) rfl rfl ?_
        refine g_get (C := "ThreePointsModel") (T := xT_Model) (N := 39) (ci := 10) (k := 16) (v := vr 40 0) (by decide +kernel) (by decide) rfl rfl xi_Model (by decide) kw_1042 rfl ?_
        refine g_iload_n (q := 1) (i := 1) (by decide +kernel) rfl rfl ?_
        obtain ⟨hin, h⟩ := h
        refine g_iald (by decide +kernel) (by decide) rfl hin ?_
        refine g_if_ne (off := 8) (tgt := 68) (by decide +kernel) (by decide) (fun c => ?_) (fun c => ?_)
        · replace h := h.1 c
          refine g_aload_n (q := 0) (i := 0) (by decide +kernel) rfl rfl ?_
          refine g_get (C := "ThreePointsModel") (T := xT_Model) (N := 39) (ci := 10) (k := 16) (v := vr 40 0) (by decide +kernel) (by decide) rfl rfl xi_Model (by decide) kw_1042 rfl ?_
          refine g_iload_n (q := 1) (i := 1) (by decide +kernel) rfl rfl ?_
          obtain ⟨hin, h⟩ := h
          refine g_iald (by decide +kernel) (by decide) rfl hin ?_
          refine g_iconst (n := 1) (v := 1) (by decide +kernel) (by decide) ?_
          refine g_icmp_ne (off := 8) (tgt := 83) (by decide +kernel) (by decide) (fun c => ?_) (fun c => ?_)
          · replace h := h.1 c
            refine g_iload_n (q := 3) (i := 3) (by decide +kernel) rfl rfl ?_
            obtain ⟨hin, h⟩ := h
            refine g_iast (by decide +kernel) (by decide) rfl hin ?_
            refine g_iconst (n := 1) (v := 1) (by decide +kernel) (by decide) ?_
            refine g_heap (fun H5 eH5 => ?_)
            replace h := h H5 eH5
            exact g_iret (by decide +kernel) rfl ⟨_, rfl, h⟩
          · replace h := h.2 c
            refine g_iload_n (q := 3) (i := 3) (by decide +kernel) rfl rfl ?_
            refine g_i2s (by decide +kernel) ?_
            refine g_goto (off := 4) (tgt := 84) (by decide +kernel) (by decide) ?_
            obtain ⟨hin, h⟩ := h
            refine g_iast (by decide +kernel) (by decide) rfl hin ?_
            refine g_iconst (n := 1) (v := 1) (by decide +kernel) (by decide) ?_
            refine g_heap (fun H6 eH6 => ?_)
            replace h := h H6 eH6
            exact g_iret (by decide +kernel) rfl ⟨_, rfl, h⟩
        · replace h := h.2 c
          refine g_iload_n (q := 3) (i := 3) (by decide +kernel) rfl rfl ?_
          refine g_i2b (by decide +kernel) ?_
          refine g_goto (off := 19) (tgt := 84) (by decide +kernel) (by decide) ?_
          obtain ⟨hin, h⟩ := h
          refine g_iast (by decide +kernel) (by decide) rfl hin ?_
          refine g_iconst (n := 1) (v := 1) (by decide +kernel) (by decide) ?_
          refine g_heap (fun H7 eH7 => ?_)
          replace h := h H7 eH7
          exact g_iret (by decide +kernel) rfl ⟨_, rfl, h⟩
      · replace h := h.2 c
        refine g_bipush (n := (-12)) (v := (-12)) (by decide +kernel) (by decide) ?_
        exact g_iret (by decide +kernel) rfl ⟨_, rfl, h⟩
    · replace h := h.2 c
      refine g_bipush (n := (-11)) (v := (-11)) (by decide +kernel) (by decide) ?_
      exact g_iret (by decide +kernel) rfl ⟨_, rfl, h⟩
  · replace h := h.2 c
    refine g_bipush (n := (-2)) (v := (-2)) (by decide +kernel) (by decide) ?_
    exact g_iret (by decide +kernel) rfl ⟨_, rfl, h⟩
def p_Model_copy (E : XE) (d : Nat) (x1 : Int32) (x2 : Int32) (x3 : Int32) (x4 : Int32) (x5 : Int32) (H : HH) (Q : Int32 → HH → Prop) : Prop := c_Model_in E d x1 0 3 H (fun r2 H1 => (r2 = 0 → (Q (-2) H1)) ∧ (¬ r2 = 0 → (c_Model_in E d x3 0 3 H1 (fun r4 H3 => (¬ r4 = 0 → (vp_in x1 4 ∧ (((H3 40 0 (x1.toNatClampNeg)) = (-1) → (Q (-11) H3)) ∧ (¬ (H3 40 0 (x1.toNatClampNeg)) = (-1) → (vp_in x3 4 ∧ ((¬ (H3 40 0 (x3.toNatClampNeg)) = (-1) → (vp_in x1 4 ∧ (vp_in x3 4 ∧ (((H3 40 0 (x1.toNatClampNeg)) = (H3 40 0 (x3.toNatClampNeg)) → ((x5 < 0 → (Q (-12) H3)) ∧ (¬ x5 < 0 → ((x2 < 0 → (Q (-12) H3)) ∧ (¬ x2 < 0 → ((x4 < 0 → (Q (-12) H3)) ∧ (¬ x4 < 0 → (vp_in x1 4 ∧ (((H3 41 0 (x1.toNatClampNeg)) < x2 → (Q (-12) H3)) ∧ (¬ (H3 41 0 (x1.toNatClampNeg)) < x2 → (vp_in x3 4 ∧ (((H3 41 0 (x3.toNatClampNeg)) < x4 → (Q (-12) H3)) ∧ (¬ (H3 41 0 (x3.toNatClampNeg)) < x4 → (vp_in x1 4 ∧ ((((H3 41 0 (x1.toNatClampNeg)) - x2) < x5 → (Q (-12) H3)) ∧ (¬ ((H3 41 0 (x1.toNatClampNeg)) - x2) < x5 → (vp_in x3 4 ∧ ((x5 ≤ ((H3 41 0 (x3.toNatClampNeg)) - x4) → (∀ v5 : Int32, v5 = ((40 * x1) + x2) → (∀ v6 : Int32, v6 = ((40 * x3) + x4) → (∃ (I7 : Int32 → HH → Prop) (μ7 : Int32 → HH → Nat), I7 0 H3 ∧ ∀ (z8 : Int32) (H9 : HH), I7 z8 H9 → ((x5 ≤ z8 → (Q x5 H9)) ∧ (¬ x5 ≤ z8 → (∀ v11 : Int32, v11 = (if v6 ≤ v5 then z8 else ((x5 - 1) - z8) : Int32) → (vp_in (v5 + v11) 160 ∧ (vp_in (v6 + v11) 160 ∧ (∀ H12 : HH, H12 = (hu H9 42 0 ((v6 + v11).toNatClampNeg) (H9 42 0 ((v5 + v11).toNatClampNeg))) → (I7 (z8 + 1) H12 ∧ μ7 (z8 + 1) H12 < μ7 z8 H9))))))))))) ∧ (¬ x5 ≤ ((H3 41 0 (x3.toNatClampNeg)) - x4) → (Q (-12) H3)))))))))))))))))))) ∧ (¬ (H3 40 0 (x1.toNatClampNeg)) = (H3 40 0 (x3.toNatClampNeg)) → (Q (-13) H3)))))) ∧ ((H3 40 0 (x3.toNatClampNeg)) = (-1) → (Q (-11) H3)))))))) ∧ (r4 = 0 → (Q (-2) H3))))))
set_option maxHeartbeats 4000000 in
theorem l_Model_copy {E : XE} {d : Nat} {x1 : Int32} {x2 : Int32} {x3 : Int32} {x4 : Int32} {x5 : Int32} {H : HH} {Q : Int32 → HH → Prop} (h : p_Model_copy E d x1 x2 x3 x4 x5 H Q) : c_Model_copy E (d + 1) x1 x2 x3 x4 x5 H Q := by
  show g_Model_copy E (d + 1) 0 (xent [vr 30 0, vi x1, vi x2, vi x3, vi x4, vi x5]) [] H (qi Q)
  refine g_drop (ls2 := [some (vr 30 0), some (vi x1), some (vi x2), some (vi x3), some (vi x4), some (vi x5), none, none, none, none]) (And.intro rfl (And.intro rfl (And.intro rfl (And.intro rfl (And.intro rfl (And.intro rfl trivial)))))) ?_
  refine g_iload_n (q := 1) (i := 1) (by decide +kernel) rfl rfl ?_
  refine g_iconst (n := 0) (v := 0) (by decide +kernel) (by decide) ?_
  refine g_iconst (n := 3) (v := 3) (by decide +kernel) (by decide) ?_
  refine g_callS (vs := [vi x1, vi 0, vi 3]) (st := []) (by decide +kernel) xm_Model_in kw_987 kw_988 rfl rfl (Nat.le_of_ble_eq_true rfl) (Nat.le_of_ble_eq_true rfl) h (fun vH1 H1 hq => ?_)
  obtain ⟨r2, rfl, h⟩ := hq
  refine g_if_eq (off := 12) (tgt := 18) (by decide +kernel) (by decide) (fun c => ?_) (fun c => ?_)
  · replace h := h.1 c
    refine g_bipush (n := (-2)) (v := (-2)) (by decide +kernel) (by decide) ?_
    exact g_iret (by decide +kernel) rfl ⟨_, rfl, h⟩
  · replace h := h.2 c
    refine g_iload_n (q := 3) (i := 3) (by decide +kernel) rfl rfl ?_
    refine g_iconst (n := 0) (v := 0) (by decide +kernel) (by decide) ?_
    refine g_iconst (n := 3) (v := 3) (by decide +kernel) (by decide) ?_
    refine g_callS (vs := [vi x3, vi 0, vi 3]) (st := []) (by decide +kernel) xm_Model_in kw_987 kw_988 rfl rfl (Nat.le_of_ble_eq_true rfl) (Nat.le_of_ble_eq_true rfl) h (fun vH3 H3 hq => ?_)
    obtain ⟨r4, rfl, h⟩ := hq
    refine g_if_ne (off := 6) (tgt := 21) (by decide +kernel) (by decide) (fun c => ?_) (fun c => ?_)
    · replace h := h.1 c
      refine g_aload_n (q := 0) (i := 0) (by decide +kernel) rfl rfl ?_
      refine g_get (C := "ThreePointsModel") (T := xT_Model) (N := 39) (ci := 10) (k := 16) (v := vr 40 0) (by decide +kernel) (by decide) rfl rfl xi_Model (by decide) kw_1042 rfl ?_
      refine g_iload_n (q := 1) (i := 1) (by decide +kernel) rfl rfl ?_
      obtain ⟨hin, h⟩ := h
      refine g_iald (by decide +kernel) (by decide) rfl hin ?_
      refine g_iconst (n := (-1)) (v := (-1)) (by decide +kernel) (by decide) ?_
      refine g_icmp_eq (off := 13) (tgt := 41) (by decide +kernel) (by decide) (fun c => ?_) (fun c => ?_)
      · replace h := h.1 c
        refine g_bipush (n := (-11)) (v := (-11)) (by decide +kernel) (by decide) ?_
        exact g_iret (by decide +kernel) rfl ⟨_, rfl, h⟩
      · replace h := h.2 c
        refine g_aload_n (q := 0) (i := 0) (by decide +kernel) rfl rfl ?_
        refine g_get (C := "ThreePointsModel") (T := xT_Model) (N := 39) (ci := 10) (k := 16) (v := vr 40 0) (by decide +kernel) (by decide) rfl rfl xi_Model (by decide) kw_1042 rfl ?_
        refine g_iload_n (q := 3) (i := 3) (by decide +kernel) rfl rfl ?_
        obtain ⟨hin, h⟩ := h
        refine g_iald (by decide +kernel) (by decide) rfl hin ?_
        refine g_iconst (n := (-1)) (v := (-1)) (by decide +kernel) (by decide) ?_
        refine g_icmp_ne (off := 6) (tgt := 44) (by decide +kernel) (by decide) (fun c => ?_) (fun c => ?_)
        · replace h := h.1 c
          refine g_aload_n (q := 0) (i := 0) (by decide +kernel) rfl rfl ?_
          refine g_get (C := "ThreePointsModel") (T := xT_Model) (N := 39) (ci := 10) (k := 16) (v := vr 40 0) (by decide +kernel) (by decide) rfl rfl xi_Model (by decide) kw_1042 rfl ?_
          refine g_iload_n (q := 1) (i := 1) (by decide +kernel) rfl rfl ?_
          obtain ⟨hin, h⟩ := h
          refine g_iald (by decide +kernel) (by decide) rfl hin ?_
          refine g_aload_n (q := 0) (i := 0) (by decide +kernel) rfl rfl ?_
          refine g_get (C := "ThreePointsModel") (T := xT_Model) (N := 39) (ci := 10) (k := 16) (v := vr 40 0) (by decide +kernel) (by decide) rfl rfl xi_Model (by decide) kw_1042 rfl ?_
          refine g_iload_n (q := 3) (i := 3) (by decide +kernel) rfl rfl ?_
          obtain ⟨hin, h⟩ := h
          refine g_iald (by decide +kernel) (by decide) rfl hin ?_
          refine g_icmp_eq (off := 6) (tgt := 62) (by decide +kernel) (by decide) (fun c => ?_) (fun c => ?_)
          · replace h := h.1 c
            refine g_iload (i := 5) (by decide +kernel) rfl ?_
            refine g_if_lt (off := 60) (tgt := 124) (by decide +kernel) (by decide) (fun c => ?_) (fun c => ?_)
            · replace h := h.1 c
              refine g_bipush (n := (-12)) (v := (-12)) (by decide +kernel) (by decide) ?_
              exact g_iret (by decide +kernel) rfl ⟨_, rfl, h⟩
            · replace h := h.2 c
              refine g_iload_n (q := 2) (i := 2) (by decide +kernel) rfl rfl ?_
              refine g_if_lt (off := 56) (tgt := 124) (by decide +kernel) (by decide) (fun c => ?_) (fun c => ?_)
              · replace h := h.1 c
                refine g_bipush (n := (-12)) (v := (-12)) (by decide +kernel) (by decide) ?_
                exact g_iret (by decide +kernel) rfl ⟨_, rfl, h⟩
              · replace h := h.2 c
                refine g_iload (i := 4) (by decide +kernel) rfl ?_
                refine g_if_lt (off := 51) (tgt := 124) (by decide +kernel) (by decide) (fun c => ?_) (fun c => ?_)
                · replace h := h.1 c
                  refine g_bipush (n := (-12)) (v := (-12)) (by decide +kernel) (by decide) ?_
                  exact g_iret (by decide +kernel) rfl ⟨_, rfl, h⟩
                · replace h := h.2 c
                  refine g_iload_n (q := 2) (i := 2) (by decide +kernel) rfl rfl ?_
                  refine g_aload_n (q := 0) (i := 0) (by decide +kernel) rfl rfl ?_
                  refine g_get (C := "ThreePointsModel") (T := xT_Model) (N := 39) (ci := 10) (k := 17) (v := vr 41 0) (by decide +kernel) (by decide) rfl rfl xi_Model (by decide) kw_1043 rfl ?_
                  refine g_iload_n (q := 1) (i := 1) (by decide +kernel) rfl rfl ?_
                  obtain ⟨hin, h⟩ := h
                  refine g_iald (by decide +kernel) (by decide) rfl hin ?_
                  refine g_icmp_gt (off := 41) (tgt := 124) (by decide +kernel) (by decide) (fun c => ?_) (fun c => ?_)
                  · replace h := h.1 c
                    refine g_bipush (n := (-12)) (v := (-12)) (by decide +kernel) (by decide) ?_
                    exact g_iret (by decide +kernel) rfl ⟨_, rfl, h⟩
                  · replace h := h.2 c
                    refine g_iload (i := 4) (by decide +kernel) rfl ?_
                    refine g_aload_n (q := 0) (i := 0) (by decide +kernel) rfl rfl ?_
                    refine g_get (C := "ThreePointsModel") (T := xT_Model) (N := 39) (ci := 10) (k := 17) (v := vr 41 0) (by decide +kernel) (by decide) rfl rfl xi_Model (by decide) kw_1043 rfl ?_
                    refine g_iload_n (q := 3) (i := 3) (by decide +kernel) rfl rfl ?_
                    obtain ⟨hin, h⟩ := h
                    refine g_iald (by decide +kernel) (by decide) rfl hin ?_
                    refine g_icmp_gt (off := 30) (tgt := 124) (by decide +kernel) (by decide) (fun c => ?_) (fun c => ?_)
                    · replace h := h.1 c
                      refine g_bipush (n := (-12)) (v := (-12)) (by decide +kernel) (by decide) ?_
                      exact g_iret (by decide +kernel) rfl ⟨_, rfl, h⟩
                    · replace h := h.2 c
                      refine g_iload (i := 5) (by decide +kernel) rfl ?_
                      refine g_aload_n (q := 0) (i := 0) (by decide +kernel) rfl rfl ?_
                      refine g_get (C := "ThreePointsModel") (T := xT_Model) (N := 39) (ci := 10) (k := 17) (v := vr 41 0) (by decide +kernel) (by decide) rfl rfl xi_Model (by decide) kw_1043 rfl ?_
                      refine g_iload_n (q := 1) (i := 1) (by decide +kernel) rfl rfl ?_
                      obtain ⟨hin, h⟩ := h
                      refine g_iald (by decide +kernel) (by decide) rfl hin ?_
                      refine g_iload_n (q := 2) (i := 2) (by decide +kernel) rfl rfl ?_
                      refine g_isub (by decide +kernel) ?_
                      refine g_icmp_gt (off := 17) (tgt := 124) (by decide +kernel) (by decide) (fun c => ?_) (fun c => ?_)
                      · replace h := h.1 c
                        refine g_bipush (n := (-12)) (v := (-12)) (by decide +kernel) (by decide) ?_
                        exact g_iret (by decide +kernel) rfl ⟨_, rfl, h⟩
                      · replace h := h.2 c
                        refine g_iload (i := 5) (by decide +kernel) rfl ?_
                        refine g_aload_n (q := 0) (i := 0) (by decide +kernel) rfl rfl ?_
                        refine g_get (C := "ThreePointsModel") (T := xT_Model) (N := 39) (ci := 10) (k := 17) (v := vr 41 0) (by decide +kernel) (by decide) rfl rfl xi_Model (by decide) kw_1043 rfl ?_
                        refine g_iload_n (q := 3) (i := 3) (by decide +kernel) rfl rfl ?_
                        obtain ⟨hin, h⟩ := h
                        refine g_iald (by decide +kernel) (by decide) rfl hin ?_
                        refine g_iload (i := 4) (by decide +kernel) rfl ?_
                        refine g_isub (by decide +kernel) ?_
                        refine g_icmp_le (off := 6) (tgt := 127) (by decide +kernel) (by decide) (fun c => ?_) (fun c => ?_)
                        · replace h := h.1 c
                          refine g_bipush (n := 40) (v := 40) (by decide +kernel) (by decide) ?_
                          refine g_iload_n (q := 1) (i := 1) (by decide +kernel) rfl rfl ?_
                          refine g_imul (by decide +kernel) ?_
                          refine g_iload_n (q := 2) (i := 2) (by decide +kernel) rfl rfl ?_
                          refine g_iadd (by decide +kernel) ?_
                          refine g_topi (fun v5 ev5 => ?_)
                          replace h := h v5 ev5
                          refine g_istore (i := 6) (ls2 := [some (vr 30 0), some (vi x1), some (vi x2), some (vi x3), some (vi x4), some (vi x5), some (vi v5), none, none, none]) (by decide +kernel) (by decide) rfl rfl ?_
                          refine g_bipush (n := 40) (v := 40) (by decide +kernel) (by decide) ?_
                          refine g_iload_n (q := 3) (i := 3) (by decide +kernel) rfl rfl ?_
                          refine g_imul (by decide +kernel) ?_
                          refine g_iload (i := 4) (by decide +kernel) rfl ?_
                          refine g_iadd (by decide +kernel) ?_
                          refine g_topi (fun v6 ev6 => ?_)
                          replace h := h v6 ev6
                          refine g_istore (i := 7) (ls2 := [some (vr 30 0), some (vi x1), some (vi x2), some (vi x3), some (vi x4), some (vi x5), some (vi v5), some (vi v6), none, none]) (by decide +kernel) (by decide) rfl rfl ?_
                          refine g_iconst (n := 0) (v := 0) (by decide +kernel) (by decide) ?_
                          refine g_istore (i := 8) (ls2 := [some (vr 30 0), some (vi x1), some (vi x2), some (vi x3), some (vi x4), some (vi x5), some (vi v5), some (vi v6), some (vi 0), none]) (by decide +kernel) (by decide) rfl rfl ?_
                          refine g_drop (ls2 := [some (vr 30 0), none, none, none, none, some (vi x5), some (vi v5), some (vi v6), some (vi 0), none]) (And.intro rfl (And.intro rfl (And.intro rfl (And.intro rfl (And.intro rfl trivial))))) ?_
                          obtain ⟨I7, μ7, h0, h⟩ := h
                          refine xloop (σ := Int32) (fun s H => I7 s H) (fun s H => μ7 s H) (fun s H => g_Model_copy E (d + 1) 147 [some (vr 30 0), none, none, none, none, some (vi x5), some (vi v5), some (vi v6), some (vi s), none] [] H (qi Q)) (fun s H9 hI ih7 => ?_) 0 H3 h0
                          obtain ⟨z8, es⟩ : ∃ z, z = s := ⟨s, rfl⟩
                          subst es
                          replace h := h z8 H9 hI
                          refine g_iload (i := 8) (by decide +kernel) rfl ?_
                          refine g_iload (i := 5) (by decide +kernel) rfl ?_
                          refine g_icmp_ge (off := 50) (tgt := 201) (by decide +kernel) (by decide) (fun c => ?_) (fun c => ?_)
                          · replace h := h.1 c
                            refine g_iload (i := 5) (by decide +kernel) rfl ?_
                            exact g_iret (by decide +kernel) rfl ⟨_, rfl, h⟩
                          · replace h := h.2 c
                            refine g_iload (i := 6) (by decide +kernel) rfl ?_
                            refine g_iload (i := 7) (by decide +kernel) rfl ?_
                            suffices hj10 : g_Model_copy E (d + 1) 173 [some (vr 30 0), none, none, none, none, some (vi x5), some (vi v5), some (vi v6), some (vi z8), none] [vi (if v6 ≤ v5 then z8 else ((x5 - 1) - z8) : Int32)] H9 (qi Q) by
                              refine g_icmp_ge (off := 13) (tgt := 171) (by decide +kernel) (by decide) (fun c => ?_) (fun c => ?_)
                              · rw [if_pos c] at hj10
                                refine g_iload (i := 8) (by decide +kernel) rfl ?_
                                exact hj10
                              · rw [if_neg c] at hj10
                                refine g_iload (i := 5) (by decide +kernel) rfl ?_
                                refine g_iconst (n := 1) (v := 1) (by decide +kernel) (by decide) ?_
                                refine g_isub (by decide +kernel) ?_
                                refine g_iload (i := 8) (by decide +kernel) rfl ?_
                                refine g_isub (by decide +kernel) ?_
                                refine g_goto (off := 5) (tgt := 173) (by decide +kernel) (by decide) ?_
                                exact hj10
                            refine g_topi (fun v11 ev11 => ?_)
                            replace h := h v11 ev11
                            refine g_istore (i := 9) (ls2 := [some (vr 30 0), none, none, none, none, some (vi x5), some (vi v5), some (vi v6), some (vi z8), some (vi v11)]) (by decide +kernel) (by decide) rfl rfl ?_
                            refine g_aload_n (q := 0) (i := 0) (by decide +kernel) rfl rfl ?_
                            refine g_get (C := "ThreePointsModel") (T := xT_Model) (N := 39) (ci := 10) (k := 18) (v := vr 42 0) (by decide +kernel) (by decide) rfl rfl xi_Model (by decide) kw_1044 rfl ?_
                            refine g_iload (i := 7) (by decide +kernel) rfl ?_
                            refine g_iload (i := 9) (by decide +kernel) rfl ?_
                            refine g_iadd (by decide +kernel) ?_
                            refine g_aload_n (q := 0) (i := 0) (by decide +kernel) rfl rfl ?_
                            refine g_get (C := "ThreePointsModel") (T := xT_Model) (N := 39) (ci := 10) (k := 18) (v := vr 42 0) (by decide +kernel) (by decide) rfl rfl xi_Model (by decide) kw_1044 rfl ?_
                            refine g_iload (i := 6) (by decide +kernel) rfl ?_
                            refine g_iload (i := 9) (by decide +kernel) rfl ?_
                            refine g_iadd (by decide +kernel) ?_
                            obtain ⟨hin, h⟩ := h
                            refine g_iald (by decide +kernel) (by decide) rfl hin ?_
                            obtain ⟨hin, h⟩ := h
                            refine g_iast (by decide +kernel) (by decide) rfl hin ?_
                            refine g_iinc (i := 8) (n := 1) (v := (z8 + 1)) (ls2 := [some (vr 30 0), none, none, none, none, some (vi x5), some (vi v5), some (vi v6), some (vi (z8 + 1)), some (vi v11)]) (by decide +kernel) rfl rfl (by decide) rfl rfl ?_
                            refine g_goto (off := (-51)) (tgt := 147) (by decide +kernel) (by decide) ?_
                            refine g_heap (fun H12 eH12 => ?_)
                            replace h := h H12 eH12
                            obtain ⟨hI, hlt⟩ := h
                            exact g_drop (ls2 := [some (vr 30 0), none, none, none, none, some (vi x5), some (vi v5), some (vi v6), some (vi (z8 + 1)), none]) (And.intro rfl (And.intro rfl (And.intro rfl (And.intro rfl (And.intro rfl trivial))))) (ih7 (z8 + 1) H12 hI hlt)
                        · replace h := h.2 c
                          refine g_bipush (n := (-12)) (v := (-12)) (by decide +kernel) (by decide) ?_
                          exact g_iret (by decide +kernel) rfl ⟨_, rfl, h⟩
          · replace h := h.2 c
            refine g_bipush (n := (-13)) (v := (-13)) (by decide +kernel) (by decide) ?_
            exact g_iret (by decide +kernel) rfl ⟨_, rfl, h⟩
        · replace h := h.2 c
          refine g_bipush (n := (-11)) (v := (-11)) (by decide +kernel) (by decide) ?_
          exact g_iret (by decide +kernel) rfl ⟨_, rfl, h⟩
    · replace h := h.2 c
      refine g_bipush (n := (-2)) (v := (-2)) (by decide +kernel) (by decide) ?_
      exact g_iret (by decide +kernel) rfl ⟨_, rfl, h⟩
def p_Model_vehiclesBy (E : XE) (d : Nat) (x1 : Int32) (x2 : Int32) (x3 : Int32) (x4 : Int32) (H : HH) (Q : Int32 → HH → Prop) : Prop := c_Model_in E d x1 0 3 H (fun r2 H1 => (r2 = 0 → (Q (-2) H1)) ∧ (¬ r2 = 0 → (c_Model_in E d x2 0 2 H1 (fun r4 H3 => (r4 = 0 → (Q (-2) H3)) ∧ (¬ r4 = 0 → (c_Model_in E d x4 0 4 H3 (fun r6 H5 => (¬ r6 = 0 → (vp_in x1 4 ∧ ((¬ (H5 40 0 (x1.toNatClampNeg)) = (-1) → (vp_in x1 4 ∧ (((H5 40 0 (x1.toNatClampNeg)) = x2 → (∃ (I7 : Int32 → Int32 → HH → Prop) (μ7 : Int32 → Int32 → HH → Nat), I7 0 0 H5 ∧ ∀ (z8 : Int32) (z9 : Int32) (H10 : HH), I7 z8 z9 H10 → ((x4 ≤ z9 → (Q z8 H10)) ∧ (¬ x4 ≤ z9 → (∀ v11 : Int32, v11 = (x3 + (2 * z9)) → ((x3 < 0 → (Q (-12) H10)) ∧ (¬ x3 < 0 → ((v11 < x3 → (Q (-12) H10)) ∧ (¬ v11 < x3 → (vp_in x1 4 ∧ ((v11 ≤ ((H10 41 0 (x1.toNatClampNeg)) - 2) → (∀ v12 : Int32, v12 = ((40 * x1) + v11) → (vp_in v12 160 ∧ (vp_in (v12 + 1) 160 ∧ (c_Model_vehicle E d (H10 42 0 (v12.toNatClampNeg)) (H10 42 0 ((v12 + 1).toNatClampNeg)) H10 (fun r14 H13 => ∀ v16 : Int32, v16 = (z8 + (if r14 < 0 then 0 else 1 : Int32)) → (I7 v16 (z9 + 1) H13 ∧ μ7 v16 (z9 + 1) H13 < μ7 z8 z9 H10))))))) ∧ (¬ v11 ≤ ((H10 41 0 (x1.toNatClampNeg)) - 2) → (Q (-12) H10))))))))))))) ∧ (¬ (H5 40 0 (x1.toNatClampNeg)) = x2 → (Q (-13) H5))))) ∧ ((H5 40 0 (x1.toNatClampNeg)) = (-1) → (Q (-11) H5))))) ∧ (r6 = 0 → (Q (-2) H5)))))))))
set_option maxHeartbeats 4000000 in
theorem l_Model_vehiclesBy {E : XE} {d : Nat} {x1 : Int32} {x2 : Int32} {x3 : Int32} {x4 : Int32} {H : HH} {Q : Int32 → HH → Prop} (h : p_Model_vehiclesBy E d x1 x2 x3 x4 H Q) : c_Model_vehiclesBy E (d + 1) x1 x2 x3 x4 H Q := by
  show g_Model_vehiclesBy E (d + 1) 0 (xent [vr 30 0, vi x1, vi x2, vi x3, vi x4]) [] H (qi Q)
  refine g_drop (ls2 := [some (vr 30 0), some (vi x1), some (vi x2), some (vi x3), some (vi x4), none, none, none, none]) (And.intro rfl (And.intro rfl (And.intro rfl (And.intro rfl (And.intro rfl trivial))))) ?_
  refine g_iload_n (q := 1) (i := 1) (by decide +kernel) rfl rfl ?_
  refine g_iconst (n := 0) (v := 0) (by decide +kernel) (by decide) ?_
  refine g_iconst (n := 3) (v := 3) (by decide +kernel) (by decide) ?_
  refine g_callS (vs := [vi x1, vi 0, vi 3]) (st := []) (by decide +kernel) xm_Model_in kw_987 kw_988 rfl rfl (Nat.le_of_ble_eq_true rfl) (Nat.le_of_ble_eq_true rfl) h (fun vH1 H1 hq => ?_)
  obtain ⟨r2, rfl, h⟩ := hq
  refine g_if_eq (off := 22) (tgt := 28) (by decide +kernel) (by decide) (fun c => ?_) (fun c => ?_)
  · replace h := h.1 c
    refine g_bipush (n := (-2)) (v := (-2)) (by decide +kernel) (by decide) ?_
    exact g_iret (by decide +kernel) rfl ⟨_, rfl, h⟩
  · replace h := h.2 c
    refine g_iload_n (q := 2) (i := 2) (by decide +kernel) rfl rfl ?_
    refine g_iconst (n := 0) (v := 0) (by decide +kernel) (by decide) ?_
    refine g_iconst (n := 2) (v := 2) (by decide +kernel) (by decide) ?_
    refine g_callS (vs := [vi x2, vi 0, vi 2]) (st := []) (by decide +kernel) xm_Model_in kw_987 kw_988 rfl rfl (Nat.le_of_ble_eq_true rfl) (Nat.le_of_ble_eq_true rfl) h (fun vH3 H3 hq => ?_)
    obtain ⟨r4, rfl, h⟩ := hq
    refine g_if_eq (off := 13) (tgt := 28) (by decide +kernel) (by decide) (fun c => ?_) (fun c => ?_)
    · replace h := h.1 c
      refine g_bipush (n := (-2)) (v := (-2)) (by decide +kernel) (by decide) ?_
      exact g_iret (by decide +kernel) rfl ⟨_, rfl, h⟩
    · replace h := h.2 c
      refine g_iload (i := 4) (by decide +kernel) rfl ?_
      refine g_iconst (n := 0) (v := 0) (by decide +kernel) (by decide) ?_
      refine g_iconst (n := 4) (v := 4) (by decide +kernel) (by decide) ?_
      refine g_callS (vs := [vi x4, vi 0, vi 4]) (st := []) (by decide +kernel) xm_Model_in kw_987 kw_988 rfl rfl (Nat.le_of_ble_eq_true rfl) (Nat.le_of_ble_eq_true rfl) h (fun vH5 H5 hq => ?_)
      obtain ⟨r6, rfl, h⟩ := hq
      refine g_if_ne (off := 6) (tgt := 31) (by decide +kernel) (by decide) (fun c => ?_) (fun c => ?_)
      · replace h := h.1 c
        refine g_aload_n (q := 0) (i := 0) (by decide +kernel) rfl rfl ?_
        refine g_get (C := "ThreePointsModel") (T := xT_Model) (N := 39) (ci := 10) (k := 16) (v := vr 40 0) (by decide +kernel) (by decide) rfl rfl xi_Model (by decide) kw_1042 rfl ?_
        refine g_iload_n (q := 1) (i := 1) (by decide +kernel) rfl rfl ?_
        obtain ⟨hin, h⟩ := h
        refine g_iald (by decide +kernel) (by decide) rfl hin ?_
        refine g_iconst (n := (-1)) (v := (-1)) (by decide +kernel) (by decide) ?_
        refine g_icmp_ne (off := 6) (tgt := 44) (by decide +kernel) (by decide) (fun c => ?_) (fun c => ?_)
        · replace h := h.1 c
          refine g_aload_n (q := 0) (i := 0) (by decide +kernel) rfl rfl ?_
          refine g_get (C := "ThreePointsModel") (T := xT_Model) (N := 39) (ci := 10) (k := 16) (v := vr 40 0) (by decide +kernel) (by decide) rfl rfl xi_Model (by decide) kw_1042 rfl ?_
          refine g_iload_n (q := 1) (i := 1) (by decide +kernel) rfl rfl ?_
          obtain ⟨hin, h⟩ := h
          refine g_iald (by decide +kernel) (by decide) rfl hin ?_
          refine g_iload_n (q := 2) (i := 2) (by decide +kernel) rfl rfl ?_
          refine g_icmp_eq (off := 6) (tgt := 57) (by decide +kernel) (by decide) (fun c => ?_) (fun c => ?_)
          · replace h := h.1 c
            refine g_iconst (n := 0) (v := 0) (by decide +kernel) (by decide) ?_
            refine g_istore (i := 5) (ls2 := [some (vr 30 0), some (vi x1), some (vi x2), some (vi x3), some (vi x4), some (vi 0), none, none, none]) (by decide +kernel) (by decide) rfl rfl ?_
            refine g_iconst (n := 0) (v := 0) (by decide +kernel) (by decide) ?_
            refine g_istore (i := 6) (ls2 := [some (vr 30 0), some (vi x1), some (vi x2), some (vi x3), some (vi x4), some (vi 0), some (vi 0), none, none]) (by decide +kernel) (by decide) rfl rfl ?_
            refine g_drop (ls2 := [some (vr 30 0), some (vi x1), none, some (vi x3), some (vi x4), some (vi 0), some (vi 0), none, none]) (And.intro rfl (And.intro rfl (And.intro rfl (And.intro rfl (And.intro rfl (And.intro rfl trivial)))))) ?_
            obtain ⟨I7, μ7, h0, h⟩ := h
            refine xloop (σ := Int32 × Int32) (fun s H => I7 s.1 s.2 H) (fun s H => μ7 s.1 s.2 H) (fun s H => g_Model_vehiclesBy E (d + 1) 63 [some (vr 30 0), some (vi x1), none, some (vi x3), some (vi x4), some (vi s.1), some (vi s.2), none, none] [] H (qi Q)) (fun s H10 hI ih7 => ?_) (0, 0) H5 h0
            obtain ⟨z8, z9⟩ := s
            replace h := h z8 z9 H10 hI
            refine g_iload (i := 6) (by decide +kernel) rfl ?_
            refine g_iload (i := 4) (by decide +kernel) rfl ?_
            refine g_icmp_ge (off := 85) (tgt := 152) (by decide +kernel) (by decide) (fun c => ?_) (fun c => ?_)
            · replace h := h.1 c
              refine g_iload (i := 5) (by decide +kernel) rfl ?_
              exact g_iret (by decide +kernel) rfl ⟨_, rfl, h⟩
            · replace h := h.2 c
              refine g_iload_n (q := 3) (i := 3) (by decide +kernel) rfl rfl ?_
              refine g_iconst (n := 2) (v := 2) (by decide +kernel) (by decide) ?_
              refine g_iload (i := 6) (by decide +kernel) rfl ?_
              refine g_imul (by decide +kernel) ?_
              refine g_iadd (by decide +kernel) ?_
              refine g_topi (fun v11 ev11 => ?_)
              replace h := h v11 ev11
              refine g_istore (i := 7) (ls2 := [some (vr 30 0), some (vi x1), none, some (vi x3), some (vi x4), some (vi z8), some (vi z9), some (vi v11), none]) (by decide +kernel) (by decide) rfl rfl ?_
              refine g_iload_n (q := 3) (i := 3) (by decide +kernel) rfl rfl ?_
              refine g_if_lt (off := 22) (tgt := 101) (by decide +kernel) (by decide) (fun c => ?_) (fun c => ?_)
              · replace h := h.1 c
                refine g_bipush (n := (-12)) (v := (-12)) (by decide +kernel) (by decide) ?_
                exact g_iret (by decide +kernel) rfl ⟨_, rfl, h⟩
              · replace h := h.2 c
                refine g_iload (i := 7) (by decide +kernel) rfl ?_
                refine g_iload_n (q := 3) (i := 3) (by decide +kernel) rfl rfl ?_
                refine g_icmp_lt (off := 16) (tgt := 101) (by decide +kernel) (by decide) (fun c => ?_) (fun c => ?_)
                · replace h := h.1 c
                  refine g_bipush (n := (-12)) (v := (-12)) (by decide +kernel) (by decide) ?_
                  exact g_iret (by decide +kernel) rfl ⟨_, rfl, h⟩
                · replace h := h.2 c
                  refine g_iload (i := 7) (by decide +kernel) rfl ?_
                  refine g_aload_n (q := 0) (i := 0) (by decide +kernel) rfl rfl ?_
                  refine g_get (C := "ThreePointsModel") (T := xT_Model) (N := 39) (ci := 10) (k := 17) (v := vr 41 0) (by decide +kernel) (by decide) rfl rfl xi_Model (by decide) kw_1043 rfl ?_
                  refine g_iload_n (q := 1) (i := 1) (by decide +kernel) rfl rfl ?_
                  obtain ⟨hin, h⟩ := h
                  refine g_iald (by decide +kernel) (by decide) rfl hin ?_
                  refine g_iconst (n := 2) (v := 2) (by decide +kernel) (by decide) ?_
                  refine g_isub (by decide +kernel) ?_
                  refine g_icmp_le (off := 6) (tgt := 104) (by decide +kernel) (by decide) (fun c => ?_) (fun c => ?_)
                  · replace h := h.1 c
                    refine g_bipush (n := 40) (v := 40) (by decide +kernel) (by decide) ?_
                    refine g_iload_n (q := 1) (i := 1) (by decide +kernel) rfl rfl ?_
                    refine g_imul (by decide +kernel) ?_
                    refine g_iload (i := 7) (by decide +kernel) rfl ?_
                    refine g_iadd (by decide +kernel) ?_
                    refine g_topi (fun v12 ev12 => ?_)
                    replace h := h v12 ev12
                    refine g_istore (i := 8) (ls2 := [some (vr 30 0), some (vi x1), none, some (vi x3), some (vi x4), some (vi z8), some (vi z9), some (vi v11), some (vi v12)]) (by decide +kernel) (by decide) rfl rfl ?_
                    refine g_iload (i := 5) (by decide +kernel) rfl ?_
                    refine g_aload_n (q := 0) (i := 0) (by decide +kernel) rfl rfl ?_
                    refine g_aload_n (q := 0) (i := 0) (by decide +kernel) rfl rfl ?_
                    refine g_get (C := "ThreePointsModel") (T := xT_Model) (N := 39) (ci := 10) (k := 18) (v := vr 42 0) (by decide +kernel) (by decide) rfl rfl xi_Model (by decide) kw_1044 rfl ?_
                    refine g_iload (i := 8) (by decide +kernel) rfl ?_
                    obtain ⟨hin, h⟩ := h
                    refine g_iald (by decide +kernel) (by decide) rfl hin ?_
                    refine g_aload_n (q := 0) (i := 0) (by decide +kernel) rfl rfl ?_
                    refine g_get (C := "ThreePointsModel") (T := xT_Model) (N := 39) (ci := 10) (k := 18) (v := vr 42 0) (by decide +kernel) (by decide) rfl rfl xi_Model (by decide) kw_1044 rfl ?_
                    refine g_iload (i := 8) (by decide +kernel) rfl ?_
                    refine g_iconst (n := 1) (v := 1) (by decide +kernel) (by decide) ?_
                    refine g_iadd (by decide +kernel) ?_
                    obtain ⟨hin, h⟩ := h
                    refine g_iald (by decide +kernel) (by decide) rfl hin ?_
                    refine g_callV (kd := 30) (ix := 0) (ci := 10) (N := 39) (T := xT_Model) (vs := [vi (H10 42 0 (v12.toNatClampNeg)), vi (H10 42 0 ((v12 + 1).toNatClampNeg))]) (st := [vi z8]) (by decide +kernel) xm_Model_vehicle kw_1400 kw_1211 kw_1212 (by decide) rfl rfl rfl rfl (Nat.le_of_ble_eq_true rfl) (Nat.le_of_ble_eq_true rfl) h (fun vH13 H13 hq => ?_)
                    obtain ⟨r14, rfl, h⟩ := hq
                    suffices hj15 : g_Model_vehiclesBy E (d + 1) 143 [some (vr 30 0), some (vi x1), none, some (vi x3), some (vi x4), some (vi z8), some (vi z9), some (vi v11), some (vi v12)] [vi (if r14 < 0 then 0 else 1 : Int32), vi z8] H13 (qi Q) by
                      refine g_if_lt (off := 7) (tgt := 142) (by decide +kernel) (by decide) (fun c => ?_) (fun c => ?_)
                      · rw [if_pos c] at hj15
                        refine g_iconst (n := 0) (v := 0) (by decide +kernel) (by decide) ?_
                        exact hj15
                      · rw [if_neg c] at hj15
                        refine g_iconst (n := 1) (v := 1) (by decide +kernel) (by decide) ?_
                        refine g_goto (off := 4) (tgt := 143) (by decide +kernel) (by decide) ?_
                        exact hj15
                    refine g_iadd (by decide +kernel) ?_
                    refine g_topi (fun v16 ev16 => ?_)
                    replace h := h v16 ev16
                    refine g_istore (i := 5) (ls2 := [some (vr 30 0), some (vi x1), none, some (vi x3), some (vi x4), some (vi v16), some (vi z9), some (vi v11), some (vi v12)]) (by decide +kernel) (by decide) rfl rfl ?_
                    refine g_iinc (i := 6) (n := 1) (v := (z9 + 1)) (ls2 := [some (vr 30 0), some (vi x1), none, some (vi x3), some (vi x4), some (vi v16), some (vi (z9 + 1)), some (vi v11), some (vi v12)]) (by decide +kernel) rfl rfl (by decide) rfl rfl ?_
                    refine g_goto (off := (-86)) (tgt := 63) (by decide +kernel) (by decide) ?_
                    obtain ⟨hI, hlt⟩ := h
                    exact g_drop (ls2 := [some (vr 30 0), some (vi x1), none, some (vi x3), some (vi x4), some (vi v16), some (vi (z9 + 1)), none, none]) (And.intro rfl (And.intro rfl (And.intro rfl (And.intro rfl (And.intro rfl (And.intro rfl trivial)))))) (ih7 (v16, (z9 + 1)) H13 hI hlt)
                  · replace h := h.2 c
                    refine g_bipush (n := (-12)) (v := (-12)) (by decide +kernel) (by decide) ?_
                    exact g_iret (by decide +kernel) rfl ⟨_, rfl, h⟩
          · replace h := h.2 c
            refine g_bipush (n := (-13)) (v := (-13)) (by decide +kernel) (by decide) ?_
            exact g_iret (by decide +kernel) rfl ⟨_, rfl, h⟩
        · replace h := h.2 c
          refine g_bipush (n := (-11)) (v := (-11)) (by decide +kernel) (by decide) ?_
          exact g_iret (by decide +kernel) rfl ⟨_, rfl, h⟩
      · replace h := h.2 c
        refine g_bipush (n := (-2)) (v := (-2)) (by decide +kernel) (by decide) ?_
        exact g_iret (by decide +kernel) rfl ⟨_, rfl, h⟩
def p_Model_isUnder (E : XE) (d : Nat) (x0 : Int32) (x1 : Int32) (H : HH) (Q : Int32 → HH → Prop) : Prop := ((if x1 = 0 then 1 else (if x0 = x1 then 1 else (if x1 = 1 then (if x0 = 3 then 1 else (if x1 = 2 then (if x0 = 4 then 1 else 0 : Int32) else 0 : Int32) : Int32) else (if x1 = 2 then (if x0 = 4 then 1 else 0 : Int32) else 0 : Int32) : Int32) : Int32) : Int32) = 0 ∨ (if x1 = 0 then 1 else (if x0 = x1 then 1 else (if x1 = 1 then (if x0 = 3 then 1 else (if x1 = 2 then (if x0 = 4 then 1 else 0 : Int32) else 0 : Int32) : Int32) else (if x1 = 2 then (if x0 = 4 then 1 else 0 : Int32) else 0 : Int32) : Int32) : Int32) : Int32) = 1) ∧ Q (if x1 = 0 then 1 else (if x0 = x1 then 1 else (if x1 = 1 then (if x0 = 3 then 1 else (if x1 = 2 then (if x0 = 4 then 1 else 0 : Int32) else 0 : Int32) : Int32) else (if x1 = 2 then (if x0 = 4 then 1 else 0 : Int32) else 0 : Int32) : Int32) : Int32) : Int32) H
set_option maxHeartbeats 4000000 in
theorem l_Model_isUnder {E : XE} {d : Nat} {x0 : Int32} {x1 : Int32} {H : HH} {Q : Int32 → HH → Prop} (h : p_Model_isUnder E d x0 x1 H Q) : c_Model_isUnder E d x0 x1 H Q := by
  show g_Model_isUnder E d 0 (xent [vi x0, vi x1]) [] H (qi Q)
  refine g_drop (ls2 := [some (vi x0), some (vi x1)]) (And.intro rfl (And.intro rfl trivial)) ?_
  refine g_iload_n (q := 1) (i := 1) (by decide +kernel) rfl rfl ?_
  suffices hj8 : g_Model_isUnder E d 34 [some (vi x0), some (vi x1)] [vi (if x1 = 0 then 1 else (if x0 = x1 then 1 else (if x1 = 1 then (if x0 = 3 then 1 else (if x1 = 2 then (if x0 = 4 then 1 else 0 : Int32) else 0 : Int32) : Int32) else (if x1 = 2 then (if x0 = 4 then 1 else 0 : Int32) else 0 : Int32) : Int32) : Int32) : Int32)] H (qi Q) by
    refine g_if_eq (off := 28) (tgt := 29) (by decide +kernel) (by decide) (fun c => ?_) (fun c => ?_)
    · rw [if_pos c] at hj8
      refine g_iconst (n := 1) (v := 1) (by decide +kernel) (by decide) ?_
      refine g_goto (off := 4) (tgt := 34) (by decide +kernel) (by decide) ?_
      exact hj8
    · rw [if_neg c] at hj8
      refine g_iload_n (q := 0) (i := 0) (by decide +kernel) rfl rfl ?_
      refine g_iload_n (q := 1) (i := 1) (by decide +kernel) rfl rfl ?_
      suffices hj7 : g_Model_isUnder E d 34 [some (vi x0), some (vi x1)] [vi (if x0 = x1 then 1 else (if x1 = 1 then (if x0 = 3 then 1 else (if x1 = 2 then (if x0 = 4 then 1 else 0 : Int32) else 0 : Int32) : Int32) else (if x1 = 2 then (if x0 = 4 then 1 else 0 : Int32) else 0 : Int32) : Int32) : Int32)] H (qi Q) by
        refine g_icmp_eq (off := 23) (tgt := 29) (by decide +kernel) (by decide) (fun c => ?_) (fun c => ?_)
        · rw [if_pos c] at hj7
          refine g_iconst (n := 1) (v := 1) (by decide +kernel) (by decide) ?_
          refine g_goto (off := 4) (tgt := 34) (by decide +kernel) (by decide) ?_
          exact hj7
        · rw [if_neg c] at hj7
          refine g_iload_n (q := 1) (i := 1) (by decide +kernel) rfl rfl ?_
          refine g_iconst (n := 1) (v := 1) (by decide +kernel) (by decide) ?_
          suffices hj6 : g_Model_isUnder E d 34 [some (vi x0), some (vi x1)] [vi (if x1 = 1 then (if x0 = 3 then 1 else (if x1 = 2 then (if x0 = 4 then 1 else 0 : Int32) else 0 : Int32) : Int32) else (if x1 = 2 then (if x0 = 4 then 1 else 0 : Int32) else 0 : Int32) : Int32)] H (qi Q) by
            refine g_icmp_ne (off := 8) (tgt := 19) (by decide +kernel) (by decide) (fun c => ?_) (fun c => ?_)
            · rw [if_neg c] at hj6
              refine g_iload_n (q := 1) (i := 1) (by decide +kernel) rfl rfl ?_
              refine g_iconst (n := 2) (v := 2) (by decide +kernel) (by decide) ?_
              suffices hj2 : g_Model_isUnder E d 34 [some (vi x0), some (vi x1)] [vi (if x1 = 2 then (if x0 = 4 then 1 else 0 : Int32) else 0 : Int32)] H (qi Q) by
                refine g_icmp_ne (off := 12) (tgt := 33) (by decide +kernel) (by decide) (fun c => ?_) (fun c => ?_)
                · rw [if_neg c] at hj2
                  refine g_iconst (n := 0) (v := 0) (by decide +kernel) (by decide) ?_
                  exact hj2
                · rw [if_pos c] at hj2
                  refine g_iload_n (q := 0) (i := 0) (by decide +kernel) rfl rfl ?_
                  refine g_iconst (n := 4) (v := 4) (by decide +kernel) (by decide) ?_
                  suffices hj1 : g_Model_isUnder E d 34 [some (vi x0), some (vi x1)] [vi (if x0 = 4 then 1 else 0 : Int32)] H (qi Q) by
                    refine g_icmp_ne (off := 7) (tgt := 33) (by decide +kernel) (by decide) (fun c => ?_) (fun c => ?_)
                    · rw [if_neg c] at hj1
                      refine g_iconst (n := 0) (v := 0) (by decide +kernel) (by decide) ?_
                      exact hj1
                    · rw [if_pos c] at hj1
                      refine g_iconst (n := 1) (v := 1) (by decide +kernel) (by decide) ?_
                      refine g_goto (off := 4) (tgt := 34) (by decide +kernel) (by decide) ?_
                      exact hj1
                  exact hj2
              exact hj6
            · rw [if_pos c] at hj6
              refine g_iload_n (q := 0) (i := 0) (by decide +kernel) rfl rfl ?_
              refine g_iconst (n := 3) (v := 3) (by decide +kernel) (by decide) ?_
              suffices hj5 : g_Model_isUnder E d 34 [some (vi x0), some (vi x1)] [vi (if x0 = 3 then 1 else (if x1 = 2 then (if x0 = 4 then 1 else 0 : Int32) else 0 : Int32) : Int32)] H (qi Q) by
                refine g_icmp_eq (off := 13) (tgt := 29) (by decide +kernel) (by decide) (fun c => ?_) (fun c => ?_)
                · rw [if_pos c] at hj5
                  refine g_iconst (n := 1) (v := 1) (by decide +kernel) (by decide) ?_
                  refine g_goto (off := 4) (tgt := 34) (by decide +kernel) (by decide) ?_
                  exact hj5
                · rw [if_neg c] at hj5
                  refine g_iload_n (q := 1) (i := 1) (by decide +kernel) rfl rfl ?_
                  refine g_iconst (n := 2) (v := 2) (by decide +kernel) (by decide) ?_
                  suffices hj4 : g_Model_isUnder E d 34 [some (vi x0), some (vi x1)] [vi (if x1 = 2 then (if x0 = 4 then 1 else 0 : Int32) else 0 : Int32)] H (qi Q) by
                    refine g_icmp_ne (off := 12) (tgt := 33) (by decide +kernel) (by decide) (fun c => ?_) (fun c => ?_)
                    · rw [if_neg c] at hj4
                      refine g_iconst (n := 0) (v := 0) (by decide +kernel) (by decide) ?_
                      exact hj4
                    · rw [if_pos c] at hj4
                      refine g_iload_n (q := 0) (i := 0) (by decide +kernel) rfl rfl ?_
                      refine g_iconst (n := 4) (v := 4) (by decide +kernel) (by decide) ?_
                      suffices hj3 : g_Model_isUnder E d 34 [some (vi x0), some (vi x1)] [vi (if x0 = 4 then 1 else 0 : Int32)] H (qi Q) by
                        refine g_icmp_ne (off := 7) (tgt := 33) (by decide +kernel) (by decide) (fun c => ?_) (fun c => ?_)
                        · rw [if_neg c] at hj3
                          refine g_iconst (n := 0) (v := 0) (by decide +kernel) (by decide) ?_
                          exact hj3
                        · rw [if_pos c] at hj3
                          refine g_iconst (n := 1) (v := 1) (by decide +kernel) (by decide) ?_
                          refine g_goto (off := 4) (tgt := 34) (by decide +kernel) (by decide) ?_
                          exact hj3
                      exact hj4
                  exact hj5
              exact hj6
          exact hj7
      exact hj8
  obtain ⟨h01, h⟩ := h
  exact g_zret (by decide +kernel) rfl (nbool h01) ⟨_, rfl, h⟩
def p_Model_taken (E : XE) (d : Nat) (x1 : Int32) (x2 : Int32) (H : HH) (Q : Int32 → HH → Prop) : Prop := c_Model_in E d x2 0 6 H (fun r2 H1 => (¬ r2 = 0 → (c_Model_in E d x1 0 19 H1 (fun r4 H3 => (¬ r4 = 0 → ((x1 < 4 → ((x1 < (H3 30 0 3) → ((6 ≤ x2 → (Q (-13) H3)) ∧ (¬ 6 ≤ x2 → (vp_in x1 4 ∧ (c_Model_isUnder E d (H3 32 0 (x1.toNatClampNeg)) x2 H3 (fun r6 H5 => Q (if r6 = 0 then (-13) else x1 : Int32) H5)))))) ∧ (¬ x1 < (H3 30 0 3) → (Q (-11) H3)))) ∧ (¬ x1 < 4 → ((¬ x2 = 6 → (Q (-13) H3)) ∧ (x2 = 6 → (vp_in (x1 - 4) 16 ∧ (Q ((H3 31 0 ((x1 - 4).toNatClampNeg)) + 100) H3))))))) ∧ (r4 = 0 → (Q (-12) H3))))) ∧ (r2 = 0 → (Q (-2) H1)))
set_option maxHeartbeats 4000000 in
theorem l_Model_taken {E : XE} {d : Nat} {x1 : Int32} {x2 : Int32} {H : HH} {Q : Int32 → HH → Prop} (h : p_Model_taken E d x1 x2 H Q) : c_Model_taken E (d + 1) x1 x2 H Q := by
  show g_Model_taken E (d + 1) 0 (xent [vr 30 0, vi x1, vi x2]) [] H (qi Q)
  refine g_drop (ls2 := [some (vr 30 0), some (vi x1), some (vi x2)]) (And.intro rfl (And.intro rfl (And.intro rfl trivial))) ?_
  refine g_iload_n (q := 2) (i := 2) (by decide +kernel) rfl rfl ?_
  refine g_iconst (n := 0) (v := 0) (by decide +kernel) (by decide) ?_
  refine g_bipush (n := 6) (v := 6) (by decide +kernel) (by decide) ?_
  refine g_callS (vs := [vi x2, vi 0, vi 6]) (st := []) (by decide +kernel) xm_Model_in kw_987 kw_988 rfl rfl (Nat.le_of_ble_eq_true rfl) (Nat.le_of_ble_eq_true rfl) h (fun vH1 H1 hq => ?_)
  obtain ⟨r2, rfl, h⟩ := hq
  refine g_if_ne (off := 6) (tgt := 13) (by decide +kernel) (by decide) (fun c => ?_) (fun c => ?_)
  · replace h := h.1 c
    refine g_iload_n (q := 1) (i := 1) (by decide +kernel) rfl rfl ?_
    refine g_iconst (n := 0) (v := 0) (by decide +kernel) (by decide) ?_
    refine g_bipush (n := 19) (v := 19) (by decide +kernel) (by decide) ?_
    refine g_callS (vs := [vi x1, vi 0, vi 19]) (st := []) (by decide +kernel) xm_Model_in kw_987 kw_988 rfl rfl (Nat.le_of_ble_eq_true rfl) (Nat.le_of_ble_eq_true rfl) h (fun vH3 H3 hq => ?_)
    obtain ⟨r4, rfl, h⟩ := hq
    refine g_if_ne (off := 6) (tgt := 26) (by decide +kernel) (by decide) (fun c => ?_) (fun c => ?_)
    · replace h := h.1 c
      refine g_iload_n (q := 1) (i := 1) (by decide +kernel) rfl rfl ?_
      refine g_iconst (n := 4) (v := 4) (by decide +kernel) (by decide) ?_
      refine g_icmp_lt (off := 26) (tgt := 54) (by decide +kernel) (by decide) (fun c => ?_) (fun c => ?_)
      · replace h := h.1 c
        refine g_iload_n (q := 1) (i := 1) (by decide +kernel) rfl rfl ?_
        refine g_aload_n (q := 0) (i := 0) (by decide +kernel) rfl rfl ?_
        refine g_get (C := "ThreePointsModel") (T := xT_Model) (N := 39) (ci := 10) (k := 3) (v := vi (H3 30 0 3)) (by decide +kernel) (by decide) rfl rfl xi_Model (by decide) kw_1029 rfl ?_
        refine g_icmp_lt (off := 8) (tgt := 67) (by decide +kernel) (by decide) (fun c => ?_) (fun c => ?_)
        · replace h := h.1 c
          refine g_iload_n (q := 2) (i := 2) (by decide +kernel) rfl rfl ?_
          refine g_bipush (n := 6) (v := 6) (by decide +kernel) (by decide) ?_
          refine g_icmp_ge (off := 20) (tgt := 90) (by decide +kernel) (by decide) (fun c => ?_) (fun c => ?_)
          · replace h := h.1 c
            refine g_bipush (n := (-13)) (v := (-13)) (by decide +kernel) (by decide) ?_
            exact g_iret (by decide +kernel) rfl ⟨_, rfl, h⟩
          · replace h := h.2 c
            refine g_aload_n (q := 0) (i := 0) (by decide +kernel) rfl rfl ?_
            refine g_get (C := "ThreePointsModel") (T := xT_Model) (N := 39) (ci := 10) (k := 4) (v := vr 32 0) (by decide +kernel) (by decide) rfl rfl xi_Model (by decide) kw_1030 rfl ?_
            refine g_iload_n (q := 1) (i := 1) (by decide +kernel) rfl rfl ?_
            obtain ⟨hin, h⟩ := h
            refine g_iald (by decide +kernel) (by decide) rfl hin ?_
            refine g_iload_n (q := 2) (i := 2) (by decide +kernel) rfl rfl ?_
            refine g_callS (vs := [vi (H3 32 0 (x1.toNatClampNeg)), vi x2]) (st := []) (by decide +kernel) xm_Model_isUnder kw_1405 kw_1406 rfl rfl (Nat.le_of_ble_eq_true rfl) (Nat.le_of_ble_eq_true rfl) h (fun vH5 H5 hq => ?_)
            obtain ⟨r6, rfl, h⟩ := hq
            suffices hj7 : g_Model_taken E (d + 1) 92 [some (vr 30 0), some (vi x1), some (vi x2)] [vi (if r6 = 0 then (-13) else x1 : Int32)] H5 (qi Q) by
              refine g_if_eq (off := 7) (tgt := 90) (by decide +kernel) (by decide) (fun c => ?_) (fun c => ?_)
              · rw [if_pos c] at hj7
                refine g_bipush (n := (-13)) (v := (-13)) (by decide +kernel) (by decide) ?_
                exact hj7
              · rw [if_neg c] at hj7
                refine g_iload_n (q := 1) (i := 1) (by decide +kernel) rfl rfl ?_
                refine g_goto (off := 5) (tgt := 92) (by decide +kernel) (by decide) ?_
                exact hj7
            exact g_iret (by decide +kernel) rfl ⟨_, rfl, h⟩
        · replace h := h.2 c
          refine g_bipush (n := (-11)) (v := (-11)) (by decide +kernel) (by decide) ?_
          refine g_goto (off := 28) (tgt := 92) (by decide +kernel) (by decide) ?_
          exact g_iret (by decide +kernel) rfl ⟨_, rfl, h⟩
      · replace h := h.2 c
        refine g_iload_n (q := 2) (i := 2) (by decide +kernel) rfl rfl ?_
        refine g_bipush (n := 6) (v := 6) (by decide +kernel) (by decide) ?_
        refine g_icmp_ne (off := 17) (tgt := 51) (by decide +kernel) (by decide) (fun c => ?_) (fun c => ?_)
        · replace h := h.1 c
          refine g_bipush (n := (-13)) (v := (-13)) (by decide +kernel) (by decide) ?_
          exact g_iret (by decide +kernel) rfl ⟨_, rfl, h⟩
        · replace h := h.2 c
          refine g_aload_n (q := 0) (i := 0) (by decide +kernel) rfl rfl ?_
          refine g_get (C := "ThreePointsModel") (T := xT_Model) (N := 39) (ci := 10) (k := 0) (v := vr 31 0) (by decide +kernel) (by decide) rfl rfl xi_Model (by decide) kw_1026 rfl ?_
          refine g_iload_n (q := 1) (i := 1) (by decide +kernel) rfl rfl ?_
          refine g_iconst (n := 4) (v := 4) (by decide +kernel) (by decide) ?_
          refine g_isub (by decide +kernel) ?_
          obtain ⟨hin, h⟩ := h
          refine g_iald (by decide +kernel) (by decide) rfl hin ?_
          refine g_bipush (n := 100) (v := 100) (by decide +kernel) (by decide) ?_
          refine g_iadd (by decide +kernel) ?_
          refine g_goto (off := 5) (tgt := 53) (by decide +kernel) (by decide) ?_
          exact g_iret (by decide +kernel) rfl ⟨_, rfl, h⟩
    · replace h := h.2 c
      refine g_bipush (n := (-12)) (v := (-12)) (by decide +kernel) (by decide) ?_
      exact g_iret (by decide +kernel) rfl ⟨_, rfl, h⟩
  · replace h := h.2 c
    refine g_bipush (n := (-2)) (v := (-2)) (by decide +kernel) (by decide) ?_
    exact g_iret (by decide +kernel) rfl ⟨_, rfl, h⟩
