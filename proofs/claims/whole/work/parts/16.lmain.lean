/-! a method: its place, its formula, the walk that proves it; printed by wip/gen/emitall.py -/
abbrev g_Main_count (E : XE) (d pc : Nat) (ls : List (Option AV)) (st : List AV) (H : HH) (Q : AV → HH → Prop) : Prop := Gp E.1 E.2.1 E.2.2.1 E.2.2.2 xTX xRF xLC d "ThreePoints" prog_1_method_2_code 2 (some .int) pc ls st H Q
def c_Main_count (E : XE) (d : Nat) (x1 : Int32) (H : HH) (Q : Int32 → HH → Prop) : Prop := g_Main_count E d 0 (xent [vr 0 0, vi x1]) [] H (qi Q)
theorem xm_Main_count : xM ⟨"ThreePoints", "count", "(I)I"⟩ prog_1_method_2_code 2 (some .int) 1 := ⟨kw_614, kw_65, by decide +kernel, by decide +kernel, by decide⟩
abbrev g_Main_isVehicle (E : XE) (d pc : Nat) (ls : List (Option AV)) (st : List AV) (H : HH) (Q : AV → HH → Prop) : Prop := Gp E.1 E.2.1 E.2.2.1 E.2.2.2 xTX xRF xLC d "ThreePoints" prog_1_method_39_code 2 (some .boolean) pc ls st H Q
def c_Main_isVehicle (E : XE) (d : Nat) (x1 : Int32) (H : HH) (Q : Int32 → HH → Prop) : Prop := g_Main_isVehicle E d 0 (xent [vr 0 0, vi x1]) [] H (qi Q)
theorem xm_Main_isVehicle : xM ⟨"ThreePoints", "isVehicle", "(I)Z"⟩ prog_1_method_39_code 2 (some .boolean) 1 := ⟨kw_633, kw_65, by decide +kernel, by decide +kernel, by decide⟩
abbrev g_Main_think (E : XE) (d pc : Nat) (ls : List (Option AV)) (st : List AV) (H : HH) (Q : AV → HH → Prop) : Prop := Gp E.1 E.2.1 E.2.2.1 E.2.2.2 xTX xRF xLC d "ThreePoints" prog_1_method_43_code 2 none pc ls st H Q
def c_Main_think (E : XE) (d : Nat) (x1 : Int32) (H : HH) (Q : HH → Prop) : Prop := g_Main_think E d 0 (xent [vr 0 0, vi x1]) [] H (qv Q)
theorem xm_Main_think : xM ⟨"ThreePoints", "think", "(I)V"⟩ prog_1_method_43_code 2 none 1 := ⟨kw_625, kw_65, by decide +kernel, by decide +kernel, by decide⟩
abbrev g_Main_set (E : XE) (d pc : Nat) (ls : List (Option AV)) (st : List AV) (H : HH) (Q : AV → HH → Prop) : Prop := Gp E.1 E.2.1 E.2.2.1 E.2.2.2 xTX xRF xLC d "ThreePoints" prog_1_method_3_code 5 (some .int) pc ls st H Q
def c_Main_set (E : XE) (d : Nat) (x1 : Int32) (x2 : Int32) (H : HH) (Q : Int32 → HH → Prop) : Prop := g_Main_set E d 0 (xent [vr 0 0, vi x1, vi x2]) [] H (qi Q)
theorem xm_Main_set : xM ⟨"ThreePoints", "set", "(II)I"⟩ prog_1_method_3_code 5 (some .int) 2 := ⟨kw_618, kw_65, by decide +kernel, by decide +kernel, by decide⟩
abbrev g_Main_feed (E : XE) (d pc : Nat) (ls : List (Option AV)) (st : List AV) (H : HH) (Q : AV → HH → Prop) : Prop := Gp E.1 E.2.1 E.2.2.1 E.2.2.2 xTX xRF xLC d "ThreePoints" prog_1_method_4_code 8 (some .int) pc ls st H Q
def c_Main_feed (E : XE) (d : Nat) (x1 : Int32) (x2 : Int32) (x3 : Int32) (x4 : Int32) (x5 : Int32) (x6 : Int32) (H : HH) (Q : Int32 → HH → Prop) : Prop := g_Main_feed E d 0 (xent [vr 0 0, vi x1, vi x2, vi x3, vi x4, vi x5, vi x6]) [] H (qi Q)
theorem xm_Main_feed : xM ⟨"ThreePoints", "feed", "(IIIIII)I"⟩ prog_1_method_4_code 8 (some .int) 6 := ⟨kw_685, kw_65, by decide +kernel, by decide +kernel, by decide⟩
abbrev g_Main_text (E : XE) (d pc : Nat) (ls : List (Option AV)) (st : List AV) (H : HH) (Q : AV → HH → Prop) : Prop := Gp E.1 E.2.1 E.2.2.1 E.2.2.2 xTX xRF xLC d "ThreePoints" prog_1_method_5_code 2 (some .int) pc ls st H Q
def c_Main_text (E : XE) (d : Nat)  (H : HH) (Q : Int32 → HH → Prop) : Prop := g_Main_text E d 0 (xent [vr 0 0]) [] H (qi Q)
theorem xm_Main_text : xM ⟨"ThreePoints", "text", "()I"⟩ prog_1_method_5_code 2 (some .int) 0 := ⟨kw_693, kw_65, by decide +kernel, by decide +kernel, by decide⟩
abbrev g_Main_force (E : XE) (d pc : Nat) (ls : List (Option AV)) (st : List AV) (H : HH) (Q : AV → HH → Prop) : Prop := Gp E.1 E.2.1 E.2.2.1 E.2.2.2 xTX xRF xLC d "ThreePoints" prog_1_method_6_code 3 (some .int) pc ls st H Q
def c_Main_force (E : XE) (d : Nat) (x1 : Int32) (H : HH) (Q : Int32 → HH → Prop) : Prop := g_Main_force E d 0 (xent [vr 0 0, vi x1]) [] H (qi Q)
theorem xm_Main_force : xM ⟨"ThreePoints", "force", "(I)I"⟩ prog_1_method_6_code 3 (some .int) 1 := ⟨kw_697, kw_65, by decide +kernel, by decide +kernel, by decide⟩
abbrev g_Main_isPlace (E : XE) (d pc : Nat) (ls : List (Option AV)) (st : List AV) (H : HH) (Q : AV → HH → Prop) : Prop := Gp E.1 E.2.1 E.2.2.1 E.2.2.2 xTX xRF xLC d "ThreePoints" prog_1_method_41_code 2 (some .boolean) pc ls st H Q
def c_Main_isPlace (E : XE) (d : Nat) (x1 : Int32) (H : HH) (Q : Int32 → HH → Prop) : Prop := g_Main_isPlace E d 0 (xent [vr 0 0, vi x1]) [] H (qi Q)
theorem xm_Main_isPlace : xM ⟨"ThreePoints", "isPlace", "(I)Z"⟩ prog_1_method_41_code 2 (some .boolean) 1 := ⟨kw_709, kw_65, by decide +kernel, by decide +kernel, by decide⟩
abbrev g_Main_isPlaceHeading (E : XE) (d pc : Nat) (ls : List (Option AV)) (st : List AV) (H : HH) (Q : AV → HH → Prop) : Prop := Gp E.1 E.2.1 E.2.2.1 E.2.2.2 xTX xRF xLC d "ThreePoints" prog_1_method_42_code 2 (some .boolean) pc ls st H Q
def c_Main_isPlaceHeading (E : XE) (d : Nat) (x1 : Int32) (H : HH) (Q : Int32 → HH → Prop) : Prop := g_Main_isPlaceHeading E d 0 (xent [vr 0 0, vi x1]) [] H (qi Q)
theorem xm_Main_isPlaceHeading : xM ⟨"ThreePoints", "isPlaceHeading", "(I)Z"⟩ prog_1_method_42_code 2 (some .boolean) 1 := ⟨kw_705, kw_65, by decide +kernel, by decide +kernel, by decide⟩
abbrev g_Main_asks (E : XE) (d pc : Nat) (ls : List (Option AV)) (st : List AV) (H : HH) (Q : AV → HH → Prop) : Prop := Gp E.1 E.2.1 E.2.2.1 E.2.2.2 xTX xRF xLC d "ThreePoints" prog_1_method_7_code 5 (some .int) pc ls st H Q
def c_Main_asks (E : XE) (d : Nat) (x1 : Int32) (x2 : Int32) (x3 : Int32) (x4 : Int32) (H : HH) (Q : Int32 → HH → Prop) : Prop := g_Main_asks E d 0 (xent [vr 0 0, vi x1, vi x2, vi x3, vi x4]) [] H (qi Q)
theorem xm_Main_asks : xM ⟨"ThreePoints", "asks", "(IIII)I"⟩ prog_1_method_7_code 5 (some .int) 4 := ⟨kw_701, kw_65, by decide +kernel, by decide +kernel, by decide⟩
abbrev g_Main_addVehicle (E : XE) (d pc : Nat) (ls : List (Option AV)) (st : List AV) (H : HH) (Q : AV → HH → Prop) : Prop := Gp E.1 E.2.1 E.2.2.1 E.2.2.2 xTX xRF xLC d "ThreePoints" prog_1_method_44_code 3 (some .int) pc ls st H Q
def c_Main_addVehicle (E : XE) (d : Nat) (x1 : Int32) (x2 : Int32) (H : HH) (Q : Int32 → HH → Prop) : Prop := g_Main_addVehicle E d 0 (xent [vr 0 0, vi x1, vi x2]) [] H (qi Q)
theorem xm_Main_addVehicle : xM ⟨"ThreePoints", "addVehicle", "(II)I"⟩ prog_1_method_44_code 3 (some .int) 2 := ⟨kw_721, kw_65, by decide +kernel, by decide +kernel, by decide⟩
abbrev g_Main_vehicle (E : XE) (d pc : Nat) (ls : List (Option AV)) (st : List AV) (H : HH) (Q : AV → HH → Prop) : Prop := Gp E.1 E.2.1 E.2.2.1 E.2.2.2 xTX xRF xLC d "ThreePoints" prog_1_method_8_code 3 (some .int) pc ls st H Q
def c_Main_vehicle (E : XE) (d : Nat) (x1 : Int32) (x2 : Int32) (H : HH) (Q : Int32 → HH → Prop) : Prop := g_Main_vehicle E d 0 (xent [vr 0 0, vi x1, vi x2]) [] H (qi Q)
theorem xm_Main_vehicle : xM ⟨"ThreePoints", "vehicle", "(II)I"⟩ prog_1_method_8_code 3 (some .int) 2 := ⟨kw_717, kw_65, by decide +kernel, by decide +kernel, by decide⟩
abbrev g_Main_told (E : XE) (d pc : Nat) (ls : List (Option AV)) (st : List AV) (H : HH) (Q : AV → HH → Prop) : Prop := Gp E.1 E.2.1 E.2.2.1 E.2.2.2 xTX xRF xLC d "ThreePoints" prog_1_method_9_code 4 (some .int) pc ls st H Q
def c_Main_told (E : XE) (d : Nat) (x1 : Int32) (x2 : Int32) (H : HH) (Q : Int32 → HH → Prop) : Prop := g_Main_told E d 0 (xent [vr 0 0, vi x1, vi x2]) [] H (qi Q)
theorem xm_Main_told : xM ⟨"ThreePoints", "told", "(II)I"⟩ prog_1_method_9_code 4 (some .int) 2 := ⟨kw_729, kw_65, by decide +kernel, by decide +kernel, by decide⟩
abbrev g_Main_fit (E : XE) (d pc : Nat) (ls : List (Option AV)) (st : List AV) (H : HH) (Q : AV → HH → Prop) : Prop := Gp E.1 E.2.1 E.2.2.1 E.2.2.2 xTX xRF xLC d "ThreePoints" prog_1_method_10_code 3 (some .int) pc ls st H Q
def c_Main_fit (E : XE) (d : Nat) (x1 : Int32) (x2 : Int32) (H : HH) (Q : Int32 → HH → Prop) : Prop := g_Main_fit E d 0 (xent [vr 0 0, vi x1, vi x2]) [] H (qi Q)
theorem xm_Main_fit : xM ⟨"ThreePoints", "fit", "(II)I"⟩ prog_1_method_10_code 3 (some .int) 2 := ⟨kw_735, kw_65, by decide +kernel, by decide +kernel, by decide⟩
abbrev g_Main_drive (E : XE) (d pc : Nat) (ls : List (Option AV)) (st : List AV) (H : HH) (Q : AV → HH → Prop) : Prop := Gp E.1 E.2.1 E.2.2.1 E.2.2.2 xTX xRF xLC d "ThreePoints" prog_1_method_11_code 4 (some .int) pc ls st H Q
def c_Main_drive (E : XE) (d : Nat) (x1 : Int32) (x2 : Int32) (x3 : Int32) (H : HH) (Q : Int32 → HH → Prop) : Prop := g_Main_drive E d 0 (xent [vr 0 0, vi x1, vi x2, vi x3]) [] H (qi Q)
theorem xm_Main_drive : xM ⟨"ThreePoints", "drive", "(III)I"⟩ prog_1_method_11_code 4 (some .int) 3 := ⟨kw_740, kw_65, by decide +kernel, by decide +kernel, by decide⟩
abbrev g_Main_begin (E : XE) (d pc : Nat) (ls : List (Option AV)) (st : List AV) (H : HH) (Q : AV → HH → Prop) : Prop := Gp E.1 E.2.1 E.2.2.1 E.2.2.2 xTX xRF xLC d "ThreePoints" prog_1_method_12_code 4 (some .int) pc ls st H Q
def c_Main_begin (E : XE) (d : Nat) (x1 : Int32) (x2 : Int32) (H : HH) (Q : Int32 → HH → Prop) : Prop := g_Main_begin E d 0 (xent [vr 0 0, vi x1, vi x2]) [] H (qi Q)
theorem xm_Main_begin : xM ⟨"ThreePoints", "begin", "(II)I"⟩ prog_1_method_12_code 4 (some .int) 2 := ⟨kw_768, kw_65, by decide +kernel, by decide +kernel, by decide⟩
abbrev g_Main_turned (E : XE) (d pc : Nat) (ls : List (Option AV)) (st : List AV) (H : HH) (Q : AV → HH → Prop) : Prop := Gp E.1 E.2.1 E.2.2.1 E.2.2.2 xTX xRF xLC d "ThreePoints" prog_1_method_13_code 4 (some .int) pc ls st H Q
def c_Main_turned (E : XE) (d : Nat) (x1 : Int32) (x2 : Int32) (H : HH) (Q : Int32 → HH → Prop) : Prop := g_Main_turned E d 0 (xent [vr 0 0, vi x1, vi x2]) [] H (qi Q)
theorem xm_Main_turned : xM ⟨"ThreePoints", "turned", "(II)I"⟩ prog_1_method_13_code 4 (some .int) 2 := ⟨kw_772, kw_65, by decide +kernel, by decide +kernel, by decide⟩
abbrev g_Main_where (E : XE) (d pc : Nat) (ls : List (Option AV)) (st : List AV) (H : HH) (Q : AV → HH → Prop) : Prop := Gp E.1 E.2.1 E.2.2.1 E.2.2.2 xTX xRF xLC d "ThreePoints" prog_1_method_14_code 7 (some .int) pc ls st H Q
def c_Main_where (E : XE) (d : Nat) (x1 : Int32) (x2 : Int32) (H : HH) (Q : Int32 → HH → Prop) : Prop := g_Main_where E d 0 (xent [vr 0 0, vi x1, vi x2]) [] H (qi Q)
theorem xm_Main_where : xM ⟨"ThreePoints", "where", "(II)I"⟩ prog_1_method_14_code 7 (some .int) 2 := ⟨kw_816, kw_65, by decide +kernel, by decide +kernel, by decide⟩
abbrev g_Main_narrow (E : XE) (d pc : Nat) (ls : List (Option AV)) (st : List AV) (H : HH) (Q : AV → HH → Prop) : Prop := Gp E.1 E.2.1 E.2.2.1 E.2.2.2 xTX xRF xLC d "ThreePoints" prog_1_method_15_code 4 (some .int) pc ls st H Q
def c_Main_narrow (E : XE) (d : Nat) (x1 : Int32) (x2 : Int32) (H : HH) (Q : Int32 → HH → Prop) : Prop := g_Main_narrow E d 0 (xent [vr 0 0, vi x1, vi x2]) [] H (qi Q)
theorem xm_Main_narrow : xM ⟨"ThreePoints", "narrow", "(II)I"⟩ prog_1_method_15_code 4 (some .int) 2 := ⟨kw_821, kw_65, by decide +kernel, by decide +kernel, by decide⟩
abbrev g_Main_cut (E : XE) (d pc : Nat) (ls : List (Option AV)) (st : List AV) (H : HH) (Q : AV → HH → Prop) : Prop := Gp E.1 E.2.1 E.2.2.1 E.2.2.2 xTX xRF xLC d "ThreePoints" prog_1_method_16_code 4 (some .int) pc ls st H Q
def c_Main_cut (E : XE) (d : Nat) (x1 : Int32) (x2 : Int32) (H : HH) (Q : Int32 → HH → Prop) : Prop := g_Main_cut E d 0 (xent [vr 0 0, vi x1, vi x2]) [] H (qi Q)
theorem xm_Main_cut : xM ⟨"ThreePoints", "cut", "(II)I"⟩ prog_1_method_16_code 4 (some .int) 2 := ⟨kw_825, kw_65, by decide +kernel, by decide +kernel, by decide⟩
abbrev g_Main_headings (E : XE) (d pc : Nat) (ls : List (Option AV)) (st : List AV) (H : HH) (Q : AV → HH → Prop) : Prop := Gp E.1 E.2.1 E.2.2.1 E.2.2.2 xTX xRF xLC d "ThreePoints" prog_1_method_17_code 2 (some .int) pc ls st H Q
def c_Main_headings (E : XE) (d : Nat) (x1 : Int32) (H : HH) (Q : Int32 → HH → Prop) : Prop := g_Main_headings E d 0 (xent [vr 0 0, vi x1]) [] H (qi Q)
theorem xm_Main_headings : xM ⟨"ThreePoints", "headings", "(I)I"⟩ prog_1_method_17_code 2 (some .int) 1 := ⟨kw_829, kw_65, by decide +kernel, by decide +kernel, by decide⟩
abbrev g_Main_best (E : XE) (d pc : Nat) (ls : List (Option AV)) (st : List AV) (H : HH) (Q : AV → HH → Prop) : Prop := Gp E.1 E.2.1 E.2.2.1 E.2.2.2 xTX xRF xLC d "ThreePoints" prog_1_method_18_code 6 (some .int) pc ls st H Q
def c_Main_best (E : XE) (d : Nat) (x1 : Int32) (H : HH) (Q : Int32 → HH → Prop) : Prop := g_Main_best E d 0 (xent [vr 0 0, vi x1]) [] H (qi Q)
theorem xm_Main_best : xM ⟨"ThreePoints", "best", "(I)I"⟩ prog_1_method_18_code 6 (some .int) 1 := ⟨kw_841, kw_65, by decide +kernel, by decide +kernel, by decide⟩
abbrev g_Main_refusalOfMoves (E : XE) (d pc : Nat) (ls : List (Option AV)) (st : List AV) (H : HH) (Q : AV → HH → Prop) : Prop := Gp E.1 E.2.1 E.2.2.1 E.2.2.2 xTX xRF xLC d "ThreePoints" prog_1_method_45_code 3 (some .int) pc ls st H Q
def c_Main_refusalOfMoves (E : XE) (d : Nat) (x1 : Int32) (x2 : Int32) (H : HH) (Q : Int32 → HH → Prop) : Prop := g_Main_refusalOfMoves E d 0 (xent [vr 0 0, vi x1, vi x2]) [] H (qi Q)
theorem xm_Main_refusalOfMoves : xM ⟨"ThreePoints", "refusalOfMoves", "(II)I"⟩ prog_1_method_45_code 3 (some .int) 2 := ⟨kw_849, kw_65, by decide +kernel, by decide +kernel, by decide⟩
abbrev g_Main_judge (E : XE) (d pc : Nat) (ls : List (Option AV)) (st : List AV) (H : HH) (Q : AV → HH → Prop) : Prop := Gp E.1 E.2.1 E.2.2.1 E.2.2.2 xTX xRF xLC d "ThreePoints" prog_1_method_19_code 4 (some .int) pc ls st H Q
def c_Main_judge (E : XE) (d : Nat) (x1 : Int32) (x2 : Int32) (H : HH) (Q : Int32 → HH → Prop) : Prop := g_Main_judge E d 0 (xent [vr 0 0, vi x1, vi x2]) [] H (qi Q)
theorem xm_Main_judge : xM ⟨"ThreePoints", "judge", "(II)I"⟩ prog_1_method_19_code 4 (some .int) 2 := ⟨kw_845, kw_65, by decide +kernel, by decide +kernel, by decide⟩
abbrev g_Main_ends (E : XE) (d pc : Nat) (ls : List (Option AV)) (st : List AV) (H : HH) (Q : AV → HH → Prop) : Prop := Gp E.1 E.2.1 E.2.2.1 E.2.2.2 xTX xRF xLC d "ThreePoints" prog_1_method_20_code 5 (some .int) pc ls st H Q
def c_Main_ends (E : XE) (d : Nat) (x1 : Int32) (x2 : Int32) (x3 : Int32) (H : HH) (Q : Int32 → HH → Prop) : Prop := g_Main_ends E d 0 (xent [vr 0 0, vi x1, vi x2, vi x3]) [] H (qi Q)
theorem xm_Main_ends : xM ⟨"ThreePoints", "ends", "(III)I"⟩ prog_1_method_20_code 5 (some .int) 3 := ⟨kw_878, kw_65, by decide +kernel, by decide +kernel, by decide⟩
abbrev g_Main_kinds (E : XE) (d pc : Nat) (ls : List (Option AV)) (st : List AV) (H : HH) (Q : AV → HH → Prop) : Prop := Gp E.1 E.2.1 E.2.2.1 E.2.2.2 xTX xRF xLC d "ThreePoints" prog_1_method_21_code 9 (some .int) pc ls st H Q
def c_Main_kinds (E : XE) (d : Nat) (x1 : Int32) (x2 : Int32) (x3 : Int32) (H : HH) (Q : Int32 → HH → Prop) : Prop := g_Main_kinds E d 0 (xent [vr 0 0, vi x1, vi x2, vi x3]) [] H (qi Q)
theorem xm_Main_kinds : xM ⟨"ThreePoints", "kinds", "(III)I"⟩ prog_1_method_21_code 9 (some .int) 3 := ⟨kw_882, kw_65, by decide +kernel, by decide +kernel, by decide⟩
abbrev g_Main_widths (E : XE) (d pc : Nat) (ls : List (Option AV)) (st : List AV) (H : HH) (Q : AV → HH → Prop) : Prop := Gp E.1 E.2.1 E.2.2.1 E.2.2.2 xTX xRF xLC d "ThreePoints" prog_1_method_22_code 8 (some .int) pc ls st H Q
def c_Main_widths (E : XE) (d : Nat) (x1 : Int32) (x2 : Int32) (x3 : Int32) (H : HH) (Q : Int32 → HH → Prop) : Prop := g_Main_widths E d 0 (xent [vr 0 0, vi x1, vi x2, vi x3]) [] H (qi Q)
theorem xm_Main_widths : xM ⟨"ThreePoints", "widths", "(III)I"⟩ prog_1_method_22_code 8 (some .int) 3 := ⟨kw_886, kw_65, by decide +kernel, by decide +kernel, by decide⟩
abbrev g_Main_laws (E : XE) (d pc : Nat) (ls : List (Option AV)) (st : List AV) (H : HH) (Q : AV → HH → Prop) : Prop := Gp E.1 E.2.1 E.2.2.1 E.2.2.2 xTX xRF xLC d "ThreePoints" prog_1_method_23_code 6 (some .int) pc ls st H Q
def c_Main_laws (E : XE) (d : Nat) (x1 : Int32) (x2 : Int32) (H : HH) (Q : Int32 → HH → Prop) : Prop := g_Main_laws E d 0 (xent [vr 0 0, vi x1, vi x2]) [] H (qi Q)
theorem xm_Main_laws : xM ⟨"ThreePoints", "laws", "(II)I"⟩ prog_1_method_23_code 6 (some .int) 2 := ⟨kw_890, kw_65, by decide +kernel, by decide +kernel, by decide⟩
abbrev g_Main_drawn (E : XE) (d pc : Nat) (ls : List (Option AV)) (st : List AV) (H : HH) (Q : AV → HH → Prop) : Prop := Gp E.1 E.2.1 E.2.2.1 E.2.2.2 xTX xRF xLC d "ThreePoints" prog_1_method_24_code 6 (some .int) pc ls st H Q
def c_Main_drawn (E : XE) (d : Nat) (x1 : Int32) (x2 : Int32) (x3 : Int32) (x4 : Int32) (H : HH) (Q : Int32 → HH → Prop) : Prop := g_Main_drawn E d 0 (xent [vr 0 0, vi x1, vi x2, vi x3, vi x4]) [] H (qi Q)
theorem xm_Main_drawn : xM ⟨"ThreePoints", "drawn", "(IIII)I"⟩ prog_1_method_24_code 6 (some .int) 4 := ⟨kw_894, kw_65, by decide +kernel, by decide +kernel, by decide⟩
abbrev g_Main_odds (E : XE) (d pc : Nat) (ls : List (Option AV)) (st : List AV) (H : HH) (Q : AV → HH → Prop) : Prop := Gp E.1 E.2.1 E.2.2.1 E.2.2.2 xTX xRF xLC d "ThreePoints" prog_1_method_25_code 9 (some .long) pc ls st H Q
def c_Main_odds (E : XE) (d : Nat) (x1 : Int32) (x2 : Int32) (x3 : Int32) (x4 : Int32) (H : HH) (Q : Int64 → HH → Prop) : Prop := g_Main_odds E d 0 (xent [vr 0 0, vi x1, vi x2, vi x3, vi x4]) [] H (ql Q)
theorem xm_Main_odds : xM ⟨"ThreePoints", "odds", "(IIII)J"⟩ prog_1_method_25_code 9 (some .long) 4 := ⟨kw_909, kw_65, by decide +kernel, by decide +kernel, by decide⟩
abbrev g_Main_image (E : XE) (d pc : Nat) (ls : List (Option AV)) (st : List AV) (H : HH) (Q : AV → HH → Prop) : Prop := Gp E.1 E.2.1 E.2.2.1 E.2.2.2 xTX xRF xLC d "ThreePoints" prog_1_method_26_code 1 (some .int) pc ls st H Q
def c_Main_image (E : XE) (d : Nat)  (H : HH) (Q : Int32 → HH → Prop) : Prop := g_Main_image E d 0 (xent [vr 0 0]) [] H (qi Q)
theorem xm_Main_image : xM ⟨"ThreePoints", "image", "()I"⟩ prog_1_method_26_code 1 (some .int) 0 := ⟨kw_917, kw_65, by decide +kernel, by decide +kernel, by decide⟩
abbrev g_Main_back (E : XE) (d pc : Nat) (ls : List (Option AV)) (st : List AV) (H : HH) (Q : AV → HH → Prop) : Prop := Gp E.1 E.2.1 E.2.2.1 E.2.2.2 xTX xRF xLC d "ThreePoints" prog_1_method_27_code 1 (some .int) pc ls st H Q
def c_Main_back (E : XE) (d : Nat)  (H : HH) (Q : Int32 → HH → Prop) : Prop := g_Main_back E d 0 (xent [vr 0 0]) [] H (qi Q)
theorem xm_Main_back : xM ⟨"ThreePoints", "back", "()I"⟩ prog_1_method_27_code 1 (some .int) 0 := ⟨kw_927, kw_65, by decide +kernel, by decide +kernel, by decide⟩
abbrev g_Main_sheet (E : XE) (d pc : Nat) (ls : List (Option AV)) (st : List AV) (H : HH) (Q : AV → HH → Prop) : Prop := Gp E.1 E.2.1 E.2.2.1 E.2.2.2 xTX xRF xLC d "ThreePoints" prog_1_method_28_code 4 (some .int) pc ls st H Q
def c_Main_sheet (E : XE) (d : Nat) (x1 : Int32) (x2 : Int32) (x3 : Int32) (H : HH) (Q : Int32 → HH → Prop) : Prop := g_Main_sheet E d 0 (xent [vr 0 0, vi x1, vi x2, vi x3]) [] H (qi Q)
theorem xm_Main_sheet : xM ⟨"ThreePoints", "sheet", "(III)I"⟩ prog_1_method_28_code 4 (some .int) 3 := ⟨kw_931, kw_65, by decide +kernel, by decide +kernel, by decide⟩
abbrev g_Main_cell (E : XE) (d pc : Nat) (ls : List (Option AV)) (st : List AV) (H : HH) (Q : AV → HH → Prop) : Prop := Gp E.1 E.2.1 E.2.2.1 E.2.2.2 xTX xRF xLC d "ThreePoints" prog_1_method_29_code 4 (some .int) pc ls st H Q
def c_Main_cell (E : XE) (d : Nat) (x1 : Int32) (x2 : Int32) (x3 : Int32) (H : HH) (Q : Int32 → HH → Prop) : Prop := g_Main_cell E d 0 (xent [vr 0 0, vi x1, vi x2, vi x3]) [] H (qi Q)
theorem xm_Main_cell : xM ⟨"ThreePoints", "cell", "(III)I"⟩ prog_1_method_29_code 4 (some .int) 3 := ⟨kw_942, kw_65, by decide +kernel, by decide +kernel, by decide⟩
abbrev g_Main_copy (E : XE) (d pc : Nat) (ls : List (Option AV)) (st : List AV) (H : HH) (Q : AV → HH → Prop) : Prop := Gp E.1 E.2.1 E.2.2.1 E.2.2.2 xTX xRF xLC d "ThreePoints" prog_1_method_30_code 8 (some .int) pc ls st H Q
def c_Main_copy (E : XE) (d : Nat) (x1 : Int32) (x2 : Int32) (x3 : Int32) (x4 : Int32) (x5 : Int32) (H : HH) (Q : Int32 → HH → Prop) : Prop := g_Main_copy E d 0 (xent [vr 0 0, vi x1, vi x2, vi x3, vi x4, vi x5]) [] H (qi Q)
theorem xm_Main_copy : xM ⟨"ThreePoints", "copy", "(IIIII)I"⟩ prog_1_method_30_code 8 (some .int) 5 := ⟨kw_951, kw_65, by decide +kernel, by decide +kernel, by decide⟩
abbrev g_Main_vehiclesBy (E : XE) (d pc : Nat) (ls : List (Option AV)) (st : List AV) (H : HH) (Q : AV → HH → Prop) : Prop := Gp E.1 E.2.1 E.2.2.1 E.2.2.2 xTX xRF xLC d "ThreePoints" prog_1_method_31_code 9 (some .int) pc ls st H Q
def c_Main_vehiclesBy (E : XE) (d : Nat) (x1 : Int32) (x2 : Int32) (x3 : Int32) (x4 : Int32) (H : HH) (Q : Int32 → HH → Prop) : Prop := g_Main_vehiclesBy E d 0 (xent [vr 0 0, vi x1, vi x2, vi x3, vi x4]) [] H (qi Q)
theorem xm_Main_vehiclesBy : xM ⟨"ThreePoints", "vehiclesBy", "(IIII)I"⟩ prog_1_method_31_code 9 (some .int) 4 := ⟨kw_960, kw_65, by decide +kernel, by decide +kernel, by decide⟩
abbrev g_Main_taken (E : XE) (d pc : Nat) (ls : List (Option AV)) (st : List AV) (H : HH) (Q : AV → HH → Prop) : Prop := Gp E.1 E.2.1 E.2.2.1 E.2.2.2 xTX xRF xLC d "ThreePoints" prog_1_method_32_code 3 (some .int) pc ls st H Q
def c_Main_taken (E : XE) (d : Nat) (x1 : Int32) (x2 : Int32) (H : HH) (Q : Int32 → HH → Prop) : Prop := g_Main_taken E d 0 (xent [vr 0 0, vi x1, vi x2]) [] H (qi Q)
theorem xm_Main_taken : xM ⟨"ThreePoints", "taken", "(II)I"⟩ prog_1_method_32_code 3 (some .int) 2 := ⟨kw_965, kw_65, by decide +kernel, by decide +kernel, by decide⟩
def p_Main_count (E : XE) (d : Nat) (x1 : Int32) (H : HH) (Q : Int32 → HH → Prop) : Prop := (x1 = 0 → (Q (H 1 0 2) H)) ∧ (x1 = 1 → (Q (H 2 0 0) H)) ∧ (x1 = 2 → (Q (H 2 0 1) H)) ∧ (x1 = 3 → (Q (H 0 0 5) H)) ∧ (x1 = 4 → (Q (H 2 0 2) H)) ∧ (x1 = 5 → (Q (H 6 0 1) H)) ∧ (¬ x1 = 0 → ¬ x1 = 1 → ¬ x1 = 2 → ¬ x1 = 3 → ¬ x1 = 4 → ¬ x1 = 5 → (Q (-2) H))
set_option maxHeartbeats 4000000 in
theorem l_Main_count {E : XE} {d : Nat} {x1 : Int32} {H : HH} {Q : Int32 → HH → Prop} (h : p_Main_count E d x1 H Q) : c_Main_count E d x1 H Q := by
  show g_Main_count E d 0 (xent [vr 0 0, vi x1]) [] H (qi Q)
  refine g_drop (ls2 := [some (vr 0 0), some (vi x1)]) (And.intro rfl (And.intro rfl trivial)) ?_
  refine g_iload_n (q := 1) (i := 1) (by decide +kernel) rfl rfl ?_
  obtain ⟨hk, h⟩ := h
  by_cases e0 : x1 = 0
  · replace h := hk e0
    refine g_tableIn (dflt := 96) (lo := 0) (hi := 5) (offs := #[39, 47, 58, 69, 74, 85]) (len := 39) (tgt := 40) (by decide +kernel) (by rw [e0]; decide) (by rw [e0]; decide) (by rw [e0]; rfl) (by decide) ?_
    refine g_aload_n (q := 0) (i := 0) (by decide +kernel) rfl rfl ?_
    refine g_get (C := "ThreePoints") (T := xT_Main) (N := 9) (ci := 0) (k := 0) (v := vr 1 0) (by decide +kernel) (by decide) rfl rfl xi_Main (by decide) kw_582 rfl ?_
    refine g_get (C := "ThreePoints$Yard") (T := xT_Yard) (N := 3) (ci := 1) (k := 2) (v := vi (H 1 0 2)) (by decide +kernel) (by decide) rfl rfl xi_Yard (by decide) kw_167 rfl ?_
    exact g_iret (by decide +kernel) rfl ⟨_, rfl, h⟩
  clear hk
  obtain ⟨hk, h⟩ := h
  by_cases e1 : x1 = 1
  · replace h := hk e1
    refine g_tableIn (dflt := 96) (lo := 0) (hi := 5) (offs := #[39, 47, 58, 69, 74, 85]) (len := 39) (tgt := 48) (by decide +kernel) (by rw [e1]; decide) (by rw [e1]; decide) (by rw [e1]; rfl) (by decide) ?_
    refine g_aload_n (q := 0) (i := 0) (by decide +kernel) rfl rfl ?_
    refine g_get (C := "ThreePoints") (T := xT_Main) (N := 9) (ci := 0) (k := 0) (v := vr 1 0) (by decide +kernel) (by decide) rfl rfl xi_Main (by decide) kw_582 rfl ?_
    refine g_get (C := "ThreePoints$Yard") (T := xT_Yard) (N := 3) (ci := 1) (k := 0) (v := vr 2 0) (by decide +kernel) (by decide) rfl rfl xi_Yard (by decide) kw_163 rfl ?_
    refine g_get (C := "ThreePoints$Lane") (T := xT_Lane) (N := 3) (ci := 2) (k := 0) (v := vi (H 2 0 0)) (by decide +kernel) (by decide) rfl rfl xi_Lane (by decide) kw_106 rfl ?_
    exact g_iret (by decide +kernel) rfl ⟨_, rfl, h⟩
  clear hk
  obtain ⟨hk, h⟩ := h
  by_cases e2 : x1 = 2
  · replace h := hk e2
    refine g_tableIn (dflt := 96) (lo := 0) (hi := 5) (offs := #[39, 47, 58, 69, 74, 85]) (len := 39) (tgt := 59) (by decide +kernel) (by rw [e2]; decide) (by rw [e2]; decide) (by rw [e2]; rfl) (by decide) ?_
    refine g_aload_n (q := 0) (i := 0) (by decide +kernel) rfl rfl ?_
    refine g_get (C := "ThreePoints") (T := xT_Main) (N := 9) (ci := 0) (k := 0) (v := vr 1 0) (by decide +kernel) (by decide) rfl rfl xi_Main (by decide) kw_582 rfl ?_
    refine g_get (C := "ThreePoints$Yard") (T := xT_Yard) (N := 3) (ci := 1) (k := 0) (v := vr 2 0) (by decide +kernel) (by decide) rfl rfl xi_Yard (by decide) kw_163 rfl ?_
    refine g_get (C := "ThreePoints$Lane") (T := xT_Lane) (N := 3) (ci := 2) (k := 1) (v := vi (H 2 0 1)) (by decide +kernel) (by decide) rfl rfl xi_Lane (by decide) kw_109 rfl ?_
    exact g_iret (by decide +kernel) rfl ⟨_, rfl, h⟩
  clear hk
  obtain ⟨hk, h⟩ := h
  by_cases e3 : x1 = 3
  · replace h := hk e3
    refine g_tableIn (dflt := 96) (lo := 0) (hi := 5) (offs := #[39, 47, 58, 69, 74, 85]) (len := 39) (tgt := 70) (by decide +kernel) (by rw [e3]; decide) (by rw [e3]; decide) (by rw [e3]; rfl) (by decide) ?_
    refine g_aload_n (q := 0) (i := 0) (by decide +kernel) rfl rfl ?_
    refine g_get (C := "ThreePoints") (T := xT_Main) (N := 9) (ci := 0) (k := 5) (v := vi (H 0 0 5)) (by decide +kernel) (by decide) rfl rfl xi_Main (by decide) kw_587 rfl ?_
    exact g_iret (by decide +kernel) rfl ⟨_, rfl, h⟩
  clear hk
  obtain ⟨hk, h⟩ := h
  by_cases e4 : x1 = 4
  · replace h := hk e4
    refine g_tableIn (dflt := 96) (lo := 0) (hi := 5) (offs := #[39, 47, 58, 69, 74, 85]) (len := 39) (tgt := 75) (by decide +kernel) (by rw [e4]; decide) (by rw [e4]; decide) (by rw [e4]; rfl) (by decide) ?_
    refine g_aload_n (q := 0) (i := 0) (by decide +kernel) rfl rfl ?_
    refine g_get (C := "ThreePoints") (T := xT_Main) (N := 9) (ci := 0) (k := 0) (v := vr 1 0) (by decide +kernel) (by decide) rfl rfl xi_Main (by decide) kw_582 rfl ?_
    refine g_get (C := "ThreePoints$Yard") (T := xT_Yard) (N := 3) (ci := 1) (k := 0) (v := vr 2 0) (by decide +kernel) (by decide) rfl rfl xi_Yard (by decide) kw_163 rfl ?_
    refine g_get (C := "ThreePoints$Lane") (T := xT_Lane) (N := 3) (ci := 2) (k := 2) (v := vi (H 2 0 2)) (by decide +kernel) (by decide) rfl rfl xi_Lane (by decide) kw_112 rfl ?_
    exact g_iret (by decide +kernel) rfl ⟨_, rfl, h⟩
  clear hk
  obtain ⟨hk, h⟩ := h
  by_cases e5 : x1 = 5
  · replace h := hk e5
    refine g_tableIn (dflt := 96) (lo := 0) (hi := 5) (offs := #[39, 47, 58, 69, 74, 85]) (len := 39) (tgt := 86) (by decide +kernel) (by rw [e5]; decide) (by rw [e5]; decide) (by rw [e5]; rfl) (by decide) ?_
    refine g_aload_n (q := 0) (i := 0) (by decide +kernel) rfl rfl ?_
    refine g_get (C := "ThreePoints") (T := xT_Main) (N := 9) (ci := 0) (k := 3) (v := vr 5 0) (by decide +kernel) (by decide) rfl rfl xi_Main (by decide) kw_585 rfl ?_
    refine g_get (C := "ThreePoints$Reader") (T := xT_Reader) (N := 5) (ci := 4) (k := 0) (v := vr 6 0) (by decide +kernel) (by decide) rfl rfl xi_Reader (by decide) kw_228 rfl ?_
    refine g_get (C := "ThreePoints$Tape") (T := xT_Tape) (N := 6) (ci := 5) (k := 1) (v := vi (H 6 0 1)) (by decide +kernel) (by decide) rfl rfl xi_Tape (by decide) kw_189 rfl ?_
    exact g_iret (by decide +kernel) rfl ⟨_, rfl, h⟩
  clear hk
  replace h := h e0 e1 e2 e3 e4 e5
  refine g_tableOut (dflt := 96) (lo := 0) (hi := 5) (offs := #[39, 47, 58, 69, 74, 85]) (len := 39) (tgt := 97) (by decide +kernel) (by have q0 := xsw (m := 0) (by decide) e0; have q1 := xsw (m := 1) (by decide) e1; have q2 := xsw (m := 2) (by decide) e2; have q3 := xsw (m := 3) (by decide) e3; have q4 := xsw (m := 4) (by decide) e4; have q5 := xsw (m := 5) (by decide) e5; omega) (by decide) ?_
  refine g_bipush (n := (-2)) (v := (-2)) (by decide +kernel) (by decide) ?_
  exact g_iret (by decide +kernel) rfl ⟨_, rfl, h⟩
def p_Main_isVehicle (E : XE) (d : Nat) (x1 : Int32) (H : HH) (Q : Int32 → HH → Prop) : Prop := ((if x1 < 0 then 0 else (if (H 1 0 2) ≤ x1 then 0 else (if 4 ≤ x1 then 0 else 1 : Int32) : Int32) : Int32) = 0 ∨ (if x1 < 0 then 0 else (if (H 1 0 2) ≤ x1 then 0 else (if 4 ≤ x1 then 0 else 1 : Int32) : Int32) : Int32) = 1) ∧ Q (if x1 < 0 then 0 else (if (H 1 0 2) ≤ x1 then 0 else (if 4 ≤ x1 then 0 else 1 : Int32) : Int32) : Int32) H
set_option maxHeartbeats 4000000 in
theorem l_Main_isVehicle {E : XE} {d : Nat} {x1 : Int32} {H : HH} {Q : Int32 → HH → Prop} (h : p_Main_isVehicle E d x1 H Q) : c_Main_isVehicle E d x1 H Q := by
  show g_Main_isVehicle E d 0 (xent [vr 0 0, vi x1]) [] H (qi Q)
  refine g_drop (ls2 := [some (vr 0 0), some (vi x1)]) (And.intro rfl (And.intro rfl trivial)) ?_
  refine g_iload_n (q := 1) (i := 1) (by decide +kernel) rfl rfl ?_
  suffices hj3 : g_Main_isVehicle E d 25 [some (vr 0 0), some (vi x1)] [vi (if x1 < 0 then 0 else (if (H 1 0 2) ≤ x1 then 0 else (if 4 ≤ x1 then 0 else 1 : Int32) : Int32) : Int32)] H (qi Q) by
    refine g_if_lt (off := 23) (tgt := 24) (by decide +kernel) (by decide) (fun c => ?_) (fun c => ?_)
    · rw [if_pos c] at hj3
      refine g_iconst (n := 0) (v := 0) (by decide +kernel) (by decide) ?_
      exact hj3
    · rw [if_neg c] at hj3
      refine g_iload_n (q := 1) (i := 1) (by decide +kernel) rfl rfl ?_
      refine g_aload_n (q := 0) (i := 0) (by decide +kernel) rfl rfl ?_
      refine g_get (C := "ThreePoints") (T := xT_Main) (N := 9) (ci := 0) (k := 0) (v := vr 1 0) (by decide +kernel) (by decide) rfl rfl xi_Main (by decide) kw_582 rfl ?_
      refine g_get (C := "ThreePoints$Yard") (T := xT_Yard) (N := 3) (ci := 1) (k := 2) (v := vi (H 1 0 2)) (by decide +kernel) (by decide) rfl rfl xi_Yard (by decide) kw_167 rfl ?_
      suffices hj2 : g_Main_isVehicle E d 25 [some (vr 0 0), some (vi x1)] [vi (if (H 1 0 2) ≤ x1 then 0 else (if 4 ≤ x1 then 0 else 1 : Int32) : Int32)] H (qi Q) by
        refine g_icmp_ge (off := 12) (tgt := 24) (by decide +kernel) (by decide) (fun c => ?_) (fun c => ?_)
        · rw [if_pos c] at hj2
          refine g_iconst (n := 0) (v := 0) (by decide +kernel) (by decide) ?_
          exact hj2
        · rw [if_neg c] at hj2
          refine g_iload_n (q := 1) (i := 1) (by decide +kernel) rfl rfl ?_
          refine g_iconst (n := 4) (v := 4) (by decide +kernel) (by decide) ?_
          suffices hj1 : g_Main_isVehicle E d 25 [some (vr 0 0), some (vi x1)] [vi (if 4 ≤ x1 then 0 else 1 : Int32)] H (qi Q) by
            refine g_icmp_ge (off := 7) (tgt := 24) (by decide +kernel) (by decide) (fun c => ?_) (fun c => ?_)
            · rw [if_pos c] at hj1
              refine g_iconst (n := 0) (v := 0) (by decide +kernel) (by decide) ?_
              exact hj1
            · rw [if_neg c] at hj1
              refine g_iconst (n := 1) (v := 1) (by decide +kernel) (by decide) ?_
              refine g_goto (off := 4) (tgt := 25) (by decide +kernel) (by decide) ?_
              exact hj1
          exact hj2
      exact hj3
  obtain ⟨h01, h⟩ := h
  exact g_zret (by decide +kernel) rfl (nbool h01) ⟨_, rfl, h⟩
def p_Main_think (E : XE) (d : Nat) (x1 : Int32) (H : HH) (Q : HH → Prop) : Prop := c_Lane_become E d 2 0 H (fun H1 => c_Main_isWithin E d (H1 2 0 2) 0 5 H1 (fun r3 H2 => (r3 = 0 → (∀ H4 : HH, H4 = (hu H2 19 0 2 0) → (c_Main_isVehicle E d x1 H4 (fun r6 H5 => (r6 = 0 → (Q H5)) ∧ (¬ r6 = 0 → (vp_in x1 4 ∧ (c_Vehicle_become E d 8 (4 * 0 + (x1.toNatClampNeg)) H5 (fun H7 => Q H7)))))))) ∧ (¬ r3 = 0 → (vp_in (H2 2 0 2) 6 ∧ (((H2 2 0 2).toNatClampNeg) < 7 ∧ (∀ H8 : HH, H8 = (hu H2 19 0 2 (nI (((H2 2 0 2).toNatClampNeg) + 1))) → (c_Main_isVehicle E d x1 H8 (fun r10 H9 => (r10 = 0 → (Q H9)) ∧ (¬ r10 = 0 → (vp_in x1 4 ∧ (c_Vehicle_become E d 8 (4 * 0 + (x1.toNatClampNeg)) H9 (fun H11 => Q H11))))))))))))
set_option maxHeartbeats 4000000 in
theorem l_Main_think {E : XE} {d : Nat} {x1 : Int32} {H : HH} {Q : HH → Prop} (h : p_Main_think E d x1 H Q) : c_Main_think E (d + 1) x1 H Q := by
  show g_Main_think E (d + 1) 0 (xent [vr 0 0, vi x1]) [] H (qv Q)
  refine g_drop (ls2 := [some (vr 0 0), some (vi x1)]) (And.intro rfl (And.intro rfl trivial)) ?_
  refine g_aload_n (q := 0) (i := 0) (by decide +kernel) rfl rfl ?_
  refine g_get (C := "ThreePoints") (T := xT_Main) (N := 9) (ci := 0) (k := 7) (v := vr 19 0) (by decide +kernel) (by decide) rfl rfl xi_Main (by decide) kw_589 rfl ?_
  refine g_get (C := "ThreePoints$Ride") (T := xT_Ride) (N := 4) (ci := 8) (k := 0) (v := vr 2 2) (by decide +kernel) (by decide) rfl rfl xi_Ride (by decide) kw_261 rfl ?_
  refine g_aload_n (q := 0) (i := 0) (by decide +kernel) rfl rfl ?_
  refine g_get (C := "ThreePoints") (T := xT_Main) (N := 9) (ci := 0) (k := 0) (v := vr 1 0) (by decide +kernel) (by decide) rfl rfl xi_Main (by decide) kw_582 rfl ?_
  refine g_get (C := "ThreePoints$Yard") (T := xT_Yard) (N := 3) (ci := 1) (k := 0) (v := vr 2 0) (by decide +kernel) (by decide) rfl rfl xi_Yard (by decide) kw_163 rfl ?_
  refine g_callV (kd := 2) (ix := 2) (ci := 2) (N := 3) (T := xT_Lane) (vs := [vr 2 0]) (st := []) (by decide +kernel) xm_Lane_become kw_626 kw_627 kw_628 (by decide) rfl rfl rfl rfl (Nat.le_of_ble_eq_true rfl) (Nat.le_of_ble_eq_true rfl) h (fun vH1 H1 hq => ?_)
  replace h := hq
  refine g_aload_n (q := 0) (i := 0) (by decide +kernel) rfl rfl ?_
  refine g_get (C := "ThreePoints") (T := xT_Main) (N := 9) (ci := 0) (k := 7) (v := vr 19 0) (by decide +kernel) (by decide) rfl rfl xi_Main (by decide) kw_589 rfl ?_
  refine g_aload_n (q := 0) (i := 0) (by decide +kernel) rfl rfl ?_
  refine g_get (C := "ThreePoints") (T := xT_Main) (N := 9) (ci := 0) (k := 0) (v := vr 1 0) (by decide +kernel) (by decide) rfl rfl xi_Main (by decide) kw_582 rfl ?_
  refine g_get (C := "ThreePoints$Yard") (T := xT_Yard) (N := 3) (ci := 1) (k := 0) (v := vr 2 0) (by decide +kernel) (by decide) rfl rfl xi_Yard (by decide) kw_163 rfl ?_
  refine g_get (C := "ThreePoints$Lane") (T := xT_Lane) (N := 3) (ci := 2) (k := 2) (v := vi (H1 2 0 2)) (by decide +kernel) (by decide) rfl rfl xi_Lane (by decide) kw_112 rfl ?_
  refine g_iconst (n := 0) (v := 0) (by decide +kernel) (by decide) ?_
  refine g_iconst (n := 5) (v := 5) (by decide +kernel) (by decide) ?_
  refine g_callS (vs := [vi (H1 2 0 2), vi 0, vi 5]) (st := [vr 19 0]) (by decide +kernel) xm_Main_isWithin kw_619 kw_620 rfl rfl (Nat.le_of_ble_eq_true rfl) (Nat.le_of_ble_eq_true rfl) h (fun vH2 H2 hq => ?_)
  obtain ⟨r3, rfl, h⟩ := hq
  refine g_if_eq (off := 21) (tgt := 57) (by decide +kernel) (by decide) (fun c => ?_) (fun c => ?_)
  · replace h := h.1 c
    refine g_null (by decide +kernel) ?_
    refine g_putN (by decide +kernel) kw_266 ?_
    refine g_aload_n (q := 0) (i := 0) (by decide +kernel) rfl rfl ?_
    refine g_iload_n (q := 1) (i := 1) (by decide +kernel) rfl rfl ?_
    refine g_heap (fun H4 eH4 => ?_)
    replace h := h H4 eH4
    refine g_callV (kd := 0) (ix := 0) (ci := 0) (N := 9) (T := xT_Main) (vs := [vi x1]) (st := []) (by decide +kernel) xm_Main_isVehicle kw_630 kw_632 kw_18 (by decide) rfl rfl rfl rfl (Nat.le_of_ble_eq_true rfl) (Nat.le_of_ble_eq_true rfl) h (fun vH5 H5 hq => ?_)
    obtain ⟨r6, rfl, h⟩ := hq
    refine g_if_eq (off := 22) (tgt := 88) (by decide +kernel) (by decide) (fun c => ?_) (fun c => ?_)
    · replace h := h.1 c
      exact g_vret (by decide +kernel) rfl h
    · replace h := h.2 c
      refine g_aload_n (q := 0) (i := 0) (by decide +kernel) rfl rfl ?_
      refine g_get (C := "ThreePoints") (T := xT_Main) (N := 9) (ci := 0) (k := 7) (v := vr 19 0) (by decide +kernel) (by decide) rfl rfl xi_Main (by decide) kw_589 rfl ?_
      refine g_get (C := "ThreePoints$Ride") (T := xT_Ride) (N := 4) (ci := 8) (k := 1) (v := vr 3 8) (by decide +kernel) (by decide) rfl rfl xi_Ride (by decide) kw_264 rfl ?_
      refine g_aload_n (q := 0) (i := 0) (by decide +kernel) rfl rfl ?_
      refine g_get (C := "ThreePoints") (T := xT_Main) (N := 9) (ci := 0) (k := 0) (v := vr 1 0) (by decide +kernel) (by decide) rfl rfl xi_Main (by decide) kw_582 rfl ?_
      refine g_get (C := "ThreePoints$Yard") (T := xT_Yard) (N := 3) (ci := 1) (k := 1) (v := vr 4 0) (by decide +kernel) (by decide) rfl rfl xi_Yard (by decide) kw_165 rfl ?_
      refine g_iload_n (q := 1) (i := 1) (by decide +kernel) rfl rfl ?_
      obtain ⟨hin, h⟩ := h
      refine g_aald (v := vr 3 (4 * 0 + (x1.toNatClampNeg))) (by decide +kernel) (by decide) rfl (by decide) hin rfl ?_
      refine g_callV (kd := 3) (ix := 8) (ci := 3) (N := 7) (T := xT_Vehicle) (vs := [vr 3 (4 * 0 + (x1.toNatClampNeg))]) (st := []) (by decide +kernel) xm_Vehicle_become kw_634 kw_635 kw_636 (by decide) rfl rfl rfl rfl (Nat.le_of_ble_eq_true rfl) (Nat.le_of_ble_eq_true rfl) h (fun vH7 H7 hq => ?_)
      replace h := hq
      exact g_vret (by decide +kernel) rfl h
  · replace h := h.2 c
    refine g_aload_n (q := 0) (i := 0) (by decide +kernel) rfl rfl ?_
    refine g_get (C := "ThreePoints") (T := xT_Main) (N := 9) (ci := 0) (k := 4) (v := vr 15 0) (by decide +kernel) (by decide) rfl rfl xi_Main (by decide) kw_586 rfl ?_
    refine g_aload_n (q := 0) (i := 0) (by decide +kernel) rfl rfl ?_
    refine g_get (C := "ThreePoints") (T := xT_Main) (N := 9) (ci := 0) (k := 0) (v := vr 1 0) (by decide +kernel) (by decide) rfl rfl xi_Main (by decide) kw_582 rfl ?_
    refine g_get (C := "ThreePoints$Yard") (T := xT_Yard) (N := 3) (ci := 1) (k := 0) (v := vr 2 0) (by decide +kernel) (by decide) rfl rfl xi_Yard (by decide) kw_163 rfl ?_
    refine g_get (C := "ThreePoints$Lane") (T := xT_Lane) (N := 3) (ci := 2) (k := 2) (v := vi (H2 2 0 2)) (by decide +kernel) (by decide) rfl rfl xi_Lane (by decide) kw_112 rfl ?_
    obtain ⟨hin, h⟩ := h
    refine g_aald (v := vr 11 ((H2 2 0 2).toNatClampNeg)) (by decide +kernel) (by decide) rfl (by decide) hin rfl ?_
    refine g_goto (off := 4) (tgt := 58) (by decide +kernel) (by decide) ?_
    obtain ⟨hlaw, h⟩ := h
    refine g_putT (by decide +kernel) kw_266 hlaw ?_
    refine g_aload_n (q := 0) (i := 0) (by decide +kernel) rfl rfl ?_
    refine g_iload_n (q := 1) (i := 1) (by decide +kernel) rfl rfl ?_
    refine g_heap (fun H8 eH8 => ?_)
    replace h := h H8 eH8
    refine g_callV (kd := 0) (ix := 0) (ci := 0) (N := 9) (T := xT_Main) (vs := [vi x1]) (st := []) (by decide +kernel) xm_Main_isVehicle kw_630 kw_632 kw_18 (by decide) rfl rfl rfl rfl (Nat.le_of_ble_eq_true rfl) (Nat.le_of_ble_eq_true rfl) h (fun vH9 H9 hq => ?_)
    obtain ⟨r10, rfl, h⟩ := hq
    refine g_if_eq (off := 22) (tgt := 88) (by decide +kernel) (by decide) (fun c => ?_) (fun c => ?_)
    · replace h := h.1 c
      exact g_vret (by decide +kernel) rfl h
    · replace h := h.2 c
      refine g_aload_n (q := 0) (i := 0) (by decide +kernel) rfl rfl ?_
      refine g_get (C := "ThreePoints") (T := xT_Main) (N := 9) (ci := 0) (k := 7) (v := vr 19 0) (by decide +kernel) (by decide) rfl rfl xi_Main (by decide) kw_589 rfl ?_
      refine g_get (C := "ThreePoints$Ride") (T := xT_Ride) (N := 4) (ci := 8) (k := 1) (v := vr 3 8) (by decide +kernel) (by decide) rfl rfl xi_Ride (by decide) kw_264 rfl ?_
      refine g_aload_n (q := 0) (i := 0) (by decide +kernel) rfl rfl ?_
      refine g_get (C := "ThreePoints") (T := xT_Main) (N := 9) (ci := 0) (k := 0) (v := vr 1 0) (by decide +kernel) (by decide) rfl rfl xi_Main (by decide) kw_582 rfl ?_
      refine g_get (C := "ThreePoints$Yard") (T := xT_Yard) (N := 3) (ci := 1) (k := 1) (v := vr 4 0) (by decide +kernel) (by decide) rfl rfl xi_Yard (by decide) kw_165 rfl ?_
      refine g_iload_n (q := 1) (i := 1) (by decide +kernel) rfl rfl ?_
      obtain ⟨hin, h⟩ := h
      refine g_aald (v := vr 3 (4 * 0 + (x1.toNatClampNeg))) (by decide +kernel) (by decide) rfl (by decide) hin rfl ?_
      refine g_callV (kd := 3) (ix := 8) (ci := 3) (N := 7) (T := xT_Vehicle) (vs := [vr 3 (4 * 0 + (x1.toNatClampNeg))]) (st := []) (by decide +kernel) xm_Vehicle_become kw_634 kw_635 kw_636 (by decide) rfl rfl rfl rfl (Nat.le_of_ble_eq_true rfl) (Nat.le_of_ble_eq_true rfl) h (fun vH11 H11 hq => ?_)
      replace h := hq
      exact g_vret (by decide +kernel) rfl h
def p_Main_set (E : XE) (d : Nat) (x1 : Int32) (x2 : Int32) (H : HH) (Q : Int32 → HH → Prop) : Prop := c_Main_isWithin E d x1 0 1 H (fun r2 H1 => (¬ r2 = 0 → (∀ v4 : Int32, v4 = (if x1 = 0 then 1 else 0 : Int32) → ((v4 = 0 → (c_Main_isWithin E d x2 0 20 H1 (fun r6 H5 => (¬ r6 = 0 → (∃ (I7 : Int32 → HH → Prop) (μ7 : Int32 → HH → Nat), I7 0 H5 ∧ ∀ (z8 : Int32) (H9 : HH), I7 z8 H9 → (((H9 1 0 2) ≤ z8 → (∀ v11 : Int32, v11 = (if v4 = 0 then (H9 2 0 1) else (H9 2 0 0) : Int32) → ((v4 = 0 → (∀ H12 : HH, H12 = (hu H9 2 0 1 x2) → (Q v11 H12))) ∧ (¬ v4 = 0 → (∀ H13 : HH, H13 = (hu H9 2 0 0 x2) → (Q v11 H13)))))) ∧ (¬ (H9 1 0 2) ≤ z8 → (c_Main_think E d z8 H9 (fun H14 => (v4 = 0 → (∀ H15 : HH, H15 = (hu H14 2 2 1 x2) → (c_Ride_fitsNow E d  H15 (fun r17 H16 => (¬ r17 = 0 → (I7 (z8 + 1) H16 ∧ μ7 (z8 + 1) H16 < μ7 z8 H9)) ∧ (r17 = 0 → (Q (-3) H16)))))) ∧ (¬ v4 = 0 → (∀ H18 : HH, H18 = (hu H14 2 2 0 x2) → (c_Ride_fitsNow E d  H18 (fun r20 H19 => (¬ r20 = 0 → (I7 (z8 + 1) H19 ∧ μ7 (z8 + 1) H19 < μ7 z8 H9)) ∧ (r20 = 0 → (Q (-3) H19)))))))))))) ∧ (r6 = 0 → (Q (-7) H5))))) ∧ (¬ v4 = 0 → (c_Main_isWithin E d x2 8 60 H1 (fun r22 H21 => (¬ r22 = 0 → (∃ (I23 : Int32 → HH → Prop) (μ23 : Int32 → HH → Nat), I23 0 H21 ∧ ∀ (z24 : Int32) (H25 : HH), I23 z24 H25 → (((H25 1 0 2) ≤ z24 → (∀ v27 : Int32, v27 = (if v4 = 0 then (H25 2 0 1) else (H25 2 0 0) : Int32) → ((v4 = 0 → (∀ H28 : HH, H28 = (hu H25 2 0 1 x2) → (Q v27 H28))) ∧ (¬ v4 = 0 → (∀ H29 : HH, H29 = (hu H25 2 0 0 x2) → (Q v27 H29)))))) ∧ (¬ (H25 1 0 2) ≤ z24 → (c_Main_think E d z24 H25 (fun H30 => (v4 = 0 → (∀ H31 : HH, H31 = (hu H30 2 2 1 x2) → (c_Ride_fitsNow E d  H31 (fun r33 H32 => (¬ r33 = 0 → (I23 (z24 + 1) H32 ∧ μ23 (z24 + 1) H32 < μ23 z24 H25)) ∧ (r33 = 0 → (Q (-3) H32)))))) ∧ (¬ v4 = 0 → (∀ H34 : HH, H34 = (hu H30 2 2 0 x2) → (c_Ride_fitsNow E d  H34 (fun r36 H35 => (¬ r36 = 0 → (I23 (z24 + 1) H35 ∧ μ23 (z24 + 1) H35 < μ23 z24 H25)) ∧ (r36 = 0 → (Q (-3) H35)))))))))))) ∧ (r22 = 0 → (Q (-7) H21)))))))) ∧ (r2 = 0 → (Q (-5) H1)))
set_option maxHeartbeats 4000000 in
theorem l_Main_set {E : XE} {d : Nat} {x1 : Int32} {x2 : Int32} {H : HH} {Q : Int32 → HH → Prop} (h : p_Main_set E d x1 x2 H Q) : c_Main_set E (d + 1) x1 x2 H Q := by
  show g_Main_set E (d + 1) 0 (xent [vr 0 0, vi x1, vi x2]) [] H (qi Q)
  refine g_drop (ls2 := [some (vr 0 0), some (vi x1), some (vi x2), none, none]) (And.intro rfl (And.intro rfl (And.intro rfl trivial))) ?_
  refine g_iload_n (q := 1) (i := 1) (by decide +kernel) rfl rfl ?_
  refine g_iconst (n := 0) (v := 0) (by decide +kernel) (by decide) ?_
  refine g_iconst (n := 1) (v := 1) (by decide +kernel) (by decide) ?_
  refine g_callS (vs := [vi x1, vi 0, vi 1]) (st := []) (by decide +kernel) xm_Main_isWithin kw_619 kw_620 rfl rfl (Nat.le_of_ble_eq_true rfl) (Nat.le_of_ble_eq_true rfl) h (fun vH1 H1 hq => ?_)
  obtain ⟨r2, rfl, h⟩ := hq
  refine g_if_ne (off := 6) (tgt := 12) (by decide +kernel) (by decide) (fun c => ?_) (fun c => ?_)
  · replace h := h.1 c
    refine g_iload_n (q := 1) (i := 1) (by decide +kernel) rfl rfl ?_
    suffices hj3 : g_Main_set E (d + 1) 21 [some (vr 0 0), some (vi x1), some (vi x2), none, none] [vi (if x1 = 0 then 1 else 0 : Int32)] H1 (qi Q) by
      refine g_if_ne (off := 7) (tgt := 20) (by decide +kernel) (by decide) (fun c => ?_) (fun c => ?_)
      · rw [if_neg c] at hj3
        refine g_iconst (n := 0) (v := 0) (by decide +kernel) (by decide) ?_
        exact hj3
      · rw [if_pos c] at hj3
        refine g_iconst (n := 1) (v := 1) (by decide +kernel) (by decide) ?_
        refine g_goto (off := 4) (tgt := 21) (by decide +kernel) (by decide) ?_
        exact hj3
    refine g_topi (fun v4 ev4 => ?_)
    replace h := h v4 ev4
    refine g_istore_n (q := 3) (i := 3) (ls2 := [some (vr 0 0), some (vi x1), some (vi x2), some (vi v4), none]) (by decide +kernel) rfl (by decide) rfl rfl ?_
    refine g_iload_n (q := 3) (i := 3) (by decide +kernel) rfl rfl ?_
    refine g_if_eq (off := 17) (tgt := 40) (by decide +kernel) (by decide) (fun c => ?_) (fun c => ?_)
    · replace h := h.1 c
      refine g_iload_n (q := 2) (i := 2) (by decide +kernel) rfl rfl ?_
      refine g_iconst (n := 0) (v := 0) (by decide +kernel) (by decide) ?_
      refine g_bipush (n := 20) (v := 20) (by decide +kernel) (by decide) ?_
      refine g_callS (vs := [vi x2, vi 0, vi 20]) (st := []) (by decide +kernel) xm_Main_isWithin kw_619 kw_620 rfl rfl (Nat.le_of_ble_eq_true rfl) (Nat.le_of_ble_eq_true rfl) h (fun vH5 H5 hq => ?_)
      obtain ⟨r6, rfl, h⟩ := hq
      refine g_if_ne (off := 6) (tgt := 53) (by decide +kernel) (by decide) (fun c => ?_) (fun c => ?_)
      · replace h := h.1 c
        refine g_iconst (n := 0) (v := 0) (by decide +kernel) (by decide) ?_
        refine g_istore (i := 4) (ls2 := [some (vr 0 0), some (vi x1), some (vi x2), some (vi v4), some (vi 0)]) (by decide +kernel) (by decide) rfl rfl ?_
        refine g_drop (ls2 := [some (vr 0 0), none, some (vi x2), some (vi v4), some (vi 0)]) (And.intro rfl (And.intro rfl (And.intro rfl (And.intro rfl trivial)))) ?_
        obtain ⟨I7, μ7, h0, h⟩ := h
        refine xloop (σ := Int32) (fun s H => I7 s H) (fun s H => μ7 s H) (fun s H => g_Main_set E (d + 1) 56 [some (vr 0 0), none, some (vi x2), some (vi v4), some (vi s)] [] H (qi Q)) (fun s H9 hI ih7 => ?_) 0 H5 h0
        obtain ⟨z8, es⟩ : ∃ z, z = s := ⟨s, rfl⟩
        subst es
        replace h := h z8 H9 hI
        refine g_iload (i := 4) (by decide +kernel) rfl ?_
        refine g_aload_n (q := 0) (i := 0) (by decide +kernel) rfl rfl ?_
        refine g_get (C := "ThreePoints") (T := xT_Main) (N := 9) (ci := 0) (k := 0) (v := vr 1 0) (by decide +kernel) (by decide) rfl rfl xi_Main (by decide) kw_582 rfl ?_
        refine g_get (C := "ThreePoints$Yard") (T := xT_Yard) (N := 3) (ci := 1) (k := 2) (v := vi (H9 1 0 2)) (by decide +kernel) (by decide) rfl rfl xi_Yard (by decide) kw_167 rfl ?_
        refine g_icmp_ge (off := 57) (tgt := 122) (by decide +kernel) (by decide) (fun c => ?_) (fun c => ?_)
        · replace h := h.1 c
          refine g_iload_n (q := 3) (i := 3) (by decide +kernel) rfl rfl ?_
          suffices hj10 : g_Main_set E (d + 1) 149 [some (vr 0 0), none, some (vi x2), some (vi v4), some (vi z8)] [vi (if v4 = 0 then (H9 2 0 1) else (H9 2 0 0) : Int32)] H9 (qi Q) by
            refine g_if_eq (off := 16) (tgt := 139) (by decide +kernel) (by decide) (fun c => ?_) (fun c => ?_)
            · rw [if_pos c] at hj10
              refine g_aload_n (q := 0) (i := 0) (by decide +kernel) rfl rfl ?_
              refine g_get (C := "ThreePoints") (T := xT_Main) (N := 9) (ci := 0) (k := 0) (v := vr 1 0) (by decide +kernel) (by decide) rfl rfl xi_Main (by decide) kw_582 rfl ?_
              refine g_get (C := "ThreePoints$Yard") (T := xT_Yard) (N := 3) (ci := 1) (k := 0) (v := vr 2 0) (by decide +kernel) (by decide) rfl rfl xi_Yard (by decide) kw_163 rfl ?_
              refine g_get (C := "ThreePoints$Lane") (T := xT_Lane) (N := 3) (ci := 2) (k := 1) (v := vi (H9 2 0 1)) (by decide +kernel) (by decide) rfl rfl xi_Lane (by decide) kw_109 rfl ?_
              exact hj10
            · rw [if_neg c] at hj10
              refine g_aload_n (q := 0) (i := 0) (by decide +kernel) rfl rfl ?_
              refine g_get (C := "ThreePoints") (T := xT_Main) (N := 9) (ci := 0) (k := 0) (v := vr 1 0) (by decide +kernel) (by decide) rfl rfl xi_Main (by decide) kw_582 rfl ?_
              refine g_get (C := "ThreePoints$Yard") (T := xT_Yard) (N := 3) (ci := 1) (k := 0) (v := vr 2 0) (by decide +kernel) (by decide) rfl rfl xi_Yard (by decide) kw_163 rfl ?_
              refine g_get (C := "ThreePoints$Lane") (T := xT_Lane) (N := 3) (ci := 2) (k := 0) (v := vi (H9 2 0 0)) (by decide +kernel) (by decide) rfl rfl xi_Lane (by decide) kw_106 rfl ?_
              refine g_goto (off := 13) (tgt := 149) (by decide +kernel) (by decide) ?_
              exact hj10
          refine g_topi (fun v11 ev11 => ?_)
          replace h := h v11 ev11
          refine g_istore (i := 4) (ls2 := [some (vr 0 0), none, some (vi x2), some (vi v4), some (vi v11)]) (by decide +kernel) (by decide) rfl rfl ?_
          refine g_iload_n (q := 3) (i := 3) (by decide +kernel) rfl rfl ?_
          refine g_if_eq (off := 17) (tgt := 169) (by decide +kernel) (by decide) (fun c => ?_) (fun c => ?_)
          · replace h := h.1 c
            refine g_aload_n (q := 0) (i := 0) (by decide +kernel) rfl rfl ?_
            refine g_get (C := "ThreePoints") (T := xT_Main) (N := 9) (ci := 0) (k := 0) (v := vr 1 0) (by decide +kernel) (by decide) rfl rfl xi_Main (by decide) kw_582 rfl ?_
            refine g_get (C := "ThreePoints$Yard") (T := xT_Yard) (N := 3) (ci := 1) (k := 0) (v := vr 2 0) (by decide +kernel) (by decide) rfl rfl xi_Yard (by decide) kw_163 rfl ?_
            refine g_iload_n (q := 2) (i := 2) (by decide +kernel) rfl rfl ?_
            refine g_put (C := "ThreePoints$Lane") (T := xT_Lane) (N := 3) (ci := 2) (k := 1) xy_Lane (by decide +kernel) (by decide) rfl rfl xi_Lane xy_Lane_ok xn_Lane (by decide) kw_109 rfl (by decide +kernel) (fun _ => rfl) ?_
            refine g_iload (i := 4) (by decide +kernel) rfl ?_
            refine g_heap (fun H12 eH12 => ?_)
            replace h := h H12 eH12
            exact g_iret (by decide +kernel) rfl ⟨_, rfl, h⟩
          · replace h := h.2 c
            refine g_aload_n (q := 0) (i := 0) (by decide +kernel) rfl rfl ?_
            refine g_get (C := "ThreePoints") (T := xT_Main) (N := 9) (ci := 0) (k := 0) (v := vr 1 0) (by decide +kernel) (by decide) rfl rfl xi_Main (by decide) kw_582 rfl ?_
            refine g_get (C := "ThreePoints$Yard") (T := xT_Yard) (N := 3) (ci := 1) (k := 0) (v := vr 2 0) (by decide +kernel) (by decide) rfl rfl xi_Yard (by decide) kw_163 rfl ?_
            refine g_iload_n (q := 2) (i := 2) (by decide +kernel) rfl rfl ?_
            refine g_put (C := "ThreePoints$Lane") (T := xT_Lane) (N := 3) (ci := 2) (k := 0) xy_Lane (by decide +kernel) (by decide) rfl rfl xi_Lane xy_Lane_ok xn_Lane (by decide) kw_106 rfl (by decide +kernel) (fun _ => rfl) ?_
            refine g_goto (off := 14) (tgt := 180) (by decide +kernel) (by decide) ?_
            refine g_iload (i := 4) (by decide +kernel) rfl ?_
            refine g_heap (fun H13 eH13 => ?_)
            replace h := h H13 eH13
            exact g_iret (by decide +kernel) rfl ⟨_, rfl, h⟩
        · replace h := h.2 c
          refine g_aload_n (q := 0) (i := 0) (by decide +kernel) rfl rfl ?_
          refine g_iload (i := 4) (by decide +kernel) rfl ?_
          refine g_callV (kd := 0) (ix := 0) (ci := 0) (N := 9) (T := xT_Main) (vs := [vi z8]) (st := []) (by decide +kernel) xm_Main_think kw_622 kw_624 kw_17 (by decide) rfl rfl rfl rfl (Nat.le_of_ble_eq_true rfl) (Nat.le_of_ble_eq_true rfl) h (fun vH14 H14 hq => ?_)
          replace h := hq
          refine g_iload_n (q := 3) (i := 3) (by decide +kernel) rfl rfl ?_
          refine g_if_eq (off := 17) (tgt := 92) (by decide +kernel) (by decide) (fun c => ?_) (fun c => ?_)
          · replace h := h.1 c
            refine g_aload_n (q := 0) (i := 0) (by decide +kernel) rfl rfl ?_
            refine g_get (C := "ThreePoints") (T := xT_Main) (N := 9) (ci := 0) (k := 7) (v := vr 19 0) (by decide +kernel) (by decide) rfl rfl xi_Main (by decide) kw_589 rfl ?_
            refine g_get (C := "ThreePoints$Ride") (T := xT_Ride) (N := 4) (ci := 8) (k := 0) (v := vr 2 2) (by decide +kernel) (by decide) rfl rfl xi_Ride (by decide) kw_261 rfl ?_
            refine g_iload_n (q := 2) (i := 2) (by decide +kernel) rfl rfl ?_
            refine g_put (C := "ThreePoints$Lane") (T := xT_Lane) (N := 3) (ci := 2) (k := 1) xy_Lane (by decide +kernel) (by decide) rfl rfl xi_Lane xy_Lane_ok xn_Lane (by decide) kw_109 rfl (by decide +kernel) (fun _ => rfl) ?_
            refine g_aload_n (q := 0) (i := 0) (by decide +kernel) rfl rfl ?_
            refine g_get (C := "ThreePoints") (T := xT_Main) (N := 9) (ci := 0) (k := 7) (v := vr 19 0) (by decide +kernel) (by decide) rfl rfl xi_Main (by decide) kw_589 rfl ?_
            refine g_heap (fun H15 eH15 => ?_)
            replace h := h H15 eH15
            refine g_callV (kd := 19) (ix := 0) (ci := 8) (N := 4) (T := xT_Ride) (vs := []) (st := []) (by decide +kernel) xm_Ride_fitsNow kw_638 kw_639 kw_640 (by decide) rfl rfl rfl rfl (Nat.le_of_ble_eq_true rfl) (Nat.le_of_ble_eq_true rfl) h (fun vH16 H16 hq => ?_)
            obtain ⟨r17, rfl, h⟩ := hq
            refine g_if_ne (off := 6) (tgt := 116) (by decide +kernel) (by decide) (fun c => ?_) (fun c => ?_)
            · replace h := h.1 c
              refine g_iinc (i := 4) (n := 1) (v := (z8 + 1)) (ls2 := [some (vr 0 0), none, some (vi x2), some (vi v4), some (vi (z8 + 1))]) (by decide +kernel) rfl rfl (by decide) rfl rfl ?_
              refine g_goto (off := (-63)) (tgt := 56) (by decide +kernel) (by decide) ?_
              obtain ⟨hI, hlt⟩ := h
              exact g_drop (ls2 := [some (vr 0 0), none, some (vi x2), some (vi v4), some (vi (z8 + 1))]) (And.intro rfl (And.intro rfl (And.intro rfl (And.intro rfl trivial)))) (ih7 (z8 + 1) H16 hI hlt)
            · replace h := h.2 c
              refine g_bipush (n := (-3)) (v := (-3)) (by decide +kernel) (by decide) ?_
              exact g_iret (by decide +kernel) rfl ⟨_, rfl, h⟩
          · replace h := h.2 c
            refine g_aload_n (q := 0) (i := 0) (by decide +kernel) rfl rfl ?_
            refine g_get (C := "ThreePoints") (T := xT_Main) (N := 9) (ci := 0) (k := 7) (v := vr 19 0) (by decide +kernel) (by decide) rfl rfl xi_Main (by decide) kw_589 rfl ?_
            refine g_get (C := "ThreePoints$Ride") (T := xT_Ride) (N := 4) (ci := 8) (k := 0) (v := vr 2 2) (by decide +kernel) (by decide) rfl rfl xi_Ride (by decide) kw_261 rfl ?_
            refine g_iload_n (q := 2) (i := 2) (by decide +kernel) rfl rfl ?_
            refine g_put (C := "ThreePoints$Lane") (T := xT_Lane) (N := 3) (ci := 2) (k := 0) xy_Lane (by decide +kernel) (by decide) rfl rfl xi_Lane xy_Lane_ok xn_Lane (by decide) kw_106 rfl (by decide +kernel) (fun _ => rfl) ?_
            refine g_goto (off := 14) (tgt := 103) (by decide +kernel) (by decide) ?_
            refine g_aload_n (q := 0) (i := 0) (by decide +kernel) rfl rfl ?_
            refine g_get (C := "ThreePoints") (T := xT_Main) (N := 9) (ci := 0) (k := 7) (v := vr 19 0) (by decide +kernel) (by decide) rfl rfl xi_Main (by decide) kw_589 rfl ?_
            refine g_heap (fun H18 eH18 => ?_)
            replace h := h H18 eH18
            refine g_callV (kd := 19) (ix := 0) (ci := 8) (N := 4) (T := xT_Ride) (vs := []) (st := []) (by decide +kernel) xm_Ride_fitsNow kw_638 kw_639 kw_640 (by decide) rfl rfl rfl rfl (Nat.le_of_ble_eq_true rfl) (Nat.le_of_ble_eq_true rfl) h (fun vH19 H19 hq => ?_)
            obtain ⟨r20, rfl, h⟩ := hq
            refine g_if_ne (off := 6) (tgt := 116) (by decide +kernel) (by decide) (fun c => ?_) (fun c => ?_)
            · replace h := h.1 c
              refine g_iinc (i := 4) (n := 1) (v := (z8 + 1)) (ls2 := [some (vr 0 0), none, some (vi x2), some (vi v4), some (vi (z8 + 1))]) (by decide +kernel) rfl rfl (by decide) rfl rfl ?_
              refine g_goto (off := (-63)) (tgt := 56) (by decide +kernel) (by decide) ?_
              obtain ⟨hI, hlt⟩ := h
              exact g_drop (ls2 := [some (vr 0 0), none, some (vi x2), some (vi v4), some (vi (z8 + 1))]) (And.intro rfl (And.intro rfl (And.intro rfl (And.intro rfl trivial)))) (ih7 (z8 + 1) H19 hI hlt)
            · replace h := h.2 c
              refine g_bipush (n := (-3)) (v := (-3)) (by decide +kernel) (by decide) ?_
              exact g_iret (by decide +kernel) rfl ⟨_, rfl, h⟩
      · replace h := h.2 c
        refine g_bipush (n := (-7)) (v := (-7)) (by decide +kernel) (by decide) ?_
        exact g_iret (by decide +kernel) rfl ⟨_, rfl, h⟩
    · replace h := h.2 c
      refine g_iload_n (q := 2) (i := 2) (by decide +kernel) rfl rfl ?_
      refine g_bipush (n := 8) (v := 8) (by decide +kernel) (by decide) ?_
      refine g_bipush (n := 60) (v := 60) (by decide +kernel) (by decide) ?_
      refine g_callS (vs := [vi x2, vi 8, vi 60]) (st := []) (by decide +kernel) xm_Main_isWithin kw_619 kw_620 rfl rfl (Nat.le_of_ble_eq_true rfl) (Nat.le_of_ble_eq_true rfl) h (fun vH21 H21 hq => ?_)
      obtain ⟨r22, rfl, h⟩ := hq
      refine g_if_ne (off := 19) (tgt := 53) (by decide +kernel) (by decide) (fun c => ?_) (fun c => ?_)
      · replace h := h.1 c
        refine g_iconst (n := 0) (v := 0) (by decide +kernel) (by decide) ?_
        refine g_istore (i := 4) (ls2 := [some (vr 0 0), some (vi x1), some (vi x2), some (vi v4), some (vi 0)]) (by decide +kernel) (by decide) rfl rfl ?_
        refine g_drop (ls2 := [some (vr 0 0), none, some (vi x2), some (vi v4), some (vi 0)]) (And.intro rfl (And.intro rfl (And.intro rfl (And.intro rfl trivial)))) ?_
        obtain ⟨I23, μ23, h0, h⟩ := h
        refine xloop (σ := Int32) (fun s H => I23 s H) (fun s H => μ23 s H) (fun s H => g_Main_set E (d + 1) 56 [some (vr 0 0), none, some (vi x2), some (vi v4), some (vi s)] [] H (qi Q)) (fun s H25 hI ih23 => ?_) 0 H21 h0
        obtain ⟨z24, es⟩ : ∃ z, z = s := ⟨s, rfl⟩
        subst es
        replace h := h z24 H25 hI
        refine g_iload (i := 4) (by decide +kernel) rfl ?_
        refine g_aload_n (q := 0) (i := 0) (by decide +kernel) rfl rfl ?_
        refine g_get (C := "ThreePoints") (T := xT_Main) (N := 9) (ci := 0) (k := 0) (v := vr 1 0) (by decide +kernel) (by decide) rfl rfl xi_Main (by decide) kw_582 rfl ?_
        refine g_get (C := "ThreePoints$Yard") (T := xT_Yard) (N := 3) (ci := 1) (k := 2) (v := vi (H25 1 0 2)) (by decide +kernel) (by decide) rfl rfl xi_Yard (by decide) kw_167 rfl ?_
        refine g_icmp_ge (off := 57) (tgt := 122) (by decide +kernel) (by decide) (fun c => ?_) (fun c => ?_)
        · replace h := h.1 c
          refine g_iload_n (q := 3) (i := 3) (by decide +kernel) rfl rfl ?_
          suffices hj26 : g_Main_set E (d + 1) 149 [some (vr 0 0), none, some (vi x2), some (vi v4), some (vi z24)] [vi (if v4 = 0 then (H25 2 0 1) else (H25 2 0 0) : Int32)] H25 (qi Q) by
            refine g_if_eq (off := 16) (tgt := 139) (by decide +kernel) (by decide) (fun c => ?_) (fun c => ?_)
            · rw [if_pos c] at hj26
              refine g_aload_n (q := 0) (i := 0) (by decide +kernel) rfl rfl ?_
              refine g_get (C := "ThreePoints") (T := xT_Main) (N := 9) (ci := 0) (k := 0) (v := vr 1 0) (by decide +kernel) (by decide) rfl rfl xi_Main (by decide) kw_582 rfl ?_
              refine g_get (C := "ThreePoints$Yard") (T := xT_Yard) (N := 3) (ci := 1) (k := 0) (v := vr 2 0) (by decide +kernel) (by decide) rfl rfl xi_Yard (by decide) kw_163 rfl ?_
              refine g_get (C := "ThreePoints$Lane") (T := xT_Lane) (N := 3) (ci := 2) (k := 1) (v := vi (H25 2 0 1)) (by decide +kernel) (by decide) rfl rfl xi_Lane (by decide) kw_109 rfl ?_
              exact hj26
            · rw [if_neg c] at hj26
              refine g_aload_n (q := 0) (i := 0) (by decide +kernel) rfl rfl ?_
              refine g_get (C := "ThreePoints") (T := xT_Main) (N := 9) (ci := 0) (k := 0) (v := vr 1 0) (by decide +kernel) (by decide) rfl rfl xi_Main (by decide) kw_582 rfl ?_
              refine g_get (C := "ThreePoints$Yard") (T := xT_Yard) (N := 3) (ci := 1) (k := 0) (v := vr 2 0) (by decide +kernel) (by decide) rfl rfl xi_Yard (by decide) kw_163 rfl ?_
              refine g_get (C := "ThreePoints$Lane") (T := xT_Lane) (N := 3) (ci := 2) (k := 0) (v := vi (H25 2 0 0)) (by decide +kernel) (by decide) rfl rfl xi_Lane (by decide) kw_106 rfl ?_
              refine g_goto (off := 13) (tgt := 149) (by decide +kernel) (by decide) ?_
              exact hj26
          refine g_topi (fun v27 ev27 => ?_)
          replace h := h v27 ev27
          refine g_istore (i := 4) (ls2 := [some (vr 0 0), none, some (vi x2), some (vi v4), some (vi v27)]) (by decide +kernel) (by decide) rfl rfl ?_
          refine g_iload_n (q := 3) (i := 3) (by decide +kernel) rfl rfl ?_
          refine g_if_eq (off := 17) (tgt := 169) (by decide +kernel) (by decide) (fun c => ?_) (fun c => ?_)
          · replace h := h.1 c
            refine g_aload_n (q := 0) (i := 0) (by decide +kernel) rfl rfl ?_
            refine g_get (C := "ThreePoints") (T := xT_Main) (N := 9) (ci := 0) (k := 0) (v := vr 1 0) (by decide +kernel) (by decide) rfl rfl xi_Main (by decide) kw_582 rfl ?_
            refine g_get (C := "ThreePoints$Yard") (T := xT_Yard) (N := 3) (ci := 1) (k := 0) (v := vr 2 0) (by decide +kernel) (by decide) rfl rfl xi_Yard (by decide) kw_163 rfl ?_
            refine g_iload_n (q := 2) (i := 2) (by decide +kernel) rfl rfl ?_
            refine g_put (C := "ThreePoints$Lane") (T := xT_Lane) (N := 3) (ci := 2) (k := 1) xy_Lane (by decide +kernel) (by decide) rfl rfl xi_Lane xy_Lane_ok xn_Lane (by decide) kw_109 rfl (by decide +kernel) (fun _ => rfl) ?_
            refine g_iload (i := 4) (by decide +kernel) rfl ?_
            refine g_heap (fun H28 eH28 => ?_)
            replace h := h H28 eH28
            exact g_iret (by decide +kernel) rfl ⟨_, rfl, h⟩
          · replace h := h.2 c
            refine g_aload_n (q := 0) (i := 0) (by decide +kernel) rfl rfl ?_
            refine g_get (C := "ThreePoints") (T := xT_Main) (N := 9) (ci := 0) (k := 0) (v := vr 1 0) (by decide +kernel) (by decide) rfl rfl xi_Main (by decide) kw_582 rfl ?_
            refine g_get (C := "ThreePoints$Yard") (T := xT_Yard) (N := 3) (ci := 1) (k := 0) (v := vr 2 0) (by decide +kernel) (by decide) rfl rfl xi_Yard (by decide) kw_163 rfl ?_
            refine g_iload_n (q := 2) (i := 2) (by decide +kernel) rfl rfl ?_
            refine g_put (C := "ThreePoints$Lane") (T := xT_Lane) (N := 3) (ci := 2) (k := 0) xy_Lane (by decide +kernel) (by decide) rfl rfl xi_Lane xy_Lane_ok xn_Lane (by decide) kw_106 rfl (by decide +kernel) (fun _ => rfl) ?_
            refine g_goto (off := 14) (tgt := 180) (by decide +kernel) (by decide) ?_
            refine g_iload (i := 4) (by decide +kernel) rfl ?_
            refine g_heap (fun H29 eH29 => ?_)
            replace h := h H29 eH29
            exact g_iret (by decide +kernel) rfl ⟨_, rfl, h⟩
        · replace h := h.2 c
          refine g_aload_n (q := 0) (i := 0) (by decide +kernel) rfl rfl ?_
          refine g_iload (i := 4) (by decide +kernel) rfl ?_
          refine g_callV (kd := 0) (ix := 0) (ci := 0) (N := 9) (T := xT_Main) (vs := [vi z24]) (st := []) (by decide +kernel) xm_Main_think kw_622 kw_624 kw_17 (by decide) rfl rfl rfl rfl (Nat.le_of_ble_eq_true rfl) (Nat.le_of_ble_eq_true rfl) h (fun vH30 H30 hq => ?_)
          replace h := hq
          refine g_iload_n (q := 3) (i := 3) (by decide +kernel) rfl rfl ?_
          refine g_if_eq (off := 17) (tgt := 92) (by decide +kernel) (by decide) (fun c => ?_) (fun c => ?_)
          · replace h := h.1 c
            refine g_aload_n (q := 0) (i := 0) (by decide +kernel) rfl rfl ?_
            refine g_get (C := "ThreePoints") (T := xT_Main) (N := 9) (ci := 0) (k := 7) (v := vr 19 0) (by decide +kernel) (by decide) rfl rfl xi_Main (by decide) kw_589 rfl ?_
            refine g_get (C := "ThreePoints$Ride") (T := xT_Ride) (N := 4) (ci := 8) (k := 0) (v := vr 2 2) (by decide +kernel) (by decide) rfl rfl xi_Ride (by decide) kw_261 rfl ?_
            refine g_iload_n (q := 2) (i := 2) (by decide +kernel) rfl rfl ?_
            refine g_put (C := "ThreePoints$Lane") (T := xT_Lane) (N := 3) (ci := 2) (k := 1) xy_Lane (by decide +kernel) (by decide) rfl rfl xi_Lane xy_Lane_ok xn_Lane (by decide) kw_109 rfl (by decide +kernel) (fun _ => rfl) ?_
            refine g_aload_n (q := 0) (i := 0) (by decide +kernel) rfl rfl ?_
            refine g_get (C := "ThreePoints") (T := xT_Main) (N := 9) (ci := 0) (k := 7) (v := vr 19 0) (by decide +kernel) (by decide) rfl rfl xi_Main (by decide) kw_589 rfl ?_
            refine g_heap (fun H31 eH31 => ?_)
            replace h := h H31 eH31
            refine g_callV (kd := 19) (ix := 0) (ci := 8) (N := 4) (T := xT_Ride) (vs := []) (st := []) (by decide +kernel) xm_Ride_fitsNow kw_638 kw_639 kw_640 (by decide) rfl rfl rfl rfl (Nat.le_of_ble_eq_true rfl) (Nat.le_of_ble_eq_true rfl) h (fun vH32 H32 hq => ?_)
            obtain ⟨r33, rfl, h⟩ := hq
            refine g_if_ne (off := 6) (tgt := 116) (by decide +kernel) (by decide) (fun c => ?_) (fun c => ?_)
            · replace h := h.1 c
              refine g_iinc (i := 4) (n := 1) (v := (z24 + 1)) (ls2 := [some (vr 0 0), none, some (vi x2), some (vi v4), some (vi (z24 + 1))]) (by decide +kernel) rfl rfl (by decide) rfl rfl ?_
              refine g_goto (off := (-63)) (tgt := 56) (by decide +kernel) (by decide) ?_
              obtain ⟨hI, hlt⟩ := h
              exact g_drop (ls2 := [some (vr 0 0), none, some (vi x2), some (vi v4), some (vi (z24 + 1))]) (And.intro rfl (And.intro rfl (And.intro rfl (And.intro rfl trivial)))) (ih23 (z24 + 1) H32 hI hlt)
            · replace h := h.2 c
              refine g_bipush (n := (-3)) (v := (-3)) (by decide +kernel) (by decide) ?_
              exact g_iret (by decide +kernel) rfl ⟨_, rfl, h⟩
          · replace h := h.2 c
            refine g_aload_n (q := 0) (i := 0) (by decide +kernel) rfl rfl ?_
            refine g_get (C := "ThreePoints") (T := xT_Main) (N := 9) (ci := 0) (k := 7) (v := vr 19 0) (by decide +kernel) (by decide) rfl rfl xi_Main (by decide) kw_589 rfl ?_
            refine g_get (C := "ThreePoints$Ride") (T := xT_Ride) (N := 4) (ci := 8) (k := 0) (v := vr 2 2) (by decide +kernel) (by decide) rfl rfl xi_Ride (by decide) kw_261 rfl ?_
            refine g_iload_n (q := 2) (i := 2) (by decide +kernel) rfl rfl ?_
            refine g_put (C := "ThreePoints$Lane") (T := xT_Lane) (N := 3) (ci := 2) (k := 0) xy_Lane (by decide +kernel) (by decide) rfl rfl xi_Lane xy_Lane_ok xn_Lane (by decide) kw_106 rfl (by decide +kernel) (fun _ => rfl) ?_
            refine g_goto (off := 14) (tgt := 103) (by decide +kernel) (by decide) ?_
            refine g_aload_n (q := 0) (i := 0) (by decide +kernel) rfl rfl ?_
            refine g_get (C := "ThreePoints") (T := xT_Main) (N := 9) (ci := 0) (k := 7) (v := vr 19 0) (by decide +kernel) (by decide) rfl rfl xi_Main (by decide) kw_589 rfl ?_
            refine g_heap (fun H34 eH34 => ?_)
            replace h := h H34 eH34
            refine g_callV (kd := 19) (ix := 0) (ci := 8) (N := 4) (T := xT_Ride) (vs := []) (st := []) (by decide +kernel) xm_Ride_fitsNow kw_638 kw_639 kw_640 (by decide) rfl rfl rfl rfl (Nat.le_of_ble_eq_true rfl) (Nat.le_of_ble_eq_true rfl) h (fun vH35 H35 hq => ?_)
            obtain ⟨r36, rfl, h⟩ := hq
            refine g_if_ne (off := 6) (tgt := 116) (by decide +kernel) (by decide) (fun c => ?_) (fun c => ?_)
            · replace h := h.1 c
              refine g_iinc (i := 4) (n := 1) (v := (z24 + 1)) (ls2 := [some (vr 0 0), none, some (vi x2), some (vi v4), some (vi (z24 + 1))]) (by decide +kernel) rfl rfl (by decide) rfl rfl ?_
              refine g_goto (off := (-63)) (tgt := 56) (by decide +kernel) (by decide) ?_
              obtain ⟨hI, hlt⟩ := h
              exact g_drop (ls2 := [some (vr 0 0), none, some (vi x2), some (vi v4), some (vi (z24 + 1))]) (And.intro rfl (And.intro rfl (And.intro rfl (And.intro rfl trivial)))) (ih23 (z24 + 1) H35 hI hlt)
            · replace h := h.2 c
              refine g_bipush (n := (-3)) (v := (-3)) (by decide +kernel) (by decide) ?_
              exact g_iret (by decide +kernel) rfl ⟨_, rfl, h⟩
      · replace h := h.2 c
        refine g_goto (off := 13) (tgt := 50) (by decide +kernel) (by decide) ?_
        refine g_bipush (n := (-7)) (v := (-7)) (by decide +kernel) (by decide) ?_
        exact g_iret (by decide +kernel) rfl ⟨_, rfl, h⟩
  · replace h := h.2 c
    refine g_bipush (n := (-5)) (v := (-5)) (by decide +kernel) (by decide) ?_
    exact g_iret (by decide +kernel) rfl ⟨_, rfl, h⟩
def p_Main_feed (E : XE) (d : Nat) (x1 : Int32) (x2 : Int32) (x3 : Int32) (x4 : Int32) (x5 : Int32) (x6 : Int32) (H : HH) (Q : Int32 → HH → Prop) : Prop := c_Main_isWithin E d x1 1 5 H (fun r2 H1 => (r2 = 0 → (Q (-2) H1)) ∧ (¬ r2 = 0 → (c_Main_isByte E d x2 H1 (fun r4 H3 => (r4 = 0 → (Q (-2) H3)) ∧ (¬ r4 = 0 → (c_Main_isByte E d x3 H3 (fun r6 H5 => (r6 = 0 → (Q (-2) H5)) ∧ (¬ r6 = 0 → (c_Main_isByte E d x4 H5 (fun r8 H7 => (r8 = 0 → (Q (-2) H7)) ∧ (¬ r8 = 0 → (c_Main_isByte E d x5 H7 (fun r10 H9 => (r10 = 0 → (Q (-2) H9)) ∧ (¬ r10 = 0 → (c_Main_isByte E d x6 H9 (fun r12 H11 => (¬ r12 = 0 → ((((H11 6 0 1) + x1) ≤ 160 → (c_Tape_add E d x2 H11 (fun H13 => (x1 ≤ 1 → ((x1 ≤ 2 → ((x1 ≤ 3 → ((x1 ≤ 4 → (Q (H13 6 0 1) H13)) ∧ (¬ x1 ≤ 4 → (c_Tape_add E d x6 H13 (fun H14 => Q (H14 6 0 1) H14))))) ∧ (¬ x1 ≤ 3 → (c_Tape_add E d x5 H13 (fun H15 => (x1 ≤ 4 → (Q (H15 6 0 1) H15)) ∧ (¬ x1 ≤ 4 → (c_Tape_add E d x6 H15 (fun H16 => Q (H16 6 0 1) H16)))))))) ∧ (¬ x1 ≤ 2 → (c_Tape_add E d x4 H13 (fun H17 => (x1 ≤ 3 → ((x1 ≤ 4 → (Q (H17 6 0 1) H17)) ∧ (¬ x1 ≤ 4 → (c_Tape_add E d x6 H17 (fun H18 => Q (H18 6 0 1) H18))))) ∧ (¬ x1 ≤ 3 → (c_Tape_add E d x5 H17 (fun H19 => (x1 ≤ 4 → (Q (H19 6 0 1) H19)) ∧ (¬ x1 ≤ 4 → (c_Tape_add E d x6 H19 (fun H20 => Q (H20 6 0 1) H20))))))))))) ∧ (¬ x1 ≤ 1 → (c_Tape_add E d x3 H13 (fun H21 => (x1 ≤ 2 → ((x1 ≤ 3 → ((x1 ≤ 4 → (Q (H21 6 0 1) H21)) ∧ (¬ x1 ≤ 4 → (c_Tape_add E d x6 H21 (fun H22 => Q (H22 6 0 1) H22))))) ∧ (¬ x1 ≤ 3 → (c_Tape_add E d x5 H21 (fun H23 => (x1 ≤ 4 → (Q (H23 6 0 1) H23)) ∧ (¬ x1 ≤ 4 → (c_Tape_add E d x6 H23 (fun H24 => Q (H24 6 0 1) H24)))))))) ∧ (¬ x1 ≤ 2 → (c_Tape_add E d x4 H21 (fun H25 => (x1 ≤ 3 → ((x1 ≤ 4 → (Q (H25 6 0 1) H25)) ∧ (¬ x1 ≤ 4 → (c_Tape_add E d x6 H25 (fun H26 => Q (H26 6 0 1) H26))))) ∧ (¬ x1 ≤ 3 → (c_Tape_add E d x5 H25 (fun H27 => (x1 ≤ 4 → (Q (H27 6 0 1) H27)) ∧ (¬ x1 ≤ 4 → (c_Tape_add E d x6 H27 (fun H28 => Q (H28 6 0 1) H28))))))))))))))) ∧ (¬ ((H11 6 0 1) + x1) ≤ 160 → (Q (-4) H11)))) ∧ (r12 = 0 → (Q (-2) H11))))))))))))))))))
set_option maxHeartbeats 4000000 in
theorem l_Main_feed {E : XE} {d : Nat} {x1 : Int32} {x2 : Int32} {x3 : Int32} {x4 : Int32} {x5 : Int32} {x6 : Int32} {H : HH} {Q : Int32 → HH → Prop} (h : p_Main_feed E d x1 x2 x3 x4 x5 x6 H Q) : c_Main_feed E (d + 1) x1 x2 x3 x4 x5 x6 H Q := by
  show g_Main_feed E (d + 1) 0 (xent [vr 0 0, vi x1, vi x2, vi x3, vi x4, vi x5, vi x6]) [] H (qi Q)
  refine g_drop (ls2 := [some (vr 0 0), some (vi x1), some (vi x2), some (vi x3), some (vi x4), some (vi x5), some (vi x6), none]) (And.intro rfl (And.intro rfl (And.intro rfl (And.intro rfl (And.intro rfl (And.intro rfl (And.intro rfl trivial))))))) ?_
  refine g_iload_n (q := 1) (i := 1) (by decide +kernel) rfl rfl ?_
  refine g_iconst (n := 1) (v := 1) (by decide +kernel) (by decide) ?_
  refine g_iconst (n := 5) (v := 5) (by decide +kernel) (by decide) ?_
  refine g_callS (vs := [vi x1, vi 1, vi 5]) (st := []) (by decide +kernel) xm_Main_isWithin kw_619 kw_620 rfl rfl (Nat.le_of_ble_eq_true rfl) (Nat.le_of_ble_eq_true rfl) h (fun vH1 H1 hq => ?_)
  obtain ⟨r2, rfl, h⟩ := hq
  refine g_if_eq (off := 41) (tgt := 47) (by decide +kernel) (by decide) (fun c => ?_) (fun c => ?_)
  · replace h := h.1 c
    refine g_bipush (n := (-2)) (v := (-2)) (by decide +kernel) (by decide) ?_
    exact g_iret (by decide +kernel) rfl ⟨_, rfl, h⟩
  · replace h := h.2 c
    refine g_iload_n (q := 2) (i := 2) (by decide +kernel) rfl rfl ?_
    refine g_callS (vs := [vi x2]) (st := []) (by decide +kernel) xm_Main_isByte kw_686 kw_687 rfl rfl (Nat.le_of_ble_eq_true rfl) (Nat.le_of_ble_eq_true rfl) h (fun vH3 H3 hq => ?_)
    obtain ⟨r4, rfl, h⟩ := hq
    refine g_if_eq (off := 34) (tgt := 47) (by decide +kernel) (by decide) (fun c => ?_) (fun c => ?_)
    · replace h := h.1 c
      refine g_bipush (n := (-2)) (v := (-2)) (by decide +kernel) (by decide) ?_
      exact g_iret (by decide +kernel) rfl ⟨_, rfl, h⟩
    · replace h := h.2 c
      refine g_iload_n (q := 3) (i := 3) (by decide +kernel) rfl rfl ?_
      refine g_callS (vs := [vi x3]) (st := []) (by decide +kernel) xm_Main_isByte kw_686 kw_687 rfl rfl (Nat.le_of_ble_eq_true rfl) (Nat.le_of_ble_eq_true rfl) h (fun vH5 H5 hq => ?_)
      obtain ⟨r6, rfl, h⟩ := hq
      refine g_if_eq (off := 27) (tgt := 47) (by decide +kernel) (by decide) (fun c => ?_) (fun c => ?_)
      · replace h := h.1 c
        refine g_bipush (n := (-2)) (v := (-2)) (by decide +kernel) (by decide) ?_
        exact g_iret (by decide +kernel) rfl ⟨_, rfl, h⟩
      · replace h := h.2 c
        refine g_iload (i := 4) (by decide +kernel) rfl ?_
        refine g_callS (vs := [vi x4]) (st := []) (by decide +kernel) xm_Main_isByte kw_686 kw_687 rfl rfl (Nat.le_of_ble_eq_true rfl) (Nat.le_of_ble_eq_true rfl) h (fun vH7 H7 hq => ?_)
        obtain ⟨r8, rfl, h⟩ := hq
        refine g_if_eq (off := 19) (tgt := 47) (by decide +kernel) (by decide) (fun c => ?_) (fun c => ?_)
        · replace h := h.1 c
          refine g_bipush (n := (-2)) (v := (-2)) (by decide +kernel) (by decide) ?_
          exact g_iret (by decide +kernel) rfl ⟨_, rfl, h⟩
        · replace h := h.2 c
          refine g_iload (i := 5) (by decide +kernel) rfl ?_
          refine g_callS (vs := [vi x5]) (st := []) (by decide +kernel) xm_Main_isByte kw_686 kw_687 rfl rfl (Nat.le_of_ble_eq_true rfl) (Nat.le_of_ble_eq_true rfl) h (fun vH9 H9 hq => ?_)
          obtain ⟨r10, rfl, h⟩ := hq
          refine g_if_eq (off := 11) (tgt := 47) (by decide +kernel) (by decide) (fun c => ?_) (fun c => ?_)
          · replace h := h.1 c
            refine g_bipush (n := (-2)) (v := (-2)) (by decide +kernel) (by decide) ?_
            exact g_iret (by decide +kernel) rfl ⟨_, rfl, h⟩
          · replace h := h.2 c
            refine g_iload (i := 6) (by decide +kernel) rfl ?_
            refine g_callS (vs := [vi x6]) (st := []) (by decide +kernel) xm_Main_isByte kw_686 kw_687 rfl rfl (Nat.le_of_ble_eq_true rfl) (Nat.le_of_ble_eq_true rfl) h (fun vH11 H11 hq => ?_)
            obtain ⟨r12, rfl, h⟩ := hq
            refine g_if_ne (off := 6) (tgt := 50) (by decide +kernel) (by decide) (fun c => ?_) (fun c => ?_)
            · replace h := h.1 c
              refine g_aload_n (q := 0) (i := 0) (by decide +kernel) rfl rfl ?_
              refine g_get (C := "ThreePoints") (T := xT_Main) (N := 9) (ci := 0) (k := 3) (v := vr 5 0) (by decide +kernel) (by decide) rfl rfl xi_Main (by decide) kw_585 rfl ?_
              refine g_get (C := "ThreePoints$Reader") (T := xT_Reader) (N := 5) (ci := 4) (k := 0) (v := vr 6 0) (by decide +kernel) (by decide) rfl rfl xi_Reader (by decide) kw_228 rfl ?_
              refine g_astore (i := 7) (ls2 := [some (vr 0 0), some (vi x1), some (vi x2), some (vi x3), some (vi x4), some (vi x5), some (vi x6), some (vr 6 0)]) (by decide +kernel) (by decide) rfl rfl ?_
              refine g_aload (i := 7) (by decide +kernel) rfl ?_
              refine g_get (C := "ThreePoints$Tape") (T := xT_Tape) (N := 6) (ci := 5) (k := 1) (v := vi (H11 6 0 1)) (by decide +kernel) (by decide) rfl rfl xi_Tape (by decide) kw_189 rfl ?_
              refine g_iload_n (q := 1) (i := 1) (by decide +kernel) rfl rfl ?_
              refine g_iadd (by decide +kernel) ?_
              refine g_sipush (n := 160) (v := 160) (by decide +kernel) (by decide) ?_
              refine g_icmp_le (off := 6) (tgt := 75) (by decide +kernel) (by decide) (fun c => ?_) (fun c => ?_)
              · replace h := h.1 c
                refine g_aload (i := 7) (by decide +kernel) rfl ?_
                refine g_iload_n (q := 2) (i := 2) (by decide +kernel) rfl rfl ?_
                refine g_callV (kd := 6) (ix := 0) (ci := 5) (N := 6) (T := xT_Tape) (vs := [vi x2]) (st := []) (by decide +kernel) xm_Tape_add kw_689 kw_383 kw_384 (by decide) rfl rfl rfl rfl (Nat.le_of_ble_eq_true rfl) (Nat.le_of_ble_eq_true rfl) h (fun vH13 H13 hq => ?_)
                replace h := hq
                refine g_iload_n (q := 1) (i := 1) (by decide +kernel) rfl rfl ?_
                refine g_iconst (n := 1) (v := 1) (by decide +kernel) (by decide) ?_
                refine g_icmp_le (off := 9) (tgt := 92) (by decide +kernel) (by decide) (fun c => ?_) (fun c => ?_)
                · replace h := h.1 c
                  refine g_iload_n (q := 1) (i := 1) (by decide +kernel) rfl rfl ?_
                  refine g_iconst (n := 2) (v := 2) (by decide +kernel) (by decide) ?_
                  refine g_icmp_le (off := 10) (tgt := 104) (by decide +kernel) (by decide) (fun c => ?_) (fun c => ?_)
                  · replace h := h.1 c
                    refine g_iload_n (q := 1) (i := 1) (by decide +kernel) rfl rfl ?_
                    refine g_iconst (n := 3) (v := 3) (by decide +kernel) (by decide) ?_
                    refine g_icmp_le (off := 10) (tgt := 116) (by decide +kernel) (by decide) (fun c => ?_) (fun c => ?_)
                    · replace h := h.1 c
                      refine g_iload_n (q := 1) (i := 1) (by decide +kernel) rfl rfl ?_
                      refine g_iconst (n := 4) (v := 4) (by decide +kernel) (by decide) ?_
                      refine g_icmp_le (off := 10) (tgt := 128) (by decide +kernel) (by decide) (fun c => ?_) (fun c => ?_)
                      · replace h := h.1 c
                        refine g_aload (i := 7) (by decide +kernel) rfl ?_
                        refine g_get (C := "ThreePoints$Tape") (T := xT_Tape) (N := 6) (ci := 5) (k := 1) (v := vi (H13 6 0 1)) (by decide +kernel) (by decide) rfl rfl xi_Tape (by decide) kw_189 rfl ?_
                        exact g_iret (by decide +kernel) rfl ⟨_, rfl, h⟩
                      · replace h := h.2 c
                        refine g_aload (i := 7) (by decide +kernel) rfl ?_
                        refine g_iload (i := 6) (by decide +kernel) rfl ?_
                        refine g_callV (kd := 6) (ix := 0) (ci := 5) (N := 6) (T := xT_Tape) (vs := [vi x6]) (st := []) (by decide +kernel) xm_Tape_add kw_689 kw_383 kw_384 (by decide) rfl rfl rfl rfl (Nat.le_of_ble_eq_true rfl) (Nat.le_of_ble_eq_true rfl) h (fun vH14 H14 hq => ?_)
                        replace h := hq
                        refine g_aload (i := 7) (by decide +kernel) rfl ?_
                        refine g_get (C := "ThreePoints$Tape") (T := xT_Tape) (N := 6) (ci := 5) (k := 1) (v := vi (H14 6 0 1)) (by decide +kernel) (by decide) rfl rfl xi_Tape (by decide) kw_189 rfl ?_
                        exact g_iret (by decide +kernel) rfl ⟨_, rfl, h⟩
                    · replace h := h.2 c
                      refine g_aload (i := 7) (by decide +kernel) rfl ?_
                      refine g_iload (i := 5) (by decide +kernel) rfl ?_
                      refine g_callV (kd := 6) (ix := 0) (ci := 5) (N := 6) (T := xT_Tape) (vs := [vi x5]) (st := []) (by decide +kernel) xm_Tape_add kw_689 kw_383 kw_384 (by decide) rfl rfl rfl rfl (Nat.le_of_ble_eq_true rfl) (Nat.le_of_ble_eq_true rfl) h (fun vH15 H15 hq => ?_)
                      replace h := hq
                      refine g_iload_n (q := 1) (i := 1) (by decide +kernel) rfl rfl ?_
                      refine g_iconst (n := 4) (v := 4) (by decide +kernel) (by decide) ?_
                      refine g_icmp_le (off := 10) (tgt := 128) (by decide +kernel) (by decide) (fun c => ?_) (fun c => ?_)
                      · replace h := h.1 c
                        refine g_aload (i := 7) (by decide +kernel) rfl ?_
                        refine g_get (C := "ThreePoints$Tape") (T := xT_Tape) (N := 6) (ci := 5) (k := 1) (v := vi (H15 6 0 1)) (by decide +kernel) (by decide) rfl rfl xi_Tape (by decide) kw_189 rfl ?_
                        exact g_iret (by decide +kernel) rfl ⟨_, rfl, h⟩
                      · replace h := h.2 c
                        refine g_aload (i := 7) (by decide +kernel) rfl ?_
                        refine g_iload (i := 6) (by decide +kernel) rfl ?_
                        refine g_callV (kd := 6) (ix := 0) (ci := 5) (N := 6) (T := xT_Tape) (vs := [vi x6]) (st := []) (by decide +kernel) xm_Tape_add kw_689 kw_383 kw_384 (by decide) rfl rfl rfl rfl (Nat.le_of_ble_eq_true rfl) (Nat.le_of_ble_eq_true rfl) h (fun vH16 H16 hq => ?_)
                        replace h := hq
                        refine g_aload (i := 7) (by decide +kernel) rfl ?_
                        refine g_get (C := "ThreePoints$Tape") (T := xT_Tape) (N := 6) (ci := 5) (k := 1) (v := vi (H16 6 0 1)) (by decide +kernel) (by decide) rfl rfl xi_Tape (by decide) kw_189 rfl ?_
                        exact g_iret (by decide +kernel) rfl ⟨_, rfl, h⟩
                  · replace h := h.2 c
                    refine g_aload (i := 7) (by decide +kernel) rfl ?_
                    refine g_iload (i := 4) (by decide +kernel) rfl ?_
                    refine g_callV (kd := 6) (ix := 0) (ci := 5) (N := 6) (T := xT_Tape) (vs := [vi x4]) (st := []) (by decide +kernel) xm_Tape_add kw_689 kw_383 kw_384 (by decide) rfl rfl rfl rfl (Nat.le_of_ble_eq_true rfl) (Nat.le_of_ble_eq_true rfl) h (fun vH17 H17 hq => ?_)
                    replace h := hq
                    refine g_iload_n (q := 1) (i := 1) (by decide +kernel) rfl rfl ?_
                    refine g_iconst (n := 3) (v := 3) (by decide +kernel) (by decide) ?_
                    refine g_icmp_le (off := 10) (tgt := 116) (by decide +kernel) (by decide) (fun c => ?_) (fun c => ?_)
                    · replace h := h.1 c
                      refine g_iload_n (q := 1) (i := 1) (by decide +kernel) rfl rfl ?_
                      refine g_iconst (n := 4) (v := 4) (by decide +kernel) (by decide) ?_
                      refine g_icmp_le (off := 10) (tgt := 128) (by decide +kernel) (by decide) (fun c => ?_) (fun c => ?_)
                      · replace h := h.1 c
                        refine g_aload (i := 7) (by decide +kernel) rfl ?_
                        refine g_get (C := "ThreePoints$Tape") (T := xT_Tape) (N := 6) (ci := 5) (k := 1) (v := vi (H17 6 0 1)) (by decide +kernel) (by decide) rfl rfl xi_Tape (by decide) kw_189 rfl ?_
                        exact g_iret (by decide +kernel) rfl ⟨_, rfl, h⟩
                      · replace h := h.2 c
                        refine g_aload (i := 7) (by decide +kernel) rfl ?_
                        refine g_iload (i := 6) (by decide +kernel) rfl ?_
                        refine g_callV (kd := 6) (ix := 0) (ci := 5) (N := 6) (T := xT_Tape) (vs := [vi x6]) (st := []) (by decide +kernel) xm_Tape_add kw_689 kw_383 kw_384 (by decide) rfl rfl rfl rfl (Nat.le_of_ble_eq_true rfl) (Nat.le_of_ble_eq_true rfl) h (fun vH18 H18 hq => ?_)
                        replace h := hq
                        refine g_aload (i := 7) (by decide +kernel) rfl ?_
                        refine g_get (C := "ThreePoints$Tape") (T := xT_Tape) (N := 6) (ci := 5) (k := 1) (v := vi (H18 6 0 1)) (by decide +kernel) (by decide) rfl rfl xi_Tape (by decide) kw_189 rfl ?_
                        exact g_iret (by decide +kernel) rfl ⟨_, rfl, h⟩
                    · replace h := h.2 c
                      refine g_aload (i := 7) (by decide +kernel) rfl ?_
                      refine g_iload (i := 5) (by decide +kernel) rfl ?_
                      refine g_callV (kd := 6) (ix := 0) (ci := 5) (N := 6) (T := xT_Tape) (vs := [vi x5]) (st := []) (by decide +kernel) xm_Tape_add kw_689 kw_383 kw_384 (by decide) rfl rfl rfl rfl (Nat.le_of_ble_eq_true rfl) (Nat.le_of_ble_eq_true rfl) h (fun vH19 H19 hq => ?_)
                      replace h := hq
                      refine g_iload_n (q := 1) (i := 1) (by decide +kernel) rfl rfl ?_
                      refine g_iconst (n := 4) (v := 4) (by decide +kernel) (by decide) ?_
                      refine g_icmp_le (off := 10) (tgt := 128) (by decide +kernel) (by decide) (fun c => ?_) (fun c => ?_)
                      · replace h := h.1 c
                        refine g_aload (i := 7) (by decide +kernel) rfl ?_
                        refine g_get (C := "ThreePoints$Tape") (T := xT_Tape) (N := 6) (ci := 5) (k := 1) (v := vi (H19 6 0 1)) (by decide +kernel) (by decide) rfl rfl xi_Tape (by decide) kw_189 rfl ?_
                        exact g_iret (by decide +kernel) rfl ⟨_, rfl, h⟩
                      · replace h := h.2 c
                        refine g_aload (i := 7) (by decide +kernel) rfl ?_
                        refine g_iload (i := 6) (by decide +kernel) rfl ?_
                        refine g_callV (kd := 6) (ix := 0) (ci := 5) (N := 6) (T := xT_Tape) (vs := [vi x6]) (st := []) (by decide +kernel) xm_Tape_add kw_689 kw_383 kw_384 (by decide) rfl rfl rfl rfl (Nat.le_of_ble_eq_true rfl) (Nat.le_of_ble_eq_true rfl) h (fun vH20 H20 hq => ?_)
                        replace h := hq
                        refine g_aload (i := 7) (by decide +kernel) rfl ?_
                        refine g_get (C := "ThreePoints$Tape") (T := xT_Tape) (N := 6) (ci := 5) (k := 1) (v := vi (H20 6 0 1)) (by decide +kernel) (by decide) rfl rfl xi_Tape (by decide) kw_189 rfl ?_
                        exact g_iret (by decide +kernel) rfl ⟨_, rfl, h⟩
                · replace h := h.2 c
                  refine g_aload (i := 7) (by decide +kernel) rfl ?_
                  refine g_iload_n (q := 3) (i := 3) (by decide +kernel) rfl rfl ?_
                  refine g_callV (kd := 6) (ix := 0) (ci := 5) (N := 6) (T := xT_Tape) (vs := [vi x3]) (st := []) (by decide +kernel) xm_Tape_add kw_689 kw_383 kw_384 (by decide) rfl rfl rfl rfl (Nat.le_of_ble_eq_true rfl) (Nat.le_of_ble_eq_true rfl) h (fun vH21 H21 hq => ?_)
                  replace h := hq
                  refine g_iload_n (q := 1) (i := 1) (by decide +kernel) rfl rfl ?_
                  refine g_iconst (n := 2) (v := 2) (by decide +kernel) (by decide) ?_
                  refine g_icmp_le (off := 10) (tgt := 104) (by decide +kernel) (by decide) (fun c => ?_) (fun c => ?_)
                  · replace h := h.1 c
                    refine g_iload_n (q := 1) (i := 1) (by decide +kernel) rfl rfl ?_
                    refine g_iconst (n := 3) (v := 3) (by decide +kernel) (by decide) ?_
                    refine g_icmp_le (off := 10) (tgt := 116) (by decide +kernel) (by decide) (fun c => ?_) (fun c => ?_)
                    · replace h := h.1 c
                      refine g_iload_n (q := 1) (i := 1) (by decide +kernel) rfl rfl ?_
                      refine g_iconst (n := 4) (v := 4) (by decide +kernel) (by decide) ?_
                      refine g_icmp_le (off := 10) (tgt := 128) (by decide +kernel) (by decide) (fun c => ?_) (fun c => ?_)
                      · replace h := h.1 c
                        refine g_aload (i := 7) (by decide +kernel) rfl ?_
                        refine g_get (C := "ThreePoints$Tape") (T := xT_Tape) (N := 6) (ci := 5) (k := 1) (v := vi (H21 6 0 1)) (by decide +kernel) (by decide) rfl rfl xi_Tape (by decide) kw_189 rfl ?_
                        exact g_iret (by decide +kernel) rfl ⟨_, rfl, h⟩
                      · replace h := h.2 c
                        refine g_aload (i := 7) (by decide +kernel) rfl ?_
                        refine g_iload (i := 6) (by decide +kernel) rfl ?_
                        refine g_callV (kd := 6) (ix := 0) (ci := 5) (N := 6) (T := xT_Tape) (vs := [vi x6]) (st := []) (by decide +kernel) xm_Tape_add kw_689 kw_383 kw_384 (by decide) rfl rfl rfl rfl (Nat.le_of_ble_eq_true rfl) (Nat.le_of_ble_eq_true rfl) h (fun vH22 H22 hq => ?_)
                        replace h := hq
                        refine g_aload (i := 7) (by decide +kernel) rfl ?_
                        refine g_get (C := "ThreePoints$Tape") (T := xT_Tape) (N := 6) (ci := 5) (k := 1) (v := vi (H22 6 0 1)) (by decide +kernel) (by decide) rfl rfl xi_Tape (by decide) kw_189 rfl ?_
                        exact g_iret (by decide +kernel) rfl ⟨_, rfl, h⟩
                    · replace h := h.2 c
                      refine g_aload (i := 7) (by decide +kernel) rfl ?_
                      refine g_iload (i := 5) (by decide +kernel) rfl ?_
                      refine g_callV (kd := 6) (ix := 0) (ci := 5) (N := 6) (T := xT_Tape) (vs := [vi x5]) (st := []) (by decide +kernel) xm_Tape_add kw_689 kw_383 kw_384 (by decide) rfl rfl rfl rfl (Nat.le_of_ble_eq_true rfl) (Nat.le_of_ble_eq_true rfl) h (fun vH23 H23 hq => ?_)
                      replace h := hq
                      refine g_iload_n (q := 1) (i := 1) (by decide +kernel) rfl rfl ?_
                      refine g_iconst (n := 4) (v := 4) (by decide +kernel) (by decide) ?_
                      refine g_icmp_le (off := 10) (tgt := 128) (by decide +kernel) (by decide) (fun c => ?_) (fun c => ?_)
                      · replace h := h.1 c
                        refine g_aload (i := 7) (by decide +kernel) rfl ?_
                        refine g_get (C := "ThreePoints$Tape") (T := xT_Tape) (N := 6) (ci := 5) (k := 1) (v := vi (H23 6 0 1)) (by decide +kernel) (by decide) rfl rfl xi_Tape (by decide) kw_189 rfl ?_
                        exact g_iret (by decide +kernel) rfl ⟨_, rfl, h⟩
                      · replace h := h.2 c
                        refine g_aload (i := 7) (by decide +kernel) rfl ?_
                        refine g_iload (i := 6) (by decide +kernel) rfl ?_
                        refine g_callV (kd := 6) (ix := 0) (ci := 5) (N := 6) (T := xT_Tape) (vs := [vi x6]) (st := []) (by decide +kernel) xm_Tape_add kw_689 kw_383 kw_384 (by decide) rfl rfl rfl rfl (Nat.le_of_ble_eq_true rfl) (Nat.le_of_ble_eq_true rfl) h (fun vH24 H24 hq => ?_)
                        replace h := hq
                        refine g_aload (i := 7) (by decide +kernel) rfl ?_
                        refine g_get (C := "ThreePoints$Tape") (T := xT_Tape) (N := 6) (ci := 5) (k := 1) (v := vi (H24 6 0 1)) (by decide +kernel) (by decide) rfl rfl xi_Tape (by decide) kw_189 rfl ?_
                        exact g_iret (by decide +kernel) rfl ⟨_, rfl, h⟩
                  · replace h := h.2 c
                    refine g_aload (i := 7) (by decide +kernel) rfl ?_
                    refine g_iload (i := 4) (by decide +kernel) rfl ?_
                    refine g_callV (kd := 6) (ix := 0) (ci := 5) (N := 6) (T := xT_Tape) (vs := [vi x4]) (st := []) (by decide +kernel) xm_Tape_add kw_689 kw_383 kw_384 (by decide) rfl rfl rfl rfl (Nat.le_of_ble_eq_true rfl) (Nat.le_of_ble_eq_true rfl) h (fun vH25 H25 hq => ?_)
                    replace h := hq
                    refine g_iload_n (q := 1) (i := 1) (by decide +kernel) rfl rfl ?_
                    refine g_iconst (n := 3) (v := 3) (by decide +kernel) (by decide) ?_
                    refine g_icmp_le (off := 10) (tgt := 116) (by decide +kernel) (by decide) (fun c => ?_) (fun c => ?_)
                    · replace h := h.1 c
                      refine g_iload_n (q := 1) (i := 1) (by decide +kernel) rfl rfl ?_
                      refine g_iconst (n := 4) (v := 4) (by decide +kernel) (by decide) ?_
                      refine g_icmp_le (off := 10) (tgt := 128) (by decide +kernel) (by decide) (fun c => ?_) (fun c => ?_)
                      · replace h := h.1 c
                        refine g_aload (i := 7) (by decide +kernel) rfl ?_
                        refine g_get (C := "ThreePoints$Tape") (T := xT_Tape) (N := 6) (ci := 5) (k := 1) (v := vi (H25 6 0 1)) (by decide +kernel) (by decide) rfl rfl xi_Tape (by decide) kw_189 rfl ?_
                        exact g_iret (by decide +kernel) rfl ⟨_, rfl, h⟩
                      · replace h := h.2 c
                        refine g_aload (i := 7) (by decide +kernel) rfl ?_
                        refine g_iload (i := 6) (by decide +kernel) rfl ?_
                        refine g_callV (kd := 6) (ix := 0) (ci := 5) (N := 6) (T := xT_Tape) (vs := [vi x6]) (st := []) (by decide +kernel) xm_Tape_add kw_689 kw_383 kw_384 (by decide) rfl rfl rfl rfl (Nat.le_of_ble_eq_true rfl) (Nat.le_of_ble_eq_true rfl) h (fun vH26 H26 hq => ?_)
                        replace h := hq
                        refine g_aload (i := 7) (by decide +kernel) rfl ?_
                        refine g_get (C := "ThreePoints$Tape") (T := xT_Tape) (N := 6) (ci := 5) (k := 1) (v := vi (H26 6 0 1)) (by decide +kernel) (by decide) rfl rfl xi_Tape (by decide) kw_189 rfl ?_
                        exact g_iret (by decide +kernel) rfl ⟨_, rfl, h⟩
                    · replace h := h.2 c
                      refine g_aload (i := 7) (by decide +kernel) rfl ?_
                      refine g_iload (i := 5) (by decide +kernel) rfl ?_
                      refine g_callV (kd := 6) (ix := 0) (ci := 5) (N := 6) (T := xT_Tape) (vs := [vi x5]) (st := []) (by decide +kernel) xm_Tape_add kw_689 kw_383 kw_384 (by decide) rfl rfl rfl rfl (Nat.le_of_ble_eq_true rfl) (Nat.le_of_ble_eq_true rfl) h (fun vH27 H27 hq => ?_)
                      replace h := hq
                      refine g_iload_n (q := 1) (i := 1) (by decide +kernel) rfl rfl ?_
                      refine g_iconst (n := 4) (v := 4) (by decide +kernel) (by decide) ?_
                      refine g_icmp_le (off := 10) (tgt := 128) (by decide +kernel) (by decide) (fun c => ?_) (fun c => ?_)
                      · replace h := h.1 c
                        refine g_aload (i := 7) (by decide +kernel) rfl ?_
                        refine g_get (C := "ThreePoints$Tape") (T := xT_Tape) (N := 6) (ci := 5) (k := 1) (v := vi (H27 6 0 1)) (by decide +kernel) (by decide) rfl rfl xi_Tape (by decide) kw_189 rfl ?_
                        exact g_iret (by decide +kernel) rfl ⟨_, rfl, h⟩
                      · replace h := h.2 c
                        refine g_aload (i := 7) (by decide +kernel) rfl ?_
                        refine g_iload (i := 6) (by decide +kernel) rfl ?_
                        refine g_callV (kd := 6) (ix := 0) (ci := 5) (N := 6) (T := xT_Tape) (vs := [vi x6]) (st := []) (by decide +kernel) xm_Tape_add kw_689 kw_383 kw_384 (by decide) rfl rfl rfl rfl (Nat.le_of_ble_eq_true rfl) (Nat.le_of_ble_eq_true rfl) h (fun vH28 H28 hq => ?_)
                        replace h := hq
                        refine g_aload (i := 7) (by decide +kernel) rfl ?_
                        refine g_get (C := "ThreePoints$Tape") (T := xT_Tape) (N := 6) (ci := 5) (k := 1) (v := vi (H28 6 0 1)) (by decide +kernel) (by decide) rfl rfl xi_Tape (by decide) kw_189 rfl ?_
                        exact g_iret (by decide +kernel) rfl ⟨_, rfl, h⟩
              · replace h := h.2 c
                refine g_bipush (n := (-4)) (v := (-4)) (by decide +kernel) (by decide) ?_
                exact g_iret (by decide +kernel) rfl ⟨_, rfl, h⟩
            · replace h := h.2 c
              refine g_bipush (n := (-2)) (v := (-2)) (by decide +kernel) (by decide) ?_
              exact g_iret (by decide +kernel) rfl ⟨_, rfl, h⟩
def p_Main_text (E : XE) (d : Nat)  (H : HH) (Q : Int32 → HH → Prop) : Prop := c_Main_isWithin E d (H 0 0 5) 0 5 H (fun r2 H1 => (¬ r2 = 0 → (c_Reader_faultOfTape E d  H1 (fun r4 H3 => c_Tape_clear E d  H3 (fun H5 => (r4 = (-1) → (vp_in (H5 0 0 5) 6 ∧ (c_Text_become E d ((H5 0 0 5).toNatClampNeg) 6 H5 (fun H6 => ∀ H7 : HH, H7 = (hu H6 0 0 5 ((H6 0 0 5) + 1)) → (Q ((H7 0 0 5) - 1) H7))))) ∧ (¬ r4 = (-1) → (Q ((-100) - r4) H5)))))) ∧ (r2 = 0 → (Q (-4) H1)))
set_option maxHeartbeats 4000000 in
theorem l_Main_text {E : XE} {d : Nat}  {H : HH} {Q : Int32 → HH → Prop} (h : p_Main_text E d  H Q) : c_Main_text E (d + 1)  H Q := by
  show g_Main_text E (d + 1) 0 (xent [vr 0 0]) [] H (qi Q)
  refine g_drop (ls2 := [some (vr 0 0), none]) (And.intro rfl trivial) ?_
  refine g_aload_n (q := 0) (i := 0) (by decide +kernel) rfl rfl ?_
  refine g_get (C := "ThreePoints") (T := xT_Main) (N := 9) (ci := 0) (k := 5) (v := vi (H 0 0 5)) (by decide +kernel) (by decide) rfl rfl xi_Main (by decide) kw_587 rfl ?_
  refine g_iconst (n := 0) (v := 0) (by decide +kernel) (by decide) ?_
  refine g_iconst (n := 5) (v := 5) (by decide +kernel) (by decide) ?_
  refine g_callS (vs := [vi (H 0 0 5), vi 0, vi 5]) (st := []) (by decide +kernel) xm_Main_isWithin kw_619 kw_620 rfl rfl (Nat.le_of_ble_eq_true rfl) (Nat.le_of_ble_eq_true rfl) h (fun vH1 H1 hq => ?_)
  obtain ⟨r2, rfl, h⟩ := hq
  refine g_if_ne (off := 6) (tgt := 15) (by decide +kernel) (by decide) (fun c => ?_) (fun c => ?_)
  · replace h := h.1 c
    refine g_aload_n (q := 0) (i := 0) (by decide +kernel) rfl rfl ?_
    refine g_get (C := "ThreePoints") (T := xT_Main) (N := 9) (ci := 0) (k := 3) (v := vr 5 0) (by decide +kernel) (by decide) rfl rfl xi_Main (by decide) kw_585 rfl ?_
    refine g_callV (kd := 5) (ix := 0) (ci := 4) (N := 5) (T := xT_Reader) (vs := []) (st := []) (by decide +kernel) xm_Reader_faultOfTape kw_386 kw_387 kw_388 (by decide) rfl rfl rfl rfl (Nat.le_of_ble_eq_true rfl) (Nat.le_of_ble_eq_true rfl) h (fun vH3 H3 hq => ?_)
    obtain ⟨r4, rfl, h⟩ := hq
    refine g_istore_n (q := 1) (i := 1) (ls2 := [some (vr 0 0), some (vi r4)]) (by decide +kernel) rfl (by decide) rfl rfl ?_
    refine g_aload_n (q := 0) (i := 0) (by decide +kernel) rfl rfl ?_
    refine g_get (C := "ThreePoints") (T := xT_Main) (N := 9) (ci := 0) (k := 3) (v := vr 5 0) (by decide +kernel) (by decide) rfl rfl xi_Main (by decide) kw_585 rfl ?_
    refine g_get (C := "ThreePoints$Reader") (T := xT_Reader) (N := 5) (ci := 4) (k := 0) (v := vr 6 0) (by decide +kernel) (by decide) rfl rfl xi_Reader (by decide) kw_228 rfl ?_
    refine g_callV (kd := 6) (ix := 0) (ci := 5) (N := 6) (T := xT_Tape) (vs := []) (st := []) (by decide +kernel) xm_Tape_clear kw_578 kw_579 kw_580 (by decide) rfl rfl rfl rfl (Nat.le_of_ble_eq_true rfl) (Nat.le_of_ble_eq_true rfl) h (fun vH5 H5 hq => ?_)
    replace h := hq
    refine g_iload_n (q := 1) (i := 1) (by decide +kernel) rfl rfl ?_
    refine g_iconst (n := (-1)) (v := (-1)) (by decide +kernel) (by decide) ?_
    refine g_icmp_eq (off := 8) (tgt := 43) (by decide +kernel) (by decide) (fun c => ?_) (fun c => ?_)
    · replace h := h.1 c
      refine g_aload_n (q := 0) (i := 0) (by decide +kernel) rfl rfl ?_
      refine g_get (C := "ThreePoints") (T := xT_Main) (N := 9) (ci := 0) (k := 4) (v := vr 15 0) (by decide +kernel) (by decide) rfl rfl xi_Main (by decide) kw_586 rfl ?_
      refine g_aload_n (q := 0) (i := 0) (by decide +kernel) rfl rfl ?_
      refine g_get (C := "ThreePoints") (T := xT_Main) (N := 9) (ci := 0) (k := 5) (v := vi (H5 0 0 5)) (by decide +kernel) (by decide) rfl rfl xi_Main (by decide) kw_587 rfl ?_
      obtain ⟨hin, h⟩ := h
      refine g_aald (v := vr 11 ((H5 0 0 5).toNatClampNeg)) (by decide +kernel) (by decide) rfl (by decide) hin rfl ?_
      refine g_aload_n (q := 0) (i := 0) (by decide +kernel) rfl rfl ?_
      refine g_get (C := "ThreePoints") (T := xT_Main) (N := 9) (ci := 0) (k := 3) (v := vr 5 0) (by decide +kernel) (by decide) rfl rfl xi_Main (by decide) kw_585 rfl ?_
      refine g_get (C := "ThreePoints$Reader") (T := xT_Reader) (N := 5) (ci := 4) (k := 1) (v := vr 11 6) (by decide +kernel) (by decide) rfl rfl xi_Reader (by decide) kw_230 rfl ?_
      refine g_callV (kd := 11) (ix := ((H5 0 0 5).toNatClampNeg)) (ci := 6) (N := 4) (T := xT_Text) (vs := [vr 11 6]) (st := []) (by decide +kernel) xm_Text_become kw_571 kw_572 kw_573 (by decide) rfl rfl rfl rfl (Nat.le_of_ble_eq_true rfl) (Nat.le_of_ble_eq_true rfl) h (fun vH6 H6 hq => ?_)
      replace h := hq
      refine g_aload_n (q := 0) (i := 0) (by decide +kernel) rfl rfl ?_
      refine g_dup (by decide +kernel) rfl ?_
      refine g_get (C := "ThreePoints") (T := xT_Main) (N := 9) (ci := 0) (k := 5) (v := vi (H6 0 0 5)) (by decide +kernel) (by decide) rfl rfl xi_Main (by decide) kw_587 rfl ?_
      refine g_iconst (n := 1) (v := 1) (by decide +kernel) (by decide) ?_
      refine g_iadd (by decide +kernel) ?_
      refine g_put (C := "ThreePoints") (T := xT_Main) (N := 9) (ci := 0) (k := 5) xy_Main (by decide +kernel) (by decide) rfl rfl xi_Main xy_Main_ok xn_Main (by decide) kw_587 rfl (by decide +kernel) (fun _ => rfl) ?_
      refine g_aload_n (q := 0) (i := 0) (by decide +kernel) rfl rfl ?_
      refine g_heap (fun H7 eH7 => ?_)
      replace h := h H7 eH7
      refine g_get (C := "ThreePoints") (T := xT_Main) (N := 9) (ci := 0) (k := 5) (v := vi (H7 0 0 5)) (by decide +kernel) (by decide) rfl rfl xi_Main (by decide) kw_587 rfl ?_
      refine g_iconst (n := 1) (v := 1) (by decide +kernel) (by decide) ?_
      refine g_isub (by decide +kernel) ?_
      exact g_iret (by decide +kernel) rfl ⟨_, rfl, h⟩
    · replace h := h.2 c
      refine g_bipush (n := (-100)) (v := (-100)) (by decide +kernel) (by decide) ?_
      refine g_iload_n (q := 1) (i := 1) (by decide +kernel) rfl rfl ?_
      refine g_isub (by decide +kernel) ?_
      exact g_iret (by decide +kernel) rfl ⟨_, rfl, h⟩
  · replace h := h.2 c
    refine g_bipush (n := (-4)) (v := (-4)) (by decide +kernel) (by decide) ?_
    exact g_iret (by decide +kernel) rfl ⟨_, rfl, h⟩
def p_Main_force (E : XE) (d : Nat) (x1 : Int32) (H : HH) (Q : Int32 → HH → Prop) : Prop := c_Main_isWithin E d x1 0 ((H 0 0 5) - 1) H (fun r2 H1 => (¬ r2 = 0 → (∀ H3 : HH, H3 = (hu H1 2 0 2 x1) → (Q (H1 2 0 2) H3))) ∧ (r2 = 0 → (Q (-2) H1)))
set_option maxHeartbeats 4000000 in
theorem l_Main_force {E : XE} {d : Nat} {x1 : Int32} {H : HH} {Q : Int32 → HH → Prop} (h : p_Main_force E d x1 H Q) : c_Main_force E (d + 1) x1 H Q := by
  show g_Main_force E (d + 1) 0 (xent [vr 0 0, vi x1]) [] H (qi Q)
  refine g_drop (ls2 := [some (vr 0 0), some (vi x1), none]) (And.intro rfl (And.intro rfl trivial)) ?_
  refine g_iload_n (q := 1) (i := 1) (by decide +kernel) rfl rfl ?_
  refine g_iconst (n := 0) (v := 0) (by decide +kernel) (by decide) ?_
  refine g_aload_n (q := 0) (i := 0) (by decide +kernel) rfl rfl ?_
  refine g_get (C := "ThreePoints") (T := xT_Main) (N := 9) (ci := 0) (k := 5) (v := vi (H 0 0 5)) (by decide +kernel) (by decide) rfl rfl xi_Main (by decide) kw_587 rfl ?_
  refine g_iconst (n := 1) (v := 1) (by decide +kernel) (by decide) ?_
  refine g_isub (by decide +kernel) ?_
  refine g_callS (vs := [vi x1, vi 0, vi ((H 0 0 5) - 1)]) (st := []) (by decide +kernel) xm_Main_isWithin kw_619 kw_620 rfl rfl (Nat.le_of_ble_eq_true rfl) (Nat.le_of_ble_eq_true rfl) h (fun vH1 H1 hq => ?_)
  obtain ⟨r2, rfl, h⟩ := hq
  refine g_if_ne (off := 6) (tgt := 17) (by decide +kernel) (by decide) (fun c => ?_) (fun c => ?_)
  · replace h := h.1 c
    refine g_aload_n (q := 0) (i := 0) (by decide +kernel) rfl rfl ?_
    refine g_get (C := "ThreePoints") (T := xT_Main) (N := 9) (ci := 0) (k := 0) (v := vr 1 0) (by decide +kernel) (by decide) rfl rfl xi_Main (by decide) kw_582 rfl ?_
    refine g_get (C := "ThreePoints$Yard") (T := xT_Yard) (N := 3) (ci := 1) (k := 0) (v := vr 2 0) (by decide +kernel) (by decide) rfl rfl xi_Yard (by decide) kw_163 rfl ?_
    refine g_get (C := "ThreePoints$Lane") (T := xT_Lane) (N := 3) (ci := 2) (k := 2) (v := vi (H1 2 0 2)) (by decide +kernel) (by decide) rfl rfl xi_Lane (by decide) kw_112 rfl ?_
    refine g_istore_n (q := 2) (i := 2) (ls2 := [some (vr 0 0), some (vi x1), some (vi (H1 2 0 2))]) (by decide +kernel) rfl (by decide) rfl rfl ?_
    refine g_aload_n (q := 0) (i := 0) (by decide +kernel) rfl rfl ?_
    refine g_get (C := "ThreePoints") (T := xT_Main) (N := 9) (ci := 0) (k := 0) (v := vr 1 0) (by decide +kernel) (by decide) rfl rfl xi_Main (by decide) kw_582 rfl ?_
    refine g_get (C := "ThreePoints$Yard") (T := xT_Yard) (N := 3) (ci := 1) (k := 0) (v := vr 2 0) (by decide +kernel) (by decide) rfl rfl xi_Yard (by decide) kw_163 rfl ?_
    refine g_iload_n (q := 1) (i := 1) (by decide +kernel) rfl rfl ?_
    refine g_put (C := "ThreePoints$Lane") (T := xT_Lane) (N := 3) (ci := 2) (k := 2) xy_Lane (by decide +kernel) (by decide) rfl rfl xi_Lane xy_Lane_ok xn_Lane (by decide) kw_112 rfl (by decide +kernel) (fun _ => rfl) ?_
    refine g_iload_n (q := 2) (i := 2) (by decide +kernel) rfl rfl ?_
    refine g_heap (fun H3 eH3 => ?_)
    replace h := h H3 eH3
    exact g_iret (by decide +kernel) rfl ⟨_, rfl, h⟩
  · replace h := h.2 c
    refine g_bipush (n := (-2)) (v := (-2)) (by decide +kernel) (by decide) ?_
    exact g_iret (by decide +kernel) rfl ⟨_, rfl, h⟩
def p_Main_isPlace (E : XE) (d : Nat) (x1 : Int32) (H : HH) (Q : Int32 → HH → Prop) : Prop := c_Main_isWithin E d x1 0 (H 2 0 0) H (fun r2 H1 => (r2 = 0 ∨ r2 = 1) ∧ Q r2 H1)
set_option maxHeartbeats 4000000 in
theorem l_Main_isPlace {E : XE} {d : Nat} {x1 : Int32} {H : HH} {Q : Int32 → HH → Prop} (h : p_Main_isPlace E d x1 H Q) : c_Main_isPlace E (d + 1) x1 H Q := by
  show g_Main_isPlace E (d + 1) 0 (xent [vr 0 0, vi x1]) [] H (qi Q)
  refine g_drop (ls2 := [some (vr 0 0), some (vi x1)]) (And.intro rfl (And.intro rfl trivial)) ?_
  refine g_iload_n (q := 1) (i := 1) (by decide +kernel) rfl rfl ?_
  refine g_iconst (n := 0) (v := 0) (by decide +kernel) (by decide) ?_
  refine g_aload_n (q := 0) (i := 0) (by decide +kernel) rfl rfl ?_
  refine g_get (C := "ThreePoints") (T := xT_Main) (N := 9) (ci := 0) (k := 0) (v := vr 1 0) (by decide +kernel) (by decide) rfl rfl xi_Main (by decide) kw_582 rfl ?_
  refine g_get (C := "ThreePoints$Yard") (T := xT_Yard) (N := 3) (ci := 1) (k := 0) (v := vr 2 0) (by decide +kernel) (by decide) rfl rfl xi_Yard (by decide) kw_163 rfl ?_
  refine g_get (C := "ThreePoints$Lane") (T := xT_Lane) (N := 3) (ci := 2) (k := 0) (v := vi (H 2 0 0)) (by decide +kernel) (by decide) rfl rfl xi_Lane (by decide) kw_106 rfl ?_
  refine g_callS (vs := [vi x1, vi 0, vi (H 2 0 0)]) (st := []) (by decide +kernel) xm_Main_isWithin kw_619 kw_620 rfl rfl (Nat.le_of_ble_eq_true rfl) (Nat.le_of_ble_eq_true rfl) h (fun vH1 H1 hq => ?_)
  obtain ⟨r2, rfl, h⟩ := hq
  obtain ⟨h01, h⟩ := h
  exact g_zret (by decide +kernel) rfl (nbool h01) ⟨_, rfl, h⟩
def p_Main_isPlaceHeading (E : XE) (d : Nat) (x1 : Int32) (H : HH) (Q : Int32 → HH → Prop) : Prop := (x1 < 0 → (Q 0 H)) ∧ (¬ x1 < 0 → (c_Main_isPlace E d (x1 / 100) H (fun r2 H1 => (r2 = 0 → (Q 0 H1)) ∧ (¬ r2 = 0 → (((if 16 ≤ (xrem x1 100) then 0 else 1 : Int32) = 0 ∨ (if 16 ≤ (xrem x1 100) then 0 else 1 : Int32) = 1) ∧ Q (if 16 ≤ (xrem x1 100) then 0 else 1 : Int32) H1)))))
set_option maxHeartbeats 4000000 in
theorem l_Main_isPlaceHeading {E : XE} {d : Nat} {x1 : Int32} {H : HH} {Q : Int32 → HH → Prop} (h : p_Main_isPlaceHeading E d x1 H Q) : c_Main_isPlaceHeading E (d + 1) x1 H Q := by
  show g_Main_isPlaceHeading E (d + 1) 0 (xent [vr 0 0, vi x1]) [] H (qi Q)
  refine g_drop (ls2 := [some (vr 0 0), some (vi x1)]) (And.intro rfl (And.intro rfl trivial)) ?_
  refine g_iload_n (q := 1) (i := 1) (by decide +kernel) rfl rfl ?_
  refine g_if_lt (off := 27) (tgt := 28) (by decide +kernel) (by decide) (fun c => ?_) (fun c => ?_)
  · replace h := h.1 c
    refine g_iconst (n := 0) (v := 0) (by decide +kernel) (by decide) ?_
    exact g_zret (by decide +kernel) rfl rfl ⟨_, rfl, h⟩
  · replace h := h.2 c
    refine g_aload_n (q := 0) (i := 0) (by decide +kernel) rfl rfl ?_
    refine g_iload_n (q := 1) (i := 1) (by decide +kernel) rfl rfl ?_
    refine g_bipush (n := 100) (v := 100) (by decide +kernel) (by decide) ?_
    refine g_idiv (by decide +kernel) (by decide) ?_
    refine g_callV (kd := 0) (ix := 0) (ci := 0) (N := 9) (T := xT_Main) (vs := [vi (x1 / 100)]) (st := []) (by decide +kernel) xm_Main_isPlace kw_706 kw_708 kw_20 (by decide) rfl rfl rfl rfl (Nat.le_of_ble_eq_true rfl) (Nat.le_of_ble_eq_true rfl) h (fun vH1 H1 hq => ?_)
    obtain ⟨r2, rfl, h⟩ := hq
    refine g_if_eq (off := 16) (tgt := 28) (by decide +kernel) (by decide) (fun c => ?_) (fun c => ?_)
    · replace h := h.1 c
      refine g_iconst (n := 0) (v := 0) (by decide +kernel) (by decide) ?_
      exact g_zret (by decide +kernel) rfl rfl ⟨_, rfl, h⟩
    · replace h := h.2 c
      refine g_iload_n (q := 1) (i := 1) (by decide +kernel) rfl rfl ?_
      refine g_bipush (n := 100) (v := 100) (by decide +kernel) (by decide) ?_
      refine g_irem (by decide +kernel) (by decide) ?_
      refine g_bipush (n := 16) (v := 16) (by decide +kernel) (by decide) ?_
      suffices hj3 : g_Main_isPlaceHeading E (d + 1) 29 [some (vr 0 0), some (vi x1)] [vi (if 16 ≤ (xrem x1 100) then 0 else 1 : Int32)] H1 (qi Q) by
        refine g_icmp_ge (off := 7) (tgt := 28) (by decide +kernel) (by decide) (fun c => ?_) (fun c => ?_)
        · rw [if_pos c] at hj3
          refine g_iconst (n := 0) (v := 0) (by decide +kernel) (by decide) ?_
          exact hj3
        · rw [if_neg c] at hj3
          refine g_iconst (n := 1) (v := 1) (by decide +kernel) (by decide) ?_
          refine g_goto (off := 4) (tgt := 29) (by decide +kernel) (by decide) ?_
          exact hj3
      obtain ⟨h01, h⟩ := h
      exact g_zret (by decide +kernel) rfl (nbool h01) ⟨_, rfl, h⟩
def p_Main_asks (E : XE) (d : Nat) (x1 : Int32) (x2 : Int32) (x3 : Int32) (x4 : Int32) (H : HH) (Q : Int32 → HH → Prop) : Prop := c_Main_isWithin E d x1 0 2 H (fun r2 H1 => (r2 = 0 → (Q (-2) H1)) ∧ (¬ r2 = 0 → (c_Main_isVehicle E d x2 H1 (fun r4 H3 => (r4 = 0 → (Q (-2) H3)) ∧ (¬ r4 = 0 → (c_Main_isPlaceHeading E d x3 H3 (fun r6 H5 => (¬ r6 = 0 → (c_Main_isTwoFlags E d x4 H5 (fun r8 H7 => (¬ r8 = 0 → (c_Main_think E d x2 H7 (fun H9 => c_Ride_says E d x1 (x3 / 100) (xrem x3 100) (x4 / 10) (xrem x4 10) H9 (fun r11 H10 => Q r11 H10)))) ∧ (r8 = 0 → (Q (-2) H7))))) ∧ (r6 = 0 → (Q (-2) H5)))))))))
set_option maxHeartbeats 4000000 in
theorem l_Main_asks {E : XE} {d : Nat} {x1 : Int32} {x2 : Int32} {x3 : Int32} {x4 : Int32} {H : HH} {Q : Int32 → HH → Prop} (h : p_Main_asks E d x1 x2 x3 x4 H Q) : c_Main_asks E (d + 1) x1 x2 x3 x4 H Q := by
  show g_Main_asks E (d + 1) 0 (xent [vr 0 0, vi x1, vi x2, vi x3, vi x4]) [] H (qi Q)
  refine g_drop (ls2 := [some (vr 0 0), some (vi x1), some (vi x2), some (vi x3), some (vi x4)]) (And.intro rfl (And.intro rfl (And.intro rfl (And.intro rfl (And.intro rfl trivial))))) ?_
  refine g_iload_n (q := 1) (i := 1) (by decide +kernel) rfl rfl ?_
  refine g_iconst (n := 0) (v := 0) (by decide +kernel) (by decide) ?_
  refine g_iconst (n := 2) (v := 2) (by decide +kernel) (by decide) ?_
  refine g_callS (vs := [vi x1, vi 0, vi 2]) (st := []) (by decide +kernel) xm_Main_isWithin kw_619 kw_620 rfl rfl (Nat.le_of_ble_eq_true rfl) (Nat.le_of_ble_eq_true rfl) h (fun vH1 H1 hq => ?_)
  obtain ⟨r2, rfl, h⟩ := hq
  refine g_if_eq (off := 19) (tgt := 25) (by decide +kernel) (by decide) (fun c => ?_) (fun c => ?_)
  · replace h := h.1 c
    refine g_bipush (n := (-2)) (v := (-2)) (by decide +kernel) (by decide) ?_
    exact g_iret (by decide +kernel) rfl ⟨_, rfl, h⟩
  · replace h := h.2 c
    refine g_aload_n (q := 0) (i := 0) (by decide +kernel) rfl rfl ?_
    refine g_iload_n (q := 2) (i := 2) (by decide +kernel) rfl rfl ?_
    refine g_callV (kd := 0) (ix := 0) (ci := 0) (N := 9) (T := xT_Main) (vs := [vi x2]) (st := []) (by decide +kernel) xm_Main_isVehicle kw_630 kw_632 kw_18 (by decide) rfl rfl rfl rfl (Nat.le_of_ble_eq_true rfl) (Nat.le_of_ble_eq_true rfl) h (fun vH3 H3 hq => ?_)
    obtain ⟨r4, rfl, h⟩ := hq
    refine g_if_eq (off := 11) (tgt := 25) (by decide +kernel) (by decide) (fun c => ?_) (fun c => ?_)
    · replace h := h.1 c
      refine g_bipush (n := (-2)) (v := (-2)) (by decide +kernel) (by decide) ?_
      exact g_iret (by decide +kernel) rfl ⟨_, rfl, h⟩
    · replace h := h.2 c
      refine g_aload_n (q := 0) (i := 0) (by decide +kernel) rfl rfl ?_
      refine g_iload_n (q := 3) (i := 3) (by decide +kernel) rfl rfl ?_
      refine g_callV (kd := 0) (ix := 0) (ci := 0) (N := 9) (T := xT_Main) (vs := [vi x3]) (st := []) (by decide +kernel) xm_Main_isPlaceHeading kw_702 kw_704 kw_19 (by decide) rfl rfl rfl rfl (Nat.le_of_ble_eq_true rfl) (Nat.le_of_ble_eq_true rfl) h (fun vH5 H5 hq => ?_)
      obtain ⟨r6, rfl, h⟩ := hq
      refine g_if_ne (off := 6) (tgt := 28) (by decide +kernel) (by decide) (fun c => ?_) (fun c => ?_)
      · replace h := h.1 c
        refine g_iload (i := 4) (by decide +kernel) rfl ?_
        refine g_callS (vs := [vi x4]) (st := []) (by decide +kernel) xm_Main_isTwoFlags kw_710 kw_711 rfl rfl (Nat.le_of_ble_eq_true rfl) (Nat.le_of_ble_eq_true rfl) h (fun vH7 H7 hq => ?_)
        obtain ⟨r8, rfl, h⟩ := hq
        refine g_if_ne (off := 6) (tgt := 39) (by decide +kernel) (by decide) (fun c => ?_) (fun c => ?_)
        · replace h := h.1 c
          refine g_aload_n (q := 0) (i := 0) (by decide +kernel) rfl rfl ?_
          refine g_iload_n (q := 2) (i := 2) (by decide +kernel) rfl rfl ?_
          refine g_callV (kd := 0) (ix := 0) (ci := 0) (N := 9) (T := xT_Main) (vs := [vi x2]) (st := []) (by decide +kernel) xm_Main_think kw_622 kw_624 kw_17 (by decide) rfl rfl rfl rfl (Nat.le_of_ble_eq_true rfl) (Nat.le_of_ble_eq_true rfl) h (fun vH9 H9 hq => ?_)
          replace h := hq
          refine g_aload_n (q := 0) (i := 0) (by decide +kernel) rfl rfl ?_
          refine g_get (C := "ThreePoints") (T := xT_Main) (N := 9) (ci := 0) (k := 7) (v := vr 19 0) (by decide +kernel) (by decide) rfl rfl xi_Main (by decide) kw_589 rfl ?_
          refine g_iload_n (q := 1) (i := 1) (by decide +kernel) rfl rfl ?_
          refine g_iload_n (q := 3) (i := 3) (by decide +kernel) rfl rfl ?_
          refine g_bipush (n := 100) (v := 100) (by decide +kernel) (by decide) ?_
          refine g_idiv (by decide +kernel) (by decide) ?_
          refine g_iload_n (q := 3) (i := 3) (by decide +kernel) rfl rfl ?_
          refine g_bipush (n := 100) (v := 100) (by decide +kernel) (by decide) ?_
          refine g_irem (by decide +kernel) (by decide) ?_
          refine g_iload (i := 4) (by decide +kernel) rfl ?_
          refine g_bipush (n := 10) (v := 10) (by decide +kernel) (by decide) ?_
          refine g_idiv (by decide +kernel) (by decide) ?_
          refine g_iload (i := 4) (by decide +kernel) rfl ?_
          refine g_bipush (n := 10) (v := 10) (by decide +kernel) (by decide) ?_
          refine g_irem (by decide +kernel) (by decide) ?_
          refine g_callV (kd := 19) (ix := 0) (ci := 8) (N := 4) (T := xT_Ride) (vs := [vi x1, vi (x3 / 100), vi (xrem x3 100), vi (x4 / 10), vi (xrem x4 10)]) (st := []) (by decide +kernel) xm_Ride_says kw_713 kw_661 kw_662 (by decide) rfl rfl rfl rfl (Nat.le_of_ble_eq_true rfl) (Nat.le_of_ble_eq_true rfl) h (fun vH10 H10 hq => ?_)
          obtain ⟨r11, rfl, h⟩ := hq
          exact g_iret (by decide +kernel) rfl ⟨_, rfl, h⟩
        · replace h := h.2 c
          refine g_bipush (n := (-2)) (v := (-2)) (by decide +kernel) (by decide) ?_
          exact g_iret (by decide +kernel) rfl ⟨_, rfl, h⟩
      · replace h := h.2 c
        refine g_bipush (n := (-2)) (v := (-2)) (by decide +kernel) (by decide) ?_
        exact g_iret (by decide +kernel) rfl ⟨_, rfl, h⟩
def p_Main_addVehicle (E : XE) (d : Nat) (x1 : Int32) (x2 : Int32) (H : HH) (Q : Int32 → HH → Prop) : Prop := c_Main_isWithin E d x1 0 59 H (fun r2 H1 => (r2 = 0 → (Q (-2) H1)) ∧ (¬ r2 = 0 → (c_Main_isPlace E d x2 H1 (fun r4 H3 => (¬ r4 = 0 → (c_Main_isWithin E d (H3 1 0 2) 0 3 H3 (fun r6 H5 => (¬ r6 = 0 → (c_Main_think E d (-1) H5 (fun H7 => ∀ H8 : HH, H8 = (hu (hu H7 3 8 0 (x1 / 10)) 3 8 1 (xrem x1 10)) → (c_Vehicle_startAt E d 8 x2 H8 (fun H9 => c_Ride_fitsNow E d  H9 (fun r11 H10 => (¬ r11 = 0 → (vp_in (H10 1 0 2) 4 ∧ (c_Vehicle_become E d (4 * 0 + ((H10 1 0 2).toNatClampNeg)) 8 H10 (fun H12 => ∀ H13 : HH, H13 = (hu H12 1 0 2 ((H12 1 0 2) + 1)) → (Q ((H13 1 0 2) - 1) H13))))) ∧ (r11 = 0 → (Q (-3) H10)))))))) ∧ (r6 = 0 → (Q (-4) H5))))) ∧ (r4 = 0 → (Q (-2) H3))))))
set_option maxHeartbeats 4000000 in
theorem l_Main_addVehicle {E : XE} {d : Nat} {x1 : Int32} {x2 : Int32} {H : HH} {Q : Int32 → HH → Prop} (h : p_Main_addVehicle E d x1 x2 H Q) : c_Main_addVehicle E (d + 1) x1 x2 H Q := by
  show g_Main_addVehicle E (d + 1) 0 (xent [vr 0 0, vi x1, vi x2]) [] H (qi Q)
  refine g_drop (ls2 := [some (vr 0 0), some (vi x1), some (vi x2)]) (And.intro rfl (And.intro rfl (And.intro rfl trivial))) ?_
  refine g_iload_n (q := 1) (i := 1) (by decide +kernel) rfl rfl ?_
  refine g_iconst (n := 0) (v := 0) (by decide +kernel) (by decide) ?_
  refine g_bipush (n := 59) (v := 59) (by decide +kernel) (by decide) ?_
  refine g_callS (vs := [vi x1, vi 0, vi 59]) (st := []) (by decide +kernel) xm_Main_isWithin kw_619 kw_620 rfl rfl (Nat.le_of_ble_eq_true rfl) (Nat.le_of_ble_eq_true rfl) h (fun vH1 H1 hq => ?_)
  obtain ⟨r2, rfl, h⟩ := hq
  refine g_if_eq (off := 11) (tgt := 18) (by decide +kernel) (by decide) (fun c => ?_) (fun c => ?_)
  · replace h := h.1 c
    refine g_bipush (n := (-2)) (v := (-2)) (by decide +kernel) (by decide) ?_
    exact g_iret (by decide +kernel) rfl ⟨_, rfl, h⟩
  · replace h := h.2 c
    refine g_aload_n (q := 0) (i := 0) (by decide +kernel) rfl rfl ?_
    refine g_iload_n (q := 2) (i := 2) (by decide +kernel) rfl rfl ?_
    refine g_callV (kd := 0) (ix := 0) (ci := 0) (N := 9) (T := xT_Main) (vs := [vi x2]) (st := []) (by decide +kernel) xm_Main_isPlace kw_706 kw_708 kw_20 (by decide) rfl rfl rfl rfl (Nat.le_of_ble_eq_true rfl) (Nat.le_of_ble_eq_true rfl) h (fun vH3 H3 hq => ?_)
    obtain ⟨r4, rfl, h⟩ := hq
    refine g_if_ne (off := 6) (tgt := 21) (by decide +kernel) (by decide) (fun c => ?_) (fun c => ?_)
    · replace h := h.1 c
      refine g_aload_n (q := 0) (i := 0) (by decide +kernel) rfl rfl ?_
      refine g_get (C := "ThreePoints") (T := xT_Main) (N := 9) (ci := 0) (k := 0) (v := vr 1 0) (by decide +kernel) (by decide) rfl rfl xi_Main (by decide) kw_582 rfl ?_
      refine g_get (C := "ThreePoints$Yard") (T := xT_Yard) (N := 3) (ci := 1) (k := 2) (v := vi (H3 1 0 2)) (by decide +kernel) (by decide) rfl rfl xi_Yard (by decide) kw_167 rfl ?_
      refine g_iconst (n := 0) (v := 0) (by decide +kernel) (by decide) ?_
      refine g_iconst (n := 3) (v := 3) (by decide +kernel) (by decide) ?_
      refine g_callS (vs := [vi (H3 1 0 2), vi 0, vi 3]) (st := []) (by decide +kernel) xm_Main_isWithin kw_619 kw_620 rfl rfl (Nat.le_of_ble_eq_true rfl) (Nat.le_of_ble_eq_true rfl) h (fun vH5 H5 hq => ?_)
      obtain ⟨r6, rfl, h⟩ := hq
      refine g_if_ne (off := 6) (tgt := 39) (by decide +kernel) (by decide) (fun c => ?_) (fun c => ?_)
      · replace h := h.1 c
        refine g_aload_n (q := 0) (i := 0) (by decide +kernel) rfl rfl ?_
        refine g_iconst (n := (-1)) (v := (-1)) (by decide +kernel) (by decide) ?_
        refine g_callV (kd := 0) (ix := 0) (ci := 0) (N := 9) (T := xT_Main) (vs := [vi (-1)]) (st := []) (by decide +kernel) xm_Main_think kw_622 kw_624 kw_17 (by decide) rfl rfl rfl rfl (Nat.le_of_ble_eq_true rfl) (Nat.le_of_ble_eq_true rfl) h (fun vH7 H7 hq => ?_)
        replace h := hq
        refine g_aload_n (q := 0) (i := 0) (by decide +kernel) rfl rfl ?_
        refine g_get (C := "ThreePoints") (T := xT_Main) (N := 9) (ci := 0) (k := 7) (v := vr 19 0) (by decide +kernel) (by decide) rfl rfl xi_Main (by decide) kw_589 rfl ?_
        refine g_get (C := "ThreePoints$Ride") (T := xT_Ride) (N := 4) (ci := 8) (k := 1) (v := vr 3 8) (by decide +kernel) (by decide) rfl rfl xi_Ride (by decide) kw_264 rfl ?_
        refine g_iload_n (q := 1) (i := 1) (by decide +kernel) rfl rfl ?_
        refine g_bipush (n := 10) (v := 10) (by decide +kernel) (by decide) ?_
        refine g_idiv (by decide +kernel) (by decide) ?_
        refine g_put (C := "ThreePoints$Vehicle") (T := xT_Vehicle) (N := 7) (ci := 3) (k := 0) xy_Vehicle (by decide +kernel) (by decide) rfl rfl xi_Vehicle xy_Vehicle_ok xn_Vehicle (by decide) kw_128 rfl (by decide +kernel) (fun _ => rfl) ?_
        refine g_aload_n (q := 0) (i := 0) (by decide +kernel) rfl rfl ?_
        refine g_get (C := "ThreePoints") (T := xT_Main) (N := 9) (ci := 0) (k := 7) (v := vr 19 0) (by decide +kernel) (by decide) rfl rfl xi_Main (by decide) kw_589 rfl ?_
        refine g_get (C := "ThreePoints$Ride") (T := xT_Ride) (N := 4) (ci := 8) (k := 1) (v := vr 3 8) (by decide +kernel) (by decide) rfl rfl xi_Ride (by decide) kw_264 rfl ?_
        refine g_iload_n (q := 1) (i := 1) (by decide +kernel) rfl rfl ?_
        refine g_bipush (n := 10) (v := 10) (by decide +kernel) (by decide) ?_
        refine g_irem (by decide +kernel) (by decide) ?_
        refine g_put (C := "ThreePoints$Vehicle") (T := xT_Vehicle) (N := 7) (ci := 3) (k := 1) xy_Vehicle (by decide +kernel) (by decide) rfl rfl xi_Vehicle xy_Vehicle_ok xn_Vehicle (by decide) kw_131 rfl (by decide +kernel) (fun _ => rfl) ?_
        refine g_aload_n (q := 0) (i := 0) (by decide +kernel) rfl rfl ?_
        refine g_get (C := "ThreePoints") (T := xT_Main) (N := 9) (ci := 0) (k := 7) (v := vr 19 0) (by decide +kernel) (by decide) rfl rfl xi_Main (by decide) kw_589 rfl ?_
        refine g_get (C := "ThreePoints$Ride") (T := xT_Ride) (N := 4) (ci := 8) (k := 1) (v := vr 3 8) (by decide +kernel) (by decide) rfl rfl xi_Ride (by decide) kw_264 rfl ?_
        refine g_iload_n (q := 2) (i := 2) (by decide +kernel) rfl rfl ?_
        refine g_heap (fun H8 eH8 => ?_)
        replace h := h H8 eH8
        refine g_callV (kd := 3) (ix := 8) (ci := 3) (N := 7) (T := xT_Vehicle) (vs := [vi x2]) (st := []) (by decide +kernel) xm_Vehicle_startAt kw_722 kw_723 kw_724 (by decide) rfl rfl rfl rfl (Nat.le_of_ble_eq_true rfl) (Nat.le_of_ble_eq_true rfl) h (fun vH9 H9 hq => ?_)
        replace h := hq
        refine g_aload_n (q := 0) (i := 0) (by decide +kernel) rfl rfl ?_
        refine g_get (C := "ThreePoints") (T := xT_Main) (N := 9) (ci := 0) (k := 7) (v := vr 19 0) (by decide +kernel) (by decide) rfl rfl xi_Main (by decide) kw_589 rfl ?_
        refine g_callV (kd := 19) (ix := 0) (ci := 8) (N := 4) (T := xT_Ride) (vs := []) (st := []) (by decide +kernel) xm_Ride_fitsNow kw_638 kw_639 kw_640 (by decide) rfl rfl rfl rfl (Nat.le_of_ble_eq_true rfl) (Nat.le_of_ble_eq_true rfl) h (fun vH10 H10 hq => ?_)
        obtain ⟨r11, rfl, h⟩ := hq
        refine g_if_ne (off := 6) (tgt := 96) (by decide +kernel) (by decide) (fun c => ?_) (fun c => ?_)
        · replace h := h.1 c
          refine g_aload_n (q := 0) (i := 0) (by decide +kernel) rfl rfl ?_
          refine g_get (C := "ThreePoints") (T := xT_Main) (N := 9) (ci := 0) (k := 0) (v := vr 1 0) (by decide +kernel) (by decide) rfl rfl xi_Main (by decide) kw_582 rfl ?_
          refine g_get (C := "ThreePoints$Yard") (T := xT_Yard) (N := 3) (ci := 1) (k := 1) (v := vr 4 0) (by decide +kernel) (by decide) rfl rfl xi_Yard (by decide) kw_165 rfl ?_
          refine g_aload_n (q := 0) (i := 0) (by decide +kernel) rfl rfl ?_
          refine g_get (C := "ThreePoints") (T := xT_Main) (N := 9) (ci := 0) (k := 0) (v := vr 1 0) (by decide +kernel) (by decide) rfl rfl xi_Main (by decide) kw_582 rfl ?_
          refine g_get (C := "ThreePoints$Yard") (T := xT_Yard) (N := 3) (ci := 1) (k := 2) (v := vi (H10 1 0 2)) (by decide +kernel) (by decide) rfl rfl xi_Yard (by decide) kw_167 rfl ?_
          obtain ⟨hin, h⟩ := h
          refine g_aald (v := vr 3 (4 * 0 + ((H10 1 0 2).toNatClampNeg))) (by decide +kernel) (by decide) rfl (by decide) hin rfl ?_
          refine g_aload_n (q := 0) (i := 0) (by decide +kernel) rfl rfl ?_
          refine g_get (C := "ThreePoints") (T := xT_Main) (N := 9) (ci := 0) (k := 7) (v := vr 19 0) (by decide +kernel) (by decide) rfl rfl xi_Main (by decide) kw_589 rfl ?_
          refine g_get (C := "ThreePoints$Ride") (T := xT_Ride) (N := 4) (ci := 8) (k := 1) (v := vr 3 8) (by decide +kernel) (by decide) rfl rfl xi_Ride (by decide) kw_264 rfl ?_
          refine g_callV (kd := 3) (ix := (4 * 0 + ((H10 1 0 2).toNatClampNeg))) (ci := 3) (N := 7) (T := xT_Vehicle) (vs := [vr 3 8]) (st := []) (by decide +kernel) xm_Vehicle_become kw_634 kw_635 kw_636 (by decide) rfl rfl rfl rfl (Nat.le_of_ble_eq_true rfl) (Nat.le_of_ble_eq_true rfl) h (fun vH12 H12 hq => ?_)
          replace h := hq
          refine g_aload_n (q := 0) (i := 0) (by decide +kernel) rfl rfl ?_
          refine g_get (C := "ThreePoints") (T := xT_Main) (N := 9) (ci := 0) (k := 0) (v := vr 1 0) (by decide +kernel) (by decide) rfl rfl xi_Main (by decide) kw_582 rfl ?_
          refine g_dup (by decide +kernel) rfl ?_
          refine g_get (C := "ThreePoints$Yard") (T := xT_Yard) (N := 3) (ci := 1) (k := 2) (v := vi (H12 1 0 2)) (by decide +kernel) (by decide) rfl rfl xi_Yard (by decide) kw_167 rfl ?_
          refine g_iconst (n := 1) (v := 1) (by decide +kernel) (by decide) ?_
          refine g_iadd (by decide +kernel) ?_
          refine g_put (C := "ThreePoints$Yard") (T := xT_Yard) (N := 3) (ci := 1) (k := 2) xy_Yard (by decide +kernel) (by decide) rfl rfl xi_Yard xy_Yard_ok xn_Yard (by decide) kw_167 rfl (by decide +kernel) (fun _ => rfl) ?_
          refine g_aload_n (q := 0) (i := 0) (by decide +kernel) rfl rfl ?_
          refine g_get (C := "ThreePoints") (T := xT_Main) (N := 9) (ci := 0) (k := 0) (v := vr 1 0) (by decide +kernel) (by decide) rfl rfl xi_Main (by decide) kw_582 rfl ?_
          refine g_heap (fun H13 eH13 => ?_)
          replace h := h H13 eH13
          refine g_get (C := "ThreePoints$Yard") (T := xT_Yard) (N := 3) (ci := 1) (k := 2) (v := vi (H13 1 0 2)) (by decide +kernel) (by decide) rfl rfl xi_Yard (by decide) kw_167 rfl ?_
          refine g_iconst (n := 1) (v := 1) (by decide +kernel) (by decide) ?_
          refine g_isub (by decide +kernel) ?_
          exact g_iret (by decide +kernel) rfl ⟨_, rfl, h⟩
        · replace h := h.2 c
          refine g_bipush (n := (-3)) (v := (-3)) (by decide +kernel) (by decide) ?_
          exact g_iret (by decide +kernel) rfl ⟨_, rfl, h⟩
      · replace h := h.2 c
        refine g_bipush (n := (-4)) (v := (-4)) (by decide +kernel) (by decide) ?_
        exact g_iret (by decide +kernel) rfl ⟨_, rfl, h⟩
    · replace h := h.2 c
      refine g_bipush (n := (-2)) (v := (-2)) (by decide +kernel) (by decide) ?_
      exact g_iret (by decide +kernel) rfl ⟨_, rfl, h⟩
def p_Main_vehicle (E : XE) (d : Nat) (x1 : Int32) (x2 : Int32) (H : HH) (Q : Int32 → HH → Prop) : Prop := c_Main_addVehicle E d x1 x2 H (fun r2 H1 => Q r2 H1)
set_option maxHeartbeats 4000000 in
theorem l_Main_vehicle {E : XE} {d : Nat} {x1 : Int32} {x2 : Int32} {H : HH} {Q : Int32 → HH → Prop} (h : p_Main_vehicle E d x1 x2 H Q) : c_Main_vehicle E (d + 1) x1 x2 H Q := by
  show g_Main_vehicle E (d + 1) 0 (xent [vr 0 0, vi x1, vi x2]) [] H (qi Q)
  refine g_drop (ls2 := [some (vr 0 0), some (vi x1), some (vi x2)]) (And.intro rfl (And.intro rfl (And.intro rfl trivial))) ?_
  refine g_aload_n (q := 0) (i := 0) (by decide +kernel) rfl rfl ?_
  refine g_iload_n (q := 1) (i := 1) (by decide +kernel) rfl rfl ?_
  refine g_iload_n (q := 2) (i := 2) (by decide +kernel) rfl rfl ?_
  refine g_callV (kd := 0) (ix := 0) (ci := 0) (N := 9) (T := xT_Main) (vs := [vi x1, vi x2]) (st := []) (by decide +kernel) xm_Main_addVehicle kw_718 kw_720 kw_21 (by decide) rfl rfl rfl rfl (Nat.le_of_ble_eq_true rfl) (Nat.le_of_ble_eq_true rfl) h (fun vH1 H1 hq => ?_)
  obtain ⟨r2, rfl, h⟩ := hq
  exact g_iret (by decide +kernel) rfl ⟨_, rfl, h⟩
def p_Main_told (E : XE) (d : Nat) (x1 : Int32) (x2 : Int32) (H : HH) (Q : Int32 → HH → Prop) : Prop := c_Main_isVehicle E d x1 H (fun r2 H1 => (¬ r2 = 0 → (vp_in x1 4 ∧ ((x2 = 0 → (Q (H1 3 (4 * 0 + (x1.toNatClampNeg)) 0) H1)) ∧ (x2 = 1 → (Q (H1 3 (4 * 0 + (x1.toNatClampNeg)) 1) H1)) ∧ (x2 = 2 → (Q (H1 3 (4 * 0 + (x1.toNatClampNeg)) 2) H1)) ∧ (x2 = 3 → (Q (H1 3 (4 * 0 + (x1.toNatClampNeg)) 3) H1)) ∧ (x2 = 4 → (Q (H1 3 (4 * 0 + (x1.toNatClampNeg)) 4) H1)) ∧ (x2 = 5 → (Q (H1 3 (4 * 0 + (x1.toNatClampNeg)) 5) H1)) ∧ (x2 = 6 → (Q (H1 3 (4 * 0 + (x1.toNatClampNeg)) 6) H1)) ∧ (x2 = 7 → (c_Vehicle_front E d (4 * 0 + (x1.toNatClampNeg)) H1 (fun r4 H3 => Q r4 H3))) ∧ (x2 = 8 → (c_Vehicle_behind E d (4 * 0 + (x1.toNatClampNeg)) H1 (fun r6 H5 => Q r6 H5))) ∧ (¬ x2 = 0 → ¬ x2 = 1 → ¬ x2 = 2 → ¬ x2 = 3 → ¬ x2 = 4 → ¬ x2 = 5 → ¬ x2 = 6 → ¬ x2 = 7 → ¬ x2 = 8 → (Q (-7) H1))))) ∧ (r2 = 0 → (Q (-5) H1)))
set_option maxHeartbeats 4000000 in
theorem l_Main_told {E : XE} {d : Nat} {x1 : Int32} {x2 : Int32} {H : HH} {Q : Int32 → HH → Prop} (h : p_Main_told E d x1 x2 H Q) : c_Main_told E (d + 1) x1 x2 H Q := by
  show g_Main_told E (d + 1) 0 (xent [vr 0 0, vi x1, vi x2]) [] H (qi Q)
  refine g_drop (ls2 := [some (vr 0 0), some (vi x1), some (vi x2), none]) (And.intro rfl (And.intro rfl (And.intro rfl trivial))) ?_
  refine g_aload_n (q := 0) (i := 0) (by decide +kernel) rfl rfl ?_
  refine g_iload_n (q := 1) (i := 1) (by decide +kernel) rfl rfl ?_
  refine g_callV (kd := 0) (ix := 0) (ci := 0) (N := 9) (T := xT_Main) (vs := [vi x1]) (st := []) (by decide +kernel) xm_Main_isVehicle kw_630 kw_632 kw_18 (by decide) rfl rfl rfl rfl (Nat.le_of_ble_eq_true rfl) (Nat.le_of_ble_eq_true rfl) h (fun vH1 H1 hq => ?_)
  obtain ⟨r2, rfl, h⟩ := hq
  refine g_if_ne (off := 6) (tgt := 11) (by decide +kernel) (by decide) (fun c => ?_) (fun c => ?_)
  · replace h := h.1 c
    refine g_aload_n (q := 0) (i := 0) (by decide +kernel) rfl rfl ?_
    refine g_get (C := "ThreePoints") (T := xT_Main) (N := 9) (ci := 0) (k := 0) (v := vr 1 0) (by decide +kernel) (by decide) rfl rfl xi_Main (by decide) kw_582 rfl ?_
    refine g_get (C := "ThreePoints$Yard") (T := xT_Yard) (N := 3) (ci := 1) (k := 1) (v := vr 4 0) (by decide +kernel) (by decide) rfl rfl xi_Yard (by decide) kw_165 rfl ?_
    refine g_iload_n (q := 1) (i := 1) (by decide +kernel) rfl rfl ?_
    obtain ⟨hin, h⟩ := h
    refine g_aald (v := vr 3 (4 * 0 + (x1.toNatClampNeg))) (by decide +kernel) (by decide) rfl (by decide) hin rfl ?_
    refine g_astore_n (q := 3) (i := 3) (ls2 := [some (vr 0 0), some (vi x1), some (vi x2), some (vr 3 (4 * 0 + (x1.toNatClampNeg)))]) (by decide +kernel) rfl (by decide) rfl rfl ?_
    refine g_iload_n (q := 2) (i := 2) (by decide +kernel) rfl rfl ?_
    obtain ⟨hk, h⟩ := h
    by_cases e0 : x2 = 0
    · replace h := hk e0
      refine g_tableIn (dflt := 95) (lo := 0) (hi := 8) (offs := #[50, 55, 60, 65, 70, 75, 80, 85, 90]) (len := 50) (tgt := 72) (by decide +kernel) (by rw [e0]; decide) (by rw [e0]; decide) (by rw [e0]; rfl) (by decide) ?_
      refine g_aload_n (q := 3) (i := 3) (by decide +kernel) rfl rfl ?_
      refine g_get (C := "ThreePoints$Vehicle") (T := xT_Vehicle) (N := 7) (ci := 3) (k := 0) (v := vi (H1 3 (4 * 0 + (x1.toNatClampNeg)) 0)) (by decide +kernel) (by decide) rfl rfl xi_Vehicle (by decide) kw_128 rfl ?_
      exact g_iret (by decide +kernel) rfl ⟨_, rfl, h⟩
    clear hk
    obtain ⟨hk, h⟩ := h
    by_cases e1 : x2 = 1
    · replace h := hk e1
      refine g_tableIn (dflt := 95) (lo := 0) (hi := 8) (offs := #[50, 55, 60, 65, 70, 75, 80, 85, 90]) (len := 50) (tgt := 77) (by decide +kernel) (by rw [e1]; decide) (by rw [e1]; decide) (by rw [e1]; rfl) (by decide) ?_
      refine g_aload_n (q := 3) (i := 3) (by decide +kernel) rfl rfl ?_
      refine g_get (C := "ThreePoints$Vehicle") (T := xT_Vehicle) (N := 7) (ci := 3) (k := 1) (v := vi (H1 3 (4 * 0 + (x1.toNatClampNeg)) 1)) (by decide +kernel) (by decide) rfl rfl xi_Vehicle (by decide) kw_131 rfl ?_
      exact g_iret (by decide +kernel) rfl ⟨_, rfl, h⟩
    clear hk
    obtain ⟨hk, h⟩ := h
    by_cases e2 : x2 = 2
    · replace h := hk e2
      refine g_tableIn (dflt := 95) (lo := 0) (hi := 8) (offs := #[50, 55, 60, 65, 70, 75, 80, 85, 90]) (len := 50) (tgt := 82) (by decide +kernel) (by rw [e2]; decide) (by rw [e2]; decide) (by rw [e2]; rfl) (by decide) ?_
      refine g_aload_n (q := 3) (i := 3) (by decide +kernel) rfl rfl ?_
      refine g_get (C := "ThreePoints$Vehicle") (T := xT_Vehicle) (N := 7) (ci := 3) (k := 2) (v := vi (H1 3 (4 * 0 + (x1.toNatClampNeg)) 2)) (by decide +kernel) (by decide) rfl rfl xi_Vehicle (by decide) kw_135 rfl ?_
      exact g_iret (by decide +kernel) rfl ⟨_, rfl, h⟩
    clear hk
    obtain ⟨hk, h⟩ := h
    by_cases e3 : x2 = 3
    · replace h := hk e3
      refine g_tableIn (dflt := 95) (lo := 0) (hi := 8) (offs := #[50, 55, 60, 65, 70, 75, 80, 85, 90]) (len := 50) (tgt := 87) (by decide +kernel) (by rw [e3]; decide) (by rw [e3]; decide) (by rw [e3]; rfl) (by decide) ?_
      refine g_aload_n (q := 3) (i := 3) (by decide +kernel) rfl rfl ?_
      refine g_get (C := "ThreePoints$Vehicle") (T := xT_Vehicle) (N := 7) (ci := 3) (k := 3) (v := vi (H1 3 (4 * 0 + (x1.toNatClampNeg)) 3)) (by decide +kernel) (by decide) rfl rfl xi_Vehicle (by decide) kw_139 rfl ?_
      exact g_iret (by decide +kernel) rfl ⟨_, rfl, h⟩
    clear hk
    obtain ⟨hk, h⟩ := h
    by_cases e4 : x2 = 4
    · replace h := hk e4
      refine g_tableIn (dflt := 95) (lo := 0) (hi := 8) (offs := #[50, 55, 60, 65, 70, 75, 80, 85, 90]) (len := 50) (tgt := 92) (by decide +kernel) (by rw [e4]; decide) (by rw [e4]; decide) (by rw [e4]; rfl) (by decide) ?_
      refine g_aload_n (q := 3) (i := 3) (by decide +kernel) rfl rfl ?_
      refine g_get (C := "ThreePoints$Vehicle") (T := xT_Vehicle) (N := 7) (ci := 3) (k := 4) (v := vi (H1 3 (4 * 0 + (x1.toNatClampNeg)) 4)) (by decide +kernel) (by decide) rfl rfl xi_Vehicle (by decide) kw_141 rfl ?_
      exact g_iret (by decide +kernel) rfl ⟨_, rfl, h⟩
    clear hk
    obtain ⟨hk, h⟩ := h
    by_cases e5 : x2 = 5
    · replace h := hk e5
      refine g_tableIn (dflt := 95) (lo := 0) (hi := 8) (offs := #[50, 55, 60, 65, 70, 75, 80, 85, 90]) (len := 50) (tgt := 97) (by decide +kernel) (by rw [e5]; decide) (by rw [e5]; decide) (by rw [e5]; rfl) (by decide) ?_
      refine g_aload_n (q := 3) (i := 3) (by decide +kernel) rfl rfl ?_
      refine g_get (C := "ThreePoints$Vehicle") (T := xT_Vehicle) (N := 7) (ci := 3) (k := 5) (v := vi (H1 3 (4 * 0 + (x1.toNatClampNeg)) 5)) (by decide +kernel) (by decide) rfl rfl xi_Vehicle (by decide) kw_143 rfl ?_
      exact g_iret (by decide +kernel) rfl ⟨_, rfl, h⟩
    clear hk
    obtain ⟨hk, h⟩ := h
    by_cases e6 : x2 = 6
    · replace h := hk e6
      refine g_tableIn (dflt := 95) (lo := 0) (hi := 8) (offs := #[50, 55, 60, 65, 70, 75, 80, 85, 90]) (len := 50) (tgt := 102) (by decide +kernel) (by rw [e6]; decide) (by rw [e6]; decide) (by rw [e6]; rfl) (by decide) ?_
      refine g_aload_n (q := 3) (i := 3) (by decide +kernel) rfl rfl ?_
      refine g_get (C := "ThreePoints$Vehicle") (T := xT_Vehicle) (N := 7) (ci := 3) (k := 6) (v := vi (H1 3 (4 * 0 + (x1.toNatClampNeg)) 6)) (by decide +kernel) (by decide) rfl rfl xi_Vehicle (by decide) kw_146 rfl ?_
      exact g_iret (by decide +kernel) rfl ⟨_, rfl, h⟩
    clear hk
    obtain ⟨hk, h⟩ := h
    by_cases e7 : x2 = 7
    · replace h := hk e7
      refine g_tableIn (dflt := 95) (lo := 0) (hi := 8) (offs := #[50, 55, 60, 65, 70, 75, 80, 85, 90]) (len := 50) (tgt := 107) (by decide +kernel) (by rw [e7]; decide) (by rw [e7]; decide) (by rw [e7]; rfl) (by decide) ?_
      refine g_aload_n (q := 3) (i := 3) (by decide +kernel) rfl rfl ?_
      refine g_callV (kd := 3) (ix := (4 * 0 + (x1.toNatClampNeg))) (ci := 3) (N := 7) (T := xT_Vehicle) (vs := []) (st := []) (by decide +kernel) xm_Vehicle_front kw_730 kw_652 kw_653 (by decide) rfl rfl rfl rfl (Nat.le_of_ble_eq_true rfl) (Nat.le_of_ble_eq_true rfl) h (fun vH3 H3 hq => ?_)
      obtain ⟨r4, rfl, h⟩ := hq
      exact g_iret (by decide +kernel) rfl ⟨_, rfl, h⟩
    clear hk
    obtain ⟨hk, h⟩ := h
    by_cases e8 : x2 = 8
    · replace h := hk e8
      refine g_tableIn (dflt := 95) (lo := 0) (hi := 8) (offs := #[50, 55, 60, 65, 70, 75, 80, 85, 90]) (len := 50) (tgt := 112) (by decide +kernel) (by rw [e8]; decide) (by rw [e8]; decide) (by rw [e8]; rfl) (by decide) ?_
      refine g_aload_n (q := 3) (i := 3) (by decide +kernel) rfl rfl ?_
      refine g_callV (kd := 3) (ix := (4 * 0 + (x1.toNatClampNeg))) (ci := 3) (N := 7) (T := xT_Vehicle) (vs := []) (st := []) (by decide +kernel) xm_Vehicle_behind kw_731 kw_656 kw_657 (by decide) rfl rfl rfl rfl (Nat.le_of_ble_eq_true rfl) (Nat.le_of_ble_eq_true rfl) h (fun vH5 H5 hq => ?_)
      obtain ⟨r6, rfl, h⟩ := hq
      exact g_iret (by decide +kernel) rfl ⟨_, rfl, h⟩
    clear hk
    replace h := h e0 e1 e2 e3 e4 e5 e6 e7 e8
    refine g_tableOut (dflt := 95) (lo := 0) (hi := 8) (offs := #[50, 55, 60, 65, 70, 75, 80, 85, 90]) (len := 50) (tgt := 117) (by decide +kernel) (by have q0 := xsw (m := 0) (by decide) e0; have q1 := xsw (m := 1) (by decide) e1; have q2 := xsw (m := 2) (by decide) e2; have q3 := xsw (m := 3) (by decide) e3; have q4 := xsw (m := 4) (by decide) e4; have q5 := xsw (m := 5) (by decide) e5; have q6 := xsw (m := 6) (by decide) e6; have q7 := xsw (m := 7) (by decide) e7; have q8 := xsw (m := 8) (by decide) e8; omega) (by decide) ?_
    refine g_bipush (n := (-7)) (v := (-7)) (by decide +kernel) (by decide) ?_
    exact g_iret (by decide +kernel) rfl ⟨_, rfl, h⟩
  · replace h := h.2 c
    refine g_bipush (n := (-5)) (v := (-5)) (by decide +kernel) (by decide) ?_
    exact g_iret (by decide +kernel) rfl ⟨_, rfl, h⟩
def p_Main_fit (E : XE) (d : Nat) (x1 : Int32) (x2 : Int32) (H : HH) (Q : Int32 → HH → Prop) : Prop := c_Main_isVehicle E d x1 H (fun r2 H1 => (¬ r2 = 0 → (c_Main_isPlaceHeading E d x2 H1 (fun r4 H3 => (¬ r4 = 0 → (c_Main_think E d x1 H3 (fun H5 => c_Ride_fits E d (x2 / 100) (xrem x2 100) H5 (fun r7 H6 => Q (if r7 = 0 then 0 else 1 : Int32) H6)))) ∧ (r4 = 0 → (Q (-7) H3))))) ∧ (r2 = 0 → (Q (-5) H1)))
set_option maxHeartbeats 4000000 in
theorem l_Main_fit {E : XE} {d : Nat} {x1 : Int32} {x2 : Int32} {H : HH} {Q : Int32 → HH → Prop} (h : p_Main_fit E d x1 x2 H Q) : c_Main_fit E (d + 1) x1 x2 H Q := by
  show g_Main_fit E (d + 1) 0 (xent [vr 0 0, vi x1, vi x2]) [] H (qi Q)
  refine g_drop (ls2 := [some (vr 0 0), some (vi x1), some (vi x2)]) (And.intro rfl (And.intro rfl (And.intro rfl trivial))) ?_
  refine g_aload_n (q := 0) (i := 0) (by decide +kernel) rfl rfl ?_
  refine g_iload_n (q := 1) (i := 1) (by decide +kernel) rfl rfl ?_
  refine g_callV (kd := 0) (ix := 0) (ci := 0) (N := 9) (T := xT_Main) (vs := [vi x1]) (st := []) (by decide +kernel) xm_Main_isVehicle kw_630 kw_632 kw_18 (by decide) rfl rfl rfl rfl (Nat.le_of_ble_eq_true rfl) (Nat.le_of_ble_eq_true rfl) h (fun vH1 H1 hq => ?_)
  obtain ⟨r2, rfl, h⟩ := hq
  refine g_if_ne (off := 6) (tgt := 11) (by decide +kernel) (by decide) (fun c => ?_) (fun c => ?_)
  · replace h := h.1 c
    refine g_aload_n (q := 0) (i := 0) (by decide +kernel) rfl rfl ?_
    refine g_iload_n (q := 2) (i := 2) (by decide +kernel) rfl rfl ?_
    refine g_callV (kd := 0) (ix := 0) (ci := 0) (N := 9) (T := xT_Main) (vs := [vi x2]) (st := []) (by decide +kernel) xm_Main_isPlaceHeading kw_702 kw_704 kw_19 (by decide) rfl rfl rfl rfl (Nat.le_of_ble_eq_true rfl) (Nat.le_of_ble_eq_true rfl) h (fun vH3 H3 hq => ?_)
    obtain ⟨r4, rfl, h⟩ := hq
    refine g_if_ne (off := 6) (tgt := 22) (by decide +kernel) (by decide) (fun c => ?_) (fun c => ?_)
    · replace h := h.1 c
      refine g_aload_n (q := 0) (i := 0) (by decide +kernel) rfl rfl ?_
      refine g_iload_n (q := 1) (i := 1) (by decide +kernel) rfl rfl ?_
      refine g_callV (kd := 0) (ix := 0) (ci := 0) (N := 9) (T := xT_Main) (vs := [vi x1]) (st := []) (by decide +kernel) xm_Main_think kw_622 kw_624 kw_17 (by decide) rfl rfl rfl rfl (Nat.le_of_ble_eq_true rfl) (Nat.le_of_ble_eq_true rfl) h (fun vH5 H5 hq => ?_)
      replace h := hq
      refine g_aload_n (q := 0) (i := 0) (by decide +kernel) rfl rfl ?_
      refine g_get (C := "ThreePoints") (T := xT_Main) (N := 9) (ci := 0) (k := 7) (v := vr 19 0) (by decide +kernel) (by decide) rfl rfl xi_Main (by decide) kw_589 rfl ?_
      refine g_iload_n (q := 2) (i := 2) (by decide +kernel) rfl rfl ?_
      refine g_bipush (n := 100) (v := 100) (by decide +kernel) (by decide) ?_
      refine g_idiv (by decide +kernel) (by decide) ?_
      refine g_iload_n (q := 2) (i := 2) (by decide +kernel) rfl rfl ?_
      refine g_bipush (n := 100) (v := 100) (by decide +kernel) (by decide) ?_
      refine g_irem (by decide +kernel) (by decide) ?_
      refine g_callV (kd := 19) (ix := 0) (ci := 8) (N := 4) (T := xT_Ride) (vs := [vi (x2 / 100), vi (xrem x2 100)]) (st := []) (by decide +kernel) xm_Ride_fits kw_736 kw_643 kw_644 (by decide) rfl rfl rfl rfl (Nat.le_of_ble_eq_true rfl) (Nat.le_of_ble_eq_true rfl) h (fun vH6 H6 hq => ?_)
      obtain ⟨r7, rfl, h⟩ := hq
      suffices hj8 : g_Main_fit E (d + 1) 50 [some (vr 0 0), some (vi x1), some (vi x2)] [vi (if r7 = 0 then 0 else 1 : Int32)] H6 (qi Q) by
        refine g_if_eq (off := 7) (tgt := 49) (by decide +kernel) (by decide) (fun c => ?_) (fun c => ?_)
        · rw [if_pos c] at hj8
          refine g_iconst (n := 0) (v := 0) (by decide +kernel) (by decide) ?_
          exact hj8
        · rw [if_neg c] at hj8
          refine g_iconst (n := 1) (v := 1) (by decide +kernel) (by decide) ?_
          refine g_goto (off := 4) (tgt := 50) (by decide +kernel) (by decide) ?_
          exact hj8
      exact g_iret (by decide +kernel) rfl ⟨_, rfl, h⟩
    · replace h := h.2 c
      refine g_bipush (n := (-7)) (v := (-7)) (by decide +kernel) (by decide) ?_
      exact g_iret (by decide +kernel) rfl ⟨_, rfl, h⟩
  · replace h := h.2 c
    refine g_bipush (n := (-5)) (v := (-5)) (by decide +kernel) (by decide) ?_
    exact g_iret (by decide +kernel) rfl ⟨_, rfl, h⟩
def p_Main_drive (E : XE) (d : Nat) (x1 : Int32) (x2 : Int32) (x3 : Int32) (H : HH) (Q : Int32 → HH → Prop) : Prop := c_Main_isVehicle E d x1 H (fun r2 H1 => (¬ r2 = 0 → (c_Main_isWithin E d x2 0 1 H1 (fun r4 H3 => (r4 = 0 → (Q (-7) H3)) ∧ (¬ r4 = 0 → (c_Main_isWithin E d x3 (-1) 1 H3 (fun r6 H5 => (¬ r6 = 0 → (c_Main_think E d x1 H5 (fun H7 => c_Ride_go E d x2 x3 H7 (fun r9 H8 => (¬ r9 = 0 → (vp_in x1 4 ∧ (c_Vehicle_become E d (4 * 0 + (x1.toNatClampNeg)) 8 H8 (fun H10 => vp_in x1 4 ∧ (Q (H10 3 (4 * 0 + (x1.toNatClampNeg)) 2) H10))))) ∧ (r9 = 0 → (Q (-3) H8)))))) ∧ (r6 = 0 → (Q (-7) H5)))))))) ∧ (r2 = 0 → (Q (-5) H1)))
set_option maxHeartbeats 4000000 in
theorem l_Main_drive {E : XE} {d : Nat} {x1 : Int32} {x2 : Int32} {x3 : Int32} {H : HH} {Q : Int32 → HH → Prop} (h : p_Main_drive E d x1 x2 x3 H Q) : c_Main_drive E (d + 1) x1 x2 x3 H Q := by
  show g_Main_drive E (d + 1) 0 (xent [vr 0 0, vi x1, vi x2, vi x3]) [] H (qi Q)
  refine g_drop (ls2 := [some (vr 0 0), some (vi x1), some (vi x2), some (vi x3)]) (And.intro rfl (And.intro rfl (And.intro rfl (And.intro rfl trivial)))) ?_
  refine g_aload_n (q := 0) (i := 0) (by decide +kernel) rfl rfl ?_
  refine g_iload_n (q := 1) (i := 1) (by decide +kernel) rfl rfl ?_
  refine g_callV (kd := 0) (ix := 0) (ci := 0) (N := 9) (T := xT_Main) (vs := [vi x1]) (st := []) (by decide +kernel) xm_Main_isVehicle kw_630 kw_632 kw_18 (by decide) rfl rfl rfl rfl (Nat.le_of_ble_eq_true rfl) (Nat.le_of_ble_eq_true rfl) h (fun vH1 H1 hq => ?_)
  obtain ⟨r2, rfl, h⟩ := hq
  refine g_if_ne (off := 6) (tgt := 11) (by decide +kernel) (by decide) (fun c => ?_) (fun c => ?_)
  · replace h := h.1 c
    refine g_iload_n (q := 2) (i := 2) (by decide +kernel) rfl rfl ?_
    refine g_iconst (n := 0) (v := 0) (by decide +kernel) (by decide) ?_
    refine g_iconst (n := 1) (v := 1) (by decide +kernel) (by decide) ?_
    refine g_callS (vs := [vi x2, vi 0, vi 1]) (st := []) (by decide +kernel) xm_Main_isWithin kw_619 kw_620 rfl rfl (Nat.le_of_ble_eq_true rfl) (Nat.le_of_ble_eq_true rfl) h (fun vH3 H3 hq => ?_)
    obtain ⟨r4, rfl, h⟩ := hq
    refine g_if_eq (off := 12) (tgt := 29) (by decide +kernel) (by decide) (fun c => ?_) (fun c => ?_)
    · replace h := h.1 c
      refine g_bipush (n := (-7)) (v := (-7)) (by decide +kernel) (by decide) ?_
      exact g_iret (by decide +kernel) rfl ⟨_, rfl, h⟩
    · replace h := h.2 c
      refine g_iload_n (q := 3) (i := 3) (by decide +kernel) rfl rfl ?_
      refine g_iconst (n := (-1)) (v := (-1)) (by decide +kernel) (by decide) ?_
      refine g_iconst (n := 1) (v := 1) (by decide +kernel) (by decide) ?_
      refine g_callS (vs := [vi x3, vi (-1), vi 1]) (st := []) (by decide +kernel) xm_Main_isWithin kw_619 kw_620 rfl rfl (Nat.le_of_ble_eq_true rfl) (Nat.le_of_ble_eq_true rfl) h (fun vH5 H5 hq => ?_)
      obtain ⟨r6, rfl, h⟩ := hq
      refine g_if_ne (off := 6) (tgt := 32) (by decide +kernel) (by decide) (fun c => ?_) (fun c => ?_)
      · replace h := h.1 c
        refine g_aload_n (q := 0) (i := 0) (by decide +kernel) rfl rfl ?_
        refine g_iload_n (q := 1) (i := 1) (by decide +kernel) rfl rfl ?_
        refine g_callV (kd := 0) (ix := 0) (ci := 0) (N := 9) (T := xT_Main) (vs := [vi x1]) (st := []) (by decide +kernel) xm_Main_think kw_622 kw_624 kw_17 (by decide) rfl rfl rfl rfl (Nat.le_of_ble_eq_true rfl) (Nat.le_of_ble_eq_true rfl) h (fun vH7 H7 hq => ?_)
        replace h := hq
        refine g_aload_n (q := 0) (i := 0) (by decide +kernel) rfl rfl ?_
        refine g_get (C := "ThreePoints") (T := xT_Main) (N := 9) (ci := 0) (k := 7) (v := vr 19 0) (by decide +kernel) (by decide) rfl rfl xi_Main (by decide) kw_589 rfl ?_
        refine g_iload_n (q := 2) (i := 2) (by decide +kernel) rfl rfl ?_
        refine g_iload_n (q := 3) (i := 3) (by decide +kernel) rfl rfl ?_
        refine g_callV (kd := 19) (ix := 0) (ci := 8) (N := 4) (T := xT_Ride) (vs := [vi x2, vi x3]) (st := []) (by decide +kernel) xm_Ride_go kw_741 kw_742 kw_743 (by decide) rfl rfl rfl rfl (Nat.le_of_ble_eq_true rfl) (Nat.le_of_ble_eq_true rfl) h (fun vH8 H8 hq => ?_)
        obtain ⟨r9, rfl, h⟩ := hq
        refine g_if_ne (off := 6) (tgt := 52) (by decide +kernel) (by decide) (fun c => ?_) (fun c => ?_)
        · replace h := h.1 c
          refine g_aload_n (q := 0) (i := 0) (by decide +kernel) rfl rfl ?_
          refine g_get (C := "ThreePoints") (T := xT_Main) (N := 9) (ci := 0) (k := 0) (v := vr 1 0) (by decide +kernel) (by decide) rfl rfl xi_Main (by decide) kw_582 rfl ?_
          refine g_get (C := "ThreePoints$Yard") (T := xT_Yard) (N := 3) (ci := 1) (k := 1) (v := vr 4 0) (by decide +kernel) (by decide) rfl rfl xi_Yard (by decide) kw_165 rfl ?_
          refine g_iload_n (q := 1) (i := 1) (by decide +kernel) rfl rfl ?_
          obtain ⟨hin, h⟩ := h
          refine g_aald (v := vr 3 (4 * 0 + (x1.toNatClampNeg))) (by decide +kernel) (by decide) rfl (by decide) hin rfl ?_
          refine g_aload_n (q := 0) (i := 0) (by decide +kernel) rfl rfl ?_
          refine g_get (C := "ThreePoints") (T := xT_Main) (N := 9) (ci := 0) (k := 7) (v := vr 19 0) (by decide +kernel) (by decide) rfl rfl xi_Main (by decide) kw_589 rfl ?_
          refine g_get (C := "ThreePoints$Ride") (T := xT_Ride) (N := 4) (ci := 8) (k := 1) (v := vr 3 8) (by decide +kernel) (by decide) rfl rfl xi_Ride (by decide) kw_264 rfl ?_
          refine g_callV (kd := 3) (ix := (4 * 0 + (x1.toNatClampNeg))) (ci := 3) (N := 7) (T := xT_Vehicle) (vs := [vr 3 8]) (st := []) (by decide +kernel) xm_Vehicle_become kw_634 kw_635 kw_636 (by decide) rfl rfl rfl rfl (Nat.le_of_ble_eq_true rfl) (Nat.le_of_ble_eq_true rfl) h (fun vH10 H10 hq => ?_)
          replace h := hq
          refine g_aload_n (q := 0) (i := 0) (by decide +kernel) rfl rfl ?_
          refine g_get (C := "ThreePoints") (T := xT_Main) (N := 9) (ci := 0) (k := 0) (v := vr 1 0) (by decide +kernel) (by decide) rfl rfl xi_Main (by decide) kw_582 rfl ?_
          refine g_get (C := "ThreePoints$Yard") (T := xT_Yard) (N := 3) (ci := 1) (k := 1) (v := vr 4 0) (by decide +kernel) (by decide) rfl rfl xi_Yard (by decide) kw_165 rfl ?_
          refine g_iload_n (q := 1) (i := 1) (by decide +kernel) rfl rfl ?_
          obtain ⟨hin, h⟩ := h
          refine g_aald (v := vr 3 (4 * 0 + (x1.toNatClampNeg))) (by decide +kernel) (by decide) rfl (by decide) hin rfl ?_
          refine g_get (C := "ThreePoints$Vehicle") (T := xT_Vehicle) (N := 7) (ci := 3) (k := 2) (v := vi (H10 3 (4 * 0 + (x1.toNatClampNeg)) 2)) (by decide +kernel) (by decide) rfl rfl xi_Vehicle (by decide) kw_135 rfl ?_
          exact g_iret (by decide +kernel) rfl ⟨_, rfl, h⟩
        · replace h := h.2 c
          refine g_bipush (n := (-3)) (v := (-3)) (by decide +kernel) (by decide) ?_
          exact g_iret (by decide +kernel) rfl ⟨_, rfl, h⟩
      · replace h := h.2 c
        refine g_bipush (n := (-7)) (v := (-7)) (by decide +kernel) (by decide) ?_
        exact g_iret (by decide +kernel) rfl ⟨_, rfl, h⟩
  · replace h := h.2 c
    refine g_bipush (n := (-5)) (v := (-5)) (by decide +kernel) (by decide) ?_
    exact g_iret (by decide +kernel) rfl ⟨_, rfl, h⟩
def p_Main_begin (E : XE) (d : Nat) (x1 : Int32) (x2 : Int32) (H : HH) (Q : Int32 → HH → Prop) : Prop := c_Main_isVehicle E d x1 H (fun r2 H1 => (¬ r2 = 0 → (c_Main_isPlace E d x2 H1 (fun r4 H3 => (¬ r4 = 0 → (c_Main_think E d x1 H3 (fun H5 => c_Ride_fits E d x2 0 H5 (fun r7 H6 => (¬ r7 = 0 → (vp_in x1 4 ∧ (∀ v8 : Int32, v8 = (H6 3 (4 * 0 + (x1.toNatClampNeg)) 2) → (vp_in x1 4 ∧ (c_Vehicle_startAt E d (4 * 0 + (x1.toNatClampNeg)) x2 H6 (fun H9 => Q v8 H9)))))) ∧ (r7 = 0 → (Q (-3) H6)))))) ∧ (r4 = 0 → (Q (-7) H3))))) ∧ (r2 = 0 → (Q (-5) H1)))
set_option maxHeartbeats 4000000 in
theorem l_Main_begin {E : XE} {d : Nat} {x1 : Int32} {x2 : Int32} {H : HH} {Q : Int32 → HH → Prop} (h : p_Main_begin E d x1 x2 H Q) : c_Main_begin E (d + 1) x1 x2 H Q := by
  show g_Main_begin E (d + 1) 0 (xent [vr 0 0, vi x1, vi x2]) [] H (qi Q)
  refine g_drop (ls2 := [some (vr 0 0), some (vi x1), some (vi x2), none]) (And.intro rfl (And.intro rfl (And.intro rfl trivial))) ?_
  refine g_aload_n (q := 0) (i := 0) (by decide +kernel) rfl rfl ?_
  refine g_iload_n (q := 1) (i := 1) (by decide +kernel) rfl rfl ?_
  refine g_callV (kd := 0) (ix := 0) (ci := 0) (N := 9) (T := xT_Main) (vs := [vi x1]) (st := []) (by decide +kernel) xm_Main_isVehicle kw_630 kw_632 kw_18 (by decide) rfl rfl rfl rfl (Nat.le_of_ble_eq_true rfl) (Nat.le_of_ble_eq_true rfl) h (fun vH1 H1 hq => ?_)
  obtain ⟨r2, rfl, h⟩ := hq
  refine g_if_ne (off := 6) (tgt := 11) (by decide +kernel) (by decide) (fun c => ?_) (fun c => ?_)
  · replace h := h.1 c
    refine g_aload_n (q := 0) (i := 0) (by decide +kernel) rfl rfl ?_
    refine g_iload_n (q := 2) (i := 2) (by decide +kernel) rfl rfl ?_
    refine g_callV (kd := 0) (ix := 0) (ci := 0) (N := 9) (T := xT_Main) (vs := [vi x2]) (st := []) (by decide +kernel) xm_Main_isPlace kw_706 kw_708 kw_20 (by decide) rfl rfl rfl rfl (Nat.le_of_ble_eq_true rfl) (Nat.le_of_ble_eq_true rfl) h (fun vH3 H3 hq => ?_)
    obtain ⟨r4, rfl, h⟩ := hq
    refine g_if_ne (off := 6) (tgt := 22) (by decide +kernel) (by decide) (fun c => ?_) (fun c => ?_)
    · replace h := h.1 c
      refine g_aload_n (q := 0) (i := 0) (by decide +kernel) rfl rfl ?_
      refine g_iload_n (q := 1) (i := 1) (by decide +kernel) rfl rfl ?_
      refine g_callV (kd := 0) (ix := 0) (ci := 0) (N := 9) (T := xT_Main) (vs := [vi x1]) (st := []) (by decide +kernel) xm_Main_think kw_622 kw_624 kw_17 (by decide) rfl rfl rfl rfl (Nat.le_of_ble_eq_true rfl) (Nat.le_of_ble_eq_true rfl) h (fun vH5 H5 hq => ?_)
      replace h := hq
      refine g_aload_n (q := 0) (i := 0) (by decide +kernel) rfl rfl ?_
      refine g_get (C := "ThreePoints") (T := xT_Main) (N := 9) (ci := 0) (k := 7) (v := vr 19 0) (by decide +kernel) (by decide) rfl rfl xi_Main (by decide) kw_589 rfl ?_
      refine g_iload_n (q := 2) (i := 2) (by decide +kernel) rfl rfl ?_
      refine g_iconst (n := 0) (v := 0) (by decide +kernel) (by decide) ?_
      refine g_callV (kd := 19) (ix := 0) (ci := 8) (N := 4) (T := xT_Ride) (vs := [vi x2, vi 0]) (st := []) (by decide +kernel) xm_Ride_fits kw_736 kw_643 kw_644 (by decide) rfl rfl rfl rfl (Nat.le_of_ble_eq_true rfl) (Nat.le_of_ble_eq_true rfl) h (fun vH6 H6 hq => ?_)
      obtain ⟨r7, rfl, h⟩ := hq
      refine g_if_ne (off := 6) (tgt := 42) (by decide +kernel) (by decide) (fun c => ?_) (fun c => ?_)
      · replace h := h.1 c
        refine g_aload_n (q := 0) (i := 0) (by decide +kernel) rfl rfl ?_
        refine g_get (C := "ThreePoints") (T := xT_Main) (N := 9) (ci := 0) (k := 0) (v := vr 1 0) (by decide +kernel) (by decide) rfl rfl xi_Main (by decide) kw_582 rfl ?_
        refine g_get (C := "ThreePoints$Yard") (T := xT_Yard) (N := 3) (ci := 1) (k := 1) (v := vr 4 0) (by decide +kernel) (by decide) rfl rfl xi_Yard (by decide) kw_165 rfl ?_
        refine g_iload_n (q := 1) (i := 1) (by decide +kernel) rfl rfl ?_
        obtain ⟨hin, h⟩ := h
        refine g_aald (v := vr 3 (4 * 0 + (x1.toNatClampNeg))) (by decide +kernel) (by decide) rfl (by decide) hin rfl ?_
        refine g_get (C := "ThreePoints$Vehicle") (T := xT_Vehicle) (N := 7) (ci := 3) (k := 2) (v := vi (H6 3 (4 * 0 + (x1.toNatClampNeg)) 2)) (by decide +kernel) (by decide) rfl rfl xi_Vehicle (by decide) kw_135 rfl ?_
        refine g_topi (fun v8 ev8 => ?_)
        replace h := h v8 ev8
        refine g_istore_n (q := 3) (i := 3) (ls2 := [some (vr 0 0), some (vi x1), some (vi x2), some (vi v8)]) (by decide +kernel) rfl (by decide) rfl rfl ?_
        refine g_aload_n (q := 0) (i := 0) (by decide +kernel) rfl rfl ?_
        refine g_get (C := "ThreePoints") (T := xT_Main) (N := 9) (ci := 0) (k := 0) (v := vr 1 0) (by decide +kernel) (by decide) rfl rfl xi_Main (by decide) kw_582 rfl ?_
        refine g_get (C := "ThreePoints$Yard") (T := xT_Yard) (N := 3) (ci := 1) (k := 1) (v := vr 4 0) (by decide +kernel) (by decide) rfl rfl xi_Yard (by decide) kw_165 rfl ?_
        refine g_iload_n (q := 1) (i := 1) (by decide +kernel) rfl rfl ?_
        obtain ⟨hin, h⟩ := h
        refine g_aald (v := vr 3 (4 * 0 + (x1.toNatClampNeg))) (by decide +kernel) (by decide) rfl (by decide) hin rfl ?_
        refine g_iload_n (q := 2) (i := 2) (by decide +kernel) rfl rfl ?_
        refine g_callV (kd := 3) (ix := (4 * 0 + (x1.toNatClampNeg))) (ci := 3) (N := 7) (T := xT_Vehicle) (vs := [vi x2]) (st := []) (by decide +kernel) xm_Vehicle_startAt kw_722 kw_723 kw_724 (by decide) rfl rfl rfl rfl (Nat.le_of_ble_eq_true rfl) (Nat.le_of_ble_eq_true rfl) h (fun vH9 H9 hq => ?_)
        replace h := hq
        refine g_iload_n (q := 3) (i := 3) (by decide +kernel) rfl rfl ?_
        exact g_iret (by decide +kernel) rfl ⟨_, rfl, h⟩
      · replace h := h.2 c
        refine g_bipush (n := (-3)) (v := (-3)) (by decide +kernel) (by decide) ?_
        exact g_iret (by decide +kernel) rfl ⟨_, rfl, h⟩
    · replace h := h.2 c
      refine g_bipush (n := (-7)) (v := (-7)) (by decide +kernel) (by decide) ?_
      exact g_iret (by decide +kernel) rfl ⟨_, rfl, h⟩
  · replace h := h.2 c
    refine g_bipush (n := (-5)) (v := (-5)) (by decide +kernel) (by decide) ?_
    exact g_iret (by decide +kernel) rfl ⟨_, rfl, h⟩
def p_Main_turned (E : XE) (d : Nat) (x1 : Int32) (x2 : Int32) (H : HH) (Q : Int32 → HH → Prop) : Prop := c_Main_isVehicle E d x1 H (fun r2 H1 => (¬ r2 = 0 → (c_Main_isTwoFlags E d x2 H1 (fun r4 H3 => (¬ r4 = 0 → (c_Main_think E d x1 H3 (fun H5 => c_Main_otherHeading E d (H5 3 8 3) H5 (fun r7 H6 => c_Search_toHeading E d r7 (x2 / 10) H6 (fun H8 => c_Search_leastFromNow E d  H8 (fun r10 H9 => Q (if (xrem x2 10) = 0 then r10 else (H9 21 0 7) : Int32) H9)))))) ∧ (r4 = 0 → (Q (-7) H3))))) ∧ (r2 = 0 → (Q (-5) H1)))
set_option maxHeartbeats 4000000 in
theorem l_Main_turned {E : XE} {d : Nat} {x1 : Int32} {x2 : Int32} {H : HH} {Q : Int32 → HH → Prop} (h : p_Main_turned E d x1 x2 H Q) : c_Main_turned E (d + 1) x1 x2 H Q := by
  show g_Main_turned E (d + 1) 0 (xent [vr 0 0, vi x1, vi x2]) [] H (qi Q)
  refine g_drop (ls2 := [some (vr 0 0), some (vi x1), some (vi x2), none]) (And.intro rfl (And.intro rfl (And.intro rfl trivial))) ?_
  refine g_aload_n (q := 0) (i := 0) (by decide +kernel) rfl rfl ?_
  refine g_iload_n (q := 1) (i := 1) (by decide +kernel) rfl rfl ?_
  refine g_callV (kd := 0) (ix := 0) (ci := 0) (N := 9) (T := xT_Main) (vs := [vi x1]) (st := []) (by decide +kernel) xm_Main_isVehicle kw_630 kw_632 kw_18 (by decide) rfl rfl rfl rfl (Nat.le_of_ble_eq_true rfl) (Nat.le_of_ble_eq_true rfl) h (fun vH1 H1 hq => ?_)
  obtain ⟨r2, rfl, h⟩ := hq
  refine g_if_ne (off := 6) (tgt := 11) (by decide +kernel) (by decide) (fun c => ?_) (fun c => ?_)
  · replace h := h.1 c
    refine g_iload_n (q := 2) (i := 2) (by decide +kernel) rfl rfl ?_
    refine g_callS (vs := [vi x2]) (st := []) (by decide +kernel) xm_Main_isTwoFlags kw_710 kw_711 rfl rfl (Nat.le_of_ble_eq_true rfl) (Nat.le_of_ble_eq_true rfl) h (fun vH3 H3 hq => ?_)
    obtain ⟨r4, rfl, h⟩ := hq
    refine g_if_ne (off := 6) (tgt := 21) (by decide +kernel) (by decide) (fun c => ?_) (fun c => ?_)
    · replace h := h.1 c
      refine g_aload_n (q := 0) (i := 0) (by decide +kernel) rfl rfl ?_
      refine g_iload_n (q := 1) (i := 1) (by decide +kernel) rfl rfl ?_
      refine g_callV (kd := 0) (ix := 0) (ci := 0) (N := 9) (T := xT_Main) (vs := [vi x1]) (st := []) (by decide +kernel) xm_Main_think kw_622 kw_624 kw_17 (by decide) rfl rfl rfl rfl (Nat.le_of_ble_eq_true rfl) (Nat.le_of_ble_eq_true rfl) h (fun vH5 H5 hq => ?_)
      replace h := hq
      refine g_aload_n (q := 0) (i := 0) (by decide +kernel) rfl rfl ?_
      refine g_get (C := "ThreePoints") (T := xT_Main) (N := 9) (ci := 0) (k := 8) (v := vr 21 0) (by decide +kernel) (by decide) rfl rfl xi_Main (by decide) kw_590 rfl ?_
      refine g_aload_n (q := 0) (i := 0) (by decide +kernel) rfl rfl ?_
      refine g_get (C := "ThreePoints") (T := xT_Main) (N := 9) (ci := 0) (k := 7) (v := vr 19 0) (by decide +kernel) (by decide) rfl rfl xi_Main (by decide) kw_589 rfl ?_
      refine g_aload_n (q := 0) (i := 0) (by decide +kernel) rfl rfl ?_
      refine g_get (C := "ThreePoints") (T := xT_Main) (N := 9) (ci := 0) (k := 7) (v := vr 19 0) (by decide +kernel) (by decide) rfl rfl xi_Main (by decide) kw_589 rfl ?_
      refine g_get (C := "ThreePoints$Ride") (T := xT_Ride) (N := 4) (ci := 8) (k := 1) (v := vr 3 8) (by decide +kernel) (by decide) rfl rfl xi_Ride (by decide) kw_264 rfl ?_
      refine g_get (C := "ThreePoints$Vehicle") (T := xT_Vehicle) (N := 7) (ci := 3) (k := 3) (v := vi (H5 3 8 3)) (by decide +kernel) (by decide) rfl rfl xi_Vehicle (by decide) kw_139 rfl ?_
      refine g_callS (vs := [vi (H5 3 8 3)]) (st := [vr 19 0, vr 21 0]) (by decide +kernel) xm_Main_otherHeading kw_773 kw_774 rfl rfl (Nat.le_of_ble_eq_true rfl) (Nat.le_of_ble_eq_true rfl) h (fun vH6 H6 hq => ?_)
      obtain ⟨r7, rfl, h⟩ := hq
      refine g_iload_n (q := 2) (i := 2) (by decide +kernel) rfl rfl ?_
      refine g_bipush (n := 10) (v := 10) (by decide +kernel) (by decide) ?_
      refine g_idiv (by decide +kernel) (by decide) ?_
      refine g_callV (kd := 21) (ix := 0) (ci := 9) (N := 8) (T := xT_Search) (vs := [vr 19 0, vi r7, vi (x2 / 10)]) (st := []) (by decide +kernel) xm_Search_toHeading kw_776 kw_777 kw_778 (by decide) rfl rfl rfl rfl (Nat.le_of_ble_eq_true rfl) (Nat.le_of_ble_eq_true rfl) h (fun vH8 H8 hq => ?_)
      replace h := hq
      refine g_aload_n (q := 0) (i := 0) (by decide +kernel) rfl rfl ?_
      refine g_get (C := "ThreePoints") (T := xT_Main) (N := 9) (ci := 0) (k := 8) (v := vr 21 0) (by decide +kernel) (by decide) rfl rfl xi_Main (by decide) kw_590 rfl ?_
      refine g_aload_n (q := 0) (i := 0) (by decide +kernel) rfl rfl ?_
      refine g_get (C := "ThreePoints") (T := xT_Main) (N := 9) (ci := 0) (k := 7) (v := vr 19 0) (by decide +kernel) (by decide) rfl rfl xi_Main (by decide) kw_589 rfl ?_
      refine g_callV (kd := 21) (ix := 0) (ci := 9) (N := 8) (T := xT_Search) (vs := [vr 19 0]) (st := []) (by decide +kernel) xm_Search_leastFromNow kw_804 kw_805 kw_806 (by decide) rfl rfl rfl rfl (Nat.le_of_ble_eq_true rfl) (Nat.le_of_ble_eq_true rfl) h (fun vH9 H9 hq => ?_)
      obtain ⟨r10, rfl, h⟩ := hq
      refine g_istore_n (q := 3) (i := 3) (ls2 := [some (vr 0 0), some (vi x1), some (vi x2), some (vi r10)]) (by decide +kernel) rfl (by decide) rfl rfl ?_
      refine g_iload_n (q := 2) (i := 2) (by decide +kernel) rfl rfl ?_
      refine g_bipush (n := 10) (v := 10) (by decide +kernel) (by decide) ?_
      refine g_irem (by decide +kernel) (by decide) ?_
      suffices hj11 : g_Main_turned E (d + 1) 84 [some (vr 0 0), some (vi x1), some (vi x2), some (vi r10)] [vi (if (xrem x2 10) = 0 then r10 else (H9 21 0 7) : Int32)] H9 (qi Q) by
        refine g_if_ne (off := 7) (tgt := 77) (by decide +kernel) (by decide) (fun c => ?_) (fun c => ?_)
        · rw [if_neg c] at hj11
          refine g_aload_n (q := 0) (i := 0) (by decide +kernel) rfl rfl ?_
          refine g_get (C := "ThreePoints") (T := xT_Main) (N := 9) (ci := 0) (k := 8) (v := vr 21 0) (by decide +kernel) (by decide) rfl rfl xi_Main (by decide) kw_590 rfl ?_
          refine g_get (C := "ThreePoints$Search") (T := xT_Search) (N := 8) (ci := 9) (k := 7) (v := vi (H9 21 0 7)) (by decide +kernel) (by decide) rfl rfl xi_Search (by decide) kw_291 rfl ?_
          exact hj11
        · rw [if_pos c] at hj11
          refine g_iload_n (q := 3) (i := 3) (by decide +kernel) rfl rfl ?_
          refine g_goto (off := 10) (tgt := 84) (by decide +kernel) (by decide) ?_
          exact hj11
      exact g_iret (by decide +kernel) rfl ⟨_, rfl, h⟩
    · replace h := h.2 c
      refine g_bipush (n := (-7)) (v := (-7)) (by decide +kernel) (by decide) ?_
      exact g_iret (by decide +kernel) rfl ⟨_, rfl, h⟩
  · replace h := h.2 c
    refine g_bipush (n := (-5)) (v := (-5)) (by decide +kernel) (by decide) ?_
    exact g_iret (by decide +kernel) rfl ⟨_, rfl, h⟩
def p_Main_where (E : XE) (d : Nat) (x1 : Int32) (x2 : Int32) (H : HH) (Q : Int32 → HH → Prop) : Prop := c_Main_isVehicle E d x1 H (fun r2 H1 => (¬ r2 = 0 → (c_Main_isTwoFlags E d x2 H1 (fun r4 H3 => (¬ r4 = 0 → (c_Main_think E d x1 H3 (fun H5 => c_Search_toHeading E d 8 (x2 / 10) H5 (fun H6 => ∃ (I7 : Int32 → Int32 → Int32 → HH → Prop) (μ7 : Int32 → Int32 → Int32 → HH → Nat), I7 (-1) (-1) 0 H6 ∧ ∀ (z8 : Int32) (z9 : Int32) (z10 : Int32) (H11 : HH), I7 z8 z9 z10 H11 → (((H11 2 0 0) < z10 → (Q (if (xrem x2 10) = 0 then z8 else z9 : Int32) H11)) ∧ (¬ (H11 2 0 0) < z10 → (c_Ride_fits E d z10 0 H11 (fun r14 H13 => (¬ r14 = 0 → (c_Search_least E d z10 0 (-1) H13 (fun r16 H15 => (r16 = (-1) → (I7 z8 z9 (z10 + 1) H15 ∧ μ7 z8 z9 (z10 + 1) H15 < μ7 z8 z9 z10 H11)) ∧ (¬ r16 = (-1) → ((z9 = (-1) → (I7 z10 r16 (z10 + 1) H15 ∧ μ7 z10 r16 (z10 + 1) H15 < μ7 z8 z9 z10 H11)) ∧ (¬ z9 = (-1) → ((z9 ≤ r16 → (I7 z8 z9 (z10 + 1) H15 ∧ μ7 z8 z9 (z10 + 1) H15 < μ7 z8 z9 z10 H11)) ∧ (¬ z9 ≤ r16 → (I7 z10 r16 (z10 + 1) H15 ∧ μ7 z10 r16 (z10 + 1) H15 < μ7 z8 z9 z10 H11))))))))) ∧ (r14 = 0 → (I7 z8 z9 (z10 + 1) H13 ∧ μ7 z8 z9 (z10 + 1) H13 < μ7 z8 z9 z10 H11)))))))))) ∧ (r4 = 0 → (Q (-7) H3))))) ∧ (r2 = 0 → (Q (-5) H1)))
set_option maxHeartbeats 4000000 in
theorem l_Main_where {E : XE} {d : Nat} {x1 : Int32} {x2 : Int32} {H : HH} {Q : Int32 → HH → Prop} (h : p_Main_where E d x1 x2 H Q) : c_Main_where E (d + 1) x1 x2 H Q := by
  show g_Main_where E (d + 1) 0 (xent [vr 0 0, vi x1, vi x2]) [] H (qi Q)
  refine g_drop (ls2 := [some (vr 0 0), some (vi x1), some (vi x2), none, none, none, none]) (And.intro rfl (And.intro rfl (And.intro rfl trivial))) ?_
  refine g_aload_n (q := 0) (i := 0) (by decide +kernel) rfl rfl ?_
  refine g_iload_n (q := 1) (i := 1) (by decide +kernel) rfl rfl ?_
  refine g_callV (kd := 0) (ix := 0) (ci := 0) (N := 9) (T := xT_Main) (vs := [vi x1]) (st := []) (by decide +kernel) xm_Main_isVehicle kw_630 kw_632 kw_18 (by decide) rfl rfl rfl rfl (Nat.le_of_ble_eq_true rfl) (Nat.le_of_ble_eq_true rfl) h (fun vH1 H1 hq => ?_)
  obtain ⟨r2, rfl, h⟩ := hq
  refine g_if_ne (off := 6) (tgt := 11) (by decide +kernel) (by decide) (fun c => ?_) (fun c => ?_)
  · replace h := h.1 c
    refine g_iload_n (q := 2) (i := 2) (by decide +kernel) rfl rfl ?_
    refine g_callS (vs := [vi x2]) (st := []) (by decide +kernel) xm_Main_isTwoFlags kw_710 kw_711 rfl rfl (Nat.le_of_ble_eq_true rfl) (Nat.le_of_ble_eq_true rfl) h (fun vH3 H3 hq => ?_)
    obtain ⟨r4, rfl, h⟩ := hq
    refine g_if_ne (off := 6) (tgt := 21) (by decide +kernel) (by decide) (fun c => ?_) (fun c => ?_)
    · replace h := h.1 c
      refine g_aload_n (q := 0) (i := 0) (by decide +kernel) rfl rfl ?_
      refine g_iload_n (q := 1) (i := 1) (by decide +kernel) rfl rfl ?_
      refine g_callV (kd := 0) (ix := 0) (ci := 0) (N := 9) (T := xT_Main) (vs := [vi x1]) (st := []) (by decide +kernel) xm_Main_think kw_622 kw_624 kw_17 (by decide) rfl rfl rfl rfl (Nat.le_of_ble_eq_true rfl) (Nat.le_of_ble_eq_true rfl) h (fun vH5 H5 hq => ?_)
      replace h := hq
      refine g_aload_n (q := 0) (i := 0) (by decide +kernel) rfl rfl ?_
      refine g_get (C := "ThreePoints") (T := xT_Main) (N := 9) (ci := 0) (k := 8) (v := vr 21 0) (by decide +kernel) (by decide) rfl rfl xi_Main (by decide) kw_590 rfl ?_
      refine g_aload_n (q := 0) (i := 0) (by decide +kernel) rfl rfl ?_
      refine g_get (C := "ThreePoints") (T := xT_Main) (N := 9) (ci := 0) (k := 7) (v := vr 19 0) (by decide +kernel) (by decide) rfl rfl xi_Main (by decide) kw_589 rfl ?_
      refine g_bipush (n := 8) (v := 8) (by decide +kernel) (by decide) ?_
      refine g_iload_n (q := 2) (i := 2) (by decide +kernel) rfl rfl ?_
      refine g_bipush (n := 10) (v := 10) (by decide +kernel) (by decide) ?_
      refine g_idiv (by decide +kernel) (by decide) ?_
      refine g_callV (kd := 21) (ix := 0) (ci := 9) (N := 8) (T := xT_Search) (vs := [vr 19 0, vi 8, vi (x2 / 10)]) (st := []) (by decide +kernel) xm_Search_toHeading kw_776 kw_777 kw_778 (by decide) rfl rfl rfl rfl (Nat.le_of_ble_eq_true rfl) (Nat.le_of_ble_eq_true rfl) h (fun vH6 H6 hq => ?_)
      replace h := hq
      refine g_iconst (n := (-1)) (v := (-1)) (by decide +kernel) (by decide) ?_
      refine g_istore_n (q := 3) (i := 3) (ls2 := [some (vr 0 0), some (vi x1), some (vi x2), some (vi (-1)), none, none, none]) (by decide +kernel) rfl (by decide) rfl rfl ?_
      refine g_iconst (n := (-1)) (v := (-1)) (by decide +kernel) (by decide) ?_
      refine g_istore (i := 4) (ls2 := [some (vr 0 0), some (vi x1), some (vi x2), some (vi (-1)), some (vi (-1)), none, none]) (by decide +kernel) (by decide) rfl rfl ?_
      refine g_iconst (n := 0) (v := 0) (by decide +kernel) (by decide) ?_
      refine g_istore (i := 5) (ls2 := [some (vr 0 0), some (vi x1), some (vi x2), some (vi (-1)), some (vi (-1)), some (vi 0), none]) (by decide +kernel) (by decide) rfl rfl ?_
      refine g_drop (ls2 := [some (vr 0 0), none, some (vi x2), some (vi (-1)), some (vi (-1)), some (vi 0), none]) (And.intro rfl (And.intro rfl (And.intro rfl (And.intro rfl (And.intro rfl trivial))))) ?_
      obtain ⟨I7, μ7, h0, h⟩ := h
      refine xloop (σ := Int32 × Int32 × Int32) (fun s H => I7 s.1 s.2.1 s.2.2 H) (fun s H => μ7 s.1 s.2.1 s.2.2 H) (fun s H => g_Main_where E (d + 1) 51 [some (vr 0 0), none, some (vi x2), some (vi s.1), some (vi s.2.1), some (vi s.2.2), none] [] H (qi Q)) (fun s H11 hI ih7 => ?_) ((-1), (-1), 0) H6 h0
      obtain ⟨z8, z9, z10⟩ := s
      replace h := h z8 z9 z10 H11 hI
      refine g_iload (i := 5) (by decide +kernel) rfl ?_
      refine g_aload_n (q := 0) (i := 0) (by decide +kernel) rfl rfl ?_
      refine g_get (C := "ThreePoints") (T := xT_Main) (N := 9) (ci := 0) (k := 0) (v := vr 1 0) (by decide +kernel) (by decide) rfl rfl xi_Main (by decide) kw_582 rfl ?_
      refine g_get (C := "ThreePoints$Yard") (T := xT_Yard) (N := 3) (ci := 1) (k := 0) (v := vr 2 0) (by decide +kernel) (by decide) rfl rfl xi_Yard (by decide) kw_163 rfl ?_
      refine g_get (C := "ThreePoints$Lane") (T := xT_Lane) (N := 3) (ci := 2) (k := 0) (v := vi (H11 2 0 0)) (by decide +kernel) (by decide) rfl rfl xi_Lane (by decide) kw_106 rfl ?_
      refine g_icmp_gt (off := 68) (tgt := 131) (by decide +kernel) (by decide) (fun c => ?_) (fun c => ?_)
      · replace h := h.1 c
        refine g_iload_n (q := 2) (i := 2) (by decide +kernel) rfl rfl ?_
        refine g_bipush (n := 10) (v := 10) (by decide +kernel) (by decide) ?_
        refine g_irem (by decide +kernel) (by decide) ?_
        suffices hj12 : g_Main_where E (d + 1) 144 [some (vr 0 0), none, some (vi x2), some (vi z8), some (vi z9), some (vi z10), none] [vi (if (xrem x2 10) = 0 then z8 else z9 : Int32)] H11 (qi Q) by
          refine g_if_ne (off := 7) (tgt := 142) (by decide +kernel) (by decide) (fun c => ?_) (fun c => ?_)
          · rw [if_neg c] at hj12
            refine g_iload (i := 4) (by decide +kernel) rfl ?_
            exact hj12
          · rw [if_pos c] at hj12
            refine g_iload_n (q := 3) (i := 3) (by decide +kernel) rfl rfl ?_
            refine g_goto (off := 5) (tgt := 144) (by decide +kernel) (by decide) ?_
            exact hj12
        exact g_iret (by decide +kernel) rfl ⟨_, rfl, h⟩
      · replace h := h.2 c
        refine g_aload_n (q := 0) (i := 0) (by decide +kernel) rfl rfl ?_
        refine g_get (C := "ThreePoints") (T := xT_Main) (N := 9) (ci := 0) (k := 7) (v := vr 19 0) (by decide +kernel) (by decide) rfl rfl xi_Main (by decide) kw_589 rfl ?_
        refine g_iload (i := 5) (by decide +kernel) rfl ?_
        refine g_iconst (n := 0) (v := 0) (by decide +kernel) (by decide) ?_
        refine g_callV (kd := 19) (ix := 0) (ci := 8) (N := 4) (T := xT_Ride) (vs := [vi z10, vi 0]) (st := []) (by decide +kernel) xm_Ride_fits kw_736 kw_643 kw_644 (by decide) rfl rfl rfl rfl (Nat.le_of_ble_eq_true rfl) (Nat.le_of_ble_eq_true rfl) h (fun vH13 H13 hq => ?_)
        obtain ⟨r14, rfl, h⟩ := hq
        refine g_if_ne (off := 6) (tgt := 82) (by decide +kernel) (by decide) (fun c => ?_) (fun c => ?_)
        · replace h := h.1 c
          refine g_aload_n (q := 0) (i := 0) (by decide +kernel) rfl rfl ?_
          refine g_get (C := "ThreePoints") (T := xT_Main) (N := 9) (ci := 0) (k := 8) (v := vr 21 0) (by decide +kernel) (by decide) rfl rfl xi_Main (by decide) kw_590 rfl ?_
          refine g_aload_n (q := 0) (i := 0) (by decide +kernel) rfl rfl ?_
          refine g_get (C := "ThreePoints") (T := xT_Main) (N := 9) (ci := 0) (k := 7) (v := vr 19 0) (by decide +kernel) (by decide) rfl rfl xi_Main (by decide) kw_589 rfl ?_
          refine g_iload (i := 5) (by decide +kernel) rfl ?_
          refine g_iconst (n := 0) (v := 0) (by decide +kernel) (by decide) ?_
          refine g_iconst (n := (-1)) (v := (-1)) (by decide +kernel) (by decide) ?_
          refine g_callV (kd := 21) (ix := 0) (ci := 9) (N := 8) (T := xT_Search) (vs := [vr 19 0, vi z10, vi 0, vi (-1)]) (st := []) (by decide +kernel) xm_Search_least kw_817 kw_809 kw_810 (by decide) rfl rfl rfl rfl (Nat.le_of_ble_eq_true rfl) (Nat.le_of_ble_eq_true rfl) h (fun vH15 H15 hq => ?_)
          obtain ⟨r16, rfl, h⟩ := hq
          refine g_istore (i := 6) (ls2 := [some (vr 0 0), none, some (vi x2), some (vi z8), some (vi z9), some (vi z10), some (vi r16)]) (by decide +kernel) (by decide) rfl rfl ?_
          refine g_iload (i := 6) (by decide +kernel) rfl ?_
          refine g_iconst (n := (-1)) (v := (-1)) (by decide +kernel) (by decide) ?_
          refine g_icmp_eq (off := 23) (tgt := 125) (by decide +kernel) (by decide) (fun c => ?_) (fun c => ?_)
          · replace h := h.1 c
            refine g_iinc (i := 5) (n := 1) (v := (z10 + 1)) (ls2 := [some (vr 0 0), none, some (vi x2), some (vi z8), some (vi z9), some (vi (z10 + 1)), some (vi r16)]) (by decide +kernel) rfl rfl (by decide) rfl rfl ?_
            refine g_goto (off := (-77)) (tgt := 51) (by decide +kernel) (by decide) ?_
            obtain ⟨hI, hlt⟩ := h
            exact g_drop (ls2 := [some (vr 0 0), none, some (vi x2), some (vi z8), some (vi z9), some (vi (z10 + 1)), none]) (And.intro rfl (And.intro rfl (And.intro rfl (And.intro rfl (And.intro rfl trivial))))) (ih7 (z8, z9, (z10 + 1)) H15 hI hlt)
          · replace h := h.2 c
            refine g_iload (i := 4) (by decide +kernel) rfl ?_
            refine g_iconst (n := (-1)) (v := (-1)) (by decide +kernel) (by decide) ?_
            refine g_icmp_eq (off := 10) (tgt := 118) (by decide +kernel) (by decide) (fun c => ?_) (fun c => ?_)
            · replace h := h.1 c
              refine g_iload (i := 6) (by decide +kernel) rfl ?_
              refine g_istore (i := 4) (ls2 := [some (vr 0 0), none, some (vi x2), some (vi z8), some (vi r16), some (vi z10), some (vi r16)]) (by decide +kernel) (by decide) rfl rfl ?_
              refine g_iload (i := 5) (by decide +kernel) rfl ?_
              refine g_istore_n (q := 3) (i := 3) (ls2 := [some (vr 0 0), none, some (vi x2), some (vi z10), some (vi r16), some (vi z10), some (vi r16)]) (by decide +kernel) rfl (by decide) rfl rfl ?_
              refine g_iinc (i := 5) (n := 1) (v := (z10 + 1)) (ls2 := [some (vr 0 0), none, some (vi x2), some (vi z10), some (vi r16), some (vi (z10 + 1)), some (vi r16)]) (by decide +kernel) rfl rfl (by decide) rfl rfl ?_
              refine g_goto (off := (-77)) (tgt := 51) (by decide +kernel) (by decide) ?_
              obtain ⟨hI, hlt⟩ := h
              exact g_drop (ls2 := [some (vr 0 0), none, some (vi x2), some (vi z10), some (vi r16), some (vi (z10 + 1)), none]) (And.intro rfl (And.intro rfl (And.intro rfl (And.intro rfl (And.intro rfl trivial))))) (ih7 (z10, r16, (z10 + 1)) H15 hI hlt)
            · replace h := h.2 c
              refine g_iload (i := 6) (by decide +kernel) rfl ?_
              refine g_iload (i := 4) (by decide +kernel) rfl ?_
              refine g_icmp_ge (off := 10) (tgt := 125) (by decide +kernel) (by decide) (fun c => ?_) (fun c => ?_)
              · replace h := h.1 c
                refine g_iinc (i := 5) (n := 1) (v := (z10 + 1)) (ls2 := [some (vr 0 0), none, some (vi x2), some (vi z8), some (vi z9), some (vi (z10 + 1)), some (vi r16)]) (by decide +kernel) rfl rfl (by decide) rfl rfl ?_
                refine g_goto (off := (-77)) (tgt := 51) (by decide +kernel) (by decide) ?_
                obtain ⟨hI, hlt⟩ := h
                exact g_drop (ls2 := [some (vr 0 0), none, some (vi x2), some (vi z8), some (vi z9), some (vi (z10 + 1)), none]) (And.intro rfl (And.intro rfl (And.intro rfl (And.intro rfl (And.intro rfl trivial))))) (ih7 (z8, z9, (z10 + 1)) H15 hI hlt)
              · replace h := h.2 c
                refine g_iload (i := 6) (by decide +kernel) rfl ?_
                refine g_istore (i := 4) (ls2 := [some (vr 0 0), none, some (vi x2), some (vi z8), some (vi r16), some (vi z10), some (vi r16)]) (by decide +kernel) (by decide) rfl rfl ?_
                refine g_iload (i := 5) (by decide +kernel) rfl ?_
                refine g_istore_n (q := 3) (i := 3) (ls2 := [some (vr 0 0), none, some (vi x2), some (vi z10), some (vi r16), some (vi z10), some (vi r16)]) (by decide +kernel) rfl (by decide) rfl rfl ?_
                refine g_iinc (i := 5) (n := 1) (v := (z10 + 1)) (ls2 := [some (vr 0 0), none, some (vi x2), some (vi z10), some (vi r16), some (vi (z10 + 1)), some (vi r16)]) (by decide +kernel) rfl rfl (by decide) rfl rfl ?_
                refine g_goto (off := (-77)) (tgt := 51) (by decide +kernel) (by decide) ?_
                obtain ⟨hI, hlt⟩ := h
                exact g_drop (ls2 := [some (vr 0 0), none, some (vi x2), some (vi z10), some (vi r16), some (vi (z10 + 1)), none]) (And.intro rfl (And.intro rfl (And.intro rfl (And.intro rfl (And.intro rfl trivial))))) (ih7 (z10, r16, (z10 + 1)) H15 hI hlt)
        · replace h := h.2 c
          refine g_goto (off := 46) (tgt := 125) (by decide +kernel) (by decide) ?_
          refine g_iinc (i := 5) (n := 1) (v := (z10 + 1)) (ls2 := [some (vr 0 0), none, some (vi x2), some (vi z8), some (vi z9), some (vi (z10 + 1)), none]) (by decide +kernel) rfl rfl (by decide) rfl rfl ?_
          refine g_goto (off := (-77)) (tgt := 51) (by decide +kernel) (by decide) ?_
          obtain ⟨hI, hlt⟩ := h
          exact g_drop (ls2 := [some (vr 0 0), none, some (vi x2), some (vi z8), some (vi z9), some (vi (z10 + 1)), none]) (And.intro rfl (And.intro rfl (And.intro rfl (And.intro rfl (And.intro rfl trivial))))) (ih7 (z8, z9, (z10 + 1)) H13 hI hlt)
    · replace h := h.2 c
      refine g_bipush (n := (-7)) (v := (-7)) (by decide +kernel) (by decide) ?_
      exact g_iret (by decide +kernel) rfl ⟨_, rfl, h⟩
  · replace h := h.2 c
    refine g_bipush (n := (-5)) (v := (-5)) (by decide +kernel) (by decide) ?_
    exact g_iret (by decide +kernel) rfl ⟨_, rfl, h⟩
def p_Main_narrow (E : XE) (d : Nat) (x1 : Int32) (x2 : Int32) (H : HH) (Q : Int32 → HH → Prop) : Prop := c_Main_isVehicle E d x1 H (fun r2 H1 => (¬ r2 = 0 → (c_Main_isWithin E d x2 1 99 H1 (fun r4 H3 => (¬ r4 = 0 → (c_Main_think E d x1 H3 (fun H5 => ∃ (I6 : Int32 → HH → Prop) (μ6 : Int32 → HH → Nat), I6 8 H5 ∧ ∀ (z7 : Int32) (H8 : HH), I6 z7 H8 → ((60 < z7 → (Q (-1) H8)) ∧ (¬ 60 < z7 → (∀ H9 : HH, H9 = (hu H8 2 2 0 z7) → (c_Vehicle_startAt E d 8 (z7 / 2) H9 (fun H10 => c_Ride_fitsNow E d  H10 (fun r12 H11 => (¬ r12 = 0 → (c_Main_otherHeading E d (H11 3 8 3) H11 (fun r14 H13 => c_Search_toHeading E d r14 0 H13 (fun H15 => c_Search_leastFromNow E d  H15 (fun r17 H16 => c_Main_isWithin E d r17 0 x2 H16 (fun r19 H18 => (r19 = 0 → (I6 (z7 + 1) H18 ∧ μ6 (z7 + 1) H18 < μ6 z7 H8)) ∧ (¬ r19 = 0 → (Q z7 H18)))))))) ∧ (r12 = 0 → (I6 (z7 + 1) H11 ∧ μ6 (z7 + 1) H11 < μ6 z7 H8))))))))))) ∧ (r4 = 0 → (Q (-7) H3))))) ∧ (r2 = 0 → (Q (-5) H1)))
set_option maxHeartbeats 4000000 in
theorem l_Main_narrow {E : XE} {d : Nat} {x1 : Int32} {x2 : Int32} {H : HH} {Q : Int32 → HH → Prop} (h : p_Main_narrow E d x1 x2 H Q) : c_Main_narrow E (d + 1) x1 x2 H Q := by
  show g_Main_narrow E (d + 1) 0 (xent [vr 0 0, vi x1, vi x2]) [] H (qi Q)
  refine g_drop (ls2 := [some (vr 0 0), some (vi x1), some (vi x2), none]) (And.intro rfl (And.intro rfl (And.intro rfl trivial))) ?_
  refine g_aload_n (q := 0) (i := 0) (by decide +kernel) rfl rfl ?_
  refine g_iload_n (q := 1) (i := 1) (by decide +kernel) rfl rfl ?_
  refine g_callV (kd := 0) (ix := 0) (ci := 0) (N := 9) (T := xT_Main) (vs := [vi x1]) (st := []) (by decide +kernel) xm_Main_isVehicle kw_630 kw_632 kw_18 (by decide) rfl rfl rfl rfl (Nat.le_of_ble_eq_true rfl) (Nat.le_of_ble_eq_true rfl) h (fun vH1 H1 hq => ?_)
  obtain ⟨r2, rfl, h⟩ := hq
  refine g_if_ne (off := 6) (tgt := 11) (by decide +kernel) (by decide) (fun c => ?_) (fun c => ?_)
  · replace h := h.1 c
    refine g_iload_n (q := 2) (i := 2) (by decide +kernel) rfl rfl ?_
    refine g_iconst (n := 1) (v := 1) (by decide +kernel) (by decide) ?_
    refine g_bipush (n := 99) (v := 99) (by decide +kernel) (by decide) ?_
    refine g_callS (vs := [vi x2, vi 1, vi 99]) (st := []) (by decide +kernel) xm_Main_isWithin kw_619 kw_620 rfl rfl (Nat.le_of_ble_eq_true rfl) (Nat.le_of_ble_eq_true rfl) h (fun vH3 H3 hq => ?_)
    obtain ⟨r4, rfl, h⟩ := hq
    refine g_if_ne (off := 6) (tgt := 24) (by decide +kernel) (by decide) (fun c => ?_) (fun c => ?_)
    · replace h := h.1 c
      refine g_aload_n (q := 0) (i := 0) (by decide +kernel) rfl rfl ?_
      refine g_iload_n (q := 1) (i := 1) (by decide +kernel) rfl rfl ?_
      refine g_callV (kd := 0) (ix := 0) (ci := 0) (N := 9) (T := xT_Main) (vs := [vi x1]) (st := []) (by decide +kernel) xm_Main_think kw_622 kw_624 kw_17 (by decide) rfl rfl rfl rfl (Nat.le_of_ble_eq_true rfl) (Nat.le_of_ble_eq_true rfl) h (fun vH5 H5 hq => ?_)
      replace h := hq
      refine g_bipush (n := 8) (v := 8) (by decide +kernel) (by decide) ?_
      refine g_istore_n (q := 3) (i := 3) (ls2 := [some (vr 0 0), some (vi x1), some (vi x2), some (vi 8)]) (by decide +kernel) rfl (by decide) rfl rfl ?_
      refine g_drop (ls2 := [some (vr 0 0), none, some (vi x2), some (vi 8)]) (And.intro rfl (And.intro rfl (And.intro rfl trivial))) ?_
      obtain ⟨I6, μ6, h0, h⟩ := h
      refine xloop (σ := Int32) (fun s H => I6 s H) (fun s H => μ6 s H) (fun s H => g_Main_narrow E (d + 1) 32 [some (vr 0 0), none, some (vi x2), some (vi s)] [] H (qi Q)) (fun s H8 hI ih6 => ?_) 8 H5 h0
      obtain ⟨z7, es⟩ : ∃ z, z = s := ⟨s, rfl⟩
      subst es
      replace h := h z7 H8 hI
      refine g_iload_n (q := 3) (i := 3) (by decide +kernel) rfl rfl ?_
      refine g_bipush (n := 60) (v := 60) (by decide +kernel) (by decide) ?_
      refine g_icmp_gt (off := 92) (tgt := 127) (by decide +kernel) (by decide) (fun c => ?_) (fun c => ?_)
      · replace h := h.1 c
        refine g_iconst (n := (-1)) (v := (-1)) (by decide +kernel) (by decide) ?_
        exact g_iret (by decide +kernel) rfl ⟨_, rfl, h⟩
      · replace h := h.2 c
        refine g_aload_n (q := 0) (i := 0) (by decide +kernel) rfl rfl ?_
        refine g_get (C := "ThreePoints") (T := xT_Main) (N := 9) (ci := 0) (k := 7) (v := vr 19 0) (by decide +kernel) (by decide) rfl rfl xi_Main (by decide) kw_589 rfl ?_
        refine g_get (C := "ThreePoints$Ride") (T := xT_Ride) (N := 4) (ci := 8) (k := 0) (v := vr 2 2) (by decide +kernel) (by decide) rfl rfl xi_Ride (by decide) kw_261 rfl ?_
        refine g_iload_n (q := 3) (i := 3) (by decide +kernel) rfl rfl ?_
        refine g_put (C := "ThreePoints$Lane") (T := xT_Lane) (N := 3) (ci := 2) (k := 0) xy_Lane (by decide +kernel) (by decide) rfl rfl xi_Lane xy_Lane_ok xn_Lane (by decide) kw_106 rfl (by decide +kernel) (fun _ => rfl) ?_
        refine g_aload_n (q := 0) (i := 0) (by decide +kernel) rfl rfl ?_
        refine g_get (C := "ThreePoints") (T := xT_Main) (N := 9) (ci := 0) (k := 7) (v := vr 19 0) (by decide +kernel) (by decide) rfl rfl xi_Main (by decide) kw_589 rfl ?_
        refine g_get (C := "ThreePoints$Ride") (T := xT_Ride) (N := 4) (ci := 8) (k := 1) (v := vr 3 8) (by decide +kernel) (by decide) rfl rfl xi_Ride (by decide) kw_264 rfl ?_
        refine g_iload_n (q := 3) (i := 3) (by decide +kernel) rfl rfl ?_
        refine g_iconst (n := 2) (v := 2) (by decide +kernel) (by decide) ?_
        refine g_idiv (by decide +kernel) (by decide) ?_
        refine g_heap (fun H9 eH9 => ?_)
        replace h := h H9 eH9
        refine g_callV (kd := 3) (ix := 8) (ci := 3) (N := 7) (T := xT_Vehicle) (vs := [vi (z7 / 2)]) (st := []) (by decide +kernel) xm_Vehicle_startAt kw_722 kw_723 kw_724 (by decide) rfl rfl rfl rfl (Nat.le_of_ble_eq_true rfl) (Nat.le_of_ble_eq_true rfl) h (fun vH10 H10 hq => ?_)
        replace h := hq
        refine g_aload_n (q := 0) (i := 0) (by decide +kernel) rfl rfl ?_
        refine g_get (C := "ThreePoints") (T := xT_Main) (N := 9) (ci := 0) (k := 7) (v := vr 19 0) (by decide +kernel) (by decide) rfl rfl xi_Main (by decide) kw_589 rfl ?_
        refine g_callV (kd := 19) (ix := 0) (ci := 8) (N := 4) (T := xT_Ride) (vs := []) (st := []) (by decide +kernel) xm_Ride_fitsNow kw_638 kw_639 kw_640 (by decide) rfl rfl rfl rfl (Nat.le_of_ble_eq_true rfl) (Nat.le_of_ble_eq_true rfl) h (fun vH11 H11 hq => ?_)
        obtain ⟨r12, rfl, h⟩ := hq
        refine g_if_ne (off := 6) (tgt := 75) (by decide +kernel) (by decide) (fun c => ?_) (fun c => ?_)
        · replace h := h.1 c
          refine g_aload_n (q := 0) (i := 0) (by decide +kernel) rfl rfl ?_
          refine g_get (C := "ThreePoints") (T := xT_Main) (N := 9) (ci := 0) (k := 8) (v := vr 21 0) (by decide +kernel) (by decide) rfl rfl xi_Main (by decide) kw_590 rfl ?_
          refine g_aload_n (q := 0) (i := 0) (by decide +kernel) rfl rfl ?_
          refine g_get (C := "ThreePoints") (T := xT_Main) (N := 9) (ci := 0) (k := 7) (v := vr 19 0) (by decide +kernel) (by decide) rfl rfl xi_Main (by decide) kw_589 rfl ?_
          refine g_aload_n (q := 0) (i := 0) (by decide +kernel) rfl rfl ?_
          refine g_get (C := "ThreePoints") (T := xT_Main) (N := 9) (ci := 0) (k := 7) (v := vr 19 0) (by decide +kernel) (by decide) rfl rfl xi_Main (by decide) kw_589 rfl ?_
          refine g_get (C := "ThreePoints$Ride") (T := xT_Ride) (N := 4) (ci := 8) (k := 1) (v := vr 3 8) (by decide +kernel) (by decide) rfl rfl xi_Ride (by decide) kw_264 rfl ?_
          refine g_get (C := "ThreePoints$Vehicle") (T := xT_Vehicle) (N := 7) (ci := 3) (k := 3) (v := vi (H11 3 8 3)) (by decide +kernel) (by decide) rfl rfl xi_Vehicle (by decide) kw_139 rfl ?_
          refine g_callS (vs := [vi (H11 3 8 3)]) (st := [vr 19 0, vr 21 0]) (by decide +kernel) xm_Main_otherHeading kw_773 kw_774 rfl rfl (Nat.le_of_ble_eq_true rfl) (Nat.le_of_ble_eq_true rfl) h (fun vH13 H13 hq => ?_)
          obtain ⟨r14, rfl, h⟩ := hq
          refine g_iconst (n := 0) (v := 0) (by decide +kernel) (by decide) ?_
          refine g_callV (kd := 21) (ix := 0) (ci := 9) (N := 8) (T := xT_Search) (vs := [vr 19 0, vi r14, vi 0]) (st := []) (by decide +kernel) xm_Search_toHeading kw_776 kw_777 kw_778 (by decide) rfl rfl rfl rfl (Nat.le_of_ble_eq_true rfl) (Nat.le_of_ble_eq_true rfl) h (fun vH15 H15 hq => ?_)
          replace h := hq
          refine g_aload_n (q := 0) (i := 0) (by decide +kernel) rfl rfl ?_
          refine g_get (C := "ThreePoints") (T := xT_Main) (N := 9) (ci := 0) (k := 8) (v := vr 21 0) (by decide +kernel) (by decide) rfl rfl xi_Main (by decide) kw_590 rfl ?_
          refine g_aload_n (q := 0) (i := 0) (by decide +kernel) rfl rfl ?_
          refine g_get (C := "ThreePoints") (T := xT_Main) (N := 9) (ci := 0) (k := 7) (v := vr 19 0) (by decide +kernel) (by decide) rfl rfl xi_Main (by decide) kw_589 rfl ?_
          refine g_callV (kd := 21) (ix := 0) (ci := 9) (N := 8) (T := xT_Search) (vs := [vr 19 0]) (st := []) (by decide +kernel) xm_Search_leastFromNow kw_804 kw_805 kw_806 (by decide) rfl rfl rfl rfl (Nat.le_of_ble_eq_true rfl) (Nat.le_of_ble_eq_true rfl) h (fun vH16 H16 hq => ?_)
          obtain ⟨r17, rfl, h⟩ := hq
          refine g_iconst (n := 0) (v := 0) (by decide +kernel) (by decide) ?_
          refine g_iload_n (q := 2) (i := 2) (by decide +kernel) rfl rfl ?_
          refine g_callS (vs := [vi r17, vi 0, vi x2]) (st := []) (by decide +kernel) xm_Main_isWithin kw_619 kw_620 rfl rfl (Nat.le_of_ble_eq_true rfl) (Nat.le_of_ble_eq_true rfl) h (fun vH18 H18 hq => ?_)
          obtain ⟨r19, rfl, h⟩ := hq
          refine g_if_eq (off := 5) (tgt := 121) (by decide +kernel) (by decide) (fun c => ?_) (fun c => ?_)
          · replace h := h.1 c
            refine g_iinc (i := 3) (n := 1) (v := (z7 + 1)) (ls2 := [some (vr 0 0), none, some (vi x2), some (vi (z7 + 1))]) (by decide +kernel) rfl rfl (by decide) rfl rfl ?_
            refine g_goto (off := (-92)) (tgt := 32) (by decide +kernel) (by decide) ?_
            obtain ⟨hI, hlt⟩ := h
            exact g_drop (ls2 := [some (vr 0 0), none, some (vi x2), some (vi (z7 + 1))]) (And.intro rfl (And.intro rfl (And.intro rfl trivial))) (ih6 (z7 + 1) H18 hI hlt)
          · replace h := h.2 c
            refine g_iload_n (q := 3) (i := 3) (by decide +kernel) rfl rfl ?_
            exact g_iret (by decide +kernel) rfl ⟨_, rfl, h⟩
        · replace h := h.2 c
          refine g_goto (off := 49) (tgt := 121) (by decide +kernel) (by decide) ?_
          refine g_iinc (i := 3) (n := 1) (v := (z7 + 1)) (ls2 := [some (vr 0 0), none, some (vi x2), some (vi (z7 + 1))]) (by decide +kernel) rfl rfl (by decide) rfl rfl ?_
          refine g_goto (off := (-92)) (tgt := 32) (by decide +kernel) (by decide) ?_
          obtain ⟨hI, hlt⟩ := h
          exact g_drop (ls2 := [some (vr 0 0), none, some (vi x2), some (vi (z7 + 1))]) (And.intro rfl (And.intro rfl (And.intro rfl trivial))) (ih6 (z7 + 1) H11 hI hlt)
    · replace h := h.2 c
      refine g_bipush (n := (-7)) (v := (-7)) (by decide +kernel) (by decide) ?_
      exact g_iret (by decide +kernel) rfl ⟨_, rfl, h⟩
  · replace h := h.2 c
    refine g_bipush (n := (-5)) (v := (-5)) (by decide +kernel) (by decide) ?_
    exact g_iret (by decide +kernel) rfl ⟨_, rfl, h⟩
def p_Main_cut (E : XE) (d : Nat) (x1 : Int32) (x2 : Int32) (H : HH) (Q : Int32 → HH → Prop) : Prop := c_Main_isVehicle E d x1 H (fun r2 H1 => (¬ r2 = 0 → (c_Main_isWithin E d x2 0 99 H1 (fun r4 H3 => (¬ r4 = 0 → (c_Main_think E d x1 H3 (fun H5 => ∃ (I6 : Int32 → HH → Prop) (μ6 : Int32 → HH → Nat), I6 0 H5 ∧ ∀ (z7 : Int32) (H8 : HH), I6 z7 H8 → ((20 < z7 → (Q (-1) H8)) ∧ (¬ 20 < z7 → (∀ H9 : HH, H9 = (hu H8 2 2 1 z7) → (c_Main_otherHeading E d (H9 3 8 3) H9 (fun r11 H10 => c_Search_toHeading E d r11 0 H10 (fun H12 => c_Search_leastFromNow E d  H12 (fun r14 H13 => c_Main_isWithin E d r14 0 x2 H13 (fun r16 H15 => (r16 = 0 → (I6 (z7 + 1) H15 ∧ μ6 (z7 + 1) H15 < μ6 z7 H8)) ∧ (¬ r16 = 0 → (Q z7 H15))))))))))))) ∧ (r4 = 0 → (Q (-7) H3))))) ∧ (r2 = 0 → (Q (-5) H1)))
set_option maxHeartbeats 4000000 in
theorem l_Main_cut {E : XE} {d : Nat} {x1 : Int32} {x2 : Int32} {H : HH} {Q : Int32 → HH → Prop} (h : p_Main_cut E d x1 x2 H Q) : c_Main_cut E (d + 1) x1 x2 H Q := by
  show g_Main_cut E (d + 1) 0 (xent [vr 0 0, vi x1, vi x2]) [] H (qi Q)
  refine g_drop (ls2 := [some (vr 0 0), some (vi x1), some (vi x2), none]) (And.intro rfl (And.intro rfl (And.intro rfl trivial))) ?_
  refine g_aload_n (q := 0) (i := 0) (by decide +kernel) rfl rfl ?_
  refine g_iload_n (q := 1) (i := 1) (by decide +kernel) rfl rfl ?_
  refine g_callV (kd := 0) (ix := 0) (ci := 0) (N := 9) (T := xT_Main) (vs := [vi x1]) (st := []) (by decide +kernel) xm_Main_isVehicle kw_630 kw_632 kw_18 (by decide) rfl rfl rfl rfl (Nat.le_of_ble_eq_true rfl) (Nat.le_of_ble_eq_true rfl) h (fun vH1 H1 hq => ?_)
  obtain ⟨r2, rfl, h⟩ := hq
  refine g_if_ne (off := 6) (tgt := 11) (by decide +kernel) (by decide) (fun c => ?_) (fun c => ?_)
  · replace h := h.1 c
    refine g_iload_n (q := 2) (i := 2) (by decide +kernel) rfl rfl ?_
    refine g_iconst (n := 0) (v := 0) (by decide +kernel) (by decide) ?_
    refine g_bipush (n := 99) (v := 99) (by decide +kernel) (by decide) ?_
    refine g_callS (vs := [vi x2, vi 0, vi 99]) (st := []) (by decide +kernel) xm_Main_isWithin kw_619 kw_620 rfl rfl (Nat.le_of_ble_eq_true rfl) (Nat.le_of_ble_eq_true rfl) h (fun vH3 H3 hq => ?_)
    obtain ⟨r4, rfl, h⟩ := hq
    refine g_if_ne (off := 6) (tgt := 24) (by decide +kernel) (by decide) (fun c => ?_) (fun c => ?_)
    · replace h := h.1 c
      refine g_aload_n (q := 0) (i := 0) (by decide +kernel) rfl rfl ?_
      refine g_iload_n (q := 1) (i := 1) (by decide +kernel) rfl rfl ?_
      refine g_callV (kd := 0) (ix := 0) (ci := 0) (N := 9) (T := xT_Main) (vs := [vi x1]) (st := []) (by decide +kernel) xm_Main_think kw_622 kw_624 kw_17 (by decide) rfl rfl rfl rfl (Nat.le_of_ble_eq_true rfl) (Nat.le_of_ble_eq_true rfl) h (fun vH5 H5 hq => ?_)
      replace h := hq
      refine g_iconst (n := 0) (v := 0) (by decide +kernel) (by decide) ?_
      refine g_istore_n (q := 3) (i := 3) (ls2 := [some (vr 0 0), some (vi x1), some (vi x2), some (vi 0)]) (by decide +kernel) rfl (by decide) rfl rfl ?_
      refine g_drop (ls2 := [some (vr 0 0), none, some (vi x2), some (vi 0)]) (And.intro rfl (And.intro rfl (And.intro rfl trivial))) ?_
      obtain ⟨I6, μ6, h0, h⟩ := h
      refine xloop (σ := Int32) (fun s H => I6 s H) (fun s H => μ6 s H) (fun s H => g_Main_cut E (d + 1) 31 [some (vr 0 0), none, some (vi x2), some (vi s)] [] H (qi Q)) (fun s H8 hI ih6 => ?_) 0 H5 h0
      obtain ⟨z7, es⟩ : ∃ z, z = s := ⟨s, rfl⟩
      subst es
      replace h := h z7 H8 hI
      refine g_iload_n (q := 3) (i := 3) (by decide +kernel) rfl rfl ?_
      refine g_bipush (n := 20) (v := 20) (by decide +kernel) (by decide) ?_
      refine g_icmp_gt (off := 66) (tgt := 100) (by decide +kernel) (by decide) (fun c => ?_) (fun c => ?_)
      · replace h := h.1 c
        refine g_iconst (n := (-1)) (v := (-1)) (by decide +kernel) (by decide) ?_
        exact g_iret (by decide +kernel) rfl ⟨_, rfl, h⟩
      · replace h := h.2 c
        refine g_aload_n (q := 0) (i := 0) (by decide +kernel) rfl rfl ?_
        refine g_get (C := "ThreePoints") (T := xT_Main) (N := 9) (ci := 0) (k := 7) (v := vr 19 0) (by decide +kernel) (by decide) rfl rfl xi_Main (by decide) kw_589 rfl ?_
        refine g_get (C := "ThreePoints$Ride") (T := xT_Ride) (N := 4) (ci := 8) (k := 0) (v := vr 2 2) (by decide +kernel) (by decide) rfl rfl xi_Ride (by decide) kw_261 rfl ?_
        refine g_iload_n (q := 3) (i := 3) (by decide +kernel) rfl rfl ?_
        refine g_put (C := "ThreePoints$Lane") (T := xT_Lane) (N := 3) (ci := 2) (k := 1) xy_Lane (by decide +kernel) (by decide) rfl rfl xi_Lane xy_Lane_ok xn_Lane (by decide) kw_109 rfl (by decide +kernel) (fun _ => rfl) ?_
        refine g_aload_n (q := 0) (i := 0) (by decide +kernel) rfl rfl ?_
        refine g_get (C := "ThreePoints") (T := xT_Main) (N := 9) (ci := 0) (k := 8) (v := vr 21 0) (by decide +kernel) (by decide) rfl rfl xi_Main (by decide) kw_590 rfl ?_
        refine g_aload_n (q := 0) (i := 0) (by decide +kernel) rfl rfl ?_
        refine g_get (C := "ThreePoints") (T := xT_Main) (N := 9) (ci := 0) (k := 7) (v := vr 19 0) (by decide +kernel) (by decide) rfl rfl xi_Main (by decide) kw_589 rfl ?_
        refine g_aload_n (q := 0) (i := 0) (by decide +kernel) rfl rfl ?_
        refine g_get (C := "ThreePoints") (T := xT_Main) (N := 9) (ci := 0) (k := 7) (v := vr 19 0) (by decide +kernel) (by decide) rfl rfl xi_Main (by decide) kw_589 rfl ?_
        refine g_get (C := "ThreePoints$Ride") (T := xT_Ride) (N := 4) (ci := 8) (k := 1) (v := vr 3 8) (by decide +kernel) (by decide) rfl rfl xi_Ride (by decide) kw_264 rfl ?_
        refine g_heap (fun H9 eH9 => ?_)
        replace h := h H9 eH9
        refine g_get (C := "ThreePoints$Vehicle") (T := xT_Vehicle) (N := 7) (ci := 3) (k := 3) (v := vi (H9 3 8 3)) (by decide +kernel) (by decide) rfl rfl xi_Vehicle (by decide) kw_139 rfl ?_
        refine g_callS (vs := [vi (H9 3 8 3)]) (st := [vr 19 0, vr 21 0]) (by decide +kernel) xm_Main_otherHeading kw_773 kw_774 rfl rfl (Nat.le_of_ble_eq_true rfl) (Nat.le_of_ble_eq_true rfl) h (fun vH10 H10 hq => ?_)
        obtain ⟨r11, rfl, h⟩ := hq
        refine g_iconst (n := 0) (v := 0) (by decide +kernel) (by decide) ?_
        refine g_callV (kd := 21) (ix := 0) (ci := 9) (N := 8) (T := xT_Search) (vs := [vr 19 0, vi r11, vi 0]) (st := []) (by decide +kernel) xm_Search_toHeading kw_776 kw_777 kw_778 (by decide) rfl rfl rfl rfl (Nat.le_of_ble_eq_true rfl) (Nat.le_of_ble_eq_true rfl) h (fun vH12 H12 hq => ?_)
        replace h := hq
        refine g_aload_n (q := 0) (i := 0) (by decide +kernel) rfl rfl ?_
        refine g_get (C := "ThreePoints") (T := xT_Main) (N := 9) (ci := 0) (k := 8) (v := vr 21 0) (by decide +kernel) (by decide) rfl rfl xi_Main (by decide) kw_590 rfl ?_
        refine g_aload_n (q := 0) (i := 0) (by decide +kernel) rfl rfl ?_
        refine g_get (C := "ThreePoints") (T := xT_Main) (N := 9) (ci := 0) (k := 7) (v := vr 19 0) (by decide +kernel) (by decide) rfl rfl xi_Main (by decide) kw_589 rfl ?_
        refine g_callV (kd := 21) (ix := 0) (ci := 9) (N := 8) (T := xT_Search) (vs := [vr 19 0]) (st := []) (by decide +kernel) xm_Search_leastFromNow kw_804 kw_805 kw_806 (by decide) rfl rfl rfl rfl (Nat.le_of_ble_eq_true rfl) (Nat.le_of_ble_eq_true rfl) h (fun vH13 H13 hq => ?_)
        obtain ⟨r14, rfl, h⟩ := hq
        refine g_iconst (n := 0) (v := 0) (by decide +kernel) (by decide) ?_
        refine g_iload_n (q := 2) (i := 2) (by decide +kernel) rfl rfl ?_
        refine g_callS (vs := [vi r14, vi 0, vi x2]) (st := []) (by decide +kernel) xm_Main_isWithin kw_619 kw_620 rfl rfl (Nat.le_of_ble_eq_true rfl) (Nat.le_of_ble_eq_true rfl) h (fun vH15 H15 hq => ?_)
        obtain ⟨r16, rfl, h⟩ := hq
        refine g_if_eq (off := 5) (tgt := 94) (by decide +kernel) (by decide) (fun c => ?_) (fun c => ?_)
        · replace h := h.1 c
          refine g_iinc (i := 3) (n := 1) (v := (z7 + 1)) (ls2 := [some (vr 0 0), none, some (vi x2), some (vi (z7 + 1))]) (by decide +kernel) rfl rfl (by decide) rfl rfl ?_
          refine g_goto (off := (-66)) (tgt := 31) (by decide +kernel) (by decide) ?_
          obtain ⟨hI, hlt⟩ := h
          exact g_drop (ls2 := [some (vr 0 0), none, some (vi x2), some (vi (z7 + 1))]) (And.intro rfl (And.intro rfl (And.intro rfl trivial))) (ih6 (z7 + 1) H15 hI hlt)
        · replace h := h.2 c
          refine g_iload_n (q := 3) (i := 3) (by decide +kernel) rfl rfl ?_
          exact g_iret (by decide +kernel) rfl ⟨_, rfl, h⟩
    · replace h := h.2 c
      refine g_bipush (n := (-7)) (v := (-7)) (by decide +kernel) (by decide) ?_
      exact g_iret (by decide +kernel) rfl ⟨_, rfl, h⟩
  · replace h := h.2 c
    refine g_bipush (n := (-5)) (v := (-5)) (by decide +kernel) (by decide) ?_
    exact g_iret (by decide +kernel) rfl ⟨_, rfl, h⟩
def p_Main_headings (E : XE) (d : Nat) (x1 : Int32) (H : HH) (Q : Int32 → HH → Prop) : Prop := c_Main_isVehicle E d x1 H (fun r2 H1 => (¬ r2 = 0 → (c_Main_think E d x1 H1 (fun H3 => c_Search_headingsReached E d  H3 (fun r5 H4 => Q r5 H4)))) ∧ (r2 = 0 → (Q (-5) H1)))
set_option maxHeartbeats 4000000 in
theorem l_Main_headings {E : XE} {d : Nat} {x1 : Int32} {H : HH} {Q : Int32 → HH → Prop} (h : p_Main_headings E d x1 H Q) : c_Main_headings E (d + 1) x1 H Q := by
  show g_Main_headings E (d + 1) 0 (xent [vr 0 0, vi x1]) [] H (qi Q)
  refine g_drop (ls2 := [some (vr 0 0), some (vi x1)]) (And.intro rfl (And.intro rfl trivial)) ?_
  refine g_aload_n (q := 0) (i := 0) (by decide +kernel) rfl rfl ?_
  refine g_iload_n (q := 1) (i := 1) (by decide +kernel) rfl rfl ?_
  refine g_callV (kd := 0) (ix := 0) (ci := 0) (N := 9) (T := xT_Main) (vs := [vi x1]) (st := []) (by decide +kernel) xm_Main_isVehicle kw_630 kw_632 kw_18 (by decide) rfl rfl rfl rfl (Nat.le_of_ble_eq_true rfl) (Nat.le_of_ble_eq_true rfl) h (fun vH1 H1 hq => ?_)
  obtain ⟨r2, rfl, h⟩ := hq
  refine g_if_ne (off := 6) (tgt := 11) (by decide +kernel) (by decide) (fun c => ?_) (fun c => ?_)
  · replace h := h.1 c
    refine g_aload_n (q := 0) (i := 0) (by decide +kernel) rfl rfl ?_
    refine g_iload_n (q := 1) (i := 1) (by decide +kernel) rfl rfl ?_
    refine g_callV (kd := 0) (ix := 0) (ci := 0) (N := 9) (T := xT_Main) (vs := [vi x1]) (st := []) (by decide +kernel) xm_Main_think kw_622 kw_624 kw_17 (by decide) rfl rfl rfl rfl (Nat.le_of_ble_eq_true rfl) (Nat.le_of_ble_eq_true rfl) h (fun vH3 H3 hq => ?_)
    replace h := hq
    refine g_aload_n (q := 0) (i := 0) (by decide +kernel) rfl rfl ?_
    refine g_get (C := "ThreePoints") (T := xT_Main) (N := 9) (ci := 0) (k := 8) (v := vr 21 0) (by decide +kernel) (by decide) rfl rfl xi_Main (by decide) kw_590 rfl ?_
    refine g_aload_n (q := 0) (i := 0) (by decide +kernel) rfl rfl ?_
    refine g_get (C := "ThreePoints") (T := xT_Main) (N := 9) (ci := 0) (k := 7) (v := vr 19 0) (by decide +kernel) (by decide) rfl rfl xi_Main (by decide) kw_589 rfl ?_
    refine g_callV (kd := 21) (ix := 0) (ci := 9) (N := 8) (T := xT_Search) (vs := [vr 19 0]) (st := []) (by decide +kernel) xm_Search_headingsReached kw_830 kw_831 kw_832 (by decide) rfl rfl rfl rfl (Nat.le_of_ble_eq_true rfl) (Nat.le_of_ble_eq_true rfl) h (fun vH4 H4 hq => ?_)
    obtain ⟨r5, rfl, h⟩ := hq
    exact g_iret (by decide +kernel) rfl ⟨_, rfl, h⟩
  · replace h := h.2 c
    refine g_bipush (n := (-5)) (v := (-5)) (by decide +kernel) (by decide) ?_
    exact g_iret (by decide +kernel) rfl ⟨_, rfl, h⟩
def p_Main_best (E : XE) (d : Nat) (x1 : Int32) (H : HH) (Q : Int32 → HH → Prop) : Prop := c_Main_isWithin E d x1 0 1 H (fun r2 H1 => (¬ r2 = 0 → (∃ (I3 : Int32 → Int32 → Int32 → HH → Prop) (μ3 : Int32 → Int32 → Int32 → HH → Nat), I3 (-1) (-1) 0 H1 ∧ ∀ (z4 : Int32) (z5 : Int32) (z6 : Int32) (H7 : HH), I3 z4 z5 z6 H7 → (((H7 1 0 2) ≤ z6 → (Q (if x1 = 0 then z4 else z5 : Int32) H7)) ∧ (¬ (H7 1 0 2) ≤ z6 → (c_Main_think E d z6 H7 (fun H9 => c_Main_otherHeading E d (H9 3 8 3) H9 (fun r11 H10 => c_Search_toHeading E d r11 0 H10 (fun H12 => c_Search_leastFromNow E d  H12 (fun r14 H13 => (r14 = (-1) → (I3 z4 z5 (z6 + 1) H13 ∧ μ3 z4 z5 (z6 + 1) H13 < μ3 z4 z5 z6 H7)) ∧ (¬ r14 = (-1) → ((z5 = (-1) → (I3 z6 r14 (z6 + 1) H13 ∧ μ3 z6 r14 (z6 + 1) H13 < μ3 z4 z5 z6 H7)) ∧ (¬ z5 = (-1) → ((z5 ≤ r14 → (I3 z4 z5 (z6 + 1) H13 ∧ μ3 z4 z5 (z6 + 1) H13 < μ3 z4 z5 z6 H7)) ∧ (¬ z5 ≤ r14 → (I3 z6 r14 (z6 + 1) H13 ∧ μ3 z6 r14 (z6 + 1) H13 < μ3 z4 z5 z6 H7))))))))))))))) ∧ (r2 = 0 → (Q (-2) H1)))
set_option maxHeartbeats 4000000 in
theorem l_Main_best {E : XE} {d : Nat} {x1 : Int32} {H : HH} {Q : Int32 → HH → Prop} (h : p_Main_best E d x1 H Q) : c_Main_best E (d + 1) x1 H Q := by
  show g_Main_best E (d + 1) 0 (xent [vr 0 0, vi x1]) [] H (qi Q)
  refine g_drop (ls2 := [some (vr 0 0), some (vi x1), none, none, none, none]) (And.intro rfl (And.intro rfl trivial)) ?_
  refine g_iload_n (q := 1) (i := 1) (by decide +kernel) rfl rfl ?_
  refine g_iconst (n := 0) (v := 0) (by decide +kernel) (by decide) ?_
  refine g_iconst (n := 1) (v := 1) (by decide +kernel) (by decide) ?_
  refine g_callS (vs := [vi x1, vi 0, vi 1]) (st := []) (by decide +kernel) xm_Main_isWithin kw_619 kw_620 rfl rfl (Nat.le_of_ble_eq_true rfl) (Nat.le_of_ble_eq_true rfl) h (fun vH1 H1 hq => ?_)
  obtain ⟨r2, rfl, h⟩ := hq
  refine g_if_ne (off := 6) (tgt := 12) (by decide +kernel) (by decide) (fun c => ?_) (fun c => ?_)
  · replace h := h.1 c
    refine g_iconst (n := (-1)) (v := (-1)) (by decide +kernel) (by decide) ?_
    refine g_istore_n (q := 2) (i := 2) (ls2 := [some (vr 0 0), some (vi x1), some (vi (-1)), none, none, none]) (by decide +kernel) rfl (by decide) rfl rfl ?_
    refine g_iconst (n := (-1)) (v := (-1)) (by decide +kernel) (by decide) ?_
    refine g_istore_n (q := 3) (i := 3) (ls2 := [some (vr 0 0), some (vi x1), some (vi (-1)), some (vi (-1)), none, none]) (by decide +kernel) rfl (by decide) rfl rfl ?_
    refine g_iconst (n := 0) (v := 0) (by decide +kernel) (by decide) ?_
    refine g_istore (i := 4) (ls2 := [some (vr 0 0), some (vi x1), some (vi (-1)), some (vi (-1)), some (vi 0), none]) (by decide +kernel) (by decide) rfl rfl ?_
    refine g_drop (ls2 := [some (vr 0 0), some (vi x1), some (vi (-1)), some (vi (-1)), some (vi 0), none]) (And.intro rfl (And.intro rfl (And.intro rfl (And.intro rfl (And.intro rfl trivial))))) ?_
    obtain ⟨I3, μ3, h0, h⟩ := h
    refine xloop (σ := Int32 × Int32 × Int32) (fun s H => I3 s.1 s.2.1 s.2.2 H) (fun s H => μ3 s.1 s.2.1 s.2.2 H) (fun s H => g_Main_best E (d + 1) 19 [some (vr 0 0), some (vi x1), some (vi s.1), some (vi s.2.1), some (vi s.2.2), none] [] H (qi Q)) (fun s H7 hI ih3 => ?_) ((-1), (-1), 0) H1 h0
    obtain ⟨z4, z5, z6⟩ := s
    replace h := h z4 z5 z6 H7 hI
    refine g_iload (i := 4) (by decide +kernel) rfl ?_
    refine g_aload_n (q := 0) (i := 0) (by decide +kernel) rfl rfl ?_
    refine g_get (C := "ThreePoints") (T := xT_Main) (N := 9) (ci := 0) (k := 0) (v := vr 1 0) (by decide +kernel) (by decide) rfl rfl xi_Main (by decide) kw_582 rfl ?_
    refine g_get (C := "ThreePoints$Yard") (T := xT_Yard) (N := 3) (ci := 1) (k := 2) (v := vi (H7 1 0 2)) (by decide +kernel) (by decide) rfl rfl xi_Yard (by decide) kw_167 rfl ?_
    refine g_icmp_ge (off := 76) (tgt := 104) (by decide +kernel) (by decide) (fun c => ?_) (fun c => ?_)
    · replace h := h.1 c
      refine g_iload_n (q := 1) (i := 1) (by decide +kernel) rfl rfl ?_
      suffices hj8 : g_Main_best E (d + 1) 113 [some (vr 0 0), some (vi x1), some (vi z4), some (vi z5), some (vi z6), none] [vi (if x1 = 0 then z4 else z5 : Int32)] H7 (qi Q) by
        refine g_if_ne (off := 7) (tgt := 112) (by decide +kernel) (by decide) (fun c => ?_) (fun c => ?_)
        · rw [if_neg c] at hj8
          refine g_iload_n (q := 3) (i := 3) (by decide +kernel) rfl rfl ?_
          exact hj8
        · rw [if_pos c] at hj8
          refine g_iload_n (q := 2) (i := 2) (by decide +kernel) rfl rfl ?_
          refine g_goto (off := 4) (tgt := 113) (by decide +kernel) (by decide) ?_
          exact hj8
      exact g_iret (by decide +kernel) rfl ⟨_, rfl, h⟩
    · replace h := h.2 c
      refine g_aload_n (q := 0) (i := 0) (by decide +kernel) rfl rfl ?_
      refine g_iload (i := 4) (by decide +kernel) rfl ?_
      refine g_callV (kd := 0) (ix := 0) (ci := 0) (N := 9) (T := xT_Main) (vs := [vi z6]) (st := []) (by decide +kernel) xm_Main_think kw_622 kw_624 kw_17 (by decide) rfl rfl rfl rfl (Nat.le_of_ble_eq_true rfl) (Nat.le_of_ble_eq_true rfl) h (fun vH9 H9 hq => ?_)
      replace h := hq
      refine g_aload_n (q := 0) (i := 0) (by decide +kernel) rfl rfl ?_
      refine g_get (C := "ThreePoints") (T := xT_Main) (N := 9) (ci := 0) (k := 8) (v := vr 21 0) (by decide +kernel) (by decide) rfl rfl xi_Main (by decide) kw_590 rfl ?_
      refine g_aload_n (q := 0) (i := 0) (by decide +kernel) rfl rfl ?_
      refine g_get (C := "ThreePoints") (T := xT_Main) (N := 9) (ci := 0) (k := 7) (v := vr 19 0) (by decide +kernel) (by decide) rfl rfl xi_Main (by decide) kw_589 rfl ?_
      refine g_aload_n (q := 0) (i := 0) (by decide +kernel) rfl rfl ?_
      refine g_get (C := "ThreePoints") (T := xT_Main) (N := 9) (ci := 0) (k := 7) (v := vr 19 0) (by decide +kernel) (by decide) rfl rfl xi_Main (by decide) kw_589 rfl ?_
      refine g_get (C := "ThreePoints$Ride") (T := xT_Ride) (N := 4) (ci := 8) (k := 1) (v := vr 3 8) (by decide +kernel) (by decide) rfl rfl xi_Ride (by decide) kw_264 rfl ?_
      refine g_get (C := "ThreePoints$Vehicle") (T := xT_Vehicle) (N := 7) (ci := 3) (k := 3) (v := vi (H9 3 8 3)) (by decide +kernel) (by decide) rfl rfl xi_Vehicle (by decide) kw_139 rfl ?_
      refine g_callS (vs := [vi (H9 3 8 3)]) (st := [vr 19 0, vr 21 0]) (by decide +kernel) xm_Main_otherHeading kw_773 kw_774 rfl rfl (Nat.le_of_ble_eq_true rfl) (Nat.le_of_ble_eq_true rfl) h (fun vH10 H10 hq => ?_)
      obtain ⟨r11, rfl, h⟩ := hq
      refine g_iconst (n := 0) (v := 0) (by decide +kernel) (by decide) ?_
      refine g_callV (kd := 21) (ix := 0) (ci := 9) (N := 8) (T := xT_Search) (vs := [vr 19 0, vi r11, vi 0]) (st := []) (by decide +kernel) xm_Search_toHeading kw_776 kw_777 kw_778 (by decide) rfl rfl rfl rfl (Nat.le_of_ble_eq_true rfl) (Nat.le_of_ble_eq_true rfl) h (fun vH12 H12 hq => ?_)
      replace h := hq
      refine g_aload_n (q := 0) (i := 0) (by decide +kernel) rfl rfl ?_
      refine g_get (C := "ThreePoints") (T := xT_Main) (N := 9) (ci := 0) (k := 8) (v := vr 21 0) (by decide +kernel) (by decide) rfl rfl xi_Main (by decide) kw_590 rfl ?_
      refine g_aload_n (q := 0) (i := 0) (by decide +kernel) rfl rfl ?_
      refine g_get (C := "ThreePoints") (T := xT_Main) (N := 9) (ci := 0) (k := 7) (v := vr 19 0) (by decide +kernel) (by decide) rfl rfl xi_Main (by decide) kw_589 rfl ?_
      refine g_callV (kd := 21) (ix := 0) (ci := 9) (N := 8) (T := xT_Search) (vs := [vr 19 0]) (st := []) (by decide +kernel) xm_Search_leastFromNow kw_804 kw_805 kw_806 (by decide) rfl rfl rfl rfl (Nat.le_of_ble_eq_true rfl) (Nat.le_of_ble_eq_true rfl) h (fun vH13 H13 hq => ?_)
      obtain ⟨r14, rfl, h⟩ := hq
      refine g_istore (i := 5) (ls2 := [some (vr 0 0), some (vi x1), some (vi z4), some (vi z5), some (vi z6), some (vi r14)]) (by decide +kernel) (by decide) rfl rfl ?_
      refine g_iload (i := 5) (by decide +kernel) rfl ?_
      refine g_iconst (n := (-1)) (v := (-1)) (by decide +kernel) (by decide) ?_
      refine g_icmp_eq (off := 20) (tgt := 98) (by decide +kernel) (by decide) (fun c => ?_) (fun c => ?_)
      · replace h := h.1 c
        refine g_iinc (i := 4) (n := 1) (v := (z6 + 1)) (ls2 := [some (vr 0 0), some (vi x1), some (vi z4), some (vi z5), some (vi (z6 + 1)), some (vi r14)]) (by decide +kernel) rfl rfl (by decide) rfl rfl ?_
        refine g_goto (off := (-82)) (tgt := 19) (by decide +kernel) (by decide) ?_
        obtain ⟨hI, hlt⟩ := h
        exact g_drop (ls2 := [some (vr 0 0), some (vi x1), some (vi z4), some (vi z5), some (vi (z6 + 1)), none]) (And.intro rfl (And.intro rfl (And.intro rfl (And.intro rfl (And.intro rfl trivial))))) (ih3 (z4, z5, (z6 + 1)) H13 hI hlt)
      · replace h := h.2 c
        refine g_iload_n (q := 3) (i := 3) (by decide +kernel) rfl rfl ?_
        refine g_iconst (n := (-1)) (v := (-1)) (by decide +kernel) (by decide) ?_
        refine g_icmp_eq (off := 9) (tgt := 92) (by decide +kernel) (by decide) (fun c => ?_) (fun c => ?_)
        · replace h := h.1 c
          refine g_iload (i := 5) (by decide +kernel) rfl ?_
          refine g_istore_n (q := 3) (i := 3) (ls2 := [some (vr 0 0), some (vi x1), some (vi z4), some (vi r14), some (vi z6), some (vi r14)]) (by decide +kernel) rfl (by decide) rfl rfl ?_
          refine g_iload (i := 4) (by decide +kernel) rfl ?_
          refine g_istore_n (q := 2) (i := 2) (ls2 := [some (vr 0 0), some (vi x1), some (vi z6), some (vi r14), some (vi z6), some (vi r14)]) (by decide +kernel) rfl (by decide) rfl rfl ?_
          refine g_iinc (i := 4) (n := 1) (v := (z6 + 1)) (ls2 := [some (vr 0 0), some (vi x1), some (vi z6), some (vi r14), some (vi (z6 + 1)), some (vi r14)]) (by decide +kernel) rfl rfl (by decide) rfl rfl ?_
          refine g_goto (off := (-82)) (tgt := 19) (by decide +kernel) (by decide) ?_
          obtain ⟨hI, hlt⟩ := h
          exact g_drop (ls2 := [some (vr 0 0), some (vi x1), some (vi z6), some (vi r14), some (vi (z6 + 1)), none]) (And.intro rfl (And.intro rfl (And.intro rfl (And.intro rfl (And.intro rfl trivial))))) (ih3 (z6, r14, (z6 + 1)) H13 hI hlt)
        · replace h := h.2 c
          refine g_iload (i := 5) (by decide +kernel) rfl ?_
          refine g_iload_n (q := 3) (i := 3) (by decide +kernel) rfl rfl ?_
          refine g_icmp_ge (off := 9) (tgt := 98) (by decide +kernel) (by decide) (fun c => ?_) (fun c => ?_)
          · replace h := h.1 c
            refine g_iinc (i := 4) (n := 1) (v := (z6 + 1)) (ls2 := [some (vr 0 0), some (vi x1), some (vi z4), some (vi z5), some (vi (z6 + 1)), some (vi r14)]) (by decide +kernel) rfl rfl (by decide) rfl rfl ?_
            refine g_goto (off := (-82)) (tgt := 19) (by decide +kernel) (by decide) ?_
            obtain ⟨hI, hlt⟩ := h
            exact g_drop (ls2 := [some (vr 0 0), some (vi x1), some (vi z4), some (vi z5), some (vi (z6 + 1)), none]) (And.intro rfl (And.intro rfl (And.intro rfl (And.intro rfl (And.intro rfl trivial))))) (ih3 (z4, z5, (z6 + 1)) H13 hI hlt)
          · replace h := h.2 c
            refine g_iload (i := 5) (by decide +kernel) rfl ?_
            refine g_istore_n (q := 3) (i := 3) (ls2 := [some (vr 0 0), some (vi x1), some (vi z4), some (vi r14), some (vi z6), some (vi r14)]) (by decide +kernel) rfl (by decide) rfl rfl ?_
            refine g_iload (i := 4) (by decide +kernel) rfl ?_
            refine g_istore_n (q := 2) (i := 2) (ls2 := [some (vr 0 0), some (vi x1), some (vi z6), some (vi r14), some (vi z6), some (vi r14)]) (by decide +kernel) rfl (by decide) rfl rfl ?_
            refine g_iinc (i := 4) (n := 1) (v := (z6 + 1)) (ls2 := [some (vr 0 0), some (vi x1), some (vi z6), some (vi r14), some (vi (z6 + 1)), some (vi r14)]) (by decide +kernel) rfl rfl (by decide) rfl rfl ?_
            refine g_goto (off := (-82)) (tgt := 19) (by decide +kernel) (by decide) ?_
            obtain ⟨hI, hlt⟩ := h
            exact g_drop (ls2 := [some (vr 0 0), some (vi x1), some (vi z6), some (vi r14), some (vi (z6 + 1)), none]) (And.intro rfl (And.intro rfl (And.intro rfl (And.intro rfl (And.intro rfl trivial))))) (ih3 (z6, r14, (z6 + 1)) H13 hI hlt)
  · replace h := h.2 c
    refine g_bipush (n := (-2)) (v := (-2)) (by decide +kernel) (by decide) ?_
    exact g_iret (by decide +kernel) rfl ⟨_, rfl, h⟩
def p_Main_refusalOfMoves (E : XE) (d : Nat) (x1 : Int32) (x2 : Int32) (H : HH) (Q : Int32 → HH → Prop) : Prop := c_Main_isSheet E d x1 H (fun r2 H1 => (¬ r2 = 0 → (vp_in x1 4 ∧ (c_Sheet_isMissing E d (x1.toNatClampNeg) H1 (fun r4 H3 => (r4 = 0 → (vp_in x1 4 ∧ (c_Sheet_tellsMoves E d (x1.toNatClampNeg) H3 (fun r6 H5 => (¬ r6 = 0 → (c_Main_isVehicle E d x2 H5 (fun r8 H7 => Q (if r8 = 0 then (-5) else 0 : Int32) H7))) ∧ (r6 = 0 → (Q (-2) H5)))))) ∧ (¬ r4 = 0 → (Q (-11) H3)))))) ∧ (r2 = 0 → (Q (-2) H1)))
set_option maxHeartbeats 4000000 in
theorem l_Main_refusalOfMoves {E : XE} {d : Nat} {x1 : Int32} {x2 : Int32} {H : HH} {Q : Int32 → HH → Prop} (h : p_Main_refusalOfMoves E d x1 x2 H Q) : c_Main_refusalOfMoves E (d + 1) x1 x2 H Q := by
  show g_Main_refusalOfMoves E (d + 1) 0 (xent [vr 0 0, vi x1, vi x2]) [] H (qi Q)
  refine g_drop (ls2 := [some (vr 0 0), some (vi x1), some (vi x2)]) (And.intro rfl (And.intro rfl (And.intro rfl trivial))) ?_
  refine g_iload_n (q := 1) (i := 1) (by decide +kernel) rfl rfl ?_
  refine g_callS (vs := [vi x1]) (st := []) (by decide +kernel) xm_Main_isSheet kw_850 kw_851 rfl rfl (Nat.le_of_ble_eq_true rfl) (Nat.le_of_ble_eq_true rfl) h (fun vH1 H1 hq => ?_)
  obtain ⟨r2, rfl, h⟩ := hq
  refine g_if_ne (off := 6) (tgt := 10) (by decide +kernel) (by decide) (fun c => ?_) (fun c => ?_)
  · replace h := h.1 c
    refine g_aload_n (q := 0) (i := 0) (by decide +kernel) rfl rfl ?_
    refine g_get (C := "ThreePoints") (T := xT_Main) (N := 9) (ci := 0) (k := 6) (v := vr 18 0) (by decide +kernel) (by decide) rfl rfl xi_Main (by decide) kw_588 rfl ?_
    refine g_iload_n (q := 1) (i := 1) (by decide +kernel) rfl rfl ?_
    obtain ⟨hin, h⟩ := h
    refine g_aald (v := vr 16 (x1.toNatClampNeg)) (by decide +kernel) (by decide) rfl (by decide) hin rfl ?_
    refine g_callV (kd := 16) (ix := (x1.toNatClampNeg)) (ci := 7) (N := 3) (T := xT_Sheet) (vs := []) (st := []) (by decide +kernel) xm_Sheet_isMissing kw_853 kw_854 kw_855 (by decide) rfl rfl rfl rfl (Nat.le_of_ble_eq_true rfl) (Nat.le_of_ble_eq_true rfl) h (fun vH3 H3 hq => ?_)
    obtain ⟨r4, rfl, h⟩ := hq
    refine g_if_eq (off := 6) (tgt := 25) (by decide +kernel) (by decide) (fun c => ?_) (fun c => ?_)
    · replace h := h.1 c
      refine g_aload_n (q := 0) (i := 0) (by decide +kernel) rfl rfl ?_
      refine g_get (C := "ThreePoints") (T := xT_Main) (N := 9) (ci := 0) (k := 6) (v := vr 18 0) (by decide +kernel) (by decide) rfl rfl xi_Main (by decide) kw_588 rfl ?_
      refine g_iload_n (q := 1) (i := 1) (by decide +kernel) rfl rfl ?_
      obtain ⟨hin, h⟩ := h
      refine g_aald (v := vr 16 (x1.toNatClampNeg)) (by decide +kernel) (by decide) rfl (by decide) hin rfl ?_
      refine g_callV (kd := 16) (ix := (x1.toNatClampNeg)) (ci := 7) (N := 3) (T := xT_Sheet) (vs := []) (st := []) (by decide +kernel) xm_Sheet_tellsMoves kw_857 kw_858 kw_859 (by decide) rfl rfl rfl rfl (Nat.le_of_ble_eq_true rfl) (Nat.le_of_ble_eq_true rfl) h (fun vH5 H5 hq => ?_)
      obtain ⟨r6, rfl, h⟩ := hq
      refine g_if_ne (off := 6) (tgt := 40) (by decide +kernel) (by decide) (fun c => ?_) (fun c => ?_)
      · replace h := h.1 c
        refine g_aload_n (q := 0) (i := 0) (by decide +kernel) rfl rfl ?_
        refine g_iload_n (q := 2) (i := 2) (by decide +kernel) rfl rfl ?_
        refine g_callV (kd := 0) (ix := 0) (ci := 0) (N := 9) (T := xT_Main) (vs := [vi x2]) (st := []) (by decide +kernel) xm_Main_isVehicle kw_630 kw_632 kw_18 (by decide) rfl rfl rfl rfl (Nat.le_of_ble_eq_true rfl) (Nat.le_of_ble_eq_true rfl) h (fun vH7 H7 hq => ?_)
        obtain ⟨r8, rfl, h⟩ := hq
        suffices hj9 : g_Main_refusalOfMoves E (d + 1) 54 [some (vr 0 0), some (vi x1), some (vi x2)] [vi (if r8 = 0 then (-5) else 0 : Int32)] H7 (qi Q) by
          refine g_if_eq (off := 7) (tgt := 52) (by decide +kernel) (by decide) (fun c => ?_) (fun c => ?_)
          · rw [if_pos c] at hj9
            refine g_bipush (n := (-5)) (v := (-5)) (by decide +kernel) (by decide) ?_
            exact hj9
          · rw [if_neg c] at hj9
            refine g_iconst (n := 0) (v := 0) (by decide +kernel) (by decide) ?_
            refine g_goto (off := 5) (tgt := 54) (by decide +kernel) (by decide) ?_
            exact hj9
        exact g_iret (by decide +kernel) rfl ⟨_, rfl, h⟩
      · replace h := h.2 c
        refine g_bipush (n := (-2)) (v := (-2)) (by decide +kernel) (by decide) ?_
        exact g_iret (by decide +kernel) rfl ⟨_, rfl, h⟩
    · replace h := h.2 c
      refine g_bipush (n := (-11)) (v := (-11)) (by decide +kernel) (by decide) ?_
      exact g_iret (by decide +kernel) rfl ⟨_, rfl, h⟩
  · replace h := h.2 c
    refine g_bipush (n := (-2)) (v := (-2)) (by decide +kernel) (by decide) ?_
    exact g_iret (by decide +kernel) rfl ⟨_, rfl, h⟩
def p_Main_judge (E : XE) (d : Nat) (x1 : Int32) (x2 : Int32) (H : HH) (Q : Int32 → HH → Prop) : Prop := c_Main_refusalOfMoves E d x1 x2 H (fun r2 H1 => (r2 = 0 → (c_Main_think E d x2 H1 (fun H3 => vp_in x1 4 ∧ (c_Ride_through E d (x1.toNatClampNeg) H3 (fun r5 H4 => Q r5 H4))))) ∧ (¬ r2 = 0 → (Q r2 H1)))
set_option maxHeartbeats 4000000 in
theorem l_Main_judge {E : XE} {d : Nat} {x1 : Int32} {x2 : Int32} {H : HH} {Q : Int32 → HH → Prop} (h : p_Main_judge E d x1 x2 H Q) : c_Main_judge E (d + 1) x1 x2 H Q := by
  show g_Main_judge E (d + 1) 0 (xent [vr 0 0, vi x1, vi x2]) [] H (qi Q)
  refine g_drop (ls2 := [some (vr 0 0), some (vi x1), some (vi x2), none]) (And.intro rfl (And.intro rfl (And.intro rfl trivial))) ?_
  refine g_aload_n (q := 0) (i := 0) (by decide +kernel) rfl rfl ?_
  refine g_iload_n (q := 1) (i := 1) (by decide +kernel) rfl rfl ?_
  refine g_iload_n (q := 2) (i := 2) (by decide +kernel) rfl rfl ?_
  refine g_callV (kd := 0) (ix := 0) (ci := 0) (N := 9) (T := xT_Main) (vs := [vi x1, vi x2]) (st := []) (by decide +kernel) xm_Main_refusalOfMoves kw_846 kw_848 kw_26 (by decide) rfl rfl rfl rfl (Nat.le_of_ble_eq_true rfl) (Nat.le_of_ble_eq_true rfl) h (fun vH1 H1 hq => ?_)
  obtain ⟨r2, rfl, h⟩ := hq
  refine g_istore_n (q := 3) (i := 3) (ls2 := [some (vr 0 0), some (vi x1), some (vi x2), some (vi r2)]) (by decide +kernel) rfl (by decide) rfl rfl ?_
  refine g_iload_n (q := 3) (i := 3) (by decide +kernel) rfl rfl ?_
  refine g_if_eq (off := 5) (tgt := 13) (by decide +kernel) (by decide) (fun c => ?_) (fun c => ?_)
  · replace h := h.1 c
    refine g_aload_n (q := 0) (i := 0) (by decide +kernel) rfl rfl ?_
    refine g_iload_n (q := 2) (i := 2) (by decide +kernel) rfl rfl ?_
    refine g_callV (kd := 0) (ix := 0) (ci := 0) (N := 9) (T := xT_Main) (vs := [vi x2]) (st := []) (by decide +kernel) xm_Main_think kw_622 kw_624 kw_17 (by decide) rfl rfl rfl rfl (Nat.le_of_ble_eq_true rfl) (Nat.le_of_ble_eq_true rfl) h (fun vH3 H3 hq => ?_)
    replace h := hq
    refine g_aload_n (q := 0) (i := 0) (by decide +kernel) rfl rfl ?_
    refine g_get (C := "ThreePoints") (T := xT_Main) (N := 9) (ci := 0) (k := 7) (v := vr 19 0) (by decide +kernel) (by decide) rfl rfl xi_Main (by decide) kw_589 rfl ?_
    refine g_aload_n (q := 0) (i := 0) (by decide +kernel) rfl rfl ?_
    refine g_get (C := "ThreePoints") (T := xT_Main) (N := 9) (ci := 0) (k := 6) (v := vr 18 0) (by decide +kernel) (by decide) rfl rfl xi_Main (by decide) kw_588 rfl ?_
    refine g_iload_n (q := 1) (i := 1) (by decide +kernel) rfl rfl ?_
    obtain ⟨hin, h⟩ := h
    refine g_aald (v := vr 16 (x1.toNatClampNeg)) (by decide +kernel) (by decide) rfl (by decide) hin rfl ?_
    refine g_callV (kd := 19) (ix := 0) (ci := 8) (N := 4) (T := xT_Ride) (vs := [vr 16 (x1.toNatClampNeg)]) (st := []) (by decide +kernel) xm_Ride_through kw_862 kw_863 kw_864 (by decide) rfl rfl rfl rfl (Nat.le_of_ble_eq_true rfl) (Nat.le_of_ble_eq_true rfl) h (fun vH4 H4 hq => ?_)
    obtain ⟨r5, rfl, h⟩ := hq
    exact g_iret (by decide +kernel) rfl ⟨_, rfl, h⟩
  · replace h := h.2 c
    refine g_iload_n (q := 3) (i := 3) (by decide +kernel) rfl rfl ?_
    exact g_iret (by decide +kernel) rfl ⟨_, rfl, h⟩
def p_Main_ends (E : XE) (d : Nat) (x1 : Int32) (x2 : Int32) (x3 : Int32) (H : HH) (Q : Int32 → HH → Prop) : Prop := c_Main_refusalOfMoves E d x1 x2 H (fun r2 H1 => (r2 = 0 → (c_Main_think E d x2 H1 (fun H3 => vp_in x1 4 ∧ (c_Ride_through E d (x1.toNatClampNeg) H3 (fun r5 H4 => (x3 = 0 → (Q (H4 3 8 2) H4)) ∧ (x3 = 1 → (Q (H4 3 8 3) H4)) ∧ (x3 = 2 → (Q (H4 3 8 4) H4)) ∧ (x3 = 3 → (Q (H4 3 8 5) H4)) ∧ (¬ x3 = 0 → ¬ x3 = 1 → ¬ x3 = 2 → ¬ x3 = 3 → (Q (-7) H4))))))) ∧ (¬ r2 = 0 → (Q r2 H1)))
set_option maxHeartbeats 4000000 in
theorem l_Main_ends {E : XE} {d : Nat} {x1 : Int32} {x2 : Int32} {x3 : Int32} {H : HH} {Q : Int32 → HH → Prop} (h : p_Main_ends E d x1 x2 x3 H Q) : c_Main_ends E (d + 1) x1 x2 x3 H Q := by
  show g_Main_ends E (d + 1) 0 (xent [vr 0 0, vi x1, vi x2, vi x3]) [] H (qi Q)
  refine g_drop (ls2 := [some (vr 0 0), some (vi x1), some (vi x2), some (vi x3), none]) (And.intro rfl (And.intro rfl (And.intro rfl (And.intro rfl trivial)))) ?_
  refine g_aload_n (q := 0) (i := 0) (by decide +kernel) rfl rfl ?_
  refine g_iload_n (q := 1) (i := 1) (by decide +kernel) rfl rfl ?_
  refine g_iload_n (q := 2) (i := 2) (by decide +kernel) rfl rfl ?_
  refine g_callV (kd := 0) (ix := 0) (ci := 0) (N := 9) (T := xT_Main) (vs := [vi x1, vi x2]) (st := []) (by decide +kernel) xm_Main_refusalOfMoves kw_846 kw_848 kw_26 (by decide) rfl rfl rfl rfl (Nat.le_of_ble_eq_true rfl) (Nat.le_of_ble_eq_true rfl) h (fun vH1 H1 hq => ?_)
  obtain ⟨r2, rfl, h⟩ := hq
  refine g_istore (i := 4) (ls2 := [some (vr 0 0), some (vi x1), some (vi x2), some (vi x3), some (vi r2)]) (by decide +kernel) (by decide) rfl rfl ?_
  refine g_iload (i := 4) (by decide +kernel) rfl ?_
  refine g_if_eq (off := 6) (tgt := 16) (by decide +kernel) (by decide) (fun c => ?_) (fun c => ?_)
  · replace h := h.1 c
    refine g_aload_n (q := 0) (i := 0) (by decide +kernel) rfl rfl ?_
    refine g_iload_n (q := 2) (i := 2) (by decide +kernel) rfl rfl ?_
    refine g_callV (kd := 0) (ix := 0) (ci := 0) (N := 9) (T := xT_Main) (vs := [vi x2]) (st := []) (by decide +kernel) xm_Main_think kw_622 kw_624 kw_17 (by decide) rfl rfl rfl rfl (Nat.le_of_ble_eq_true rfl) (Nat.le_of_ble_eq_true rfl) h (fun vH3 H3 hq => ?_)
    replace h := hq
    refine g_aload_n (q := 0) (i := 0) (by decide +kernel) rfl rfl ?_
    refine g_get (C := "ThreePoints") (T := xT_Main) (N := 9) (ci := 0) (k := 7) (v := vr 19 0) (by decide +kernel) (by decide) rfl rfl xi_Main (by decide) kw_589 rfl ?_
    refine g_aload_n (q := 0) (i := 0) (by decide +kernel) rfl rfl ?_
    refine g_get (C := "ThreePoints") (T := xT_Main) (N := 9) (ci := 0) (k := 6) (v := vr 18 0) (by decide +kernel) (by decide) rfl rfl xi_Main (by decide) kw_588 rfl ?_
    refine g_iload_n (q := 1) (i := 1) (by decide +kernel) rfl rfl ?_
    obtain ⟨hin, h⟩ := h
    refine g_aald (v := vr 16 (x1.toNatClampNeg)) (by decide +kernel) (by decide) rfl (by decide) hin rfl ?_
    refine g_callV (kd := 19) (ix := 0) (ci := 8) (N := 4) (T := xT_Ride) (vs := [vr 16 (x1.toNatClampNeg)]) (st := []) (by decide +kernel) xm_Ride_through kw_862 kw_863 kw_864 (by decide) rfl rfl rfl rfl (Nat.le_of_ble_eq_true rfl) (Nat.le_of_ble_eq_true rfl) h (fun vH4 H4 hq => ?_)
    obtain ⟨r5, rfl, h⟩ := hq
    refine g_pop (by decide +kernel) rfl ?_
    refine g_iload_n (q := 3) (i := 3) (by decide +kernel) rfl rfl ?_
    obtain ⟨hk, h⟩ := h
    by_cases e0 : x3 = 0
    · replace h := hk e0
      refine g_tableIn (dflt := 76) (lo := 0) (hi := 3) (offs := #[32, 43, 54, 65]) (len := 32) (tgt := 68) (by decide +kernel) (by rw [e0]; decide) (by rw [e0]; decide) (by rw [e0]; rfl) (by decide) ?_
      refine g_aload_n (q := 0) (i := 0) (by decide +kernel) rfl rfl ?_
      refine g_get (C := "ThreePoints") (T := xT_Main) (N := 9) (ci := 0) (k := 7) (v := vr 19 0) (by decide +kernel) (by decide) rfl rfl xi_Main (by decide) kw_589 rfl ?_
      refine g_get (C := "ThreePoints$Ride") (T := xT_Ride) (N := 4) (ci := 8) (k := 1) (v := vr 3 8) (by decide +kernel) (by decide) rfl rfl xi_Ride (by decide) kw_264 rfl ?_
      refine g_get (C := "ThreePoints$Vehicle") (T := xT_Vehicle) (N := 7) (ci := 3) (k := 2) (v := vi (H4 3 8 2)) (by decide +kernel) (by decide) rfl rfl xi_Vehicle (by decide) kw_135 rfl ?_
      exact g_iret (by decide +kernel) rfl ⟨_, rfl, h⟩
    clear hk
    obtain ⟨hk, h⟩ := h
    by_cases e1 : x3 = 1
    · replace h := hk e1
      refine g_tableIn (dflt := 76) (lo := 0) (hi := 3) (offs := #[32, 43, 54, 65]) (len := 32) (tgt := 79) (by decide +kernel) (by rw [e1]; decide) (by rw [e1]; decide) (by rw [e1]; rfl) (by decide) ?_
      refine g_aload_n (q := 0) (i := 0) (by decide +kernel) rfl rfl ?_
      refine g_get (C := "ThreePoints") (T := xT_Main) (N := 9) (ci := 0) (k := 7) (v := vr 19 0) (by decide +kernel) (by decide) rfl rfl xi_Main (by decide) kw_589 rfl ?_
      refine g_get (C := "ThreePoints$Ride") (T := xT_Ride) (N := 4) (ci := 8) (k := 1) (v := vr 3 8) (by decide +kernel) (by decide) rfl rfl xi_Ride (by decide) kw_264 rfl ?_
      refine g_get (C := "ThreePoints$Vehicle") (T := xT_Vehicle) (N := 7) (ci := 3) (k := 3) (v := vi (H4 3 8 3)) (by decide +kernel) (by decide) rfl rfl xi_Vehicle (by decide) kw_139 rfl ?_
      exact g_iret (by decide +kernel) rfl ⟨_, rfl, h⟩
    clear hk
    obtain ⟨hk, h⟩ := h
    by_cases e2 : x3 = 2
    · replace h := hk e2
      refine g_tableIn (dflt := 76) (lo := 0) (hi := 3) (offs := #[32, 43, 54, 65]) (len := 32) (tgt := 90) (by decide +kernel) (by rw [e2]; decide) (by rw [e2]; decide) (by rw [e2]; rfl) (by decide) ?_
      refine g_aload_n (q := 0) (i := 0) (by decide +kernel) rfl rfl ?_
      refine g_get (C := "ThreePoints") (T := xT_Main) (N := 9) (ci := 0) (k := 7) (v := vr 19 0) (by decide +kernel) (by decide) rfl rfl xi_Main (by decide) kw_589 rfl ?_
      refine g_get (C := "ThreePoints$Ride") (T := xT_Ride) (N := 4) (ci := 8) (k := 1) (v := vr 3 8) (by decide +kernel) (by decide) rfl rfl xi_Ride (by decide) kw_264 rfl ?_
      refine g_get (C := "ThreePoints$Vehicle") (T := xT_Vehicle) (N := 7) (ci := 3) (k := 4) (v := vi (H4 3 8 4)) (by decide +kernel) (by decide) rfl rfl xi_Vehicle (by decide) kw_141 rfl ?_
      exact g_iret (by decide +kernel) rfl ⟨_, rfl, h⟩
    clear hk
    obtain ⟨hk, h⟩ := h
    by_cases e3 : x3 = 3
    · replace h := hk e3
      refine g_tableIn (dflt := 76) (lo := 0) (hi := 3) (offs := #[32, 43, 54, 65]) (len := 32) (tgt := 101) (by decide +kernel) (by rw [e3]; decide) (by rw [e3]; decide) (by rw [e3]; rfl) (by decide) ?_
      refine g_aload_n (q := 0) (i := 0) (by decide +kernel) rfl rfl ?_
      refine g_get (C := "ThreePoints") (T := xT_Main) (N := 9) (ci := 0) (k := 7) (v := vr 19 0) (by decide +kernel) (by decide) rfl rfl xi_Main (by decide) kw_589 rfl ?_
      refine g_get (C := "ThreePoints$Ride") (T := xT_Ride) (N := 4) (ci := 8) (k := 1) (v := vr 3 8) (by decide +kernel) (by decide) rfl rfl xi_Ride (by decide) kw_264 rfl ?_
      refine g_get (C := "ThreePoints$Vehicle") (T := xT_Vehicle) (N := 7) (ci := 3) (k := 5) (v := vi (H4 3 8 5)) (by decide +kernel) (by decide) rfl rfl xi_Vehicle (by decide) kw_143 rfl ?_
      exact g_iret (by decide +kernel) rfl ⟨_, rfl, h⟩
    clear hk
    replace h := h e0 e1 e2 e3
    refine g_tableOut (dflt := 76) (lo := 0) (hi := 3) (offs := #[32, 43, 54, 65]) (len := 32) (tgt := 112) (by decide +kernel) (by have q0 := xsw (m := 0) (by decide) e0; have q1 := xsw (m := 1) (by decide) e1; have q2 := xsw (m := 2) (by decide) e2; have q3 := xsw (m := 3) (by decide) e3; omega) (by decide) ?_
    refine g_bipush (n := (-7)) (v := (-7)) (by decide +kernel) (by decide) ?_
    exact g_iret (by decide +kernel) rfl ⟨_, rfl, h⟩
  · replace h := h.2 c
    refine g_iload (i := 4) (by decide +kernel) rfl ?_
    exact g_iret (by decide +kernel) rfl ⟨_, rfl, h⟩
def p_Main_kinds (E : XE) (d : Nat) (x1 : Int32) (x2 : Int32) (x3 : Int32) (H : HH) (Q : Int32 → HH → Prop) : Prop := c_Main_refusalOfMoves E d x1 x2 H (fun r2 H1 => (r2 = 0 → (c_Main_isWithin E d x3 0 1 H1 (fun r4 H3 => (¬ r4 = 0 → (vp_in x2 4 ∧ (c_Main_otherHeading E d (H3 3 (4 * 0 + (x2.toNatClampNeg)) 3) H3 (fun r6 H5 => ∀ v8 : Int32, v8 = (if x3 = 0 then 6 else 10 : Int32) → (∃ (I9 : Int32 → Int32 → HH → Prop) (μ9 : Int32 → Int32 → HH → Nat), I9 0 0 H5 ∧ ∀ (z10 : Int32) (z11 : Int32) (H12 : HH), I9 z10 z11 H12 → ((v8 ≤ z11 → (Q z10 H12)) ∧ (¬ v8 ≤ z11 → (c_Main_think E d x2 H12 (fun H13 => ∃ J14 : HH → Prop, ((¬ x3 = 0 → (∀ H19 : HH, H19 = (hu H13 3 8 1 z11) → (J14  H19))) ∧ (x3 = 0 → (∀ H20 : HH, H20 = (hu H13 3 8 0 z11) → (J14  H20)))) ∧ ∀  (H15 : HH), J14  H15 → (vp_in x1 4 ∧ (c_Ride_through E d (x1.toNatClampNeg) H15 (fun r17 H16 => (¬ r17 = (-1) → (I9 z10 (z11 + 1) H16 ∧ μ9 z10 (z11 + 1) H16 < μ9 z10 z11 H12)) ∧ (r17 = (-1) → ((¬ (H16 3 8 3) = r6 → (I9 z10 (z11 + 1) H16 ∧ μ9 z10 (z11 + 1) H16 < μ9 z10 z11 H12)) ∧ ((H16 3 8 3) = r6 → (∀ v18 : Int32, v18 = (z10 ||| (1 <<< (z11 &&& 31))) → (I9 v18 (z11 + 1) H16 ∧ μ9 v18 (z11 + 1) H16 < μ9 z10 z11 H12))))))))))))))))) ∧ (r4 = 0 → (Q (-7) H3))))) ∧ (¬ r2 = 0 → (Q r2 H1)))
set_option maxHeartbeats 4000000 in
theorem l_Main_kinds {E : XE} {d : Nat} {x1 : Int32} {x2 : Int32} {x3 : Int32} {H : HH} {Q : Int32 → HH → Prop} (h : p_Main_kinds E d x1 x2 x3 H Q) : c_Main_kinds E (d + 1) x1 x2 x3 H Q := by
  show g_Main_kinds E (d + 1) 0 (xent [vr 0 0, vi x1, vi x2, vi x3]) [] H (qi Q)
  refine g_drop (ls2 := [some (vr 0 0), some (vi x1), some (vi x2), some (vi x3), none, none, none, none, none]) (And.intro rfl (And.intro rfl (And.intro rfl (And.intro rfl trivial)))) ?_
  refine g_aload_n (q := 0) (i := 0) (by decide +kernel) rfl rfl ?_
  refine g_iload_n (q := 1) (i := 1) (by decide +kernel) rfl rfl ?_
  refine g_iload_n (q := 2) (i := 2) (by decide +kernel) rfl rfl ?_
  refine g_callV (kd := 0) (ix := 0) (ci := 0) (N := 9) (T := xT_Main) (vs := [vi x1, vi x2]) (st := []) (by decide +kernel) xm_Main_refusalOfMoves kw_846 kw_848 kw_26 (by decide) rfl rfl rfl rfl (Nat.le_of_ble_eq_true rfl) (Nat.le_of_ble_eq_true rfl) h (fun vH1 H1 hq => ?_)
  obtain ⟨r2, rfl, h⟩ := hq
  refine g_istore (i := 4) (ls2 := [some (vr 0 0), some (vi x1), some (vi x2), some (vi x3), some (vi r2), none, none, none, none]) (by decide +kernel) (by decide) rfl rfl ?_
  refine g_iload (i := 4) (by decide +kernel) rfl ?_
  refine g_if_eq (off := 6) (tgt := 16) (by decide +kernel) (by decide) (fun c => ?_) (fun c => ?_)
  · replace h := h.1 c
    refine g_iload_n (q := 3) (i := 3) (by decide +kernel) rfl rfl ?_
    refine g_iconst (n := 0) (v := 0) (by decide +kernel) (by decide) ?_
    refine g_iconst (n := 1) (v := 1) (by decide +kernel) (by decide) ?_
    refine g_callS (vs := [vi x3, vi 0, vi 1]) (st := []) (by decide +kernel) xm_Main_isWithin kw_619 kw_620 rfl rfl (Nat.le_of_ble_eq_true rfl) (Nat.le_of_ble_eq_true rfl) h (fun vH3 H3 hq => ?_)
    obtain ⟨r4, rfl, h⟩ := hq
    refine g_if_ne (off := 6) (tgt := 28) (by decide +kernel) (by decide) (fun c => ?_) (fun c => ?_)
    · replace h := h.1 c
      refine g_aload_n (q := 0) (i := 0) (by decide +kernel) rfl rfl ?_
      refine g_get (C := "ThreePoints") (T := xT_Main) (N := 9) (ci := 0) (k := 0) (v := vr 1 0) (by decide +kernel) (by decide) rfl rfl xi_Main (by decide) kw_582 rfl ?_
      refine g_get (C := "ThreePoints$Yard") (T := xT_Yard) (N := 3) (ci := 1) (k := 1) (v := vr 4 0) (by decide +kernel) (by decide) rfl rfl xi_Yard (by decide) kw_165 rfl ?_
      refine g_iload_n (q := 2) (i := 2) (by decide +kernel) rfl rfl ?_
      obtain ⟨hin, h⟩ := h
      refine g_aald (v := vr 3 (4 * 0 + (x2.toNatClampNeg))) (by decide +kernel) (by decide) rfl (by decide) hin rfl ?_
      refine g_get (C := "ThreePoints$Vehicle") (T := xT_Vehicle) (N := 7) (ci := 3) (k := 3) (v := vi (H3 3 (4 * 0 + (x2.toNatClampNeg)) 3)) (by decide +kernel) (by decide) rfl rfl xi_Vehicle (by decide) kw_139 rfl ?_
      refine g_callS (vs := [vi (H3 3 (4 * 0 + (x2.toNatClampNeg)) 3)]) (st := []) (by decide +kernel) xm_Main_otherHeading kw_773 kw_774 rfl rfl (Nat.le_of_ble_eq_true rfl) (Nat.le_of_ble_eq_true rfl) h (fun vH5 H5 hq => ?_)
      obtain ⟨r6, rfl, h⟩ := hq
      refine g_istore (i := 5) (ls2 := [some (vr 0 0), some (vi x1), some (vi x2), some (vi x3), some (vi r2), some (vi r6), none, none, none]) (by decide +kernel) (by decide) rfl rfl ?_
      refine g_iload_n (q := 3) (i := 3) (by decide +kernel) rfl rfl ?_
      suffices hj7 : g_Main_kinds E (d + 1) 56 [some (vr 0 0), some (vi x1), some (vi x2), some (vi x3), some (vi r2), some (vi r6), none, none, none] [vi (if x3 = 0 then 6 else 10 : Int32)] H5 (qi Q) by
        refine g_if_ne (off := 8) (tgt := 54) (by decide +kernel) (by decide) (fun c => ?_) (fun c => ?_)
        · rw [if_neg c] at hj7
          refine g_bipush (n := 10) (v := 10) (by decide +kernel) (by decide) ?_
          exact hj7
        · rw [if_pos c] at hj7
          refine g_bipush (n := 6) (v := 6) (by decide +kernel) (by decide) ?_
          refine g_goto (off := 5) (tgt := 56) (by decide +kernel) (by decide) ?_
          exact hj7
      refine g_topi (fun v8 ev8 => ?_)
      replace h := h v8 ev8
      refine g_istore (i := 6) (ls2 := [some (vr 0 0), some (vi x1), some (vi x2), some (vi x3), some (vi r2), some (vi r6), some (vi v8), none, none]) (by decide +kernel) (by decide) rfl rfl ?_
      refine g_iconst (n := 0) (v := 0) (by decide +kernel) (by decide) ?_
      refine g_istore (i := 7) (ls2 := [some (vr 0 0), some (vi x1), some (vi x2), some (vi x3), some (vi r2), some (vi r6), some (vi v8), some (vi 0), none]) (by decide +kernel) (by decide) rfl rfl ?_
      refine g_iconst (n := 0) (v := 0) (by decide +kernel) (by decide) ?_
      refine g_istore (i := 8) (ls2 := [some (vr 0 0), some (vi x1), some (vi x2), some (vi x3), some (vi r2), some (vi r6), some (vi v8), some (vi 0), some (vi 0)]) (by decide +kernel) (by decide) rfl rfl ?_
      refine g_drop (ls2 := [some (vr 0 0), some (vi x1), some (vi x2), some (vi x3), none, some (vi r6), some (vi v8), some (vi 0), some (vi 0)]) (And.intro rfl (And.intro rfl (And.intro rfl (And.intro rfl (And.intro rfl (And.intro rfl (And.intro rfl (And.intro rfl trivial)))))))) ?_
      obtain ⟨I9, μ9, h0, h⟩ := h
      refine xloop (σ := Int32 × Int32) (fun s H => I9 s.1 s.2 H) (fun s H => μ9 s.1 s.2 H) (fun s H => g_Main_kinds E (d + 1) 64 [some (vr 0 0), some (vi x1), some (vi x2), some (vi x3), none, some (vi r6), some (vi v8), some (vi s.1), some (vi s.2)] [] H (qi Q)) (fun s H12 hI ih9 => ?_) (0, 0) H5 h0
      obtain ⟨z10, z11⟩ := s
      replace h := h z10 z11 H12 hI
      refine g_iload (i := 8) (by decide +kernel) rfl ?_
      refine g_iload (i := 6) (by decide +kernel) rfl ?_
      refine g_icmp_ge (off := 86) (tgt := 154) (by decide +kernel) (by decide) (fun c => ?_) (fun c => ?_)
      · replace h := h.1 c
        refine g_iload (i := 7) (by decide +kernel) rfl ?_
        exact g_iret (by decide +kernel) rfl ⟨_, rfl, h⟩
      · replace h := h.2 c
        refine g_aload_n (q := 0) (i := 0) (by decide +kernel) rfl rfl ?_
        refine g_iload_n (q := 2) (i := 2) (by decide +kernel) rfl rfl ?_
        refine g_callV (kd := 0) (ix := 0) (ci := 0) (N := 9) (T := xT_Main) (vs := [vi x2]) (st := []) (by decide +kernel) xm_Main_think kw_622 kw_624 kw_17 (by decide) rfl rfl rfl rfl (Nat.le_of_ble_eq_true rfl) (Nat.le_of_ble_eq_true rfl) h (fun vH13 H13 hq => ?_)
        replace h := hq
        refine g_iload_n (q := 3) (i := 3) (by decide +kernel) rfl rfl ?_
        obtain ⟨J14, h, hk14⟩ := h
        have hc14 : ∀  (H15 : HH), J14  H15 → g_Main_kinds E (d + 1) 107 [some (vr 0 0), some (vi x1), some (vi x2), some (vi x3), none, some (vi r6), some (vi v8), some (vi z10), some (vi z11)] [] H15 (qi Q) := by
          intro  H15 h
          replace h := hk14  H15 h
          refine g_aload_n (q := 0) (i := 0) (by decide +kernel) rfl rfl ?_
          refine g_get (C := "ThreePoints") (T := xT_Main) (N := 9) (ci := 0) (k := 7) (v := vr 19 0) (by decide +kernel) (by decide) rfl rfl xi_Main (by decide) kw_589 rfl ?_
          refine g_aload_n (q := 0) (i := 0) (by decide +kernel) rfl rfl ?_
          refine g_get (C := "ThreePoints") (T := xT_Main) (N := 9) (ci := 0) (k := 6) (v := vr 18 0) (by decide +kernel) (by decide) rfl rfl xi_Main (by decide) kw_588 rfl ?_
          refine g_iload_n (q := 1) (i := 1) (by decide +kernel) rfl rfl ?_
          obtain ⟨hin, h⟩ := h
          refine g_aald (v := vr 16 (x1.toNatClampNeg)) (by decide +kernel) (by decide) rfl (by decide) hin rfl ?_
          refine g_callV (kd := 19) (ix := 0) (ci := 8) (N := 4) (T := xT_Ride) (vs := [vr 16 (x1.toNatClampNeg)]) (st := []) (by decide +kernel) xm_Ride_through kw_862 kw_863 kw_864 (by decide) rfl rfl rfl rfl (Nat.le_of_ble_eq_true rfl) (Nat.le_of_ble_eq_true rfl) h (fun vH16 H16 hq => ?_)
          obtain ⟨r17, rfl, h⟩ := hq
          refine g_iconst (n := (-1)) (v := (-1)) (by decide +kernel) (by decide) ?_
          refine g_icmp_ne (off := 27) (tgt := 148) (by decide +kernel) (by decide) (fun c => ?_) (fun c => ?_)
          · replace h := h.1 c
            refine g_iinc (i := 8) (n := 1) (v := (z11 + 1)) (ls2 := [some (vr 0 0), some (vi x1), some (vi x2), some (vi x3), none, some (vi r6), some (vi v8), some (vi z10), some (vi (z11 + 1))]) (by decide +kernel) rfl rfl (by decide) rfl rfl ?_
            refine g_goto (off := (-87)) (tgt := 64) (by decide +kernel) (by decide) ?_
            obtain ⟨hI, hlt⟩ := h
            exact g_drop (ls2 := [some (vr 0 0), some (vi x1), some (vi x2), some (vi x3), none, some (vi r6), some (vi v8), some (vi z10), some (vi (z11 + 1))]) (And.intro rfl (And.intro rfl (And.intro rfl (And.intro rfl (And.intro rfl (And.intro rfl (And.intro rfl (And.intro rfl trivial)))))))) (ih9 (z10, (z11 + 1)) H16 hI hlt)
          · replace h := h.2 c
            refine g_aload_n (q := 0) (i := 0) (by decide +kernel) rfl rfl ?_
            refine g_get (C := "ThreePoints") (T := xT_Main) (N := 9) (ci := 0) (k := 7) (v := vr 19 0) (by decide +kernel) (by decide) rfl rfl xi_Main (by decide) kw_589 rfl ?_
            refine g_get (C := "ThreePoints$Ride") (T := xT_Ride) (N := 4) (ci := 8) (k := 1) (v := vr 3 8) (by decide +kernel) (by decide) rfl rfl xi_Ride (by decide) kw_264 rfl ?_
            refine g_get (C := "ThreePoints$Vehicle") (T := xT_Vehicle) (N := 7) (ci := 3) (k := 3) (v := vi (H16 3 8 3)) (by decide +kernel) (by decide) rfl rfl xi_Vehicle (by decide) kw_139 rfl ?_
            refine g_iload (i := 5) (by decide +kernel) rfl ?_
            refine g_icmp_ne (off := 12) (tgt := 148) (by decide +kernel) (by decide) (fun c => ?_) (fun c => ?_)
            · replace h := h.1 c
              refine g_iinc (i := 8) (n := 1) (v := (z11 + 1)) (ls2 := [some (vr 0 0), some (vi x1), some (vi x2), some (vi x3), none, some (vi r6), some (vi v8), some (vi z10), some (vi (z11 + 1))]) (by decide +kernel) rfl rfl (by decide) rfl rfl ?_
              refine g_goto (off := (-87)) (tgt := 64) (by decide +kernel) (by decide) ?_
              obtain ⟨hI, hlt⟩ := h
              exact g_drop (ls2 := [some (vr 0 0), some (vi x1), some (vi x2), some (vi x3), none, some (vi r6), some (vi v8), some (vi z10), some (vi (z11 + 1))]) (And.intro rfl (And.intro rfl (And.intro rfl (And.intro rfl (And.intro rfl (And.intro rfl (And.intro rfl (And.intro rfl trivial)))))))) (ih9 (z10, (z11 + 1)) H16 hI hlt)
            · replace h := h.2 c
              refine g_iload (i := 7) (by decide +kernel) rfl ?_
              refine g_iconst (n := 1) (v := 1) (by decide +kernel) (by decide) ?_
              refine g_iload (i := 8) (by decide +kernel) rfl ?_
              refine g_ishl (by decide +kernel) ?_
              refine g_ior (by decide +kernel) ?_
              refine g_topi (fun v18 ev18 => ?_)
              replace h := h v18 ev18
              refine g_istore (i := 7) (ls2 := [some (vr 0 0), some (vi x1), some (vi x2), some (vi x3), none, some (vi r6), some (vi v8), some (vi v18), some (vi z11)]) (by decide +kernel) (by decide) rfl rfl ?_
              refine g_iinc (i := 8) (n := 1) (v := (z11 + 1)) (ls2 := [some (vr 0 0), some (vi x1), some (vi x2), some (vi x3), none, some (vi r6), some (vi v8), some (vi v18), some (vi (z11 + 1))]) (by decide +kernel) rfl rfl (by decide) rfl rfl ?_
              refine g_goto (off := (-87)) (tgt := 64) (by decide +kernel) (by decide) ?_
              obtain ⟨hI, hlt⟩ := h
              exact g_drop (ls2 := [some (vr 0 0), some (vi x1), some (vi x2), some (vi x3), none, some (vi r6), some (vi v8), some (vi v18), some (vi (z11 + 1))]) (And.intro rfl (And.intro rfl (And.intro rfl (And.intro rfl (And.intro rfl (And.intro rfl (And.intro rfl (And.intro rfl trivial)))))))) (ih9 (v18, (z11 + 1)) H16 hI hlt)
        refine g_if_ne (off := 18) (tgt := 95) (by decide +kernel) (by decide) (fun c => ?_) (fun c => ?_)
        · replace h := h.1 c
          refine g_aload_n (q := 0) (i := 0) (by decide +kernel) rfl rfl ?_
          refine g_get (C := "ThreePoints") (T := xT_Main) (N := 9) (ci := 0) (k := 7) (v := vr 19 0) (by decide +kernel) (by decide) rfl rfl xi_Main (by decide) kw_589 rfl ?_
          refine g_get (C := "ThreePoints$Ride") (T := xT_Ride) (N := 4) (ci := 8) (k := 1) (v := vr 3 8) (by decide +kernel) (by decide) rfl rfl xi_Ride (by decide) kw_264 rfl ?_
          refine g_iload (i := 8) (by decide +kernel) rfl ?_
          refine g_put (C := "ThreePoints$Vehicle") (T := xT_Vehicle) (N := 7) (ci := 3) (k := 1) xy_Vehicle (by decide +kernel) (by decide) rfl rfl xi_Vehicle xy_Vehicle_ok xn_Vehicle (by decide) kw_131 rfl (by decide +kernel) (fun _ => rfl) ?_
          refine g_heap (fun H19 eH19 => ?_)
          replace h := h H19 eH19
          exact g_drop (ls2 := [some (vr 0 0), some (vi x1), some (vi x2), some (vi x3), none, some (vi r6), some (vi v8), some (vi z10), some (vi z11)]) (And.intro rfl (And.intro rfl (And.intro rfl (And.intro rfl (And.intro rfl (And.intro rfl (And.intro rfl (And.intro rfl trivial)))))))) (hc14  H19 h)
        · replace h := h.2 c
          refine g_aload_n (q := 0) (i := 0) (by decide +kernel) rfl rfl ?_
          refine g_get (C := "ThreePoints") (T := xT_Main) (N := 9) (ci := 0) (k := 7) (v := vr 19 0) (by decide +kernel) (by decide) rfl rfl xi_Main (by decide) kw_589 rfl ?_
          refine g_get (C := "ThreePoints$Ride") (T := xT_Ride) (N := 4) (ci := 8) (k := 1) (v := vr 3 8) (by decide +kernel) (by decide) rfl rfl xi_Ride (by decide) kw_264 rfl ?_
          refine g_iload (i := 8) (by decide +kernel) rfl ?_
          refine g_put (C := "ThreePoints$Vehicle") (T := xT_Vehicle) (N := 7) (ci := 3) (k := 0) xy_Vehicle (by decide +kernel) (by decide) rfl rfl xi_Vehicle xy_Vehicle_ok xn_Vehicle (by decide) kw_128 rfl (by decide +kernel) (fun _ => rfl) ?_
          refine g_goto (off := 15) (tgt := 107) (by decide +kernel) (by decide) ?_
          refine g_heap (fun H20 eH20 => ?_)
          replace h := h H20 eH20
          exact g_drop (ls2 := [some (vr 0 0), some (vi x1), some (vi x2), some (vi x3), none, some (vi r6), some (vi v8), some (vi z10), some (vi z11)]) (And.intro rfl (And.intro rfl (And.intro rfl (And.intro rfl (And.intro rfl (And.intro rfl (And.intro rfl (And.intro rfl trivial)))))))) (hc14  H20 h)
    · replace h := h.2 c
      refine g_bipush (n := (-7)) (v := (-7)) (by decide +kernel) (by decide) ?_
      exact g_iret (by decide +kernel) rfl ⟨_, rfl, h⟩
  · replace h := h.2 c
    refine g_iload (i := 4) (by decide +kernel) rfl ?_
    exact g_iret (by decide +kernel) rfl ⟨_, rfl, h⟩
def p_Main_widths (E : XE) (d : Nat) (x1 : Int32) (x2 : Int32) (x3 : Int32) (H : HH) (Q : Int32 → HH → Prop) : Prop := c_Main_refusalOfMoves E d x1 x2 H (fun r2 H1 => (r2 = 0 → (c_Main_isWithin E d x3 0 1 H1 (fun r4 H3 => (¬ r4 = 0 → (∃ (I5 : Int32 → Int32 → Int32 → HH → Prop) (μ5 : Int32 → Int32 → Int32 → HH → Nat), I5 (-1) 0 8 H3 ∧ ∀ (z6 : Int32) (z7 : Int32) (z8 : Int32) (H9 : HH), I5 z6 z7 z8 H9 → ((60 < z8 → (Q (if x3 = 0 then z6 else z7 : Int32) H9)) ∧ (¬ 60 < z8 → (c_Main_think E d x2 H9 (fun H11 => ∀ H12 : HH, H12 = (hu H11 2 2 0 z8) → (c_Ride_fitsNow E d  H12 (fun r14 H13 => (r14 = 0 → (I5 z6 z7 (z8 + 1) H13 ∧ μ5 z6 z7 (z8 + 1) H13 < μ5 z6 z7 z8 H9)) ∧ (¬ r14 = 0 → (vp_in x1 4 ∧ (c_Ride_through E d (x1.toNatClampNeg) H13 (fun r16 H15 => (r16 = (-1) → ((¬ z6 = (-1) → (I5 z6 (z7 + 1) (z8 + 1) H15 ∧ μ5 z6 (z7 + 1) (z8 + 1) H15 < μ5 z6 z7 z8 H9)) ∧ (z6 = (-1) → (I5 z8 (z7 + 1) (z8 + 1) H15 ∧ μ5 z8 (z7 + 1) (z8 + 1) H15 < μ5 z6 z7 z8 H9)))) ∧ (¬ r16 = (-1) → (I5 z6 z7 (z8 + 1) H15 ∧ μ5 z6 z7 (z8 + 1) H15 < μ5 z6 z7 z8 H9)))))))))))))) ∧ (r4 = 0 → (Q (-7) H3))))) ∧ (¬ r2 = 0 → (Q r2 H1)))
set_option maxHeartbeats 4000000 in
theorem l_Main_widths {E : XE} {d : Nat} {x1 : Int32} {x2 : Int32} {x3 : Int32} {H : HH} {Q : Int32 → HH → Prop} (h : p_Main_widths E d x1 x2 x3 H Q) : c_Main_widths E (d + 1) x1 x2 x3 H Q := by
  show g_Main_widths E (d + 1) 0 (xent [vr 0 0, vi x1, vi x2, vi x3]) [] H (qi Q)
  refine g_drop (ls2 := [some (vr 0 0), some (vi x1), some (vi x2), some (vi x3), none, none, none, none]) (And.intro rfl (And.intro rfl (And.intro rfl (And.intro rfl trivial)))) ?_
  refine g_aload_n (q := 0) (i := 0) (by decide +kernel) rfl rfl ?_
  refine g_iload_n (q := 1) (i := 1) (by decide +kernel) rfl rfl ?_
  refine g_iload_n (q := 2) (i := 2) (by decide +kernel) rfl rfl ?_
  refine g_callV (kd := 0) (ix := 0) (ci := 0) (N := 9) (T := xT_Main) (vs := [vi x1, vi x2]) (st := []) (by decide +kernel) xm_Main_refusalOfMoves kw_846 kw_848 kw_26 (by decide) rfl rfl rfl rfl (Nat.le_of_ble_eq_true rfl) (Nat.le_of_ble_eq_true rfl) h (fun vH1 H1 hq => ?_)
  obtain ⟨r2, rfl, h⟩ := hq
  refine g_istore (i := 4) (ls2 := [some (vr 0 0), some (vi x1), some (vi x2), some (vi x3), some (vi r2), none, none, none]) (by decide +kernel) (by decide) rfl rfl ?_
  refine g_iload (i := 4) (by decide +kernel) rfl ?_
  refine g_if_eq (off := 6) (tgt := 16) (by decide +kernel) (by decide) (fun c => ?_) (fun c => ?_)
  · replace h := h.1 c
    refine g_iload_n (q := 3) (i := 3) (by decide +kernel) rfl rfl ?_
    refine g_iconst (n := 0) (v := 0) (by decide +kernel) (by decide) ?_
    refine g_iconst (n := 1) (v := 1) (by decide +kernel) (by decide) ?_
    refine g_callS (vs := [vi x3, vi 0, vi 1]) (st := []) (by decide +kernel) xm_Main_isWithin kw_619 kw_620 rfl rfl (Nat.le_of_ble_eq_true rfl) (Nat.le_of_ble_eq_true rfl) h (fun vH3 H3 hq => ?_)
    obtain ⟨r4, rfl, h⟩ := hq
    refine g_if_ne (off := 6) (tgt := 28) (by decide +kernel) (by decide) (fun c => ?_) (fun c => ?_)
    · replace h := h.1 c
      refine g_iconst (n := (-1)) (v := (-1)) (by decide +kernel) (by decide) ?_
      refine g_istore (i := 5) (ls2 := [some (vr 0 0), some (vi x1), some (vi x2), some (vi x3), some (vi r2), some (vi (-1)), none, none]) (by decide +kernel) (by decide) rfl rfl ?_
      refine g_iconst (n := 0) (v := 0) (by decide +kernel) (by decide) ?_
      refine g_istore (i := 6) (ls2 := [some (vr 0 0), some (vi x1), some (vi x2), some (vi x3), some (vi r2), some (vi (-1)), some (vi 0), none]) (by decide +kernel) (by decide) rfl rfl ?_
      refine g_bipush (n := 8) (v := 8) (by decide +kernel) (by decide) ?_
      refine g_istore (i := 7) (ls2 := [some (vr 0 0), some (vi x1), some (vi x2), some (vi x3), some (vi r2), some (vi (-1)), some (vi 0), some (vi 8)]) (by decide +kernel) (by decide) rfl rfl ?_
      refine g_drop (ls2 := [some (vr 0 0), some (vi x1), some (vi x2), some (vi x3), none, some (vi (-1)), some (vi 0), some (vi 8)]) (And.intro rfl (And.intro rfl (And.intro rfl (And.intro rfl (And.intro rfl (And.intro rfl (And.intro rfl trivial))))))) ?_
      obtain ⟨I5, μ5, h0, h⟩ := h
      refine xloop (σ := Int32 × Int32 × Int32) (fun s H => I5 s.1 s.2.1 s.2.2 H) (fun s H => μ5 s.1 s.2.1 s.2.2 H) (fun s H => g_Main_widths E (d + 1) 38 [some (vr 0 0), some (vi x1), some (vi x2), some (vi x3), none, some (vi s.1), some (vi s.2.1), some (vi s.2.2)] [] H (qi Q)) (fun s H9 hI ih5 => ?_) ((-1), 0, 8) H3 h0
      obtain ⟨z6, z7, z8⟩ := s
      replace h := h z6 z7 z8 H9 hI
      refine g_iload (i := 7) (by decide +kernel) rfl ?_
      refine g_bipush (n := 60) (v := 60) (by decide +kernel) (by decide) ?_
      refine g_icmp_gt (off := 69) (tgt := 111) (by decide +kernel) (by decide) (fun c => ?_) (fun c => ?_)
      · replace h := h.1 c
        refine g_iload_n (q := 3) (i := 3) (by decide +kernel) rfl rfl ?_
        suffices hj10 : g_Main_widths E (d + 1) 122 [some (vr 0 0), some (vi x1), some (vi x2), some (vi x3), none, some (vi z6), some (vi z7), some (vi z8)] [vi (if x3 = 0 then z6 else z7 : Int32)] H9 (qi Q) by
          refine g_if_ne (off := 8) (tgt := 120) (by decide +kernel) (by decide) (fun c => ?_) (fun c => ?_)
          · rw [if_neg c] at hj10
            refine g_iload (i := 6) (by decide +kernel) rfl ?_
            exact hj10
          · rw [if_pos c] at hj10
            refine g_iload (i := 5) (by decide +kernel) rfl ?_
            refine g_goto (off := 5) (tgt := 122) (by decide +kernel) (by decide) ?_
            exact hj10
        exact g_iret (by decide +kernel) rfl ⟨_, rfl, h⟩
      · replace h := h.2 c
        refine g_aload_n (q := 0) (i := 0) (by decide +kernel) rfl rfl ?_
        refine g_iload_n (q := 2) (i := 2) (by decide +kernel) rfl rfl ?_
        refine g_callV (kd := 0) (ix := 0) (ci := 0) (N := 9) (T := xT_Main) (vs := [vi x2]) (st := []) (by decide +kernel) xm_Main_think kw_622 kw_624 kw_17 (by decide) rfl rfl rfl rfl (Nat.le_of_ble_eq_true rfl) (Nat.le_of_ble_eq_true rfl) h (fun vH11 H11 hq => ?_)
        replace h := hq
        refine g_aload_n (q := 0) (i := 0) (by decide +kernel) rfl rfl ?_
        refine g_get (C := "ThreePoints") (T := xT_Main) (N := 9) (ci := 0) (k := 7) (v := vr 19 0) (by decide +kernel) (by decide) rfl rfl xi_Main (by decide) kw_589 rfl ?_
        refine g_get (C := "ThreePoints$Ride") (T := xT_Ride) (N := 4) (ci := 8) (k := 0) (v := vr 2 2) (by decide +kernel) (by decide) rfl rfl xi_Ride (by decide) kw_261 rfl ?_
        refine g_iload (i := 7) (by decide +kernel) rfl ?_
        refine g_put (C := "ThreePoints$Lane") (T := xT_Lane) (N := 3) (ci := 2) (k := 0) xy_Lane (by decide +kernel) (by decide) rfl rfl xi_Lane xy_Lane_ok xn_Lane (by decide) kw_106 rfl (by decide +kernel) (fun _ => rfl) ?_
        refine g_aload_n (q := 0) (i := 0) (by decide +kernel) rfl rfl ?_
        refine g_get (C := "ThreePoints") (T := xT_Main) (N := 9) (ci := 0) (k := 7) (v := vr 19 0) (by decide +kernel) (by decide) rfl rfl xi_Main (by decide) kw_589 rfl ?_
        refine g_heap (fun H12 eH12 => ?_)
        replace h := h H12 eH12
        refine g_callV (kd := 19) (ix := 0) (ci := 8) (N := 4) (T := xT_Ride) (vs := []) (st := []) (by decide +kernel) xm_Ride_fitsNow kw_638 kw_639 kw_640 (by decide) rfl rfl rfl rfl (Nat.le_of_ble_eq_true rfl) (Nat.le_of_ble_eq_true rfl) h (fun vH13 H13 hq => ?_)
        obtain ⟨r14, rfl, h⟩ := hq
        refine g_if_eq (off := 36) (tgt := 105) (by decide +kernel) (by decide) (fun c => ?_) (fun c => ?_)
        · replace h := h.1 c
          refine g_iinc (i := 7) (n := 1) (v := (z8 + 1)) (ls2 := [some (vr 0 0), some (vi x1), some (vi x2), some (vi x3), none, some (vi z6), some (vi z7), some (vi (z8 + 1))]) (by decide +kernel) rfl rfl (by decide) rfl rfl ?_
          refine g_goto (off := (-70)) (tgt := 38) (by decide +kernel) (by decide) ?_
          obtain ⟨hI, hlt⟩ := h
          exact g_drop (ls2 := [some (vr 0 0), some (vi x1), some (vi x2), some (vi x3), none, some (vi z6), some (vi z7), some (vi (z8 + 1))]) (And.intro rfl (And.intro rfl (And.intro rfl (And.intro rfl (And.intro rfl (And.intro rfl (And.intro rfl trivial))))))) (ih5 (z6, z7, (z8 + 1)) H13 hI hlt)
        · replace h := h.2 c
          refine g_aload_n (q := 0) (i := 0) (by decide +kernel) rfl rfl ?_
          refine g_get (C := "ThreePoints") (T := xT_Main) (N := 9) (ci := 0) (k := 7) (v := vr 19 0) (by decide +kernel) (by decide) rfl rfl xi_Main (by decide) kw_589 rfl ?_
          refine g_aload_n (q := 0) (i := 0) (by decide +kernel) rfl rfl ?_
          refine g_get (C := "ThreePoints") (T := xT_Main) (N := 9) (ci := 0) (k := 6) (v := vr 18 0) (by decide +kernel) (by decide) rfl rfl xi_Main (by decide) kw_588 rfl ?_
          refine g_iload_n (q := 1) (i := 1) (by decide +kernel) rfl rfl ?_
          obtain ⟨hin, h⟩ := h
          refine g_aald (v := vr 16 (x1.toNatClampNeg)) (by decide +kernel) (by decide) rfl (by decide) hin rfl ?_
          refine g_callV (kd := 19) (ix := 0) (ci := 8) (N := 4) (T := xT_Ride) (vs := [vr 16 (x1.toNatClampNeg)]) (st := []) (by decide +kernel) xm_Ride_through kw_862 kw_863 kw_864 (by decide) rfl rfl rfl rfl (Nat.le_of_ble_eq_true rfl) (Nat.le_of_ble_eq_true rfl) h (fun vH15 H15 hq => ?_)
          obtain ⟨r16, rfl, h⟩ := hq
          refine g_iconst (n := (-1)) (v := (-1)) (by decide +kernel) (by decide) ?_
          refine g_icmp_eq (off := 6) (tgt := 92) (by decide +kernel) (by decide) (fun c => ?_) (fun c => ?_)
          · replace h := h.1 c
            refine g_iload (i := 5) (by decide +kernel) rfl ?_
            refine g_iconst (n := (-1)) (v := (-1)) (by decide +kernel) (by decide) ?_
            refine g_icmp_ne (off := 7) (tgt := 102) (by decide +kernel) (by decide) (fun c => ?_) (fun c => ?_)
            · replace h := h.1 c
              refine g_iinc (i := 6) (n := 1) (v := (z7 + 1)) (ls2 := [some (vr 0 0), some (vi x1), some (vi x2), some (vi x3), none, some (vi z6), some (vi (z7 + 1)), some (vi z8)]) (by decide +kernel) rfl rfl (by decide) rfl rfl ?_
              refine g_iinc (i := 7) (n := 1) (v := (z8 + 1)) (ls2 := [some (vr 0 0), some (vi x1), some (vi x2), some (vi x3), none, some (vi z6), some (vi (z7 + 1)), some (vi (z8 + 1))]) (by decide +kernel) rfl rfl (by decide) rfl rfl ?_
              refine g_goto (off := (-70)) (tgt := 38) (by decide +kernel) (by decide) ?_
              obtain ⟨hI, hlt⟩ := h
              exact g_drop (ls2 := [some (vr 0 0), some (vi x1), some (vi x2), some (vi x3), none, some (vi z6), some (vi (z7 + 1)), some (vi (z8 + 1))]) (And.intro rfl (And.intro rfl (And.intro rfl (And.intro rfl (And.intro rfl (And.intro rfl (And.intro rfl trivial))))))) (ih5 (z6, (z7 + 1), (z8 + 1)) H15 hI hlt)
            · replace h := h.2 c
              refine g_iload (i := 7) (by decide +kernel) rfl ?_
              refine g_istore (i := 5) (ls2 := [some (vr 0 0), some (vi x1), some (vi x2), some (vi x3), none, some (vi z8), some (vi z7), some (vi z8)]) (by decide +kernel) (by decide) rfl rfl ?_
              refine g_iinc (i := 6) (n := 1) (v := (z7 + 1)) (ls2 := [some (vr 0 0), some (vi x1), some (vi x2), some (vi x3), none, some (vi z8), some (vi (z7 + 1)), some (vi z8)]) (by decide +kernel) rfl rfl (by decide) rfl rfl ?_
              refine g_iinc (i := 7) (n := 1) (v := (z8 + 1)) (ls2 := [some (vr 0 0), some (vi x1), some (vi x2), some (vi x3), none, some (vi z8), some (vi (z7 + 1)), some (vi (z8 + 1))]) (by decide +kernel) rfl rfl (by decide) rfl rfl ?_
              refine g_goto (off := (-70)) (tgt := 38) (by decide +kernel) (by decide) ?_
              obtain ⟨hI, hlt⟩ := h
              exact g_drop (ls2 := [some (vr 0 0), some (vi x1), some (vi x2), some (vi x3), none, some (vi z8), some (vi (z7 + 1)), some (vi (z8 + 1))]) (And.intro rfl (And.intro rfl (And.intro rfl (And.intro rfl (And.intro rfl (And.intro rfl (And.intro rfl trivial))))))) (ih5 (z8, (z7 + 1), (z8 + 1)) H15 hI hlt)
          · replace h := h.2 c
            refine g_goto (off := 16) (tgt := 105) (by decide +kernel) (by decide) ?_
            refine g_iinc (i := 7) (n := 1) (v := (z8 + 1)) (ls2 := [some (vr 0 0), some (vi x1), some (vi x2), some (vi x3), none, some (vi z6), some (vi z7), some (vi (z8 + 1))]) (by decide +kernel) rfl rfl (by decide) rfl rfl ?_
            refine g_goto (off := (-70)) (tgt := 38) (by decide +kernel) (by decide) ?_
            obtain ⟨hI, hlt⟩ := h
            exact g_drop (ls2 := [some (vr 0 0), some (vi x1), some (vi x2), some (vi x3), none, some (vi z6), some (vi z7), some (vi (z8 + 1))]) (And.intro rfl (And.intro rfl (And.intro rfl (And.intro rfl (And.intro rfl (And.intro rfl (And.intro rfl trivial))))))) (ih5 (z6, z7, (z8 + 1)) H15 hI hlt)
    · replace h := h.2 c
      refine g_bipush (n := (-7)) (v := (-7)) (by decide +kernel) (by decide) ?_
      exact g_iret (by decide +kernel) rfl ⟨_, rfl, h⟩
  · replace h := h.2 c
    refine g_iload (i := 4) (by decide +kernel) rfl ?_
    exact g_iret (by decide +kernel) rfl ⟨_, rfl, h⟩
def p_Main_laws (E : XE) (d : Nat) (x1 : Int32) (x2 : Int32) (H : HH) (Q : Int32 → HH → Prop) : Prop := c_Main_refusalOfMoves E d x1 x2 H (fun r2 H1 => (r2 = 0 → (∃ (I3 : Int32 → Int32 → HH → Prop) (μ3 : Int32 → Int32 → HH → Nat), I3 0 0 H1 ∧ ∀ (z4 : Int32) (z5 : Int32) (H6 : HH), I3 z4 z5 H6 → (((H6 0 0 5) ≤ z5 → (Q z4 H6)) ∧ (¬ (H6 0 0 5) ≤ z5 → ((6 ≤ z5 → (Q z4 H6)) ∧ (¬ 6 ≤ z5 → (c_Main_think E d x2 H6 (fun H7 => vp_in z5 6 ∧ ((z5.toNatClampNeg) < 7 ∧ (vp_in x1 4 ∧ (∀ H8 : HH, H8 = (hu H7 19 0 2 (nI ((z5.toNatClampNeg) + 1))) → (c_Ride_through E d (x1.toNatClampNeg) H8 (fun r10 H9 => (¬ r10 = (-1) → (I3 z4 (z5 + 1) H9 ∧ μ3 z4 (z5 + 1) H9 < μ3 z4 z5 H6)) ∧ (r10 = (-1) → (∀ v11 : Int32, v11 = (z4 ||| (1 <<< (z5 &&& 31))) → (I3 v11 (z5 + 1) H9 ∧ μ3 v11 (z5 + 1) H9 < μ3 z4 z5 H6)))))))))))))))) ∧ (¬ r2 = 0 → (Q r2 H1)))
set_option maxHeartbeats 4000000 in
theorem l_Main_laws {E : XE} {d : Nat} {x1 : Int32} {x2 : Int32} {H : HH} {Q : Int32 → HH → Prop} (h : p_Main_laws E d x1 x2 H Q) : c_Main_laws E (d + 1) x1 x2 H Q := by
  show g_Main_laws E (d + 1) 0 (xent [vr 0 0, vi x1, vi x2]) [] H (qi Q)
  refine g_drop (ls2 := [some (vr 0 0), some (vi x1), some (vi x2), none, none, none]) (And.intro rfl (And.intro rfl (And.intro rfl trivial))) ?_
  refine g_aload_n (q := 0) (i := 0) (by decide +kernel) rfl rfl ?_
  refine g_iload_n (q := 1) (i := 1) (by decide +kernel) rfl rfl ?_
  refine g_iload_n (q := 2) (i := 2) (by decide +kernel) rfl rfl ?_
  refine g_callV (kd := 0) (ix := 0) (ci := 0) (N := 9) (T := xT_Main) (vs := [vi x1, vi x2]) (st := []) (by decide +kernel) xm_Main_refusalOfMoves kw_846 kw_848 kw_26 (by decide) rfl rfl rfl rfl (Nat.le_of_ble_eq_true rfl) (Nat.le_of_ble_eq_true rfl) h (fun vH1 H1 hq => ?_)
  obtain ⟨r2, rfl, h⟩ := hq
  refine g_istore_n (q := 3) (i := 3) (ls2 := [some (vr 0 0), some (vi x1), some (vi x2), some (vi r2), none, none]) (by decide +kernel) rfl (by decide) rfl rfl ?_
  refine g_iload_n (q := 3) (i := 3) (by decide +kernel) rfl rfl ?_
  refine g_if_eq (off := 5) (tgt := 13) (by decide +kernel) (by decide) (fun c => ?_) (fun c => ?_)
  · replace h := h.1 c
    refine g_iconst (n := 0) (v := 0) (by decide +kernel) (by decide) ?_
    refine g_istore (i := 4) (ls2 := [some (vr 0 0), some (vi x1), some (vi x2), some (vi r2), some (vi 0), none]) (by decide +kernel) (by decide) rfl rfl ?_
    refine g_iconst (n := 0) (v := 0) (by decide +kernel) (by decide) ?_
    refine g_istore (i := 5) (ls2 := [some (vr 0 0), some (vi x1), some (vi x2), some (vi r2), some (vi 0), some (vi 0)]) (by decide +kernel) (by decide) rfl rfl ?_
    refine g_drop (ls2 := [some (vr 0 0), some (vi x1), some (vi x2), none, some (vi 0), some (vi 0)]) (And.intro rfl (And.intro rfl (And.intro rfl (And.intro rfl (And.intro rfl trivial))))) ?_
    obtain ⟨I3, μ3, h0, h⟩ := h
    refine xloop (σ := Int32 × Int32) (fun s H => I3 s.1 s.2 H) (fun s H => μ3 s.1 s.2 H) (fun s H => g_Main_laws E (d + 1) 19 [some (vr 0 0), some (vi x1), some (vi x2), none, some (vi s.1), some (vi s.2)] [] H (qi Q)) (fun s H6 hI ih3 => ?_) (0, 0) H1 h0
    obtain ⟨z4, z5⟩ := s
    replace h := h z4 z5 H6 hI
    refine g_iload (i := 5) (by decide +kernel) rfl ?_
    refine g_aload_n (q := 0) (i := 0) (by decide +kernel) rfl rfl ?_
    refine g_get (C := "ThreePoints") (T := xT_Main) (N := 9) (ci := 0) (k := 5) (v := vi (H6 0 0 5)) (by decide +kernel) (by decide) rfl rfl xi_Main (by decide) kw_587 rfl ?_
    refine g_icmp_ge (off := 61) (tgt := 86) (by decide +kernel) (by decide) (fun c => ?_) (fun c => ?_)
    · replace h := h.1 c
      refine g_iload (i := 4) (by decide +kernel) rfl ?_
      exact g_iret (by decide +kernel) rfl ⟨_, rfl, h⟩
    · replace h := h.2 c
      refine g_iload (i := 5) (by decide +kernel) rfl ?_
      refine g_bipush (n := 6) (v := 6) (by decide +kernel) (by decide) ?_
      refine g_icmp_ge (off := 54) (tgt := 86) (by decide +kernel) (by decide) (fun c => ?_) (fun c => ?_)
      · replace h := h.1 c
        refine g_iload (i := 4) (by decide +kernel) rfl ?_
        exact g_iret (by decide +kernel) rfl ⟨_, rfl, h⟩
      · replace h := h.2 c
        refine g_aload_n (q := 0) (i := 0) (by decide +kernel) rfl rfl ?_
        refine g_iload_n (q := 2) (i := 2) (by decide +kernel) rfl rfl ?_
        refine g_callV (kd := 0) (ix := 0) (ci := 0) (N := 9) (T := xT_Main) (vs := [vi x2]) (st := []) (by decide +kernel) xm_Main_think kw_622 kw_624 kw_17 (by decide) rfl rfl rfl rfl (Nat.le_of_ble_eq_true rfl) (Nat.le_of_ble_eq_true rfl) h (fun vH7 H7 hq => ?_)
        replace h := hq
        refine g_aload_n (q := 0) (i := 0) (by decide +kernel) rfl rfl ?_
        refine g_get (C := "ThreePoints") (T := xT_Main) (N := 9) (ci := 0) (k := 7) (v := vr 19 0) (by decide +kernel) (by decide) rfl rfl xi_Main (by decide) kw_589 rfl ?_
        refine g_aload_n (q := 0) (i := 0) (by decide +kernel) rfl rfl ?_
        refine g_get (C := "ThreePoints") (T := xT_Main) (N := 9) (ci := 0) (k := 4) (v := vr 15 0) (by decide +kernel) (by decide) rfl rfl xi_Main (by decide) kw_586 rfl ?_
        refine g_iload (i := 5) (by decide +kernel) rfl ?_
        obtain ⟨hin, h⟩ := h
        refine g_aald (v := vr 11 (z5.toNatClampNeg)) (by decide +kernel) (by decide) rfl (by decide) hin rfl ?_
        obtain ⟨hlaw, h⟩ := h
        refine g_putT (by decide +kernel) kw_266 hlaw ?_
        refine g_aload_n (q := 0) (i := 0) (by decide +kernel) rfl rfl ?_
        refine g_get (C := "ThreePoints") (T := xT_Main) (N := 9) (ci := 0) (k := 7) (v := vr 19 0) (by decide +kernel) (by decide) rfl rfl xi_Main (by decide) kw_589 rfl ?_
        refine g_aload_n (q := 0) (i := 0) (by decide +kernel) rfl rfl ?_
        refine g_get (C := "ThreePoints") (T := xT_Main) (N := 9) (ci := 0) (k := 6) (v := vr 18 0) (by decide +kernel) (by decide) rfl rfl xi_Main (by decide) kw_588 rfl ?_
        refine g_iload_n (q := 1) (i := 1) (by decide +kernel) rfl rfl ?_
        obtain ⟨hin, h⟩ := h
        refine g_aald (v := vr 16 (x1.toNatClampNeg)) (by decide +kernel) (by decide) rfl (by decide) hin rfl ?_
        refine g_heap (fun H8 eH8 => ?_)
        replace h := h H8 eH8
        refine g_callV (kd := 19) (ix := 0) (ci := 8) (N := 4) (T := xT_Ride) (vs := [vr 16 (x1.toNatClampNeg)]) (st := []) (by decide +kernel) xm_Ride_through kw_862 kw_863 kw_864 (by decide) rfl rfl rfl rfl (Nat.le_of_ble_eq_true rfl) (Nat.le_of_ble_eq_true rfl) h (fun vH9 H9 hq => ?_)
        obtain ⟨r10, rfl, h⟩ := hq
        refine g_iconst (n := (-1)) (v := (-1)) (by decide +kernel) (by decide) ?_
        refine g_icmp_ne (off := 12) (tgt := 80) (by decide +kernel) (by decide) (fun c => ?_) (fun c => ?_)
        · replace h := h.1 c
          refine g_iinc (i := 5) (n := 1) (v := (z5 + 1)) (ls2 := [some (vr 0 0), some (vi x1), some (vi x2), none, some (vi z4), some (vi (z5 + 1))]) (by decide +kernel) rfl rfl (by decide) rfl rfl ?_
          refine g_goto (off := (-64)) (tgt := 19) (by decide +kernel) (by decide) ?_
          obtain ⟨hI, hlt⟩ := h
          exact g_drop (ls2 := [some (vr 0 0), some (vi x1), some (vi x2), none, some (vi z4), some (vi (z5 + 1))]) (And.intro rfl (And.intro rfl (And.intro rfl (And.intro rfl (And.intro rfl trivial))))) (ih3 (z4, (z5 + 1)) H9 hI hlt)
        · replace h := h.2 c
          refine g_iload (i := 4) (by decide +kernel) rfl ?_
          refine g_iconst (n := 1) (v := 1) (by decide +kernel) (by decide) ?_
          refine g_iload (i := 5) (by decide +kernel) rfl ?_
          refine g_ishl (by decide +kernel) ?_
          refine g_ior (by decide +kernel) ?_
          refine g_topi (fun v11 ev11 => ?_)
          replace h := h v11 ev11
          refine g_istore (i := 4) (ls2 := [some (vr 0 0), some (vi x1), some (vi x2), none, some (vi v11), some (vi z5)]) (by decide +kernel) (by decide) rfl rfl ?_
          refine g_iinc (i := 5) (n := 1) (v := (z5 + 1)) (ls2 := [some (vr 0 0), some (vi x1), some (vi x2), none, some (vi v11), some (vi (z5 + 1))]) (by decide +kernel) rfl rfl (by decide) rfl rfl ?_
          refine g_goto (off := (-64)) (tgt := 19) (by decide +kernel) (by decide) ?_
          obtain ⟨hI, hlt⟩ := h
          exact g_drop (ls2 := [some (vr 0 0), some (vi x1), some (vi x2), none, some (vi v11), some (vi (z5 + 1))]) (And.intro rfl (And.intro rfl (And.intro rfl (And.intro rfl (And.intro rfl trivial))))) (ih3 (v11, (z5 + 1)) H9 hI hlt)
  · replace h := h.2 c
    refine g_iload_n (q := 3) (i := 3) (by decide +kernel) rfl rfl ?_
    exact g_iret (by decide +kernel) rfl ⟨_, rfl, h⟩
def p_Main_drawn (E : XE) (d : Nat) (x1 : Int32) (x2 : Int32) (x3 : Int32) (x4 : Int32) (H : HH) (Q : Int32 → HH → Prop) : Prop := c_Main_isVehicle E d x3 H (fun r2 H1 => (¬ r2 = 0 → (c_Main_isWithin E d x1 0 99999 H1 (fun r4 H3 => (r4 = 0 → (Q (-7) H3)) ∧ (¬ r4 = 0 → (c_Main_isWithin E d x2 0 60 H3 (fun r6 H5 => (¬ r6 = 0 → (c_Main_isWithin E d x4 0 2 H5 (fun r8 H7 => (¬ r8 = 0 → (c_Main_think E d x3 H7 (fun H9 => c_Ride_byLots E d x1 x2 H9 (fun r11 H10 => (¬ x4 = 0 → (Q (if x4 = 1 then (H10 3 8 2) else (H10 3 8 3) : Int32) H10)) ∧ (x4 = 0 → (Q r11 H10)))))) ∧ (r8 = 0 → (Q (-7) H7))))) ∧ (r6 = 0 → (Q (-7) H5)))))))) ∧ (r2 = 0 → (Q (-5) H1)))
set_option maxHeartbeats 4000000 in
theorem l_Main_drawn {E : XE} {d : Nat} {x1 : Int32} {x2 : Int32} {x3 : Int32} {x4 : Int32} {H : HH} {Q : Int32 → HH → Prop} (h : p_Main_drawn E d x1 x2 x3 x4 H Q) : c_Main_drawn E (d + 1) x1 x2 x3 x4 H Q := by
  show g_Main_drawn E (d + 1) 0 (xent [vr 0 0, vi x1, vi x2, vi x3, vi x4]) [] H (qi Q)
  refine g_drop (ls2 := [some (vr 0 0), some (vi x1), some (vi x2), some (vi x3), some (vi x4), none]) (And.intro rfl (And.intro rfl (And.intro rfl (And.intro rfl (And.intro rfl trivial))))) ?_
  refine g_aload_n (q := 0) (i := 0) (by decide +kernel) rfl rfl ?_
  refine g_iload_n (q := 3) (i := 3) (by decide +kernel) rfl rfl ?_
  refine g_callV (kd := 0) (ix := 0) (ci := 0) (N := 9) (T := xT_Main) (vs := [vi x3]) (st := []) (by decide +kernel) xm_Main_isVehicle kw_630 kw_632 kw_18 (by decide) rfl rfl rfl rfl (Nat.le_of_ble_eq_true rfl) (Nat.le_of_ble_eq_true rfl) h (fun vH1 H1 hq => ?_)
  obtain ⟨r2, rfl, h⟩ := hq
  refine g_if_ne (off := 6) (tgt := 11) (by decide +kernel) (by decide) (fun c => ?_) (fun c => ?_)
  · replace h := h.1 c
    refine g_iload_n (q := 1) (i := 1) (by decide +kernel) rfl rfl ?_
    refine g_iconst (n := 0) (v := 0) (by decide +kernel) (by decide) ?_
    refine g_ldc (v := 99999) (by decide +kernel) kw_895 ?_
    refine g_callS (vs := [vi x1, vi 0, vi 99999]) (st := []) (by decide +kernel) xm_Main_isWithin kw_619 kw_620 rfl rfl (Nat.le_of_ble_eq_true rfl) (Nat.le_of_ble_eq_true rfl) h (fun vH3 H3 hq => ?_)
    obtain ⟨r4, rfl, h⟩ := hq
    refine g_if_eq (off := 13) (tgt := 31) (by decide +kernel) (by decide) (fun c => ?_) (fun c => ?_)
    · replace h := h.1 c
      refine g_bipush (n := (-7)) (v := (-7)) (by decide +kernel) (by decide) ?_
      exact g_iret (by decide +kernel) rfl ⟨_, rfl, h⟩
    · replace h := h.2 c
      refine g_iload_n (q := 2) (i := 2) (by decide +kernel) rfl rfl ?_
      refine g_iconst (n := 0) (v := 0) (by decide +kernel) (by decide) ?_
      refine g_bipush (n := 60) (v := 60) (by decide +kernel) (by decide) ?_
      refine g_callS (vs := [vi x2, vi 0, vi 60]) (st := []) (by decide +kernel) xm_Main_isWithin kw_619 kw_620 rfl rfl (Nat.le_of_ble_eq_true rfl) (Nat.le_of_ble_eq_true rfl) h (fun vH5 H5 hq => ?_)
      obtain ⟨r6, rfl, h⟩ := hq
      refine g_if_ne (off := 6) (tgt := 34) (by decide +kernel) (by decide) (fun c => ?_) (fun c => ?_)
      · replace h := h.1 c
        refine g_iload (i := 4) (by decide +kernel) rfl ?_
        refine g_iconst (n := 0) (v := 0) (by decide +kernel) (by decide) ?_
        refine g_iconst (n := 2) (v := 2) (by decide +kernel) (by decide) ?_
        refine g_callS (vs := [vi x4, vi 0, vi 2]) (st := []) (by decide +kernel) xm_Main_isWithin kw_619 kw_620 rfl rfl (Nat.le_of_ble_eq_true rfl) (Nat.le_of_ble_eq_true rfl) h (fun vH7 H7 hq => ?_)
        obtain ⟨r8, rfl, h⟩ := hq
        refine g_if_ne (off := 6) (tgt := 47) (by decide +kernel) (by decide) (fun c => ?_) (fun c => ?_)
        · replace h := h.1 c
          refine g_aload_n (q := 0) (i := 0) (by decide +kernel) rfl rfl ?_
          refine g_iload_n (q := 3) (i := 3) (by decide +kernel) rfl rfl ?_
          refine g_callV (kd := 0) (ix := 0) (ci := 0) (N := 9) (T := xT_Main) (vs := [vi x3]) (st := []) (by decide +kernel) xm_Main_think kw_622 kw_624 kw_17 (by decide) rfl rfl rfl rfl (Nat.le_of_ble_eq_true rfl) (Nat.le_of_ble_eq_true rfl) h (fun vH9 H9 hq => ?_)
          replace h := hq
          refine g_aload_n (q := 0) (i := 0) (by decide +kernel) rfl rfl ?_
          refine g_get (C := "ThreePoints") (T := xT_Main) (N := 9) (ci := 0) (k := 7) (v := vr 19 0) (by decide +kernel) (by decide) rfl rfl xi_Main (by decide) kw_589 rfl ?_
          refine g_iload_n (q := 1) (i := 1) (by decide +kernel) rfl rfl ?_
          refine g_iload_n (q := 2) (i := 2) (by decide +kernel) rfl rfl ?_
          refine g_callV (kd := 19) (ix := 0) (ci := 8) (N := 4) (T := xT_Ride) (vs := [vi x1, vi x2]) (st := []) (by decide +kernel) xm_Ride_byLots kw_896 kw_897 kw_898 (by decide) rfl rfl rfl rfl (Nat.le_of_ble_eq_true rfl) (Nat.le_of_ble_eq_true rfl) h (fun vH10 H10 hq => ?_)
          obtain ⟨r11, rfl, h⟩ := hq
          refine g_istore (i := 5) (ls2 := [some (vr 0 0), some (vi x1), some (vi x2), some (vi x3), some (vi x4), some (vi r11)]) (by decide +kernel) (by decide) rfl rfl ?_
          refine g_iload (i := 4) (by decide +kernel) rfl ?_
          refine g_if_ne (off := 6) (tgt := 71) (by decide +kernel) (by decide) (fun c => ?_) (fun c => ?_)
          · replace h := h.1 c
            refine g_iload (i := 4) (by decide +kernel) rfl ?_
            refine g_iconst (n := 1) (v := 1) (by decide +kernel) (by decide) ?_
            suffices hj12 : g_Main_drawn E (d + 1) 100 [some (vr 0 0), some (vi x1), some (vi x2), some (vi x3), some (vi x4), some (vi r11)] [vi (if x4 = 1 then (H10 3 8 2) else (H10 3 8 3) : Int32)] H10 (qi Q) by
              refine g_icmp_ne (off := 16) (tgt := 90) (by decide +kernel) (by decide) (fun c => ?_) (fun c => ?_)
              · rw [if_neg c] at hj12
                refine g_aload_n (q := 0) (i := 0) (by decide +kernel) rfl rfl ?_
                refine g_get (C := "ThreePoints") (T := xT_Main) (N := 9) (ci := 0) (k := 7) (v := vr 19 0) (by decide +kernel) (by decide) rfl rfl xi_Main (by decide) kw_589 rfl ?_
                refine g_get (C := "ThreePoints$Ride") (T := xT_Ride) (N := 4) (ci := 8) (k := 1) (v := vr 3 8) (by decide +kernel) (by decide) rfl rfl xi_Ride (by decide) kw_264 rfl ?_
                refine g_get (C := "ThreePoints$Vehicle") (T := xT_Vehicle) (N := 7) (ci := 3) (k := 3) (v := vi (H10 3 8 3)) (by decide +kernel) (by decide) rfl rfl xi_Vehicle (by decide) kw_139 rfl ?_
                exact hj12
              · rw [if_pos c] at hj12
                refine g_aload_n (q := 0) (i := 0) (by decide +kernel) rfl rfl ?_
                refine g_get (C := "ThreePoints") (T := xT_Main) (N := 9) (ci := 0) (k := 7) (v := vr 19 0) (by decide +kernel) (by decide) rfl rfl xi_Main (by decide) kw_589 rfl ?_
                refine g_get (C := "ThreePoints$Ride") (T := xT_Ride) (N := 4) (ci := 8) (k := 1) (v := vr 3 8) (by decide +kernel) (by decide) rfl rfl xi_Ride (by decide) kw_264 rfl ?_
                refine g_get (C := "ThreePoints$Vehicle") (T := xT_Vehicle) (N := 7) (ci := 3) (k := 2) (v := vi (H10 3 8 2)) (by decide +kernel) (by decide) rfl rfl xi_Vehicle (by decide) kw_135 rfl ?_
                refine g_goto (off := 13) (tgt := 100) (by decide +kernel) (by decide) ?_
                exact hj12
            exact g_iret (by decide +kernel) rfl ⟨_, rfl, h⟩
          · replace h := h.2 c
            refine g_iload (i := 5) (by decide +kernel) rfl ?_
            exact g_iret (by decide +kernel) rfl ⟨_, rfl, h⟩
        · replace h := h.2 c
          refine g_bipush (n := (-7)) (v := (-7)) (by decide +kernel) (by decide) ?_
          exact g_iret (by decide +kernel) rfl ⟨_, rfl, h⟩
      · replace h := h.2 c
        refine g_bipush (n := (-7)) (v := (-7)) (by decide +kernel) (by decide) ?_
        exact g_iret (by decide +kernel) rfl ⟨_, rfl, h⟩
  · replace h := h.2 c
    refine g_bipush (n := (-5)) (v := (-5)) (by decide +kernel) (by decide) ?_
    exact g_iret (by decide +kernel) rfl ⟨_, rfl, h⟩
def p_Main_odds (E : XE) (d : Nat) (x1 : Int32) (x2 : Int32) (x3 : Int32) (x4 : Int32) (H : HH) (Q : Int64 → HH → Prop) : Prop := c_Main_isWithin E d x1 0 99999 H (fun r2 H1 => (r2 = 0 → (Q (-4611686018427387904) H1)) ∧ (¬ r2 = 0 → (c_Main_isVehicle E d x3 H1 (fun r4 H3 => (r4 = 0 → (Q (-4611686018427387904) H3)) ∧ (¬ r4 = 0 → (c_Main_isWithin E d x4 0 1 H3 (fun r6 H5 => (¬ r6 = 0 → ((0 ≤ x2 → (c_Main_isWithin E d (x2 / 100) 0 60 H5 (fun r8 H7 => (r8 = 0 → (Q (-4611686018427387904) H7)) ∧ (¬ r8 = 0 → (c_Main_isWithin E d (xrem x2 100) 1 40 H7 (fun r10 H9 => (¬ r10 = 0 → (∃ (I11 : Int32 → Int32 → HH → Prop) (μ11 : Int32 → Int32 → HH → Nat), I11 0 0 H9 ∧ ∀ (z12 : Int32) (z13 : Int32) (H14 : HH), I11 z12 z13 H14 → (((xrem x2 100) ≤ z13 → ((¬ x4 = 0 → (c_Main_inLowestTerms E d (xrem x2 100) z12 H14 (fun r16 H15 => Q (r16.toInt64) H15))) ∧ (x4 = 0 → (c_Main_inLowestTerms E d z12 (xrem x2 100) H14 (fun r18 H17 => Q (r18.toInt64) H17))))) ∧ (¬ (xrem x2 100) ≤ z13 → (c_Main_think E d x3 H14 (fun H19 => c_Ride_byLots E d (x1 + z13) (x2 / 100) H19 (fun r21 H20 => (¬ r21 = (-1) → (I11 z12 (z13 + 1) H20 ∧ μ11 z12 (z13 + 1) H20 < μ11 z12 z13 H14)) ∧ (r21 = (-1) → (I11 (z12 + 1) (z13 + 1) H20 ∧ μ11 (z12 + 1) (z13 + 1) H20 < μ11 z12 z13 H14))))))))) ∧ (r10 = 0 → (Q (-4611686018427387904) H9)))))))) ∧ (¬ 0 ≤ x2 → (Q (-4611686018427387904) H5)))) ∧ (r6 = 0 → (Q (-4611686018427387904) H5)))))))))
set_option maxHeartbeats 4000000 in
theorem l_Main_odds {E : XE} {d : Nat} {x1 : Int32} {x2 : Int32} {x3 : Int32} {x4 : Int32} {H : HH} {Q : Int64 → HH → Prop} (h : p_Main_odds E d x1 x2 x3 x4 H Q) : c_Main_odds E (d + 1) x1 x2 x3 x4 H Q := by
  show g_Main_odds E (d + 1) 0 (xent [vr 0 0, vi x1, vi x2, vi x3, vi x4]) [] H (ql Q)
  refine g_drop (ls2 := [some (vr 0 0), some (vi x1), some (vi x2), some (vi x3), some (vi x4), none, none, none, none]) (And.intro rfl (And.intro rfl (And.intro rfl (And.intro rfl (And.intro rfl trivial))))) ?_
  refine g_iload_n (q := 1) (i := 1) (by decide +kernel) rfl rfl ?_
  refine g_iconst (n := 0) (v := 0) (by decide +kernel) (by decide) ?_
  refine g_ldc (v := 99999) (by decide +kernel) kw_895 ?_
  refine g_callS (vs := [vi x1, vi 0, vi 99999]) (st := []) (by decide +kernel) xm_Main_isWithin kw_619 kw_620 rfl rfl (Nat.le_of_ble_eq_true rfl) (Nat.le_of_ble_eq_true rfl) h (fun vH1 H1 hq => ?_)
  obtain ⟨r2, rfl, h⟩ := hq
  refine g_if_eq (off := 21) (tgt := 28) (by decide +kernel) (by decide) (fun c => ?_) (fun c => ?_)
  · replace h := h.1 c
    refine g_ldc2 (v := (-4611686018427387904)) (by decide +kernel) kw_910 ?_
    exact g_lret (by decide +kernel) rfl ⟨_, rfl, h⟩
  · replace h := h.2 c
    refine g_aload_n (q := 0) (i := 0) (by decide +kernel) rfl rfl ?_
    refine g_iload_n (q := 3) (i := 3) (by decide +kernel) rfl rfl ?_
    refine g_callV (kd := 0) (ix := 0) (ci := 0) (N := 9) (T := xT_Main) (vs := [vi x3]) (st := []) (by decide +kernel) xm_Main_isVehicle kw_630 kw_632 kw_18 (by decide) rfl rfl rfl rfl (Nat.le_of_ble_eq_true rfl) (Nat.le_of_ble_eq_true rfl) h (fun vH3 H3 hq => ?_)
    obtain ⟨r4, rfl, h⟩ := hq
    refine g_if_eq (off := 13) (tgt := 28) (by decide +kernel) (by decide) (fun c => ?_) (fun c => ?_)
    · replace h := h.1 c
      refine g_ldc2 (v := (-4611686018427387904)) (by decide +kernel) kw_910 ?_
      exact g_lret (by decide +kernel) rfl ⟨_, rfl, h⟩
    · replace h := h.2 c
      refine g_iload (i := 4) (by decide +kernel) rfl ?_
      refine g_iconst (n := 0) (v := 0) (by decide +kernel) (by decide) ?_
      refine g_iconst (n := 1) (v := 1) (by decide +kernel) (by decide) ?_
      refine g_callS (vs := [vi x4, vi 0, vi 1]) (st := []) (by decide +kernel) xm_Main_isWithin kw_619 kw_620 rfl rfl (Nat.le_of_ble_eq_true rfl) (Nat.le_of_ble_eq_true rfl) h (fun vH5 H5 hq => ?_)
      obtain ⟨r6, rfl, h⟩ := hq
      refine g_if_ne (off := 7) (tgt := 32) (by decide +kernel) (by decide) (fun c => ?_) (fun c => ?_)
      · replace h := h.1 c
        refine g_iload_n (q := 2) (i := 2) (by decide +kernel) rfl rfl ?_
        refine g_if_ge (off := 7) (tgt := 40) (by decide +kernel) (by decide) (fun c => ?_) (fun c => ?_)
        · replace h := h.1 c
          refine g_iload_n (q := 2) (i := 2) (by decide +kernel) rfl rfl ?_
          refine g_bipush (n := 100) (v := 100) (by decide +kernel) (by decide) ?_
          refine g_idiv (by decide +kernel) (by decide) ?_
          refine g_istore (i := 5) (ls2 := [some (vr 0 0), some (vi x1), some (vi x2), some (vi x3), some (vi x4), some (vi (x2 / 100)), none, none, none]) (by decide +kernel) (by decide) rfl rfl ?_
          refine g_iload_n (q := 2) (i := 2) (by decide +kernel) rfl rfl ?_
          refine g_bipush (n := 100) (v := 100) (by decide +kernel) (by decide) ?_
          refine g_irem (by decide +kernel) (by decide) ?_
          refine g_istore (i := 6) (ls2 := [some (vr 0 0), some (vi x1), some (vi x2), some (vi x3), some (vi x4), some (vi (x2 / 100)), some (vi (xrem x2 100)), none, none]) (by decide +kernel) (by decide) rfl rfl ?_
          refine g_iload (i := 5) (by decide +kernel) rfl ?_
          refine g_iconst (n := 0) (v := 0) (by decide +kernel) (by decide) ?_
          refine g_bipush (n := 60) (v := 60) (by decide +kernel) (by decide) ?_
          refine g_callS (vs := [vi (x2 / 100), vi 0, vi 60]) (st := []) (by decide +kernel) xm_Main_isWithin kw_619 kw_620 rfl rfl (Nat.le_of_ble_eq_true rfl) (Nat.le_of_ble_eq_true rfl) h (fun vH7 H7 hq => ?_)
          obtain ⟨r8, rfl, h⟩ := hq
          refine g_if_eq (off := 14) (tgt := 74) (by decide +kernel) (by decide) (fun c => ?_) (fun c => ?_)
          · replace h := h.1 c
            refine g_ldc2 (v := (-4611686018427387904)) (by decide +kernel) kw_910 ?_
            exact g_lret (by decide +kernel) rfl ⟨_, rfl, h⟩
          · replace h := h.2 c
            refine g_iload (i := 6) (by decide +kernel) rfl ?_
            refine g_iconst (n := 1) (v := 1) (by decide +kernel) (by decide) ?_
            refine g_bipush (n := 40) (v := 40) (by decide +kernel) (by decide) ?_
            refine g_callS (vs := [vi (xrem x2 100), vi 1, vi 40]) (st := []) (by decide +kernel) xm_Main_isWithin kw_619 kw_620 rfl rfl (Nat.le_of_ble_eq_true rfl) (Nat.le_of_ble_eq_true rfl) h (fun vH9 H9 hq => ?_)
            obtain ⟨r10, rfl, h⟩ := hq
            refine g_if_ne (off := 7) (tgt := 78) (by decide +kernel) (by decide) (fun c => ?_) (fun c => ?_)
            · replace h := h.1 c
              refine g_iconst (n := 0) (v := 0) (by decide +kernel) (by decide) ?_
              refine g_istore (i := 7) (ls2 := [some (vr 0 0), some (vi x1), some (vi x2), some (vi x3), some (vi x4), some (vi (x2 / 100)), some (vi (xrem x2 100)), some (vi 0), none]) (by decide +kernel) (by decide) rfl rfl ?_
              refine g_iconst (n := 0) (v := 0) (by decide +kernel) (by decide) ?_
              refine g_istore (i := 8) (ls2 := [some (vr 0 0), some (vi x1), some (vi x2), some (vi x3), some (vi x4), some (vi (x2 / 100)), some (vi (xrem x2 100)), some (vi 0), some (vi 0)]) (by decide +kernel) (by decide) rfl rfl ?_
              refine g_drop (ls2 := [some (vr 0 0), some (vi x1), none, some (vi x3), some (vi x4), some (vi (x2 / 100)), some (vi (xrem x2 100)), some (vi 0), some (vi 0)]) (And.intro rfl (And.intro rfl (And.intro rfl (And.intro rfl (And.intro rfl (And.intro rfl (And.intro rfl (And.intro rfl trivial)))))))) ?_
              obtain ⟨I11, μ11, h0, h⟩ := h
              refine xloop (σ := Int32 × Int32) (fun s H => I11 s.1 s.2 H) (fun s H => μ11 s.1 s.2 H) (fun s H => g_Main_odds E (d + 1) 84 [some (vr 0 0), some (vi x1), none, some (vi x3), some (vi x4), some (vi (x2 / 100)), some (vi (xrem x2 100)), some (vi s.1), some (vi s.2)] [] H (ql Q)) (fun s H14 hI ih11 => ?_) (0, 0) H9 h0
              obtain ⟨z12, z13⟩ := s
              replace h := h z12 z13 H14 hI
              refine g_iload (i := 8) (by decide +kernel) rfl ?_
              refine g_iload (i := 6) (by decide +kernel) rfl ?_
              refine g_icmp_ge (off := 34) (tgt := 122) (by decide +kernel) (by decide) (fun c => ?_) (fun c => ?_)
              · replace h := h.1 c
                refine g_iload (i := 4) (by decide +kernel) rfl ?_
                refine g_if_ne (off := 14) (tgt := 138) (by decide +kernel) (by decide) (fun c => ?_) (fun c => ?_)
                · replace h := h.1 c
                  refine g_iload (i := 6) (by decide +kernel) rfl ?_
                  refine g_iload (i := 7) (by decide +kernel) rfl ?_
                  refine g_callS (vs := [vi (xrem x2 100), vi z12]) (st := []) (by decide +kernel) xm_Main_inLowestTerms kw_911 kw_912 rfl rfl (Nat.le_of_ble_eq_true rfl) (Nat.le_of_ble_eq_true rfl) h (fun vH15 H15 hq => ?_)
                  obtain ⟨r16, rfl, h⟩ := hq
                  refine g_i2l (by decide +kernel) ?_
                  exact g_lret (by decide +kernel) rfl ⟨_, rfl, h⟩
                · replace h := h.2 c
                  refine g_iload (i := 7) (by decide +kernel) rfl ?_
                  refine g_iload (i := 6) (by decide +kernel) rfl ?_
                  refine g_callS (vs := [vi z12, vi (xrem x2 100)]) (st := []) (by decide +kernel) xm_Main_inLowestTerms kw_911 kw_912 rfl rfl (Nat.le_of_ble_eq_true rfl) (Nat.le_of_ble_eq_true rfl) h (fun vH17 H17 hq => ?_)
                  obtain ⟨r18, rfl, h⟩ := hq
                  refine g_i2l (by decide +kernel) ?_
                  refine g_goto (off := 11) (tgt := 146) (by decide +kernel) (by decide) ?_
                  exact g_lret (by decide +kernel) rfl ⟨_, rfl, h⟩
              · replace h := h.2 c
                refine g_aload_n (q := 0) (i := 0) (by decide +kernel) rfl rfl ?_
                refine g_iload_n (q := 3) (i := 3) (by decide +kernel) rfl rfl ?_
                refine g_callV (kd := 0) (ix := 0) (ci := 0) (N := 9) (T := xT_Main) (vs := [vi x3]) (st := []) (by decide +kernel) xm_Main_think kw_622 kw_624 kw_17 (by decide) rfl rfl rfl rfl (Nat.le_of_ble_eq_true rfl) (Nat.le_of_ble_eq_true rfl) h (fun vH19 H19 hq => ?_)
                replace h := hq
                refine g_aload_n (q := 0) (i := 0) (by decide +kernel) rfl rfl ?_
                refine g_get (C := "ThreePoints") (T := xT_Main) (N := 9) (ci := 0) (k := 7) (v := vr 19 0) (by decide +kernel) (by decide) rfl rfl xi_Main (by decide) kw_589 rfl ?_
                refine g_iload_n (q := 1) (i := 1) (by decide +kernel) rfl rfl ?_
                refine g_iload (i := 8) (by decide +kernel) rfl ?_
                refine g_iadd (by decide +kernel) ?_
                refine g_iload (i := 5) (by decide +kernel) rfl ?_
                refine g_callV (kd := 19) (ix := 0) (ci := 8) (N := 4) (T := xT_Ride) (vs := [vi (x1 + z13), vi (x2 / 100)]) (st := []) (by decide +kernel) xm_Ride_byLots kw_896 kw_897 kw_898 (by decide) rfl rfl rfl rfl (Nat.le_of_ble_eq_true rfl) (Nat.le_of_ble_eq_true rfl) h (fun vH20 H20 hq => ?_)
                obtain ⟨r21, rfl, h⟩ := hq
                refine g_iconst (n := (-1)) (v := (-1)) (by decide +kernel) (by decide) ?_
                refine g_icmp_ne (off := 6) (tgt := 116) (by decide +kernel) (by decide) (fun c => ?_) (fun c => ?_)
                · replace h := h.1 c
                  refine g_iinc (i := 8) (n := 1) (v := (z13 + 1)) (ls2 := [some (vr 0 0), some (vi x1), none, some (vi x3), some (vi x4), some (vi (x2 / 100)), some (vi (xrem x2 100)), some (vi z12), some (vi (z13 + 1))]) (by decide +kernel) rfl rfl (by decide) rfl rfl ?_
                  refine g_goto (off := (-35)) (tgt := 84) (by decide +kernel) (by decide) ?_
                  obtain ⟨hI, hlt⟩ := h
                  exact g_drop (ls2 := [some (vr 0 0), some (vi x1), none, some (vi x3), some (vi x4), some (vi (x2 / 100)), some (vi (xrem x2 100)), some (vi z12), some (vi (z13 + 1))]) (And.intro rfl (And.intro rfl (And.intro rfl (And.intro rfl (And.intro rfl (And.intro rfl (And.intro rfl (And.intro rfl trivial)))))))) (ih11 (z12, (z13 + 1)) H20 hI hlt)
                · replace h := h.2 c
                  refine g_iinc (i := 7) (n := 1) (v := (z12 + 1)) (ls2 := [some (vr 0 0), some (vi x1), none, some (vi x3), some (vi x4), some (vi (x2 / 100)), some (vi (xrem x2 100)), some (vi (z12 + 1)), some (vi z13)]) (by decide +kernel) rfl rfl (by decide) rfl rfl ?_
                  refine g_iinc (i := 8) (n := 1) (v := (z13 + 1)) (ls2 := [some (vr 0 0), some (vi x1), none, some (vi x3), some (vi x4), some (vi (x2 / 100)), some (vi (xrem x2 100)), some (vi (z12 + 1)), some (vi (z13 + 1))]) (by decide +kernel) rfl rfl (by decide) rfl rfl ?_
                  refine g_goto (off := (-35)) (tgt := 84) (by decide +kernel) (by decide) ?_
                  obtain ⟨hI, hlt⟩ := h
                  exact g_drop (ls2 := [some (vr 0 0), some (vi x1), none, some (vi x3), some (vi x4), some (vi (x2 / 100)), some (vi (xrem x2 100)), some (vi (z12 + 1)), some (vi (z13 + 1))]) (And.intro rfl (And.intro rfl (And.intro rfl (And.intro rfl (And.intro rfl (And.intro rfl (And.intro rfl (And.intro rfl trivial)))))))) (ih11 ((z12 + 1), (z13 + 1)) H20 hI hlt)
            · replace h := h.2 c
              refine g_ldc2 (v := (-4611686018427387904)) (by decide +kernel) kw_910 ?_
              exact g_lret (by decide +kernel) rfl ⟨_, rfl, h⟩
        · replace h := h.2 c
          refine g_ldc2 (v := (-4611686018427387904)) (by decide +kernel) kw_910 ?_
          exact g_lret (by decide +kernel) rfl ⟨_, rfl, h⟩
      · replace h := h.2 c
        refine g_ldc2 (v := (-4611686018427387904)) (by decide +kernel) kw_910 ?_
        exact g_lret (by decide +kernel) rfl ⟨_, rfl, h⟩
def p_Main_image (E : XE) (d : Nat)  (H : HH) (Q : Int32 → HH → Prop) : Prop := c_Yard_become E d 1 0 H (fun H1 => ∀ H2 : HH, H2 = (hu H1 0 0 2 1) → (Q (H2 1 0 2) H2))
set_option maxHeartbeats 4000000 in
theorem l_Main_image {E : XE} {d : Nat}  {H : HH} {Q : Int32 → HH → Prop} (h : p_Main_image E d  H Q) : c_Main_image E (d + 1)  H Q := by
  show g_Main_image E (d + 1) 0 (xent [vr 0 0]) [] H (qi Q)
  refine g_drop (ls2 := [some (vr 0 0)]) (And.intro rfl trivial) ?_
  refine g_aload_n (q := 0) (i := 0) (by decide +kernel) rfl rfl ?_
  refine g_get (C := "ThreePoints") (T := xT_Main) (N := 9) (ci := 0) (k := 1) (v := vr 1 1) (by decide +kernel) (by decide) rfl rfl xi_Main (by decide) kw_583 rfl ?_
  refine g_aload_n (q := 0) (i := 0) (by decide +kernel) rfl rfl ?_
  refine g_get (C := "ThreePoints") (T := xT_Main) (N := 9) (ci := 0) (k := 0) (v := vr 1 0) (by decide +kernel) (by decide) rfl rfl xi_Main (by decide) kw_582 rfl ?_
  refine g_callV (kd := 1) (ix := 1) (ci := 1) (N := 3) (T := xT_Yard) (vs := [vr 1 0]) (st := []) (by decide +kernel) xm_Yard_become kw_918 kw_919 kw_920 (by decide) rfl rfl rfl rfl (Nat.le_of_ble_eq_true rfl) (Nat.le_of_ble_eq_true rfl) h (fun vH1 H1 hq => ?_)
  replace h := hq
  refine g_aload_n (q := 0) (i := 0) (by decide +kernel) rfl rfl ?_
  refine g_iconst (n := 1) (v := 1) (by decide +kernel) (by decide) ?_
  refine g_putZ (C := "ThreePoints") (T := xT_Main) (N := 9) (ci := 0) (k := 2) xy_Main (by decide +kernel) (by decide) rfl rfl xi_Main xy_Main_ok xn_Main (by decide) kw_584 rfl (by decide +kernel) (fun _ => rfl) (by decide) ?_
  refine g_aload_n (q := 0) (i := 0) (by decide +kernel) rfl rfl ?_
  refine g_get (C := "ThreePoints") (T := xT_Main) (N := 9) (ci := 0) (k := 0) (v := vr 1 0) (by decide +kernel) (by decide) rfl rfl xi_Main (by decide) kw_582 rfl ?_
  refine g_heap (fun H2 eH2 => ?_)
  replace h := h H2 eH2
  refine g_get (C := "ThreePoints$Yard") (T := xT_Yard) (N := 3) (ci := 1) (k := 2) (v := vi (H2 1 0 2)) (by decide +kernel) (by decide) rfl rfl xi_Yard (by decide) kw_167 rfl ?_
  exact g_iret (by decide +kernel) rfl ⟨_, rfl, h⟩
def p_Main_back (E : XE) (d : Nat)  (H : HH) (Q : Int32 → HH → Prop) : Prop := (¬ (H 0 0 2) = 0 → (c_Yard_become E d 0 1 H (fun H1 => Q (H1 1 0 2) H1))) ∧ ((H 0 0 2) = 0 → (Q (-3) H))
set_option maxHeartbeats 4000000 in
theorem l_Main_back {E : XE} {d : Nat}  {H : HH} {Q : Int32 → HH → Prop} (h : p_Main_back E d  H Q) : c_Main_back E (d + 1)  H Q := by
  show g_Main_back E (d + 1) 0 (xent [vr 0 0]) [] H (qi Q)
  refine g_drop (ls2 := [some (vr 0 0)]) (And.intro rfl trivial) ?_
  refine g_aload_n (q := 0) (i := 0) (by decide +kernel) rfl rfl ?_
  refine g_get (C := "ThreePoints") (T := xT_Main) (N := 9) (ci := 0) (k := 2) (v := vi (H 0 0 2)) (by decide +kernel) (by decide) rfl rfl xi_Main (by decide) kw_584 rfl ?_
  refine g_if_ne (off := 6) (tgt := 10) (by decide +kernel) (by decide) (fun c => ?_) (fun c => ?_)
  · replace h := h.1 c
    refine g_aload_n (q := 0) (i := 0) (by decide +kernel) rfl rfl ?_
    refine g_get (C := "ThreePoints") (T := xT_Main) (N := 9) (ci := 0) (k := 0) (v := vr 1 0) (by decide +kernel) (by decide) rfl rfl xi_Main (by decide) kw_582 rfl ?_
    refine g_aload_n (q := 0) (i := 0) (by decide +kernel) rfl rfl ?_
    refine g_get (C := "ThreePoints") (T := xT_Main) (N := 9) (ci := 0) (k := 1) (v := vr 1 1) (by decide +kernel) (by decide) rfl rfl xi_Main (by decide) kw_583 rfl ?_
    refine g_callV (kd := 1) (ix := 0) (ci := 1) (N := 3) (T := xT_Yard) (vs := [vr 1 1]) (st := []) (by decide +kernel) xm_Yard_become kw_918 kw_919 kw_920 (by decide) rfl rfl rfl rfl (Nat.le_of_ble_eq_true rfl) (Nat.le_of_ble_eq_true rfl) h (fun vH1 H1 hq => ?_)
    replace h := hq
    refine g_aload_n (q := 0) (i := 0) (by decide +kernel) rfl rfl ?_
    refine g_get (C := "ThreePoints") (T := xT_Main) (N := 9) (ci := 0) (k := 0) (v := vr 1 0) (by decide +kernel) (by decide) rfl rfl xi_Main (by decide) kw_582 rfl ?_
    refine g_get (C := "ThreePoints$Yard") (T := xT_Yard) (N := 3) (ci := 1) (k := 2) (v := vi (H1 1 0 2)) (by decide +kernel) (by decide) rfl rfl xi_Yard (by decide) kw_167 rfl ?_
    exact g_iret (by decide +kernel) rfl ⟨_, rfl, h⟩
  · replace h := h.2 c
    refine g_bipush (n := (-3)) (v := (-3)) (by decide +kernel) (by decide) ?_
    exact g_iret (by decide +kernel) rfl ⟨_, rfl, h⟩
def p_Main_sheet (E : XE) (d : Nat) (x1 : Int32) (x2 : Int32) (x3 : Int32) (H : HH) (Q : Int32 → HH → Prop) : Prop := c_Main_isSheet E d x1 H (fun r2 H1 => (r2 = 0 → (Q (-2) H1)) ∧ (¬ r2 = 0 → (c_Main_isWithin E d x2 (-1) 2 H1 (fun r4 H3 => (¬ r4 = 0 → ((x2 = (-1) → (vp_in x1 4 ∧ (c_Sheet_renew E d (x1.toNatClampNeg) x2 x3 H3 (fun H5 => Q 1 H5)))) ∧ (¬ x2 = (-1) → ((x3 ≤ 40 → ((0 ≤ x3 → (vp_in x1 4 ∧ (c_Sheet_renew E d (x1.toNatClampNeg) x2 x3 H3 (fun H6 => Q 1 H6)))) ∧ (¬ 0 ≤ x3 → (Q (-14) H3)))) ∧ (¬ x3 ≤ 40 → (Q (-2) H3)))))) ∧ (r4 = 0 → (Q (-2) H3))))))
set_option maxHeartbeats 4000000 in
theorem l_Main_sheet {E : XE} {d : Nat} {x1 : Int32} {x2 : Int32} {x3 : Int32} {H : HH} {Q : Int32 → HH → Prop} (h : p_Main_sheet E d x1 x2 x3 H Q) : c_Main_sheet E (d + 1) x1 x2 x3 H Q := by
  show g_Main_sheet E (d + 1) 0 (xent [vr 0 0, vi x1, vi x2, vi x3]) [] H (qi Q)
  refine g_drop (ls2 := [some (vr 0 0), some (vi x1), some (vi x2), some (vi x3)]) (And.intro rfl (And.intro rfl (And.intro rfl (And.intro rfl trivial)))) ?_
  refine g_iload_n (q := 1) (i := 1) (by decide +kernel) rfl rfl ?_
  refine g_callS (vs := [vi x1]) (st := []) (by decide +kernel) xm_Main_isSheet kw_850 kw_851 rfl rfl (Nat.le_of_ble_eq_true rfl) (Nat.le_of_ble_eq_true rfl) h (fun vH1 H1 hq => ?_)
  obtain ⟨r2, rfl, h⟩ := hq
  refine g_if_eq (off := 12) (tgt := 16) (by decide +kernel) (by decide) (fun c => ?_) (fun c => ?_)
  · replace h := h.1 c
    refine g_bipush (n := (-2)) (v := (-2)) (by decide +kernel) (by decide) ?_
    exact g_iret (by decide +kernel) rfl ⟨_, rfl, h⟩
  · replace h := h.2 c
    refine g_iload_n (q := 2) (i := 2) (by decide +kernel) rfl rfl ?_
    refine g_iconst (n := (-1)) (v := (-1)) (by decide +kernel) (by decide) ?_
    refine g_iconst (n := 2) (v := 2) (by decide +kernel) (by decide) ?_
    refine g_callS (vs := [vi x2, vi (-1), vi 2]) (st := []) (by decide +kernel) xm_Main_isWithin kw_619 kw_620 rfl rfl (Nat.le_of_ble_eq_true rfl) (Nat.le_of_ble_eq_true rfl) h (fun vH3 H3 hq => ?_)
    obtain ⟨r4, rfl, h⟩ := hq
    refine g_if_ne (off := 6) (tgt := 19) (by decide +kernel) (by decide) (fun c => ?_) (fun c => ?_)
    · replace h := h.1 c
      refine g_iload_n (q := 2) (i := 2) (by decide +kernel) rfl rfl ?_
      refine g_iconst (n := (-1)) (v := (-1)) (by decide +kernel) (by decide) ?_
      refine g_icmp_eq (off := 19) (tgt := 40) (by decide +kernel) (by decide) (fun c => ?_) (fun c => ?_)
      · replace h := h.1 c
        refine g_aload_n (q := 0) (i := 0) (by decide +kernel) rfl rfl ?_
        refine g_get (C := "ThreePoints") (T := xT_Main) (N := 9) (ci := 0) (k := 6) (v := vr 18 0) (by decide +kernel) (by decide) rfl rfl xi_Main (by decide) kw_588 rfl ?_
        refine g_iload_n (q := 1) (i := 1) (by decide +kernel) rfl rfl ?_
        obtain ⟨hin, h⟩ := h
        refine g_aald (v := vr 16 (x1.toNatClampNeg)) (by decide +kernel) (by decide) rfl (by decide) hin rfl ?_
        refine g_iload_n (q := 2) (i := 2) (by decide +kernel) rfl rfl ?_
        refine g_iload_n (q := 3) (i := 3) (by decide +kernel) rfl rfl ?_
        refine g_callV (kd := 16) (ix := (x1.toNatClampNeg)) (ci := 7) (N := 3) (T := xT_Sheet) (vs := [vi x2, vi x3]) (st := []) (by decide +kernel) xm_Sheet_renew kw_932 kw_933 kw_934 (by decide) rfl rfl rfl rfl (Nat.le_of_ble_eq_true rfl) (Nat.le_of_ble_eq_true rfl) h (fun vH5 H5 hq => ?_)
        replace h := hq
        refine g_iconst (n := 1) (v := 1) (by decide +kernel) (by decide) ?_
        exact g_iret (by decide +kernel) rfl ⟨_, rfl, h⟩
      · replace h := h.2 c
        refine g_iload_n (q := 3) (i := 3) (by decide +kernel) rfl rfl ?_
        refine g_bipush (n := 40) (v := 40) (by decide +kernel) (by decide) ?_
        refine g_icmp_le (off := 6) (tgt := 33) (by decide +kernel) (by decide) (fun c => ?_) (fun c => ?_)
        · replace h := h.1 c
          refine g_iload_n (q := 3) (i := 3) (by decide +kernel) rfl rfl ?_
          refine g_if_ge (off := 6) (tgt := 40) (by decide +kernel) (by decide) (fun c => ?_) (fun c => ?_)
          · replace h := h.1 c
            refine g_aload_n (q := 0) (i := 0) (by decide +kernel) rfl rfl ?_
            refine g_get (C := "ThreePoints") (T := xT_Main) (N := 9) (ci := 0) (k := 6) (v := vr 18 0) (by decide +kernel) (by decide) rfl rfl xi_Main (by decide) kw_588 rfl ?_
            refine g_iload_n (q := 1) (i := 1) (by decide +kernel) rfl rfl ?_
            obtain ⟨hin, h⟩ := h
            refine g_aald (v := vr 16 (x1.toNatClampNeg)) (by decide +kernel) (by decide) rfl (by decide) hin rfl ?_
            refine g_iload_n (q := 2) (i := 2) (by decide +kernel) rfl rfl ?_
            refine g_iload_n (q := 3) (i := 3) (by decide +kernel) rfl rfl ?_
            refine g_callV (kd := 16) (ix := (x1.toNatClampNeg)) (ci := 7) (N := 3) (T := xT_Sheet) (vs := [vi x2, vi x3]) (st := []) (by decide +kernel) xm_Sheet_renew kw_932 kw_933 kw_934 (by decide) rfl rfl rfl rfl (Nat.le_of_ble_eq_true rfl) (Nat.le_of_ble_eq_true rfl) h (fun vH6 H6 hq => ?_)
            replace h := hq
            refine g_iconst (n := 1) (v := 1) (by decide +kernel) (by decide) ?_
            exact g_iret (by decide +kernel) rfl ⟨_, rfl, h⟩
          · replace h := h.2 c
            refine g_bipush (n := (-14)) (v := (-14)) (by decide +kernel) (by decide) ?_
            exact g_iret (by decide +kernel) rfl ⟨_, rfl, h⟩
        · replace h := h.2 c
          refine g_bipush (n := (-2)) (v := (-2)) (by decide +kernel) (by decide) ?_
          exact g_iret (by decide +kernel) rfl ⟨_, rfl, h⟩
    · replace h := h.2 c
      refine g_bipush (n := (-2)) (v := (-2)) (by decide +kernel) (by decide) ?_
      exact g_iret (by decide +kernel) rfl ⟨_, rfl, h⟩
def p_Main_cell (E : XE) (d : Nat) (x1 : Int32) (x2 : Int32) (x3 : Int32) (H : HH) (Q : Int32 → HH → Prop) : Prop := c_Main_isSheet E d x1 H (fun r2 H1 => (¬ r2 = 0 → (vp_in x1 4 ∧ (c_Sheet_isMissing E d (x1.toNatClampNeg) H1 (fun r4 H3 => (r4 = 0 → (vp_in x1 4 ∧ (c_Sheet_has E d (x1.toNatClampNeg) x2 H3 (fun r6 H5 => (¬ r6 = 0 → (vp_in x1 4 ∧ (c_Sheet_put E d (x1.toNatClampNeg) x2 x3 H5 (fun H7 => Q 1 H7)))) ∧ (r6 = 0 → (Q (-12) H5)))))) ∧ (¬ r4 = 0 → (Q (-11) H3)))))) ∧ (r2 = 0 → (Q (-2) H1)))
set_option maxHeartbeats 4000000 in
theorem l_Main_cell {E : XE} {d : Nat} {x1 : Int32} {x2 : Int32} {x3 : Int32} {H : HH} {Q : Int32 → HH → Prop} (h : p_Main_cell E d x1 x2 x3 H Q) : c_Main_cell E (d + 1) x1 x2 x3 H Q := by
  show g_Main_cell E (d + 1) 0 (xent [vr 0 0, vi x1, vi x2, vi x3]) [] H (qi Q)
  refine g_drop (ls2 := [some (vr 0 0), some (vi x1), some (vi x2), some (vi x3)]) (And.intro rfl (And.intro rfl (And.intro rfl (And.intro rfl trivial)))) ?_
  refine g_iload_n (q := 1) (i := 1) (by decide +kernel) rfl rfl ?_
  refine g_callS (vs := [vi x1]) (st := []) (by decide +kernel) xm_Main_isSheet kw_850 kw_851 rfl rfl (Nat.le_of_ble_eq_true rfl) (Nat.le_of_ble_eq_true rfl) h (fun vH1 H1 hq => ?_)
  obtain ⟨r2, rfl, h⟩ := hq
  refine g_if_ne (off := 6) (tgt := 10) (by decide +kernel) (by decide) (fun c => ?_) (fun c => ?_)
  · replace h := h.1 c
    refine g_aload_n (q := 0) (i := 0) (by decide +kernel) rfl rfl ?_
    refine g_get (C := "ThreePoints") (T := xT_Main) (N := 9) (ci := 0) (k := 6) (v := vr 18 0) (by decide +kernel) (by decide) rfl rfl xi_Main (by decide) kw_588 rfl ?_
    refine g_iload_n (q := 1) (i := 1) (by decide +kernel) rfl rfl ?_
    obtain ⟨hin, h⟩ := h
    refine g_aald (v := vr 16 (x1.toNatClampNeg)) (by decide +kernel) (by decide) rfl (by decide) hin rfl ?_
    refine g_callV (kd := 16) (ix := (x1.toNatClampNeg)) (ci := 7) (N := 3) (T := xT_Sheet) (vs := []) (st := []) (by decide +kernel) xm_Sheet_isMissing kw_853 kw_854 kw_855 (by decide) rfl rfl rfl rfl (Nat.le_of_ble_eq_true rfl) (Nat.le_of_ble_eq_true rfl) h (fun vH3 H3 hq => ?_)
    obtain ⟨r4, rfl, h⟩ := hq
    refine g_if_eq (off := 6) (tgt := 25) (by decide +kernel) (by decide) (fun c => ?_) (fun c => ?_)
    · replace h := h.1 c
      refine g_aload_n (q := 0) (i := 0) (by decide +kernel) rfl rfl ?_
      refine g_get (C := "ThreePoints") (T := xT_Main) (N := 9) (ci := 0) (k := 6) (v := vr 18 0) (by decide +kernel) (by decide) rfl rfl xi_Main (by decide) kw_588 rfl ?_
      refine g_iload_n (q := 1) (i := 1) (by decide +kernel) rfl rfl ?_
      obtain ⟨hin, h⟩ := h
      refine g_aald (v := vr 16 (x1.toNatClampNeg)) (by decide +kernel) (by decide) rfl (by decide) hin rfl ?_
      refine g_iload_n (q := 2) (i := 2) (by decide +kernel) rfl rfl ?_
      refine g_callV (kd := 16) (ix := (x1.toNatClampNeg)) (ci := 7) (N := 3) (T := xT_Sheet) (vs := [vi x2]) (st := []) (by decide +kernel) xm_Sheet_has kw_943 kw_871 kw_872 (by decide) rfl rfl rfl rfl (Nat.le_of_ble_eq_true rfl) (Nat.le_of_ble_eq_true rfl) h (fun vH5 H5 hq => ?_)
      obtain ⟨r6, rfl, h⟩ := hq
      refine g_if_ne (off := 6) (tgt := 41) (by decide +kernel) (by decide) (fun c => ?_) (fun c => ?_)
      · replace h := h.1 c
        refine g_aload_n (q := 0) (i := 0) (by decide +kernel) rfl rfl ?_
        refine g_get (C := "ThreePoints") (T := xT_Main) (N := 9) (ci := 0) (k := 6) (v := vr 18 0) (by decide +kernel) (by decide) rfl rfl xi_Main (by decide) kw_588 rfl ?_
        refine g_iload_n (q := 1) (i := 1) (by decide +kernel) rfl rfl ?_
        obtain ⟨hin, h⟩ := h
        refine g_aald (v := vr 16 (x1.toNatClampNeg)) (by decide +kernel) (by decide) rfl (by decide) hin rfl ?_
        refine g_iload_n (q := 2) (i := 2) (by decide +kernel) rfl rfl ?_
        refine g_iload_n (q := 3) (i := 3) (by decide +kernel) rfl rfl ?_
        refine g_callV (kd := 16) (ix := (x1.toNatClampNeg)) (ci := 7) (N := 3) (T := xT_Sheet) (vs := [vi x2, vi x3]) (st := []) (by decide +kernel) xm_Sheet_put kw_944 kw_945 kw_946 (by decide) rfl rfl rfl rfl (Nat.le_of_ble_eq_true rfl) (Nat.le_of_ble_eq_true rfl) h (fun vH7 H7 hq => ?_)
        replace h := hq
        refine g_iconst (n := 1) (v := 1) (by decide +kernel) (by decide) ?_
        exact g_iret (by decide +kernel) rfl ⟨_, rfl, h⟩
      · replace h := h.2 c
        refine g_bipush (n := (-12)) (v := (-12)) (by decide +kernel) (by decide) ?_
        exact g_iret (by decide +kernel) rfl ⟨_, rfl, h⟩
    · replace h := h.2 c
      refine g_bipush (n := (-11)) (v := (-11)) (by decide +kernel) (by decide) ?_
      exact g_iret (by decide +kernel) rfl ⟨_, rfl, h⟩
  · replace h := h.2 c
    refine g_bipush (n := (-2)) (v := (-2)) (by decide +kernel) (by decide) ?_
    exact g_iret (by decide +kernel) rfl ⟨_, rfl, h⟩
def p_Main_copy (E : XE) (d : Nat) (x1 : Int32) (x2 : Int32) (x3 : Int32) (x4 : Int32) (x5 : Int32) (H : HH) (Q : Int32 → HH → Prop) : Prop := c_Main_isSheet E d x1 H (fun r2 H1 => (r2 = 0 → (Q (-2) H1)) ∧ (¬ r2 = 0 → (c_Main_isSheet E d x3 H1 (fun r4 H3 => (¬ r4 = 0 → (vp_in x1 4 ∧ (vp_in x3 4 ∧ (c_Sheet_isMissing E d (x1.toNatClampNeg) H3 (fun r6 H5 => (¬ r6 = 0 → (Q (-11) H5)) ∧ (r6 = 0 → (c_Sheet_isMissing E d (x3.toNatClampNeg) H5 (fun r8 H7 => (r8 = 0 → (((H7 16 (x1.toNatClampNeg) 1) = (H7 16 (x3.toNatClampNeg) 1) → (c_Sheet_hasRow E d (x1.toNatClampNeg) x2 x5 H7 (fun r10 H9 => (r10 = 0 → (Q (-12) H9)) ∧ (¬ r10 = 0 → (c_Sheet_hasRow E d (x3.toNatClampNeg) x4 x5 H9 (fun r12 H11 => (¬ r12 = 0 → (¬ x2 < 0 ∧ (¬ x4 < 0 ∧ (¬ x5 < 0 ∧ (x2.toNatClampNeg + x5.toNatClampNeg ≤ 40 ∧ (x4.toNatClampNeg + x5.toNatClampNeg ≤ 40 ∧ (∀ H18 : HH, H18 = (hrow H11 17 (x3.toNatClampNeg) (va_cpy (H11 17 (x1.toNatClampNeg)) (H11 17 (x3.toNatClampNeg)) x2.toNatClampNeg x4.toNatClampNeg x5.toNatClampNeg)) → (Q x5 H18)))))))) ∧ (r12 = 0 → (Q (-12) H11)))))))) ∧ (¬ (H7 16 (x1.toNatClampNeg) 1) = (H7 16 (x3.toNatClampNeg) 1) → (Q (-13) H7)))) ∧ (¬ r8 = 0 → (Q (-11) H7)))))))))) ∧ (r4 = 0 → (Q (-2) H3))))))
set_option maxHeartbeats 4000000 in
theorem l_Main_copy {E : XE} {d : Nat} {x1 : Int32} {x2 : Int32} {x3 : Int32} {x4 : Int32} {x5 : Int32} {H : HH} {Q : Int32 → HH → Prop} (h : p_Main_copy E d x1 x2 x3 x4 x5 H Q) : c_Main_copy E (d + 1) x1 x2 x3 x4 x5 H Q := by
  show g_Main_copy E (d + 1) 0 (xent [vr 0 0, vi x1, vi x2, vi x3, vi x4, vi x5]) [] H (qi Q)
  refine g_drop (ls2 := [some (vr 0 0), some (vi x1), some (vi x2), some (vi x3), some (vi x4), some (vi x5), none, none]) (And.intro rfl (And.intro rfl (And.intro rfl (And.intro rfl (And.intro rfl (And.intro rfl trivial)))))) ?_
  refine g_iload_n (q := 1) (i := 1) (by decide +kernel) rfl rfl ?_
  refine g_callS (vs := [vi x1]) (st := []) (by decide +kernel) xm_Main_isSheet kw_850 kw_851 rfl rfl (Nat.le_of_ble_eq_true rfl) (Nat.le_of_ble_eq_true rfl) h (fun vH1 H1 hq => ?_)
  obtain ⟨r2, rfl, h⟩ := hq
  refine g_if_eq (off := 10) (tgt := 14) (by decide +kernel) (by decide) (fun c => ?_) (fun c => ?_)
  · replace h := h.1 c
    refine g_bipush (n := (-2)) (v := (-2)) (by decide +kernel) (by decide) ?_
    exact g_iret (by decide +kernel) rfl ⟨_, rfl, h⟩
  · replace h := h.2 c
    refine g_iload_n (q := 3) (i := 3) (by decide +kernel) rfl rfl ?_
    refine g_callS (vs := [vi x3]) (st := []) (by decide +kernel) xm_Main_isSheet kw_850 kw_851 rfl rfl (Nat.le_of_ble_eq_true rfl) (Nat.le_of_ble_eq_true rfl) h (fun vH3 H3 hq => ?_)
    obtain ⟨r4, rfl, h⟩ := hq
    refine g_if_ne (off := 6) (tgt := 17) (by decide +kernel) (by decide) (fun c => ?_) (fun c => ?_)
    · replace h := h.1 c
      refine g_aload_n (q := 0) (i := 0) (by decide +kernel) rfl rfl ?_
      refine g_get (C := "ThreePoints") (T := xT_Main) (N := 9) (ci := 0) (k := 6) (v := vr 18 0) (by decide +kernel) (by decide) rfl rfl xi_Main (by decide) kw_588 rfl ?_
      refine g_iload_n (q := 1) (i := 1) (by decide +kernel) rfl rfl ?_
      obtain ⟨hin, h⟩ := h
      refine g_aald (v := vr 16 (x1.toNatClampNeg)) (by decide +kernel) (by decide) rfl (by decide) hin rfl ?_
      refine g_astore (i := 6) (ls2 := [some (vr 0 0), some (vi x1), some (vi x2), some (vi x3), some (vi x4), some (vi x5), some (vr 16 (x1.toNatClampNeg)), none]) (by decide +kernel) (by decide) rfl rfl ?_
      refine g_aload_n (q := 0) (i := 0) (by decide +kernel) rfl rfl ?_
      refine g_get (C := "ThreePoints") (T := xT_Main) (N := 9) (ci := 0) (k := 6) (v := vr 18 0) (by decide +kernel) (by decide) rfl rfl xi_Main (by decide) kw_588 rfl ?_
      refine g_iload_n (q := 3) (i := 3) (by decide +kernel) rfl rfl ?_
      obtain ⟨hin, h⟩ := h
      refine g_aald (v := vr 16 (x3.toNatClampNeg)) (by decide +kernel) (by decide) rfl (by decide) hin rfl ?_
      refine g_astore (i := 7) (ls2 := [some (vr 0 0), some (vi x1), some (vi x2), some (vi x3), some (vi x4), some (vi x5), some (vr 16 (x1.toNatClampNeg)), some (vr 16 (x3.toNatClampNeg))]) (by decide +kernel) (by decide) rfl rfl ?_
      refine g_aload (i := 6) (by decide +kernel) rfl ?_
      refine g_callV (kd := 16) (ix := (x1.toNatClampNeg)) (ci := 7) (N := 3) (T := xT_Sheet) (vs := []) (st := []) (by decide +kernel) xm_Sheet_isMissing kw_853 kw_854 kw_855 (by decide) rfl rfl rfl rfl (Nat.le_of_ble_eq_true rfl) (Nat.le_of_ble_eq_true rfl) h (fun vH5 H5 hq => ?_)
      obtain ⟨r6, rfl, h⟩ := hq
      refine g_if_ne (off := 11) (tgt := 49) (by decide +kernel) (by decide) (fun c => ?_) (fun c => ?_)
      · replace h := h.1 c
        refine g_bipush (n := (-11)) (v := (-11)) (by decide +kernel) (by decide) ?_
        exact g_iret (by decide +kernel) rfl ⟨_, rfl, h⟩
      · replace h := h.2 c
        refine g_aload (i := 7) (by decide +kernel) rfl ?_
        refine g_callV (kd := 16) (ix := (x3.toNatClampNeg)) (ci := 7) (N := 3) (T := xT_Sheet) (vs := []) (st := []) (by decide +kernel) xm_Sheet_isMissing kw_853 kw_854 kw_855 (by decide) rfl rfl rfl rfl (Nat.le_of_ble_eq_true rfl) (Nat.le_of_ble_eq_true rfl) h (fun vH7 H7 hq => ?_)
        obtain ⟨r8, rfl, h⟩ := hq
        refine g_if_eq (off := 6) (tgt := 52) (by decide +kernel) (by decide) (fun c => ?_) (fun c => ?_)
        · replace h := h.1 c
          refine g_aload (i := 6) (by decide +kernel) rfl ?_
          refine g_get (C := "ThreePoints$Sheet") (T := xT_Sheet) (N := 3) (ci := 7) (k := 1) (v := vi (H7 16 (x1.toNatClampNeg) 1)) (by decide +kernel) (by decide) rfl rfl xi_Sheet (by decide) kw_319 rfl ?_
          refine g_aload (i := 7) (by decide +kernel) rfl ?_
          refine g_get (C := "ThreePoints$Sheet") (T := xT_Sheet) (N := 3) (ci := 7) (k := 1) (v := vi (H7 16 (x3.toNatClampNeg) 1)) (by decide +kernel) (by decide) rfl rfl xi_Sheet (by decide) kw_319 rfl ?_
          refine g_icmp_eq (off := 6) (tgt := 68) (by decide +kernel) (by decide) (fun c => ?_) (fun c => ?_)
          · replace h := h.1 c
            refine g_aload (i := 6) (by decide +kernel) rfl ?_
            refine g_iload_n (q := 2) (i := 2) (by decide +kernel) rfl rfl ?_
            refine g_iload (i := 5) (by decide +kernel) rfl ?_
            refine g_callV (kd := 16) (ix := (x1.toNatClampNeg)) (ci := 7) (N := 3) (T := xT_Sheet) (vs := [vi x2, vi x5]) (st := []) (by decide +kernel) xm_Sheet_hasRow kw_952 kw_953 kw_954 (by decide) rfl rfl rfl rfl (Nat.le_of_ble_eq_true rfl) (Nat.le_of_ble_eq_true rfl) h (fun vH9 H9 hq => ?_)
            obtain ⟨r10, rfl, h⟩ := hq
            refine g_if_eq (off := 15) (tgt := 91) (by decide +kernel) (by decide) (fun c => ?_) (fun c => ?_)
            · replace h := h.1 c
              refine g_bipush (n := (-12)) (v := (-12)) (by decide +kernel) (by decide) ?_
              exact g_iret (by decide +kernel) rfl ⟨_, rfl, h⟩
            · replace h := h.2 c
              refine g_aload (i := 7) (by decide +kernel) rfl ?_
              refine g_iload (i := 4) (by decide +kernel) rfl ?_
              refine g_iload (i := 5) (by decide +kernel) rfl ?_
              refine g_callV (kd := 16) (ix := (x3.toNatClampNeg)) (ci := 7) (N := 3) (T := xT_Sheet) (vs := [vi x4, vi x5]) (st := []) (by decide +kernel) xm_Sheet_hasRow kw_952 kw_953 kw_954 (by decide) rfl rfl rfl rfl (Nat.le_of_ble_eq_true rfl) (Nat.le_of_ble_eq_true rfl) h (fun vH11 H11 hq => ?_)
              obtain ⟨r12, rfl, h⟩ := hq
              refine g_if_ne (off := 6) (tgt := 94) (by decide +kernel) (by decide) (fun c => ?_) (fun c => ?_)
              · replace h := h.1 c
                refine g_aload (i := 6) (by decide +kernel) rfl ?_
                refine g_get (C := "ThreePoints$Sheet") (T := xT_Sheet) (N := 3) (ci := 7) (k := 0) (v := vr 17 (x1.toNatClampNeg)) (by decide +kernel) (by decide) rfl rfl xi_Sheet (by decide) kw_317 rfl ?_
                refine g_iload_n (q := 2) (i := 2) (by decide +kernel) rfl rfl ?_
                refine g_aload (i := 7) (by decide +kernel) rfl ?_
                refine g_get (C := "ThreePoints$Sheet") (T := xT_Sheet) (N := 3) (ci := 7) (k := 0) (v := vr 17 (x3.toNatClampNeg)) (by decide +kernel) (by decide) rfl rfl xi_Sheet (by decide) kw_317 rfl ?_
                refine g_iload (i := 4) (by decide +kernel) rfl ?_
                refine g_iload (i := 5) (by decide +kernel) rfl ?_
                obtain ⟨hc13, h⟩ := h
                obtain ⟨hc14, h⟩ := h
                obtain ⟨hc15, h⟩ := h
                obtain ⟨hc16, h⟩ := h
                obtain ⟨hc17, h⟩ := h
                refine g_copy (by decide +kernel) kw_956 kw_577 kw_576 kw_82 (Nat.le_of_ble_eq_true rfl) (by decide) (by decide) rfl rfl hc13 hc14 hc15 hc16 hc17 ?_
                refine g_heapE (H1 := (hrow H11 17 (x3.toNatClampNeg) (va_cpy (H11 17 (x1.toNatClampNeg)) (H11 17 (x3.toNatClampNeg)) x2.toNatClampNeg x4.toNatClampNeg x5.toNatClampNeg))) rfl ?_
                refine g_iload (i := 5) (by decide +kernel) rfl ?_
                refine g_heap (fun H18 eH18 => ?_)
                replace h := h H18 eH18
                exact g_iret (by decide +kernel) rfl ⟨_, rfl, h⟩
              · replace h := h.2 c
                refine g_bipush (n := (-12)) (v := (-12)) (by decide +kernel) (by decide) ?_
                exact g_iret (by decide +kernel) rfl ⟨_, rfl, h⟩
          · replace h := h.2 c
            refine g_bipush (n := (-13)) (v := (-13)) (by decide +kernel) (by decide) ?_
            exact g_iret (by decide +kernel) rfl ⟨_, rfl, h⟩
        · replace h := h.2 c
          refine g_bipush (n := (-11)) (v := (-11)) (by decide +kernel) (by decide) ?_
          exact g_iret (by decide +kernel) rfl ⟨_, rfl, h⟩
    · replace h := h.2 c
      refine g_bipush (n := (-2)) (v := (-2)) (by decide +kernel) (by decide) ?_
      exact g_iret (by decide +kernel) rfl ⟨_, rfl, h⟩
def p_Main_vehiclesBy (E : XE) (d : Nat) (x1 : Int32) (x2 : Int32) (x3 : Int32) (x4 : Int32) (H : HH) (Q : Int32 → HH → Prop) : Prop := c_Main_isSheet E d x1 H (fun r2 H1 => (r2 = 0 → (Q (-2) H1)) ∧ (¬ r2 = 0 → (c_Main_isWithin E d x2 0 2 H1 (fun r4 H3 => (r4 = 0 → (Q (-2) H3)) ∧ (¬ r4 = 0 → (c_Main_isWithin E d x4 0 4 H3 (fun r6 H5 => (¬ r6 = 0 → (vp_in x1 4 ∧ (c_Sheet_isMissing E d (x1.toNatClampNeg) H5 (fun r8 H7 => (r8 = 0 → (((H7 16 (x1.toNatClampNeg) 1) = x2 → (∃ (I9 : Int32 → Int32 → HH → Prop) (μ9 : Int32 → Int32 → HH → Nat), I9 0 0 H7 ∧ ∀ (z10 : Int32) (z11 : Int32) (H12 : HH), I9 z10 z11 H12 → ((x4 ≤ z11 → (Q z10 H12)) ∧ (¬ x4 ≤ z11 → (∀ v13 : Int32, v13 = (x3 + (2 * z11)) → (c_Sheet_hasRow E d (x1.toNatClampNeg) v13 2 H12 (fun r15 H14 => (¬ r15 = 0 → (c_Sheet_get E d (x1.toNatClampNeg) v13 H14 (fun r17 H16 => c_Sheet_get E d (x1.toNatClampNeg) (v13 + 1) H16 (fun r19 H18 => c_Main_addVehicle E d r17 r19 H18 (fun r21 H20 => (r21 < 0 → (I9 z10 (z11 + 1) H20 ∧ μ9 z10 (z11 + 1) H20 < μ9 z10 z11 H12)) ∧ (¬ r21 < 0 → (I9 (z10 + 1) (z11 + 1) H20 ∧ μ9 (z10 + 1) (z11 + 1) H20 < μ9 z10 z11 H12))))))) ∧ (r15 = 0 → (Q (-12) H14))))))))) ∧ (¬ (H7 16 (x1.toNatClampNeg) 1) = x2 → (Q (-13) H7)))) ∧ (¬ r8 = 0 → (Q (-11) H7)))))) ∧ (r6 = 0 → (Q (-2) H5)))))))))
set_option maxHeartbeats 4000000 in
theorem l_Main_vehiclesBy {E : XE} {d : Nat} {x1 : Int32} {x2 : Int32} {x3 : Int32} {x4 : Int32} {H : HH} {Q : Int32 → HH → Prop} (h : p_Main_vehiclesBy E d x1 x2 x3 x4 H Q) : c_Main_vehiclesBy E (d + 1) x1 x2 x3 x4 H Q := by
  show g_Main_vehiclesBy E (d + 1) 0 (xent [vr 0 0, vi x1, vi x2, vi x3, vi x4]) [] H (qi Q)
  refine g_drop (ls2 := [some (vr 0 0), some (vi x1), some (vi x2), some (vi x3), some (vi x4), none, none, none, none]) (And.intro rfl (And.intro rfl (And.intro rfl (And.intro rfl (And.intro rfl trivial))))) ?_
  refine g_iload_n (q := 1) (i := 1) (by decide +kernel) rfl rfl ?_
  refine g_callS (vs := [vi x1]) (st := []) (by decide +kernel) xm_Main_isSheet kw_850 kw_851 rfl rfl (Nat.le_of_ble_eq_true rfl) (Nat.le_of_ble_eq_true rfl) h (fun vH1 H1 hq => ?_)
  obtain ⟨r2, rfl, h⟩ := hq
  refine g_if_eq (off := 22) (tgt := 26) (by decide +kernel) (by decide) (fun c => ?_) (fun c => ?_)
  · replace h := h.1 c
    refine g_bipush (n := (-2)) (v := (-2)) (by decide +kernel) (by decide) ?_
    exact g_iret (by decide +kernel) rfl ⟨_, rfl, h⟩
  · replace h := h.2 c
    refine g_iload_n (q := 2) (i := 2) (by decide +kernel) rfl rfl ?_
    refine g_iconst (n := 0) (v := 0) (by decide +kernel) (by decide) ?_
    refine g_iconst (n := 2) (v := 2) (by decide +kernel) (by decide) ?_
    refine g_callS (vs := [vi x2, vi 0, vi 2]) (st := []) (by decide +kernel) xm_Main_isWithin kw_619 kw_620 rfl rfl (Nat.le_of_ble_eq_true rfl) (Nat.le_of_ble_eq_true rfl) h (fun vH3 H3 hq => ?_)
    obtain ⟨r4, rfl, h⟩ := hq
    refine g_if_eq (off := 13) (tgt := 26) (by decide +kernel) (by decide) (fun c => ?_) (fun c => ?_)
    · replace h := h.1 c
      refine g_bipush (n := (-2)) (v := (-2)) (by decide +kernel) (by decide) ?_
      exact g_iret (by decide +kernel) rfl ⟨_, rfl, h⟩
    · replace h := h.2 c
      refine g_iload (i := 4) (by decide +kernel) rfl ?_
      refine g_iconst (n := 0) (v := 0) (by decide +kernel) (by decide) ?_
      refine g_iconst (n := 4) (v := 4) (by decide +kernel) (by decide) ?_
      refine g_callS (vs := [vi x4, vi 0, vi 4]) (st := []) (by decide +kernel) xm_Main_isWithin kw_619 kw_620 rfl rfl (Nat.le_of_ble_eq_true rfl) (Nat.le_of_ble_eq_true rfl) h (fun vH5 H5 hq => ?_)
      obtain ⟨r6, rfl, h⟩ := hq
      refine g_if_ne (off := 6) (tgt := 29) (by decide +kernel) (by decide) (fun c => ?_) (fun c => ?_)
      · replace h := h.1 c
        refine g_aload_n (q := 0) (i := 0) (by decide +kernel) rfl rfl ?_
        refine g_get (C := "ThreePoints") (T := xT_Main) (N := 9) (ci := 0) (k := 6) (v := vr 18 0) (by decide +kernel) (by decide) rfl rfl xi_Main (by decide) kw_588 rfl ?_
        refine g_iload_n (q := 1) (i := 1) (by decide +kernel) rfl rfl ?_
        obtain ⟨hin, h⟩ := h
        refine g_aald (v := vr 16 (x1.toNatClampNeg)) (by decide +kernel) (by decide) rfl (by decide) hin rfl ?_
        refine g_astore (i := 5) (ls2 := [some (vr 0 0), some (vi x1), some (vi x2), some (vi x3), some (vi x4), some (vr 16 (x1.toNatClampNeg)), none, none, none]) (by decide +kernel) (by decide) rfl rfl ?_
        refine g_aload (i := 5) (by decide +kernel) rfl ?_
        refine g_callV (kd := 16) (ix := (x1.toNatClampNeg)) (ci := 7) (N := 3) (T := xT_Sheet) (vs := []) (st := []) (by decide +kernel) xm_Sheet_isMissing kw_853 kw_854 kw_855 (by decide) rfl rfl rfl rfl (Nat.le_of_ble_eq_true rfl) (Nat.le_of_ble_eq_true rfl) h (fun vH7 H7 hq => ?_)
        obtain ⟨r8, rfl, h⟩ := hq
        refine g_if_eq (off := 6) (tgt := 48) (by decide +kernel) (by decide) (fun c => ?_) (fun c => ?_)
        · replace h := h.1 c
          refine g_aload (i := 5) (by decide +kernel) rfl ?_
          refine g_get (C := "ThreePoints$Sheet") (T := xT_Sheet) (N := 3) (ci := 7) (k := 1) (v := vi (H7 16 (x1.toNatClampNeg) 1)) (by decide +kernel) (by decide) rfl rfl xi_Sheet (by decide) kw_319 rfl ?_
          refine g_iload_n (q := 2) (i := 2) (by decide +kernel) rfl rfl ?_
          refine g_icmp_eq (off := 6) (tgt := 60) (by decide +kernel) (by decide) (fun c => ?_) (fun c => ?_)
          · replace h := h.1 c
            refine g_iconst (n := 0) (v := 0) (by decide +kernel) (by decide) ?_
            refine g_istore (i := 6) (ls2 := [some (vr 0 0), some (vi x1), some (vi x2), some (vi x3), some (vi x4), some (vr 16 (x1.toNatClampNeg)), some (vi 0), none, none]) (by decide +kernel) (by decide) rfl rfl ?_
            refine g_iconst (n := 0) (v := 0) (by decide +kernel) (by decide) ?_
            refine g_istore (i := 7) (ls2 := [some (vr 0 0), some (vi x1), some (vi x2), some (vi x3), some (vi x4), some (vr 16 (x1.toNatClampNeg)), some (vi 0), some (vi 0), none]) (by decide +kernel) (by decide) rfl rfl ?_
            refine g_drop (ls2 := [some (vr 0 0), none, none, some (vi x3), some (vi x4), some (vr 16 (x1.toNatClampNeg)), some (vi 0), some (vi 0), none]) (And.intro rfl (And.intro rfl (And.intro rfl (And.intro rfl (And.intro rfl (And.intro rfl trivial)))))) ?_
            obtain ⟨I9, μ9, h0, h⟩ := h
            refine xloop (σ := Int32 × Int32) (fun s H => I9 s.1 s.2 H) (fun s H => μ9 s.1 s.2 H) (fun s H => g_Main_vehiclesBy E (d + 1) 66 [some (vr 0 0), none, none, some (vi x3), some (vi x4), some (vr 16 (x1.toNatClampNeg)), some (vi s.1), some (vi s.2), none] [] H (qi Q)) (fun s H12 hI ih9 => ?_) (0, 0) H7 h0
            obtain ⟨z10, z11⟩ := s
            replace h := h z10 z11 H12 hI
            refine g_iload (i := 7) (by decide +kernel) rfl ?_
            refine g_iload (i := 4) (by decide +kernel) rfl ?_
            refine g_icmp_ge (off := 57) (tgt := 127) (by decide +kernel) (by decide) (fun c => ?_) (fun c => ?_)
            · replace h := h.1 c
              refine g_iload (i := 6) (by decide +kernel) rfl ?_
              exact g_iret (by decide +kernel) rfl ⟨_, rfl, h⟩
            · replace h := h.2 c
              refine g_iload_n (q := 3) (i := 3) (by decide +kernel) rfl rfl ?_
              refine g_iconst (n := 2) (v := 2) (by decide +kernel) (by decide) ?_
              refine g_iload (i := 7) (by decide +kernel) rfl ?_
              refine g_imul (by decide +kernel) ?_
              refine g_iadd (by decide +kernel) ?_
              refine g_topi (fun v13 ev13 => ?_)
              replace h := h v13 ev13
              refine g_istore (i := 8) (ls2 := [some (vr 0 0), none, none, some (vi x3), some (vi x4), some (vr 16 (x1.toNatClampNeg)), some (vi z10), some (vi z11), some (vi v13)]) (by decide +kernel) (by decide) rfl rfl ?_
              refine g_aload (i := 5) (by decide +kernel) rfl ?_
              refine g_iload (i := 8) (by decide +kernel) rfl ?_
              refine g_iconst (n := 2) (v := 2) (by decide +kernel) (by decide) ?_
              refine g_callV (kd := 16) (ix := (x1.toNatClampNeg)) (ci := 7) (N := 3) (T := xT_Sheet) (vs := [vi v13, vi 2]) (st := []) (by decide +kernel) xm_Sheet_hasRow kw_952 kw_953 kw_954 (by decide) rfl rfl rfl rfl (Nat.le_of_ble_eq_true rfl) (Nat.le_of_ble_eq_true rfl) h (fun vH14 H14 hq => ?_)
              obtain ⟨r15, rfl, h⟩ := hq
              refine g_if_ne (off := 6) (tgt := 95) (by decide +kernel) (by decide) (fun c => ?_) (fun c => ?_)
              · replace h := h.1 c
                refine g_aload_n (q := 0) (i := 0) (by decide +kernel) rfl rfl ?_
                refine g_aload (i := 5) (by decide +kernel) rfl ?_
                refine g_iload (i := 8) (by decide +kernel) rfl ?_
                refine g_callV (kd := 16) (ix := (x1.toNatClampNeg)) (ci := 7) (N := 3) (T := xT_Sheet) (vs := [vi v13]) (st := [vr 0 0]) (by decide +kernel) xm_Sheet_get kw_961 kw_867 kw_868 (by decide) rfl rfl rfl rfl (Nat.le_of_ble_eq_true rfl) (Nat.le_of_ble_eq_true rfl) h (fun vH16 H16 hq => ?_)
                obtain ⟨r17, rfl, h⟩ := hq
                refine g_aload (i := 5) (by decide +kernel) rfl ?_
                refine g_iload (i := 8) (by decide +kernel) rfl ?_
                refine g_iconst (n := 1) (v := 1) (by decide +kernel) (by decide) ?_
                refine g_iadd (by decide +kernel) ?_
                refine g_callV (kd := 16) (ix := (x1.toNatClampNeg)) (ci := 7) (N := 3) (T := xT_Sheet) (vs := [vi (v13 + 1)]) (st := [vi r17, vr 0 0]) (by decide +kernel) xm_Sheet_get kw_961 kw_867 kw_868 (by decide) rfl rfl rfl rfl (Nat.le_of_ble_eq_true rfl) (Nat.le_of_ble_eq_true rfl) h (fun vH18 H18 hq => ?_)
                obtain ⟨r19, rfl, h⟩ := hq
                refine g_callV (kd := 0) (ix := 0) (ci := 0) (N := 9) (T := xT_Main) (vs := [vi r17, vi r19]) (st := []) (by decide +kernel) xm_Main_addVehicle kw_718 kw_720 kw_21 (by decide) rfl rfl rfl rfl (Nat.le_of_ble_eq_true rfl) (Nat.le_of_ble_eq_true rfl) h (fun vH20 H20 hq => ?_)
                obtain ⟨r21, rfl, h⟩ := hq
                refine g_if_lt (off := 6) (tgt := 121) (by decide +kernel) (by decide) (fun c => ?_) (fun c => ?_)
                · replace h := h.1 c
                  refine g_iinc (i := 7) (n := 1) (v := (z11 + 1)) (ls2 := [some (vr 0 0), none, none, some (vi x3), some (vi x4), some (vr 16 (x1.toNatClampNeg)), some (vi z10), some (vi (z11 + 1)), some (vi v13)]) (by decide +kernel) rfl rfl (by decide) rfl rfl ?_
                  refine g_goto (off := (-58)) (tgt := 66) (by decide +kernel) (by decide) ?_
                  obtain ⟨hI, hlt⟩ := h
                  exact g_drop (ls2 := [some (vr 0 0), none, none, some (vi x3), some (vi x4), some (vr 16 (x1.toNatClampNeg)), some (vi z10), some (vi (z11 + 1)), none]) (And.intro rfl (And.intro rfl (And.intro rfl (And.intro rfl (And.intro rfl (And.intro rfl trivial)))))) (ih9 (z10, (z11 + 1)) H20 hI hlt)
                · replace h := h.2 c
                  refine g_iinc (i := 6) (n := 1) (v := (z10 + 1)) (ls2 := [some (vr 0 0), none, none, some (vi x3), some (vi x4), some (vr 16 (x1.toNatClampNeg)), some (vi (z10 + 1)), some (vi z11), some (vi v13)]) (by decide +kernel) rfl rfl (by decide) rfl rfl ?_
                  refine g_iinc (i := 7) (n := 1) (v := (z11 + 1)) (ls2 := [some (vr 0 0), none, none, some (vi x3), some (vi x4), some (vr 16 (x1.toNatClampNeg)), some (vi (z10 + 1)), some (vi (z11 + 1)), some (vi v13)]) (by decide +kernel) rfl rfl (by decide) rfl rfl ?_
                  refine g_goto (off := (-58)) (tgt := 66) (by decide +kernel) (by decide) ?_
                  obtain ⟨hI, hlt⟩ := h
                  exact g_drop (ls2 := [some (vr 0 0), none, none, some (vi x3), some (vi x4), some (vr 16 (x1.toNatClampNeg)), some (vi (z10 + 1)), some (vi (z11 + 1)), none]) (And.intro rfl (And.intro rfl (And.intro rfl (And.intro rfl (And.intro rfl (And.intro rfl trivial)))))) (ih9 ((z10 + 1), (z11 + 1)) H20 hI hlt)
              · replace h := h.2 c
                refine g_bipush (n := (-12)) (v := (-12)) (by decide +kernel) (by decide) ?_
                exact g_iret (by decide +kernel) rfl ⟨_, rfl, h⟩
          · replace h := h.2 c
            refine g_bipush (n := (-13)) (v := (-13)) (by decide +kernel) (by decide) ?_
            exact g_iret (by decide +kernel) rfl ⟨_, rfl, h⟩
        · replace h := h.2 c
          refine g_bipush (n := (-11)) (v := (-11)) (by decide +kernel) (by decide) ?_
          exact g_iret (by decide +kernel) rfl ⟨_, rfl, h⟩
      · replace h := h.2 c
        refine g_bipush (n := (-2)) (v := (-2)) (by decide +kernel) (by decide) ?_
        exact g_iret (by decide +kernel) rfl ⟨_, rfl, h⟩
def p_Main_taken (E : XE) (d : Nat) (x1 : Int32) (x2 : Int32) (H : HH) (Q : Int32 → HH → Prop) : Prop := c_Main_isWithin E d x2 0 6 H (fun r2 H1 => (¬ r2 = 0 → (c_Main_isWithin E d x1 0 19 H1 (fun r4 H3 => (¬ r4 = 0 → ((x1 < 4 → (c_Main_isVehicle E d x1 H3 (fun r6 H5 => (¬ r6 = 0 → (vp_in x1 4 ∧ (c_Vehicle_isA E d (4 * 0 + (x1.toNatClampNeg)) x2 H5 (fun r8 H7 => Q (if r8 = 0 then (-13) else x1 : Int32) H7)))) ∧ (r6 = 0 → (Q (-11) H5))))) ∧ (¬ x1 < 4 → ((¬ x2 = 6 → (Q (-13) H3)) ∧ (x2 = 6 → (c_Main_across E d (x1 - 4) H3 (fun r11 H10 => Q (r11 + 100) H10))))))) ∧ (r4 = 0 → (Q (-12) H3))))) ∧ (r2 = 0 → (Q (-2) H1)))
set_option maxHeartbeats 4000000 in
theorem l_Main_taken {E : XE} {d : Nat} {x1 : Int32} {x2 : Int32} {H : HH} {Q : Int32 → HH → Prop} (h : p_Main_taken E d x1 x2 H Q) : c_Main_taken E (d + 1) x1 x2 H Q := by
  show g_Main_taken E (d + 1) 0 (xent [vr 0 0, vi x1, vi x2]) [] H (qi Q)
  refine g_drop (ls2 := [some (vr 0 0), some (vi x1), some (vi x2)]) (And.intro rfl (And.intro rfl (And.intro rfl trivial))) ?_
  refine g_iload_n (q := 2) (i := 2) (by decide +kernel) rfl rfl ?_
  refine g_iconst (n := 0) (v := 0) (by decide +kernel) (by decide) ?_
  refine g_bipush (n := 6) (v := 6) (by decide +kernel) (by decide) ?_
  refine g_callS (vs := [vi x2, vi 0, vi 6]) (st := []) (by decide +kernel) xm_Main_isWithin kw_619 kw_620 rfl rfl (Nat.le_of_ble_eq_true rfl) (Nat.le_of_ble_eq_true rfl) h (fun vH1 H1 hq => ?_)
  obtain ⟨r2, rfl, h⟩ := hq
  refine g_if_ne (off := 6) (tgt := 13) (by decide +kernel) (by decide) (fun c => ?_) (fun c => ?_)
  · replace h := h.1 c
    refine g_iload_n (q := 1) (i := 1) (by decide +kernel) rfl rfl ?_
    refine g_iconst (n := 0) (v := 0) (by decide +kernel) (by decide) ?_
    refine g_bipush (n := 19) (v := 19) (by decide +kernel) (by decide) ?_
    refine g_callS (vs := [vi x1, vi 0, vi 19]) (st := []) (by decide +kernel) xm_Main_isWithin kw_619 kw_620 rfl rfl (Nat.le_of_ble_eq_true rfl) (Nat.le_of_ble_eq_true rfl) h (fun vH3 H3 hq => ?_)
    obtain ⟨r4, rfl, h⟩ := hq
    refine g_if_ne (off := 6) (tgt := 26) (by decide +kernel) (by decide) (fun c => ?_) (fun c => ?_)
    · replace h := h.1 c
      refine g_iload_n (q := 1) (i := 1) (by decide +kernel) rfl rfl ?_
      refine g_iconst (n := 4) (v := 4) (by decide +kernel) (by decide) ?_
      refine g_icmp_lt (off := 24) (tgt := 52) (by decide +kernel) (by decide) (fun c => ?_) (fun c => ?_)
      · replace h := h.1 c
        refine g_aload_n (q := 0) (i := 0) (by decide +kernel) rfl rfl ?_
        refine g_iload_n (q := 1) (i := 1) (by decide +kernel) rfl rfl ?_
        refine g_callV (kd := 0) (ix := 0) (ci := 0) (N := 9) (T := xT_Main) (vs := [vi x1]) (st := []) (by decide +kernel) xm_Main_isVehicle kw_630 kw_632 kw_18 (by decide) rfl rfl rfl rfl (Nat.le_of_ble_eq_true rfl) (Nat.le_of_ble_eq_true rfl) h (fun vH5 H5 hq => ?_)
        obtain ⟨r6, rfl, h⟩ := hq
        refine g_if_ne (off := 6) (tgt := 63) (by decide +kernel) (by decide) (fun c => ?_) (fun c => ?_)
        · replace h := h.1 c
          refine g_aload_n (q := 0) (i := 0) (by decide +kernel) rfl rfl ?_
          refine g_get (C := "ThreePoints") (T := xT_Main) (N := 9) (ci := 0) (k := 0) (v := vr 1 0) (by decide +kernel) (by decide) rfl rfl xi_Main (by decide) kw_582 rfl ?_
          refine g_get (C := "ThreePoints$Yard") (T := xT_Yard) (N := 3) (ci := 1) (k := 1) (v := vr 4 0) (by decide +kernel) (by decide) rfl rfl xi_Yard (by decide) kw_165 rfl ?_
          refine g_iload_n (q := 1) (i := 1) (by decide +kernel) rfl rfl ?_
          obtain ⟨hin, h⟩ := h
          refine g_aald (v := vr 3 (4 * 0 + (x1.toNatClampNeg))) (by decide +kernel) (by decide) rfl (by decide) hin rfl ?_
          refine g_iload_n (q := 2) (i := 2) (by decide +kernel) rfl rfl ?_
          refine g_callV (kd := 3) (ix := (4 * 0 + (x1.toNatClampNeg))) (ci := 3) (N := 7) (T := xT_Vehicle) (vs := [vi x2]) (st := []) (by decide +kernel) xm_Vehicle_isA kw_967 kw_968 kw_969 (by decide) rfl rfl rfl rfl (Nat.le_of_ble_eq_true rfl) (Nat.le_of_ble_eq_true rfl) h (fun vH7 H7 hq => ?_)
          obtain ⟨r8, rfl, h⟩ := hq
          suffices hj9 : g_Main_taken E (d + 1) 85 [some (vr 0 0), some (vi x1), some (vi x2)] [vi (if r8 = 0 then (-13) else x1 : Int32)] H7 (qi Q) by
            refine g_if_eq (off := 7) (tgt := 83) (by decide +kernel) (by decide) (fun c => ?_) (fun c => ?_)
            · rw [if_pos c] at hj9
              refine g_bipush (n := (-13)) (v := (-13)) (by decide +kernel) (by decide) ?_
              exact hj9
            · rw [if_neg c] at hj9
              refine g_iload_n (q := 1) (i := 1) (by decide +kernel) rfl rfl ?_
              refine g_goto (off := 5) (tgt := 85) (by decide +kernel) (by decide) ?_
              exact hj9
          exact g_iret (by decide +kernel) rfl ⟨_, rfl, h⟩
        · replace h := h.2 c
          refine g_bipush (n := (-11)) (v := (-11)) (by decide +kernel) (by decide) ?_
          exact g_iret (by decide +kernel) rfl ⟨_, rfl, h⟩
      · replace h := h.2 c
        refine g_iload_n (q := 2) (i := 2) (by decide +kernel) rfl rfl ?_
        refine g_bipush (n := 6) (v := 6) (by decide +kernel) (by decide) ?_
        refine g_icmp_ne (off := 15) (tgt := 49) (by decide +kernel) (by decide) (fun c => ?_) (fun c => ?_)
        · replace h := h.1 c
          refine g_bipush (n := (-13)) (v := (-13)) (by decide +kernel) (by decide) ?_
          exact g_iret (by decide +kernel) rfl ⟨_, rfl, h⟩
        · replace h := h.2 c
          refine g_iload_n (q := 1) (i := 1) (by decide +kernel) rfl rfl ?_
          refine g_iconst (n := 4) (v := 4) (by decide +kernel) (by decide) ?_
          refine g_isub (by decide +kernel) ?_
          refine g_callS (vs := [vi (x1 - 4)]) (st := []) (by decide +kernel) xm_Main_across kw_966 kw_647 rfl rfl (Nat.le_of_ble_eq_true rfl) (Nat.le_of_ble_eq_true rfl) h (fun vH10 H10 hq => ?_)
          obtain ⟨r11, rfl, h⟩ := hq
          refine g_bipush (n := 100) (v := 100) (by decide +kernel) (by decide) ?_
          refine g_iadd (by decide +kernel) ?_
          refine g_goto (off := 5) (tgt := 51) (by decide +kernel) (by decide) ?_
          exact g_iret (by decide +kernel) rfl ⟨_, rfl, h⟩
    · replace h := h.2 c
      refine g_bipush (n := (-12)) (v := (-12)) (by decide +kernel) (by decide) ?_
      exact g_iret (by decide +kernel) rfl ⟨_, rfl, h⟩
  · replace h := h.2 c
    refine g_bipush (n := (-2)) (v := (-2)) (by decide +kernel) (by decide) ?_
    exact g_iret (by decide +kernel) rfl ⟨_, rfl, h⟩
