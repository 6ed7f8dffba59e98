/-! a method: its place, its formula, the walk that proves it; printed by wip/gen/emitall.py -/
abbrev g_Text_clear (E : XE) (d pc : Nat) (ls : List (Option AV)) (st : List AV) (H : HH) (Q : AV → HH → Prop) : Prop := Gp E.1 E.2.1 E.2.2.1 E.2.2.2 xTX xRF xLC d "ThreePoints$Text" prog_8_method_2_code 1 none pc ls st H Q
def c_Text_clear (E : XE) (d : Nat) (t : Nat) (H : HH) (Q : HH → Prop) : Prop := g_Text_clear E d 0 (xent [vr 11 t]) [] H (qv Q)
theorem xm_Text_clear : xM ⟨"ThreePoints$Text", "clear", "()V"⟩ prog_8_method_2_code 1 none 0 := ⟨kw_507, kw_71, by decide +kernel, by decide +kernel, by decide⟩
abbrev g_Text_put (E : XE) (d pc : Nat) (ls : List (Option AV)) (st : List AV) (H : HH) (Q : AV → HH → Prop) : Prop := Gp E.1 E.2.1 E.2.2.1 E.2.2.2 xTX xRF xLC d "ThreePoints$Text" prog_8_method_4_code 2 none pc ls st H Q
def c_Text_put (E : XE) (d : Nat) (t : Nat) (x1 : Int32) (H : HH) (Q : HH → Prop) : Prop := g_Text_put E d 0 (xent [vr 11 t, vi x1]) [] H (qv Q)
theorem xm_Text_put : xM ⟨"ThreePoints$Text", "put", "(I)V"⟩ prog_8_method_4_code 2 none 1 := ⟨kw_558, kw_71, by decide +kernel, by decide +kernel, by decide⟩
abbrev g_Text_endPart (E : XE) (d pc : Nat) (ls : List (Option AV)) (st : List AV) (H : HH) (Q : AV → HH → Prop) : Prop := Gp E.1 E.2.1 E.2.2.1 E.2.2.2 xTX xRF xLC d "ThreePoints$Text" prog_8_method_5_code 2 none pc ls st H Q
def c_Text_endPart (E : XE) (d : Nat) (t : Nat) (x1 : Int32) (H : HH) (Q : HH → Prop) : Prop := g_Text_endPart E d 0 (xent [vr 11 t, vi x1]) [] H (qv Q)
theorem xm_Text_endPart : xM ⟨"ThreePoints$Text", "endPart", "(I)V"⟩ prog_8_method_5_code 2 none 1 := ⟨kw_566, kw_71, by decide +kernel, by decide +kernel, by decide⟩
abbrev g_Text_become (E : XE) (d pc : Nat) (ls : List (Option AV)) (st : List AV) (H : HH) (Q : AV → HH → Prop) : Prop := Gp E.1 E.2.1 E.2.2.1 E.2.2.2 xTX xRF xLC d "ThreePoints$Text" prog_8_method_3_code 2 none pc ls st H Q
def c_Text_become (E : XE) (d : Nat) (t : Nat) (u : Nat) (H : HH) (Q : HH → Prop) : Prop := g_Text_become E d 0 (xent [vr 11 t, vr 11 u]) [] H (qv Q)
theorem xm_Text_become : xM ⟨"ThreePoints$Text", "become", "(LThreePoints$Text;)V"⟩ prog_8_method_3_code 2 none 1 := ⟨kw_574, kw_71, by decide +kernel, by decide +kernel, by decide⟩
abbrev g_Main_isWithin (E : XE) (d pc : Nat) (ls : List (Option AV)) (st : List AV) (H : HH) (Q : AV → HH → Prop) : Prop := Gp E.1 E.2.1 E.2.2.1 E.2.2.2 xTX xRF xLC d "ThreePoints" prog_1_method_33_code 3 (some .boolean) pc ls st H Q
def c_Main_isWithin (E : XE) (d : Nat) (x0 : Int32) (x1 : Int32) (x2 : Int32) (H : HH) (Q : Int32 → HH → Prop) : Prop := g_Main_isWithin E d 0 (xent [vi x0, vi x1, vi x2]) [] H (qi Q)
theorem xm_Main_isWithin : xM ⟨"ThreePoints", "isWithin", "(III)Z"⟩ prog_1_method_33_code 3 (some .boolean) 3 := ⟨kw_621, kw_65, by decide +kernel, by decide +kernel, by decide⟩
abbrev g_Lane_become (E : XE) (d pc : Nat) (ls : List (Option AV)) (st : List AV) (H : HH) (Q : AV → HH → Prop) : Prop := Gp E.1 E.2.1 E.2.2.1 E.2.2.2 xTX xRF xLC d "ThreePoints$Lane" prog_2_method_2_code 2 none pc ls st H Q
def c_Lane_become (E : XE) (d : Nat) (t : Nat) (u : Nat) (H : HH) (Q : HH → Prop) : Prop := g_Lane_become E d 0 (xent [vr 2 t, vr 2 u]) [] H (qv Q)
theorem xm_Lane_become : xM ⟨"ThreePoints$Lane", "become", "(LThreePoints$Lane;)V"⟩ prog_2_method_2_code 2 none 1 := ⟨kw_629, kw_67, by decide +kernel, by decide +kernel, by decide⟩
abbrev g_Vehicle_become (E : XE) (d pc : Nat) (ls : List (Option AV)) (st : List AV) (H : HH) (Q : AV → HH → Prop) : Prop := Gp E.1 E.2.1 E.2.2.1 E.2.2.2 xTX xRF xLC d "ThreePoints$Vehicle" prog_9_method_2_code 2 none pc ls st H Q
def c_Vehicle_become (E : XE) (d : Nat) (t : Nat) (u : Nat) (H : HH) (Q : HH → Prop) : Prop := g_Vehicle_become E d 0 (xent [vr 3 t, vr 3 u]) [] H (qv Q)
theorem xm_Vehicle_become : xM ⟨"ThreePoints$Vehicle", "become", "(LThreePoints$Vehicle;)V"⟩ prog_9_method_2_code 2 none 1 := ⟨kw_637, kw_68, by decide +kernel, by decide +kernel, by decide⟩
abbrev g_Main_across (E : XE) (d pc : Nat) (ls : List (Option AV)) (st : List AV) (H : HH) (Q : AV → HH → Prop) : Prop := Gp E.1 E.2.1 E.2.2.1 E.2.2.2 xTX xRF xLC d "ThreePoints" prog_1_method_36_code 1 (some .int) pc ls st H Q
def c_Main_across (E : XE) (d : Nat) (x0 : Int32) (H : HH) (Q : Int32 → HH → Prop) : Prop := g_Main_across E d 0 (xent [vi x0]) [] H (qi Q)
theorem xm_Main_across : xM ⟨"ThreePoints", "across", "(I)I"⟩ prog_1_method_36_code 1 (some .int) 1 := ⟨kw_648, kw_65, by decide +kernel, by decide +kernel, by decide⟩
abbrev g_Vehicle_front (E : XE) (d pc : Nat) (ls : List (Option AV)) (st : List AV) (H : HH) (Q : AV → HH → Prop) : Prop := Gp E.1 E.2.1 E.2.2.1 E.2.2.2 xTX xRF xLC d "ThreePoints$Vehicle" prog_9_method_5_code 1 (some .int) pc ls st H Q
def c_Vehicle_front (E : XE) (d : Nat) (t : Nat) (H : HH) (Q : Int32 → HH → Prop) : Prop := g_Vehicle_front E d 0 (xent [vr 3 t]) [] H (qi Q)
theorem xm_Vehicle_front : xM ⟨"ThreePoints$Vehicle", "front", "()I"⟩ prog_9_method_5_code 1 (some .int) 0 := ⟨kw_654, kw_68, by decide +kernel, by decide +kernel, by decide⟩
abbrev g_Vehicle_behind (E : XE) (d pc : Nat) (ls : List (Option AV)) (st : List AV) (H : HH) (Q : AV → HH → Prop) : Prop := Gp E.1 E.2.1 E.2.2.1 E.2.2.2 xTX xRF xLC d "ThreePoints$Vehicle" prog_9_method_6_code 1 (some .int) pc ls st H Q
def c_Vehicle_behind (E : XE) (d : Nat) (t : Nat) (H : HH) (Q : Int32 → HH → Prop) : Prop := g_Vehicle_behind E d 0 (xent [vr 3 t]) [] H (qi Q)
theorem xm_Vehicle_behind : xM ⟨"ThreePoints$Vehicle", "behind", "()I"⟩ prog_9_method_6_code 1 (some .int) 0 := ⟨kw_658, kw_68, by decide +kernel, by decide +kernel, by decide⟩
abbrev g_Text_operand (E : XE) (d pc : Nat) (ls : List (Option AV)) (st : List AV) (H : HH) (Q : AV → HH → Prop) : Prop := Gp E.1 E.2.1 E.2.2.1 E.2.2.2 xTX xRF xLC d "ThreePoints$Text" prog_8_method_7_code 3 (some .int) pc ls st H Q
def c_Text_operand (E : XE) (d : Nat) (x0 : Int32) (H : HH) (Q : Int32 → HH → Prop) : Prop := g_Text_operand E d 0 (xent [vi x0, vr 20 0]) [] H (qi Q)
theorem xm_Text_operand : xM ⟨"ThreePoints$Text", "operand", "(I[I)I"⟩ prog_8_method_7_code 3 (some .int) 2 := ⟨kw_670, kw_71, by decide +kernel, by decide +kernel, by decide⟩
abbrev g_Text_joined (E : XE) (d pc : Nat) (ls : List (Option AV)) (st : List AV) (H : HH) (Q : AV → HH → Prop) : Prop := Gp E.1 E.2.1 E.2.2.1 E.2.2.2 xTX xRF xLC d "ThreePoints$Text" prog_8_method_8_code 3 (some .int) pc ls st H Q
def c_Text_joined (E : XE) (d : Nat) (x0 : Int32) (x1 : Int32) (x2 : Int32) (H : HH) (Q : Int32 → HH → Prop) : Prop := g_Text_joined E d 0 (xent [vi x0, vi x1, vi x2]) [] H (qi Q)
theorem xm_Text_joined : xM ⟨"ThreePoints$Text", "joined", "(III)I"⟩ prog_8_method_8_code 3 (some .int) 3 := ⟨kw_673, kw_71, by decide +kernel, by decide +kernel, by decide⟩
abbrev g_Text_says (E : XE) (d pc : Nat) (ls : List (Option AV)) (st : List AV) (H : HH) (Q : AV → HH → Prop) : Prop := Gp E.1 E.2.1 E.2.2.1 E.2.2.2 xTX xRF xLC d "ThreePoints$Text" prog_8_method_6_code 7 (some .int) pc ls st H Q
def c_Text_says (E : XE) (d : Nat) (t : Nat) (x1 : Int32) (H : HH) (Q : Int32 → HH → Prop) : Prop := g_Text_says E d 0 (xent [vr 11 t, vi x1, vr 20 0]) [] H (qi Q)
theorem xm_Text_says : xM ⟨"ThreePoints$Text", "says", "(I[I)I"⟩ prog_8_method_6_code 7 (some .int) 2 := ⟨kw_667, kw_71, by decide +kernel, by decide +kernel, by decide⟩
abbrev g_Main_isByte (E : XE) (d pc : Nat) (ls : List (Option AV)) (st : List AV) (H : HH) (Q : AV → HH → Prop) : Prop := Gp E.1 E.2.1 E.2.2.1 E.2.2.2 xTX xRF xLC d "ThreePoints" prog_1_method_34_code 1 (some .boolean) pc ls st H Q
def c_Main_isByte (E : XE) (d : Nat) (x0 : Int32) (H : HH) (Q : Int32 → HH → Prop) : Prop := g_Main_isByte E d 0 (xent [vi x0]) [] H (qi Q)
theorem xm_Main_isByte : xM ⟨"ThreePoints", "isByte", "(I)Z"⟩ prog_1_method_34_code 1 (some .boolean) 1 := ⟨kw_688, kw_65, by decide +kernel, by decide +kernel, by decide⟩
abbrev g_Main_isTwoFlags (E : XE) (d pc : Nat) (ls : List (Option AV)) (st : List AV) (H : HH) (Q : AV → HH → Prop) : Prop := Gp E.1 E.2.1 E.2.2.1 E.2.2.2 xTX xRF xLC d "ThreePoints" prog_1_method_35_code 1 (some .boolean) pc ls st H Q
def c_Main_isTwoFlags (E : XE) (d : Nat) (x0 : Int32) (H : HH) (Q : Int32 → HH → Prop) : Prop := g_Main_isTwoFlags E d 0 (xent [vi x0]) [] H (qi Q)
theorem xm_Main_isTwoFlags : xM ⟨"ThreePoints", "isTwoFlags", "(I)Z"⟩ prog_1_method_35_code 1 (some .boolean) 1 := ⟨kw_712, kw_65, by decide +kernel, by decide +kernel, by decide⟩
abbrev g_Vehicle_startAt (E : XE) (d pc : Nat) (ls : List (Option AV)) (st : List AV) (H : HH) (Q : AV → HH → Prop) : Prop := Gp E.1 E.2.1 E.2.2.1 E.2.2.2 xTX xRF xLC d "ThreePoints$Vehicle" prog_9_method_3_code 2 none pc ls st H Q
def c_Vehicle_startAt (E : XE) (d : Nat) (t : Nat) (x1 : Int32) (H : HH) (Q : HH → Prop) : Prop := g_Vehicle_startAt E d 0 (xent [vr 3 t, vi x1]) [] H (qv Q)
theorem xm_Vehicle_startAt : xM ⟨"ThreePoints$Vehicle", "startAt", "(I)V"⟩ prog_9_method_3_code 2 none 1 := ⟨kw_725, kw_68, by decide +kernel, by decide +kernel, by decide⟩
abbrev g_Vehicle_turns (E : XE) (d pc : Nat) (ls : List (Option AV)) (st : List AV) (H : HH) (Q : AV → HH → Prop) : Prop := Gp E.1 E.2.1 E.2.2.1 E.2.2.2 xTX xRF xLC d "ThreePoints$Vehicle" prog_9_method_7_code 4 (some .int) pc ls st H Q
def c_Vehicle_turns (E : XE) (d : Nat) (t : Nat) (x1 : Int32) (x2 : Int32) (H : HH) (Q : Int32 → HH → Prop) : Prop := g_Vehicle_turns E d 0 (xent [vr 3 t, vi x1, vi x2]) [] H (qi Q)
theorem xm_Vehicle_turns : xM ⟨"ThreePoints$Vehicle", "turns", "(II)I"⟩ prog_9_method_7_code 4 (some .int) 2 := ⟨kw_755, kw_68, by decide +kernel, by decide +kernel, by decide⟩
abbrev g_Vehicle_stepTo (E : XE) (d pc : Nat) (ls : List (Option AV)) (st : List AV) (H : HH) (Q : AV → HH → Prop) : Prop := Gp E.1 E.2.1 E.2.2.1 E.2.2.2 xTX xRF xLC d "ThreePoints$Vehicle" prog_9_method_8_code 5 none pc ls st H Q
def c_Vehicle_stepTo (E : XE) (d : Nat) (t : Nat) (x1 : Int32) (x2 : Int32) (x3 : Int32) (x4 : Int32) (H : HH) (Q : HH → Prop) : Prop := g_Vehicle_stepTo E d 0 (xent [vr 3 t, vi x1, vi x2, vi x3, vi x4]) [] H (qv Q)
theorem xm_Vehicle_stepTo : xM ⟨"ThreePoints$Vehicle", "stepTo", "(IIII)V"⟩ prog_9_method_8_code 5 none 4 := ⟨kw_763, kw_68, by decide +kernel, by decide +kernel, by decide⟩
abbrev g_Main_otherHeading (E : XE) (d pc : Nat) (ls : List (Option AV)) (st : List AV) (H : HH) (Q : AV → HH → Prop) : Prop := Gp E.1 E.2.1 E.2.2.1 E.2.2.2 xTX xRF xLC d "ThreePoints" prog_1_method_37_code 1 (some .int) pc ls st H Q
def c_Main_otherHeading (E : XE) (d : Nat) (x0 : Int32) (H : HH) (Q : Int32 → HH → Prop) : Prop := g_Main_otherHeading E d 0 (xent [vi x0]) [] H (qi Q)
theorem xm_Main_otherHeading : xM ⟨"ThreePoints", "otherHeading", "(I)I"⟩ prog_1_method_37_code 1 (some .int) 1 := ⟨kw_775, kw_65, by decide +kernel, by decide +kernel, by decide⟩
abbrev g_Main_isSheet (E : XE) (d pc : Nat) (ls : List (Option AV)) (st : List AV) (H : HH) (Q : AV → HH → Prop) : Prop := Gp E.1 E.2.1 E.2.2.1 E.2.2.2 xTX xRF xLC d "ThreePoints" prog_1_method_40_code 1 (some .boolean) pc ls st H Q
def c_Main_isSheet (E : XE) (d : Nat) (x0 : Int32) (H : HH) (Q : Int32 → HH → Prop) : Prop := g_Main_isSheet E d 0 (xent [vi x0]) [] H (qi Q)
theorem xm_Main_isSheet : xM ⟨"ThreePoints", "isSheet", "(I)Z"⟩ prog_1_method_40_code 1 (some .boolean) 1 := ⟨kw_852, kw_65, by decide +kernel, by decide +kernel, by decide⟩
abbrev g_Sheet_isMissing (E : XE) (d pc : Nat) (ls : List (Option AV)) (st : List AV) (H : HH) (Q : AV → HH → Prop) : Prop := Gp E.1 E.2.1 E.2.2.1 E.2.2.2 xTX xRF xLC d "ThreePoints$Sheet" prog_6_method_2_code 1 (some .boolean) pc ls st H Q
def c_Sheet_isMissing (E : XE) (d : Nat) (t : Nat) (H : HH) (Q : Int32 → HH → Prop) : Prop := g_Sheet_isMissing E d 0 (xent [vr 16 t]) [] H (qi Q)
theorem xm_Sheet_isMissing : xM ⟨"ThreePoints$Sheet", "isMissing", "()Z"⟩ prog_6_method_2_code 1 (some .boolean) 0 := ⟨kw_856, kw_74, by decide +kernel, by decide +kernel, by decide⟩
abbrev g_Sheet_tellsMoves (E : XE) (d pc : Nat) (ls : List (Option AV)) (st : List AV) (H : HH) (Q : AV → HH → Prop) : Prop := Gp E.1 E.2.1 E.2.2.1 E.2.2.2 xTX xRF xLC d "ThreePoints$Sheet" prog_6_method_8_code 2 (some .boolean) pc ls st H Q
def c_Sheet_tellsMoves (E : XE) (d : Nat) (t : Nat) (H : HH) (Q : Int32 → HH → Prop) : Prop := g_Sheet_tellsMoves E d 0 (xent [vr 16 t]) [] H (qi Q)
theorem xm_Sheet_tellsMoves : xM ⟨"ThreePoints$Sheet", "tellsMoves", "()Z"⟩ prog_6_method_8_code 2 (some .boolean) 0 := ⟨kw_860, kw_74, by decide +kernel, by decide +kernel, by decide⟩
abbrev g_Sheet_has (E : XE) (d pc : Nat) (ls : List (Option AV)) (st : List AV) (H : HH) (Q : AV → HH → Prop) : Prop := Gp E.1 E.2.1 E.2.2.1 E.2.2.2 xTX xRF xLC d "ThreePoints$Sheet" prog_6_method_4_code 2 (some .boolean) pc ls st H Q
def c_Sheet_has (E : XE) (d : Nat) (t : Nat) (x1 : Int32) (H : HH) (Q : Int32 → HH → Prop) : Prop := g_Sheet_has E d 0 (xent [vr 16 t, vi x1]) [] H (qi Q)
theorem xm_Sheet_has : xM ⟨"ThreePoints$Sheet", "has", "(I)Z"⟩ prog_6_method_4_code 2 (some .boolean) 1 := ⟨kw_873, kw_74, by decide +kernel, by decide +kernel, by decide⟩
abbrev g_Sheet_get (E : XE) (d pc : Nat) (ls : List (Option AV)) (st : List AV) (H : HH) (Q : AV → HH → Prop) : Prop := Gp E.1 E.2.1 E.2.2.1 E.2.2.2 xTX xRF xLC d "ThreePoints$Sheet" prog_6_method_6_code 2 (some .int) pc ls st H Q
def c_Sheet_get (E : XE) (d : Nat) (t : Nat) (x1 : Int32) (H : HH) (Q : Int32 → HH → Prop) : Prop := g_Sheet_get E d 0 (xent [vr 16 t, vi x1]) [] H (qi Q)
theorem xm_Sheet_get : xM ⟨"ThreePoints$Sheet", "get", "(I)I"⟩ prog_6_method_6_code 2 (some .int) 1 := ⟨kw_869, kw_74, by decide +kernel, by decide +kernel, by decide⟩
abbrev g_Main_inLowestTerms (E : XE) (d pc : Nat) (ls : List (Option AV)) (st : List AV) (H : HH) (Q : AV → HH → Prop) : Prop := Gp E.1 E.2.1 E.2.2.1 E.2.2.2 xTX xRF xLC d "ThreePoints" prog_1_method_38_code 3 (some .int) pc ls st H Q
def c_Main_inLowestTerms (E : XE) (d : Nat) (x0 : Int32) (x1 : Int32) (H : HH) (Q : Int32 → HH → Prop) : Prop := g_Main_inLowestTerms E d 0 (xent [vi x0, vi x1]) [] H (qi Q)
theorem xm_Main_inLowestTerms : xM ⟨"ThreePoints", "inLowestTerms", "(II)I"⟩ prog_1_method_38_code 3 (some .int) 2 := ⟨kw_913, kw_65, by decide +kernel, by decide +kernel, by decide⟩
abbrev g_Yard_become (E : XE) (d pc : Nat) (ls : List (Option AV)) (st : List AV) (H : HH) (Q : AV → HH → Prop) : Prop := Gp E.1 E.2.1 E.2.2.1 E.2.2.2 xTX xRF xLC d "ThreePoints$Yard" prog_10_method_2_code 3 none pc ls st H Q
def c_Yard_become (E : XE) (d : Nat) (t : Nat) (u : Nat) (H : HH) (Q : HH → Prop) : Prop := g_Yard_become E d 0 (xent [vr 1 t, vr 1 u]) [] H (qv Q)
theorem xm_Yard_become : xM ⟨"ThreePoints$Yard", "become", "(LThreePoints$Yard;)V"⟩ prog_10_method_2_code 3 none 1 := ⟨kw_921, kw_66, by decide +kernel, by decide +kernel, by decide⟩
abbrev g_Sheet_renew (E : XE) (d pc : Nat) (ls : List (Option AV)) (st : List AV) (H : HH) (Q : AV → HH → Prop) : Prop := Gp E.1 E.2.1 E.2.2.1 E.2.2.2 xTX xRF xLC d "ThreePoints$Sheet" prog_6_method_3_code 3 none pc ls st H Q
def c_Sheet_renew (E : XE) (d : Nat) (t : Nat) (x1 : Int32) (x2 : Int32) (H : HH) (Q : HH → Prop) : Prop := g_Sheet_renew E d 0 (xent [vr 16 t, vi x1, vi x2]) [] H (qv Q)
theorem xm_Sheet_renew : xM ⟨"ThreePoints$Sheet", "renew", "(II)V"⟩ prog_6_method_3_code 3 none 2 := ⟨kw_935, kw_74, by decide +kernel, by decide +kernel, by decide⟩
abbrev g_Sheet_put (E : XE) (d pc : Nat) (ls : List (Option AV)) (st : List AV) (H : HH) (Q : AV → HH → Prop) : Prop := Gp E.1 E.2.1 E.2.2.1 E.2.2.2 xTX xRF xLC d "ThreePoints$Sheet" prog_6_method_7_code 3 none pc ls st H Q
def c_Sheet_put (E : XE) (d : Nat) (t : Nat) (x1 : Int32) (x2 : Int32) (H : HH) (Q : HH → Prop) : Prop := g_Sheet_put E d 0 (xent [vr 16 t, vi x1, vi x2]) [] H (qv Q)
theorem xm_Sheet_put : xM ⟨"ThreePoints$Sheet", "put", "(II)V"⟩ prog_6_method_7_code 3 none 2 := ⟨kw_947, kw_74, by decide +kernel, by decide +kernel, by decide⟩
abbrev g_Sheet_hasRow (E : XE) (d pc : Nat) (ls : List (Option AV)) (st : List AV) (H : HH) (Q : AV → HH → Prop) : Prop := Gp E.1 E.2.1 E.2.2.1 E.2.2.2 xTX xRF xLC d "ThreePoints$Sheet" prog_6_method_5_code 3 (some .boolean) pc ls st H Q
def c_Sheet_hasRow (E : XE) (d : Nat) (t : Nat) (x1 : Int32) (x2 : Int32) (H : HH) (Q : Int32 → HH → Prop) : Prop := g_Sheet_hasRow E d 0 (xent [vr 16 t, vi x1, vi x2]) [] H (qi Q)
theorem xm_Sheet_hasRow : xM ⟨"ThreePoints$Sheet", "hasRow", "(II)Z"⟩ prog_6_method_5_code 3 (some .boolean) 2 := ⟨kw_955, kw_74, by decide +kernel, by decide +kernel, by decide⟩
abbrev g_Vehicle_isA (E : XE) (d pc : Nat) (ls : List (Option AV)) (st : List AV) (H : HH) (Q : AV → HH → Prop) : Prop := Gp E.1 E.2.1 E.2.2.1 E.2.2.2 xTX xRF xLC d "ThreePoints$Vehicle" prog_9_method_4_code 4 (some .boolean) pc ls st H Q
def c_Vehicle_isA (E : XE) (d : Nat) (t : Nat) (x1 : Int32) (H : HH) (Q : Int32 → HH → Prop) : Prop := g_Vehicle_isA E d 0 (xent [vr 3 t, vi x1]) [] H (qi Q)
theorem xm_Vehicle_isA : xM ⟨"ThreePoints$Vehicle", "isA", "(I)Z"⟩ prog_9_method_4_code 4 (some .boolean) 1 := ⟨kw_970, kw_68, by decide +kernel, by decide +kernel, by decide⟩
def p_Text_clear (E : XE) (d : Nat) (t : Nat) (H : HH) (Q : HH → Prop) : Prop := ∀ H1 : HH, H1 = (hu H 11 t 1 0) → (c_fill E d 13 3 t 0 H1 (fun H2 => Q H2))
set_option maxHeartbeats 4000000 in
theorem l_Text_clear {E : XE} {d : Nat} {t : Nat} {H : HH} {Q : HH → Prop} (h : p_Text_clear E d t H Q) : c_Text_clear E (d + 1) t H Q := by
  show g_Text_clear E (d + 1) 0 (xent [vr 11 t]) [] H (qv Q)
  refine g_drop (ls2 := [some (vr 11 t)]) (And.intro rfl trivial) ?_
  refine g_aload_n (q := 0) (i := 0) (by decide +kernel) rfl rfl ?_
  refine g_iconst (n := 0) (v := 0) (by decide +kernel) (by decide) ?_
  refine g_put (C := "ThreePoints$Text") (T := xT_Text) (N := 4) (ci := 6) (k := 1) xy_Text (by decide +kernel) (by decide) rfl rfl xi_Text xy_Text_ok xn_Text (by decide) kw_215 rfl (by decide +kernel) (fun _ => rfl) ?_
  refine g_aload_n (q := 0) (i := 0) (by decide +kernel) rfl rfl ?_
  refine g_get (C := "ThreePoints$Text") (T := xT_Text) (N := 4) (ci := 6) (k := 2) (v := vr 13 t) (by decide +kernel) (by decide) rfl rfl xi_Text (by decide) kw_216 rfl ?_
  refine g_iconst (n := 0) (v := 0) (by decide +kernel) (by decide) ?_
  refine g_heap (fun H1 eH1 => ?_)
  replace h := h H1 eH1
  refine g_callS (vs := [vr 13 t, vi 0]) (st := []) (by decide +kernel) xm_fill kw_508 kw_509 rfl rfl (Nat.le_of_ble_eq_true rfl) (Nat.le_of_ble_eq_true rfl) h (fun vH2 H2 hq => ?_)
  replace h := hq
  exact g_vret (by decide +kernel) rfl h
def p_Text_put (E : XE) (d : Nat) (t : Nat) (x1 : Int32) (H : HH) (Q : HH → Prop) : Prop := ((H 11 t 1) < 160 → (vp_in (H 11 t 1) 160 ∧ (∀ H1 : HH, H1 = (hu H 12 t ((H 11 t 1).toNatClampNeg) x1) → (∀ H2 : HH, H2 = (hu H1 11 t 1 ((H1 11 t 1) + 1)) → (Q H2))))) ∧ (¬ (H 11 t 1) < 160 → (Q H))
set_option maxHeartbeats 4000000 in
theorem l_Text_put {E : XE} {d : Nat} {t : Nat} {x1 : Int32} {H : HH} {Q : HH → Prop} (h : p_Text_put E d t x1 H Q) : c_Text_put E d t x1 H Q := by
  show g_Text_put E d 0 (xent [vr 11 t, vi x1]) [] H (qv Q)
  refine g_drop (ls2 := [some (vr 11 t), some (vi x1)]) (And.intro rfl (And.intro rfl trivial)) ?_
  refine g_aload_n (q := 0) (i := 0) (by decide +kernel) rfl rfl ?_
  refine g_get (C := "ThreePoints$Text") (T := xT_Text) (N := 4) (ci := 6) (k := 1) (v := vi (H 11 t 1)) (by decide +kernel) (by decide) rfl rfl xi_Text (by decide) kw_215 rfl ?_
  refine g_aload_n (q := 0) (i := 0) (by decide +kernel) rfl rfl ?_
  refine g_get (C := "ThreePoints$Text") (T := xT_Text) (N := 4) (ci := 6) (k := 0) (v := vr 12 t) (by decide +kernel) (by decide) rfl rfl xi_Text (by decide) kw_214 rfl ?_
  refine g_alen (v := 160) (by decide +kernel) (by decide) rfl (by decide) ?_
  refine g_icmp_lt (off := 4) (tgt := 13) (by decide +kernel) (by decide) (fun c => ?_) (fun c => ?_)
  · replace h := h.1 c
    refine g_aload_n (q := 0) (i := 0) (by decide +kernel) rfl rfl ?_
    refine g_get (C := "ThreePoints$Text") (T := xT_Text) (N := 4) (ci := 6) (k := 0) (v := vr 12 t) (by decide +kernel) (by decide) rfl rfl xi_Text (by decide) kw_214 rfl ?_
    refine g_aload_n (q := 0) (i := 0) (by decide +kernel) rfl rfl ?_
    refine g_get (C := "ThreePoints$Text") (T := xT_Text) (N := 4) (ci := 6) (k := 1) (v := vi (H 11 t 1)) (by decide +kernel) (by decide) rfl rfl xi_Text (by decide) kw_215 rfl ?_
    refine g_iload_n (q := 1) (i := 1) (by decide +kernel) rfl rfl ?_
    obtain ⟨hin, h⟩ := h
    refine g_iast (by decide +kernel) (by decide) rfl hin ?_
    refine g_aload_n (q := 0) (i := 0) (by decide +kernel) rfl rfl ?_
    refine g_dup (by decide +kernel) rfl ?_
    refine g_heap (fun H1 eH1 => ?_)
    replace h := h H1 eH1
    refine g_get (C := "ThreePoints$Text") (T := xT_Text) (N := 4) (ci := 6) (k := 1) (v := vi (H1 11 t 1)) (by decide +kernel) (by decide) rfl rfl xi_Text (by decide) kw_215 rfl ?_
    refine g_iconst (n := 1) (v := 1) (by decide +kernel) (by decide) ?_
    refine g_iadd (by decide +kernel) ?_
    refine g_put (C := "ThreePoints$Text") (T := xT_Text) (N := 4) (ci := 6) (k := 1) xy_Text (by decide +kernel) (by decide) rfl rfl xi_Text xy_Text_ok xn_Text (by decide) kw_215 rfl (by decide +kernel) (fun _ => rfl) ?_
    refine g_heap (fun H2 eH2 => ?_)
    replace h := h H2 eH2
    exact g_vret (by decide +kernel) rfl h
  · replace h := h.2 c
    exact g_vret (by decide +kernel) rfl h
def p_Text_endPart (E : XE) (d : Nat) (t : Nat) (x1 : Int32) (H : HH) (Q : HH → Prop) : Prop := (x1 < 0 → (Q H)) ∧ (¬ x1 < 0 → ((3 ≤ x1 → (Q H)) ∧ (¬ 3 ≤ x1 → (vp_in x1 3 ∧ (∀ H1 : HH, H1 = (hu H 13 t (x1.toNatClampNeg) (H 11 t 1)) → (Q H1))))))
set_option maxHeartbeats 4000000 in
theorem l_Text_endPart {E : XE} {d : Nat} {t : Nat} {x1 : Int32} {H : HH} {Q : HH → Prop} (h : p_Text_endPart E d t x1 H Q) : c_Text_endPart E d t x1 H Q := by
  show g_Text_endPart E d 0 (xent [vr 11 t, vi x1]) [] H (qv Q)
  refine g_drop (ls2 := [some (vr 11 t), some (vi x1)]) (And.intro rfl (And.intro rfl trivial)) ?_
  refine g_iload_n (q := 1) (i := 1) (by decide +kernel) rfl rfl ?_
  refine g_if_lt (off := 18) (tgt := 19) (by decide +kernel) (by decide) (fun c => ?_) (fun c => ?_)
  · replace h := h.1 c
    exact g_vret (by decide +kernel) rfl h
  · replace h := h.2 c
    refine g_iload_n (q := 1) (i := 1) (by decide +kernel) rfl rfl ?_
    refine g_iconst (n := 3) (v := 3) (by decide +kernel) (by decide) ?_
    refine g_icmp_ge (off := 13) (tgt := 19) (by decide +kernel) (by decide) (fun c => ?_) (fun c => ?_)
    · replace h := h.1 c
      exact g_vret (by decide +kernel) rfl h
    · replace h := h.2 c
      refine g_aload_n (q := 0) (i := 0) (by decide +kernel) rfl rfl ?_
      refine g_get (C := "ThreePoints$Text") (T := xT_Text) (N := 4) (ci := 6) (k := 2) (v := vr 13 t) (by decide +kernel) (by decide) rfl rfl xi_Text (by decide) kw_216 rfl ?_
      refine g_iload_n (q := 1) (i := 1) (by decide +kernel) rfl rfl ?_
      refine g_aload_n (q := 0) (i := 0) (by decide +kernel) rfl rfl ?_
      refine g_get (C := "ThreePoints$Text") (T := xT_Text) (N := 4) (ci := 6) (k := 1) (v := vi (H 11 t 1)) (by decide +kernel) (by decide) rfl rfl xi_Text (by decide) kw_215 rfl ?_
      obtain ⟨hin, h⟩ := h
      refine g_iast (by decide +kernel) (by decide) rfl hin ?_
      refine g_heap (fun H1 eH1 => ?_)
      replace h := h H1 eH1
      exact g_vret (by decide +kernel) rfl h
def p_Text_become (E : XE) (d : Nat) (t : Nat) (u : Nat) (H : HH) (Q : HH → Prop) : Prop := ∀ H1 : HH, H1 = (hu H 11 t 1 (H 11 u 1)) → (∀ H2 : HH, H2 = (hrow H1 12 t (va_cpy (H1 12 u) (H1 12 t) 0 0 160)) → (∀ H3 : HH, H3 = (hrow H2 13 t (va_cpy (H2 13 u) (H2 13 t) 0 0 3)) → (Q H3)))
set_option maxHeartbeats 4000000 in
theorem l_Text_become {E : XE} {d : Nat} {t : Nat} {u : Nat} {H : HH} {Q : HH → Prop} (h : p_Text_become E d t u H Q) : c_Text_become E (d + 1) t u H Q := by
  show g_Text_become E (d + 1) 0 (xent [vr 11 t, vr 11 u]) [] H (qv Q)
  refine g_drop (ls2 := [some (vr 11 t), some (vr 11 u)]) (And.intro rfl (And.intro rfl trivial)) ?_
  refine g_aload_n (q := 0) (i := 0) (by decide +kernel) rfl rfl ?_
  refine g_aload_n (q := 1) (i := 1) (by decide +kernel) rfl rfl ?_
  refine g_get (C := "ThreePoints$Text") (T := xT_Text) (N := 4) (ci := 6) (k := 1) (v := vi (H 11 u 1)) (by decide +kernel) (by decide) rfl rfl xi_Text (by decide) kw_215 rfl ?_
  refine g_put (C := "ThreePoints$Text") (T := xT_Text) (N := 4) (ci := 6) (k := 1) xy_Text (by decide +kernel) (by decide) rfl rfl xi_Text xy_Text_ok xn_Text (by decide) kw_215 rfl (by decide +kernel) (fun _ => rfl) ?_
  refine g_aload_n (q := 1) (i := 1) (by decide +kernel) rfl rfl ?_
  refine g_get (C := "ThreePoints$Text") (T := xT_Text) (N := 4) (ci := 6) (k := 0) (v := vr 12 u) (by decide +kernel) (by decide) rfl rfl xi_Text (by decide) kw_214 rfl ?_
  refine g_iconst (n := 0) (v := 0) (by decide +kernel) (by decide) ?_
  refine g_aload_n (q := 0) (i := 0) (by decide +kernel) rfl rfl ?_
  refine g_get (C := "ThreePoints$Text") (T := xT_Text) (N := 4) (ci := 6) (k := 0) (v := vr 12 t) (by decide +kernel) (by decide) rfl rfl xi_Text (by decide) kw_214 rfl ?_
  refine g_iconst (n := 0) (v := 0) (by decide +kernel) (by decide) ?_
  refine g_sipush (n := 160) (v := 160) (by decide +kernel) (by decide) ?_
  refine g_heap (fun H1 eH1 => ?_)
  replace h := h H1 eH1
  refine g_copy (by decide +kernel) kw_575 kw_577 kw_576 kw_82 (Nat.le_of_ble_eq_true rfl) (by decide) (by decide) rfl rfl (by decide) (by decide) (by decide) (by decide) (by decide) ?_
  refine g_heapE (H1 := (hrow H1 12 t (va_cpy (H1 12 u) (H1 12 t) 0 0 160))) rfl ?_
  refine g_aload_n (q := 1) (i := 1) (by decide +kernel) rfl rfl ?_
  refine g_get (C := "ThreePoints$Text") (T := xT_Text) (N := 4) (ci := 6) (k := 2) (v := vr 13 u) (by decide +kernel) (by decide) rfl rfl xi_Text (by decide) kw_216 rfl ?_
  refine g_iconst (n := 0) (v := 0) (by decide +kernel) (by decide) ?_
  refine g_aload_n (q := 0) (i := 0) (by decide +kernel) rfl rfl ?_
  refine g_get (C := "ThreePoints$Text") (T := xT_Text) (N := 4) (ci := 6) (k := 2) (v := vr 13 t) (by decide +kernel) (by decide) rfl rfl xi_Text (by decide) kw_216 rfl ?_
  refine g_iconst (n := 0) (v := 0) (by decide +kernel) (by decide) ?_
  refine g_iconst (n := 3) (v := 3) (by decide +kernel) (by decide) ?_
  refine g_heap (fun H2 eH2 => ?_)
  replace h := h H2 eH2
  refine g_copy (by decide +kernel) kw_575 kw_577 kw_576 kw_82 (Nat.le_of_ble_eq_true rfl) (by decide) (by decide) rfl rfl (by decide) (by decide) (by decide) (by decide) (by decide) ?_
  refine g_heapE (H1 := (hrow H2 13 t (va_cpy (H2 13 u) (H2 13 t) 0 0 3))) rfl ?_
  refine g_heap (fun H3 eH3 => ?_)
  replace h := h H3 eH3
  exact g_vret (by decide +kernel) rfl h
def p_Main_isWithin (E : XE) (d : Nat) (x0 : Int32) (x1 : Int32) (x2 : Int32) (H : HH) (Q : Int32 → HH → Prop) : Prop := ((if x0 < x1 then 0 else (if x2 < x0 then 0 else 1 : Int32) : Int32) = 0 ∨ (if x0 < x1 then 0 else (if x2 < x0 then 0 else 1 : Int32) : Int32) = 1) ∧ Q (if x0 < x1 then 0 else (if x2 < x0 then 0 else 1 : Int32) : Int32) H
set_option maxHeartbeats 4000000 in
theorem l_Main_isWithin {E : XE} {d : Nat} {x0 : Int32} {x1 : Int32} {x2 : Int32} {H : HH} {Q : Int32 → HH → Prop} (h : p_Main_isWithin E d x0 x1 x2 H Q) : c_Main_isWithin E d x0 x1 x2 H Q := by
  show g_Main_isWithin E d 0 (xent [vi x0, vi x1, vi x2]) [] H (qi Q)
  refine g_drop (ls2 := [some (vi x0), some (vi x1), some (vi x2)]) (And.intro rfl (And.intro rfl (And.intro rfl trivial))) ?_
  refine g_iload_n (q := 0) (i := 0) (by decide +kernel) rfl rfl ?_
  refine g_iload_n (q := 1) (i := 1) (by decide +kernel) rfl rfl ?_
  suffices hj2 : g_Main_isWithin E d 15 [some (vi x0), some (vi x1), some (vi x2)] [vi (if x0 < x1 then 0 else (if x2 < x0 then 0 else 1 : Int32) : Int32)] H (qi Q) by
    refine g_icmp_lt (off := 12) (tgt := 14) (by decide +kernel) (by decide) (fun c => ?_) (fun c => ?_)
    · rw [if_pos c] at hj2
      refine g_iconst (n := 0) (v := 0) (by decide +kernel) (by decide) ?_
      exact hj2
    · rw [if_neg c] at hj2
      refine g_iload_n (q := 0) (i := 0) (by decide +kernel) rfl rfl ?_
      refine g_iload_n (q := 2) (i := 2) (by decide +kernel) rfl rfl ?_
      suffices hj1 : g_Main_isWithin E d 15 [some (vi x0), some (vi x1), some (vi x2)] [vi (if x2 < x0 then 0 else 1 : Int32)] H (qi Q) by
        refine g_icmp_gt (off := 7) (tgt := 14) (by decide +kernel) (by decide) (fun c => ?_) (fun c => ?_)
        · rw [if_pos c] at hj1
          refine g_iconst (n := 0) (v := 0) (by decide +kernel) (by decide) ?_
          exact hj1
        · rw [if_neg c] at hj1
          refine g_iconst (n := 1) (v := 1) (by decide +kernel) (by decide) ?_
          refine g_goto (off := 4) (tgt := 15) (by decide +kernel) (by decide) ?_
          exact hj1
      exact hj2
  obtain ⟨h01, h⟩ := h
  exact g_zret (by decide +kernel) rfl (nbool h01) ⟨_, rfl, h⟩
def p_Lane_become (E : XE) (d : Nat) (t : Nat) (u : Nat) (H : HH) (Q : HH → Prop) : Prop := ∀ H1 : HH, H1 = (hu H 2 t 0 (H 2 u 0)) → (∀ H2 : HH, H2 = (hu H1 2 t 1 (H1 2 u 1)) → (∀ H3 : HH, H3 = (hu H2 2 t 2 (H2 2 u 2)) → (Q H3)))
set_option maxHeartbeats 4000000 in
theorem l_Lane_become {E : XE} {d : Nat} {t : Nat} {u : Nat} {H : HH} {Q : HH → Prop} (h : p_Lane_become E d t u H Q) : c_Lane_become E d t u H Q := by
  show g_Lane_become E d 0 (xent [vr 2 t, vr 2 u]) [] H (qv Q)
  refine g_drop (ls2 := [some (vr 2 t), some (vr 2 u)]) (And.intro rfl (And.intro rfl trivial)) ?_
  refine g_aload_n (q := 0) (i := 0) (by decide +kernel) rfl rfl ?_
  refine g_aload_n (q := 1) (i := 1) (by decide +kernel) rfl rfl ?_
  refine g_get (C := "ThreePoints$Lane") (T := xT_Lane) (N := 3) (ci := 2) (k := 0) (v := vi (H 2 u 0)) (by decide +kernel) (by decide) rfl rfl xi_Lane (by decide) kw_104 rfl ?_
  refine g_put (C := "ThreePoints$Lane") (T := xT_Lane) (N := 3) (ci := 2) (k := 0) xy_Lane (by decide +kernel) (by decide) rfl rfl xi_Lane xy_Lane_ok xn_Lane (by decide) kw_104 rfl (by decide +kernel) (fun _ => rfl) ?_
  refine g_aload_n (q := 0) (i := 0) (by decide +kernel) rfl rfl ?_
  refine g_aload_n (q := 1) (i := 1) (by decide +kernel) rfl rfl ?_
  refine g_heap (fun H1 eH1 => ?_)
  replace h := h H1 eH1
  refine g_get (C := "ThreePoints$Lane") (T := xT_Lane) (N := 3) (ci := 2) (k := 1) (v := vi (H1 2 u 1)) (by decide +kernel) (by decide) rfl rfl xi_Lane (by decide) kw_108 rfl ?_
  refine g_put (C := "ThreePoints$Lane") (T := xT_Lane) (N := 3) (ci := 2) (k := 1) xy_Lane (by decide +kernel) (by decide) rfl rfl xi_Lane xy_Lane_ok xn_Lane (by decide) kw_108 rfl (by decide +kernel) (fun _ => rfl) ?_
  refine g_aload_n (q := 0) (i := 0) (by decide +kernel) rfl rfl ?_
  refine g_aload_n (q := 1) (i := 1) (by decide +kernel) rfl rfl ?_
  refine g_heap (fun H2 eH2 => ?_)
  replace h := h H2 eH2
  refine g_get (C := "ThreePoints$Lane") (T := xT_Lane) (N := 3) (ci := 2) (k := 2) (v := vi (H2 2 u 2)) (by decide +kernel) (by decide) rfl rfl xi_Lane (by decide) kw_111 rfl ?_
  refine g_put (C := "ThreePoints$Lane") (T := xT_Lane) (N := 3) (ci := 2) (k := 2) xy_Lane (by decide +kernel) (by decide) rfl rfl xi_Lane xy_Lane_ok xn_Lane (by decide) kw_111 rfl (by decide +kernel) (fun _ => rfl) ?_
  refine g_heap (fun H3 eH3 => ?_)
  replace h := h H3 eH3
  exact g_vret (by decide +kernel) rfl h
def p_Vehicle_become (E : XE) (d : Nat) (t : Nat) (u : Nat) (H : HH) (Q : HH → Prop) : Prop := ∀ H1 : HH, H1 = (hu H 3 t 0 (H 3 u 0)) → (∀ H2 : HH, H2 = (hu H1 3 t 1 (H1 3 u 1)) → (∀ H3 : HH, H3 = (hu H2 3 t 2 (H2 3 u 2)) → (∀ H4 : HH, H4 = (hu H3 3 t 3 (H3 3 u 3)) → (∀ H5 : HH, H5 = (hu H4 3 t 4 (H4 3 u 4)) → (∀ H6 : HH, H6 = (hu H5 3 t 5 (H5 3 u 5)) → (∀ H7 : HH, H7 = (hu H6 3 t 6 (H6 3 u 6)) → (Q H7)))))))
set_option maxHeartbeats 4000000 in
theorem l_Vehicle_become {E : XE} {d : Nat} {t : Nat} {u : Nat} {H : HH} {Q : HH → Prop} (h : p_Vehicle_become E d t u H Q) : c_Vehicle_become E d t u H Q := by
  show g_Vehicle_become E d 0 (xent [vr 3 t, vr 3 u]) [] H (qv Q)
  refine g_drop (ls2 := [some (vr 3 t), some (vr 3 u)]) (And.intro rfl (And.intro rfl trivial)) ?_
  refine g_aload_n (q := 0) (i := 0) (by decide +kernel) rfl rfl ?_
  refine g_aload_n (q := 1) (i := 1) (by decide +kernel) rfl rfl ?_
  refine g_get (C := "ThreePoints$Vehicle") (T := xT_Vehicle) (N := 7) (ci := 3) (k := 0) (v := vi (H 3 u 0)) (by decide +kernel) (by decide) rfl rfl xi_Vehicle (by decide) kw_127 rfl ?_
  refine g_put (C := "ThreePoints$Vehicle") (T := xT_Vehicle) (N := 7) (ci := 3) (k := 0) xy_Vehicle (by decide +kernel) (by decide) rfl rfl xi_Vehicle xy_Vehicle_ok xn_Vehicle (by decide) kw_127 rfl (by decide +kernel) (fun _ => rfl) ?_
  refine g_aload_n (q := 0) (i := 0) (by decide +kernel) rfl rfl ?_
  refine g_aload_n (q := 1) (i := 1) (by decide +kernel) rfl rfl ?_
  refine g_heap (fun H1 eH1 => ?_)
  replace h := h H1 eH1
  refine g_get (C := "ThreePoints$Vehicle") (T := xT_Vehicle) (N := 7) (ci := 3) (k := 1) (v := vi (H1 3 u 1)) (by decide +kernel) (by decide) rfl rfl xi_Vehicle (by decide) kw_129 rfl ?_
  refine g_put (C := "ThreePoints$Vehicle") (T := xT_Vehicle) (N := 7) (ci := 3) (k := 1) xy_Vehicle (by decide +kernel) (by decide) rfl rfl xi_Vehicle xy_Vehicle_ok xn_Vehicle (by decide) kw_129 rfl (by decide +kernel) (fun _ => rfl) ?_
  refine g_aload_n (q := 0) (i := 0) (by decide +kernel) rfl rfl ?_
  refine g_aload_n (q := 1) (i := 1) (by decide +kernel) rfl rfl ?_
  refine g_heap (fun H2 eH2 => ?_)
  replace h := h H2 eH2
  refine g_get (C := "ThreePoints$Vehicle") (T := xT_Vehicle) (N := 7) (ci := 3) (k := 2) (v := vi (H2 3 u 2)) (by decide +kernel) (by decide) rfl rfl xi_Vehicle (by decide) kw_132 rfl ?_
  refine g_put (C := "ThreePoints$Vehicle") (T := xT_Vehicle) (N := 7) (ci := 3) (k := 2) xy_Vehicle (by decide +kernel) (by decide) rfl rfl xi_Vehicle xy_Vehicle_ok xn_Vehicle (by decide) kw_132 rfl (by decide +kernel) (fun _ => rfl) ?_
  refine g_aload_n (q := 0) (i := 0) (by decide +kernel) rfl rfl ?_
  refine g_aload_n (q := 1) (i := 1) (by decide +kernel) rfl rfl ?_
  refine g_heap (fun H3 eH3 => ?_)
  replace h := h H3 eH3
  refine g_get (C := "ThreePoints$Vehicle") (T := xT_Vehicle) (N := 7) (ci := 3) (k := 3) (v := vi (H3 3 u 3)) (by decide +kernel) (by decide) rfl rfl xi_Vehicle (by decide) kw_136 rfl ?_
  refine g_put (C := "ThreePoints$Vehicle") (T := xT_Vehicle) (N := 7) (ci := 3) (k := 3) xy_Vehicle (by decide +kernel) (by decide) rfl rfl xi_Vehicle xy_Vehicle_ok xn_Vehicle (by decide) kw_136 rfl (by decide +kernel) (fun _ => rfl) ?_
  refine g_aload_n (q := 0) (i := 0) (by decide +kernel) rfl rfl ?_
  refine g_aload_n (q := 1) (i := 1) (by decide +kernel) rfl rfl ?_
  refine g_heap (fun H4 eH4 => ?_)
  replace h := h H4 eH4
  refine g_get (C := "ThreePoints$Vehicle") (T := xT_Vehicle) (N := 7) (ci := 3) (k := 4) (v := vi (H4 3 u 4)) (by decide +kernel) (by decide) rfl rfl xi_Vehicle (by decide) kw_140 rfl ?_
  refine g_put (C := "ThreePoints$Vehicle") (T := xT_Vehicle) (N := 7) (ci := 3) (k := 4) xy_Vehicle (by decide +kernel) (by decide) rfl rfl xi_Vehicle xy_Vehicle_ok xn_Vehicle (by decide) kw_140 rfl (by decide +kernel) (fun _ => rfl) ?_
  refine g_aload_n (q := 0) (i := 0) (by decide +kernel) rfl rfl ?_
  refine g_aload_n (q := 1) (i := 1) (by decide +kernel) rfl rfl ?_
  refine g_heap (fun H5 eH5 => ?_)
  replace h := h H5 eH5
  refine g_get (C := "ThreePoints$Vehicle") (T := xT_Vehicle) (N := 7) (ci := 3) (k := 5) (v := vi (H5 3 u 5)) (by decide +kernel) (by decide) rfl rfl xi_Vehicle (by decide) kw_142 rfl ?_
  refine g_put (C := "ThreePoints$Vehicle") (T := xT_Vehicle) (N := 7) (ci := 3) (k := 5) xy_Vehicle (by decide +kernel) (by decide) rfl rfl xi_Vehicle xy_Vehicle_ok xn_Vehicle (by decide) kw_142 rfl (by decide +kernel) (fun _ => rfl) ?_
  refine g_aload_n (q := 0) (i := 0) (by decide +kernel) rfl rfl ?_
  refine g_aload_n (q := 1) (i := 1) (by decide +kernel) rfl rfl ?_
  refine g_heap (fun H6 eH6 => ?_)
  replace h := h H6 eH6
  refine g_get (C := "ThreePoints$Vehicle") (T := xT_Vehicle) (N := 7) (ci := 3) (k := 6) (v := vi (H6 3 u 6)) (by decide +kernel) (by decide) rfl rfl xi_Vehicle (by decide) kw_144 rfl ?_
  refine g_put (C := "ThreePoints$Vehicle") (T := xT_Vehicle) (N := 7) (ci := 3) (k := 6) xy_Vehicle (by decide +kernel) (by decide) rfl rfl xi_Vehicle xy_Vehicle_ok xn_Vehicle (by decide) kw_144 rfl (by decide +kernel) (fun _ => rfl) ?_
  refine g_heap (fun H7 eH7 => ?_)
  replace h := h H7 eH7
  exact g_vret (by decide +kernel) rfl h
def p_Main_across (E : XE) (d : Nat) (x0 : Int32) (H : HH) (Q : Int32 → HH → Prop) : Prop := vp_in (x0 &&& 15) 16 ∧ (Q (xACR.getD ((x0 &&& 15).toNatClampNeg) 0) H)
set_option maxHeartbeats 4000000 in
theorem l_Main_across {E : XE} {d : Nat} {x0 : Int32} {H : HH} {Q : Int32 → HH → Prop} (h : p_Main_across E d x0 H Q) : c_Main_across E d x0 H Q := by
  show g_Main_across E d 0 (xent [vi x0]) [] H (qi Q)
  refine g_drop (ls2 := [some (vi x0)]) (And.intro rfl trivial) ?_
  refine g_gsACR (by decide +kernel) kw_649 ?_
  refine g_iload_n (q := 0) (i := 0) (by decide +kernel) rfl rfl ?_
  refine g_bipush (n := 15) (v := 15) (by decide +kernel) (by decide) ?_
  refine g_iand (by decide +kernel) ?_
  obtain ⟨hin, h⟩ := h
  refine g_ialdACR (by decide +kernel) hin ?_
  exact g_iret (by decide +kernel) rfl ⟨_, rfl, h⟩
def p_Vehicle_front (E : XE) (d : Nat) (t : Nat) (H : HH) (Q : Int32 → HH → Prop) : Prop := ((H 3 t 0) = 1 → (Q (5 + (H 3 t 1)) H)) ∧ ((H 3 t 0) = 3 → (Q (5 + (H 3 t 1)) H)) ∧ ((H 3 t 0) = 4 → (Q 3 H)) ∧ (¬ (H 3 t 0) = 1 → ¬ (H 3 t 0) = 3 → ¬ (H 3 t 0) = 4 → (Q 5 H))
set_option maxHeartbeats 4000000 in
theorem l_Vehicle_front {E : XE} {d : Nat} {t : Nat} {H : HH} {Q : Int32 → HH → Prop} (h : p_Vehicle_front E d t H Q) : c_Vehicle_front E d t H Q := by
  show g_Vehicle_front E d 0 (xent [vr 3 t]) [] H (qi Q)
  refine g_drop (ls2 := [some (vr 3 t)]) (And.intro rfl trivial) ?_
  refine g_aload_n (q := 0) (i := 0) (by decide +kernel) rfl rfl ?_
  refine g_get (C := "ThreePoints$Vehicle") (T := xT_Vehicle) (N := 7) (ci := 3) (k := 0) (v := vi (H 3 t 0)) (by decide +kernel) (by decide) rfl rfl xi_Vehicle (by decide) kw_127 rfl ?_
  obtain ⟨hk, h⟩ := h
  by_cases e1 : (H 3 t 0) = 1
  · replace h := hk e1
    refine g_tableIn (dflt := 41) (lo := 1) (hi := 4) (offs := #[32, 41, 32, 39]) (len := 32) (tgt := 36) (by decide +kernel) (by rw [e1]; decide) (by rw [e1]; decide) (by rw [e1]; rfl) (by decide) ?_
    refine g_iconst (n := 5) (v := 5) (by decide +kernel) (by decide) ?_
    refine g_aload_n (q := 0) (i := 0) (by decide +kernel) rfl rfl ?_
    refine g_get (C := "ThreePoints$Vehicle") (T := xT_Vehicle) (N := 7) (ci := 3) (k := 1) (v := vi (H 3 t 1)) (by decide +kernel) (by decide) rfl rfl xi_Vehicle (by decide) kw_129 rfl ?_
    refine g_iadd (by decide +kernel) ?_
    exact g_iret (by decide +kernel) rfl ⟨_, rfl, h⟩
  clear hk
  obtain ⟨hk, h⟩ := h
  by_cases e3 : (H 3 t 0) = 3
  · replace h := hk e3
    refine g_tableIn (dflt := 41) (lo := 1) (hi := 4) (offs := #[32, 41, 32, 39]) (len := 32) (tgt := 36) (by decide +kernel) (by rw [e3]; decide) (by rw [e3]; decide) (by rw [e3]; rfl) (by decide) ?_
    refine g_iconst (n := 5) (v := 5) (by decide +kernel) (by decide) ?_
    refine g_aload_n (q := 0) (i := 0) (by decide +kernel) rfl rfl ?_
    refine g_get (C := "ThreePoints$Vehicle") (T := xT_Vehicle) (N := 7) (ci := 3) (k := 1) (v := vi (H 3 t 1)) (by decide +kernel) (by decide) rfl rfl xi_Vehicle (by decide) kw_129 rfl ?_
    refine g_iadd (by decide +kernel) ?_
    exact g_iret (by decide +kernel) rfl ⟨_, rfl, h⟩
  clear hk
  obtain ⟨hk, h⟩ := h
  by_cases e4 : (H 3 t 0) = 4
  · replace h := hk e4
    refine g_tableIn (dflt := 41) (lo := 1) (hi := 4) (offs := #[32, 41, 32, 39]) (len := 32) (tgt := 43) (by decide +kernel) (by rw [e4]; decide) (by rw [e4]; decide) (by rw [e4]; rfl) (by decide) ?_
    refine g_iconst (n := 3) (v := 3) (by decide +kernel) (by decide) ?_
    exact g_iret (by decide +kernel) rfl ⟨_, rfl, h⟩
  clear hk
  replace h := h e1 e3 e4
  by_cases e2 : (H 3 t 0) = 2
  · refine g_tableIn (dflt := 41) (lo := 1) (hi := 4) (offs := #[32, 41, 32, 39]) (len := 32) (tgt := 45) (by decide +kernel) (by rw [e2]; decide) (by rw [e2]; decide) (by rw [e2]; rfl) (by decide) ?_
    refine g_iconst (n := 5) (v := 5) (by decide +kernel) (by decide) ?_
    exact g_iret (by decide +kernel) rfl ⟨_, rfl, h⟩
  refine g_tableOut (dflt := 41) (lo := 1) (hi := 4) (offs := #[32, 41, 32, 39]) (len := 32) (tgt := 45) (by decide +kernel) (by have q1 := xsw (m := 1) (by decide) e1; have q2 := xsw (m := 2) (by decide) e2; have q3 := xsw (m := 3) (by decide) e3; have q4 := xsw (m := 4) (by decide) e4; omega) (by decide) ?_
  refine g_iconst (n := 5) (v := 5) (by decide +kernel) (by decide) ?_
  exact g_iret (by decide +kernel) rfl ⟨_, rfl, h⟩
def p_Vehicle_behind (E : XE) (d : Nat) (t : Nat) (H : HH) (Q : Int32 → HH → Prop) : Prop := ((H 3 t 0) = 2 → (Q 2 H)) ∧ ((H 3 t 0) = 3 → (Q (4 + (H 3 t 1)) H)) ∧ ((H 3 t 0) = 4 → (Q 2 H)) ∧ (¬ (H 3 t 0) = 2 → ¬ (H 3 t 0) = 3 → ¬ (H 3 t 0) = 4 → (Q 4 H))
set_option maxHeartbeats 4000000 in
theorem l_Vehicle_behind {E : XE} {d : Nat} {t : Nat} {H : HH} {Q : Int32 → HH → Prop} (h : p_Vehicle_behind E d t H Q) : c_Vehicle_behind E d t H Q := by
  show g_Vehicle_behind E d 0 (xent [vr 3 t]) [] H (qi Q)
  refine g_drop (ls2 := [some (vr 3 t)]) (And.intro rfl trivial) ?_
  refine g_aload_n (q := 0) (i := 0) (by decide +kernel) rfl rfl ?_
  refine g_get (C := "ThreePoints$Vehicle") (T := xT_Vehicle) (N := 7) (ci := 3) (k := 0) (v := vi (H 3 t 0)) (by decide +kernel) (by decide) rfl rfl xi_Vehicle (by decide) kw_127 rfl ?_
  obtain ⟨hk, h⟩ := h
  by_cases e2 : (H 3 t 0) = 2
  · replace h := hk e2
    refine g_tableIn (dflt := 37) (lo := 2) (hi := 4) (offs := #[28, 30, 28]) (len := 28) (tgt := 32) (by decide +kernel) (by rw [e2]; decide) (by rw [e2]; decide) (by rw [e2]; rfl) (by decide) ?_
    refine g_iconst (n := 2) (v := 2) (by decide +kernel) (by decide) ?_
    exact g_iret (by decide +kernel) rfl ⟨_, rfl, h⟩
  clear hk
  obtain ⟨hk, h⟩ := h
  by_cases e3 : (H 3 t 0) = 3
  · replace h := hk e3
    refine g_tableIn (dflt := 37) (lo := 2) (hi := 4) (offs := #[28, 30, 28]) (len := 28) (tgt := 34) (by decide +kernel) (by rw [e3]; decide) (by rw [e3]; decide) (by rw [e3]; rfl) (by decide) ?_
    refine g_iconst (n := 4) (v := 4) (by decide +kernel) (by decide) ?_
    refine g_aload_n (q := 0) (i := 0) (by decide +kernel) rfl rfl ?_
    refine g_get (C := "ThreePoints$Vehicle") (T := xT_Vehicle) (N := 7) (ci := 3) (k := 1) (v := vi (H 3 t 1)) (by decide +kernel) (by decide) rfl rfl xi_Vehicle (by decide) kw_129 rfl ?_
    refine g_iadd (by decide +kernel) ?_
    exact g_iret (by decide +kernel) rfl ⟨_, rfl, h⟩
  clear hk
  obtain ⟨hk, h⟩ := h
  by_cases e4 : (H 3 t 0) = 4
  · replace h := hk e4
    refine g_tableIn (dflt := 37) (lo := 2) (hi := 4) (offs := #[28, 30, 28]) (len := 28) (tgt := 32) (by decide +kernel) (by rw [e4]; decide) (by rw [e4]; decide) (by rw [e4]; rfl) (by decide) ?_
    refine g_iconst (n := 2) (v := 2) (by decide +kernel) (by decide) ?_
    exact g_iret (by decide +kernel) rfl ⟨_, rfl, h⟩
  clear hk
  replace h := h e2 e3 e4
  refine g_tableOut (dflt := 37) (lo := 2) (hi := 4) (offs := #[28, 30, 28]) (len := 28) (tgt := 41) (by decide +kernel) (by have q2 := xsw (m := 2) (by decide) e2; have q3 := xsw (m := 3) (by decide) e3; have q4 := xsw (m := 4) (by decide) e4; omega) (by decide) ?_
  refine g_iconst (n := 4) (v := 4) (by decide +kernel) (by decide) ?_
  exact g_iret (by decide +kernel) rfl ⟨_, rfl, h⟩
def p_Text_operand (E : XE) (d : Nat) (x0 : Int32) (H : HH) (Q : Int32 → HH → Prop) : Prop := (10000 ≤ x0 → ((6 ≤ (x0 - 10000) → (Q 0 H)) ∧ (¬ 6 ≤ (x0 - 10000) → (vp_in (x0 - 10000) 6 ∧ (Q (H 20 0 ((x0 - 10000).toNatClampNeg)) H))))) ∧ (¬ 10000 ≤ x0 → (Q x0 H))
set_option maxHeartbeats 4000000 in
theorem l_Text_operand {E : XE} {d : Nat} {x0 : Int32} {H : HH} {Q : Int32 → HH → Prop} (h : p_Text_operand E d x0 H Q) : c_Text_operand E d x0 H Q := by
  show g_Text_operand E d 0 (xent [vi x0, vr 20 0]) [] H (qi Q)
  refine g_drop (ls2 := [some (vi x0), some (vr 20 0), none]) (And.intro rfl (And.intro rfl trivial)) ?_
  refine g_iload_n (q := 0) (i := 0) (by decide +kernel) rfl rfl ?_
  refine g_sipush (n := 10000) (v := 10000) (by decide +kernel) (by decide) ?_
  refine g_icmp_ge (off := 5) (tgt := 9) (by decide +kernel) (by decide) (fun c => ?_) (fun c => ?_)
  · replace h := h.1 c
    refine g_iload_n (q := 0) (i := 0) (by decide +kernel) rfl rfl ?_
    refine g_sipush (n := 10000) (v := 10000) (by decide +kernel) (by decide) ?_
    refine g_isub (by decide +kernel) ?_
    refine g_istore_n (q := 2) (i := 2) (ls2 := [some (vi x0), some (vr 20 0), some (vi (x0 - 10000))]) (by decide +kernel) rfl (by decide) rfl rfl ?_
    refine g_iload_n (q := 2) (i := 2) (by decide +kernel) rfl rfl ?_
    refine g_aload_n (q := 1) (i := 1) (by decide +kernel) rfl rfl ?_
    refine g_alen (v := 6) (by decide +kernel) (by decide) rfl (by decide) ?_
    refine g_icmp_ge (off := 9) (tgt := 27) (by decide +kernel) (by decide) (fun c => ?_) (fun c => ?_)
    · replace h := h.1 c
      refine g_iconst (n := 0) (v := 0) (by decide +kernel) (by decide) ?_
      exact g_iret (by decide +kernel) rfl ⟨_, rfl, h⟩
    · replace h := h.2 c
      refine g_aload_n (q := 1) (i := 1) (by decide +kernel) rfl rfl ?_
      refine g_iload_n (q := 2) (i := 2) (by decide +kernel) rfl rfl ?_
      obtain ⟨hin, h⟩ := h
      refine g_iald (by decide +kernel) (by decide) rfl hin ?_
      refine g_goto (off := 4) (tgt := 28) (by decide +kernel) (by decide) ?_
      exact g_iret (by decide +kernel) rfl ⟨_, rfl, h⟩
  · replace h := h.2 c
    refine g_iload_n (q := 0) (i := 0) (by decide +kernel) rfl rfl ?_
    exact g_iret (by decide +kernel) rfl ⟨_, rfl, h⟩
def p_Text_joined (E : XE) (d : Nat) (x0 : Int32) (x1 : Int32) (x2 : Int32) (H : HH) (Q : Int32 → HH → Prop) : Prop := (x0 = 20000 → (Q (if x1 = 0 then (if x2 = 0 then 0 else 1 : Int32) else 1 : Int32) H)) ∧ (x0 = 20001 → (Q (if x1 = 0 then 0 else (if x2 = 0 then 0 else 1 : Int32) : Int32) H)) ∧ (x0 = 20003 → (Q (if x2 ≤ x1 then 0 else 1 : Int32) H)) ∧ (x0 = 20004 → (Q (if x1 = x2 then 1 else 0 : Int32) H)) ∧ (x0 = 20005 → (Q (x1 + x2) H)) ∧ (x0 = 20006 → (Q (x1 - x2) H)) ∧ (¬ x0 = 20000 → ¬ x0 = 20001 → ¬ x0 = 20003 → ¬ x0 = 20004 → ¬ x0 = 20005 → ¬ x0 = 20006 → (Q (x1 * x2) H))
set_option maxHeartbeats 4000000 in
theorem l_Text_joined {E : XE} {d : Nat} {x0 : Int32} {x1 : Int32} {x2 : Int32} {H : HH} {Q : Int32 → HH → Prop} (h : p_Text_joined E d x0 x1 x2 H Q) : c_Text_joined E d x0 x1 x2 H Q := by
  show g_Text_joined E d 0 (xent [vi x0, vi x1, vi x2]) [] H (qi Q)
  refine g_drop (ls2 := [some (vi x0), some (vi x1), some (vi x2)]) (And.intro rfl (And.intro rfl (And.intro rfl trivial))) ?_
  refine g_iload_n (q := 0) (i := 0) (by decide +kernel) rfl rfl ?_
  obtain ⟨hk, h⟩ := h
  by_cases e20000 : x0 = 20000
  · replace h := hk e20000
    refine g_tableIn (dflt := 101) (lo := 20000) (hi := 20006) (offs := #[43, 57, 101, 71, 82, 93, 97]) (len := 43) (tgt := 44) (by decide +kernel) (by rw [e20000]; decide) (by rw [e20000]; decide) (by rw [e20000]; rfl) (by decide) ?_
    refine g_iload_n (q := 1) (i := 1) (by decide +kernel) rfl rfl ?_
    suffices hj2 : g_Text_joined E d 57 [some (vi x0), some (vi x1), some (vi x2)] [vi (if x1 = 0 then (if x2 = 0 then 0 else 1 : Int32) else 1 : Int32)] H (qi Q) by
      refine g_if_ne (off := 7) (tgt := 52) (by decide +kernel) (by decide) (fun c => ?_) (fun c => ?_)
      · rw [if_neg c] at hj2
        refine g_iconst (n := 1) (v := 1) (by decide +kernel) (by decide) ?_
        refine g_goto (off := 4) (tgt := 57) (by decide +kernel) (by decide) ?_
        exact hj2
      · rw [if_pos c] at hj2
        refine g_iload_n (q := 2) (i := 2) (by decide +kernel) rfl rfl ?_
        suffices hj1 : g_Text_joined E d 57 [some (vi x0), some (vi x1), some (vi x2)] [vi (if x2 = 0 then 0 else 1 : Int32)] H (qi Q) by
          refine g_if_eq (off := 7) (tgt := 56) (by decide +kernel) (by decide) (fun c => ?_) (fun c => ?_)
          · rw [if_pos c] at hj1
            refine g_iconst (n := 0) (v := 0) (by decide +kernel) (by decide) ?_
            exact hj1
          · rw [if_neg c] at hj1
            refine g_iconst (n := 1) (v := 1) (by decide +kernel) (by decide) ?_
            refine g_goto (off := 4) (tgt := 57) (by decide +kernel) (by decide) ?_
            exact hj1
        exact hj2
    exact g_iret (by decide +kernel) rfl ⟨_, rfl, h⟩
  clear hk
  obtain ⟨hk, h⟩ := h
  by_cases e20001 : x0 = 20001
  · replace h := hk e20001
    refine g_tableIn (dflt := 101) (lo := 20000) (hi := 20006) (offs := #[43, 57, 101, 71, 82, 93, 97]) (len := 43) (tgt := 58) (by decide +kernel) (by rw [e20001]; decide) (by rw [e20001]; decide) (by rw [e20001]; rfl) (by decide) ?_
    refine g_iload_n (q := 1) (i := 1) (by decide +kernel) rfl rfl ?_
    suffices hj4 : g_Text_joined E d 71 [some (vi x0), some (vi x1), some (vi x2)] [vi (if x1 = 0 then 0 else (if x2 = 0 then 0 else 1 : Int32) : Int32)] H (qi Q) by
      refine g_if_eq (off := 11) (tgt := 70) (by decide +kernel) (by decide) (fun c => ?_) (fun c => ?_)
      · rw [if_pos c] at hj4
        refine g_iconst (n := 0) (v := 0) (by decide +kernel) (by decide) ?_
        exact hj4
      · rw [if_neg c] at hj4
        refine g_iload_n (q := 2) (i := 2) (by decide +kernel) rfl rfl ?_
        suffices hj3 : g_Text_joined E d 71 [some (vi x0), some (vi x1), some (vi x2)] [vi (if x2 = 0 then 0 else 1 : Int32)] H (qi Q) by
          refine g_if_eq (off := 7) (tgt := 70) (by decide +kernel) (by decide) (fun c => ?_) (fun c => ?_)
          · rw [if_pos c] at hj3
            refine g_iconst (n := 0) (v := 0) (by decide +kernel) (by decide) ?_
            exact hj3
          · rw [if_neg c] at hj3
            refine g_iconst (n := 1) (v := 1) (by decide +kernel) (by decide) ?_
            refine g_goto (off := 4) (tgt := 71) (by decide +kernel) (by decide) ?_
            exact hj3
        exact hj4
    exact g_iret (by decide +kernel) rfl ⟨_, rfl, h⟩
  clear hk
  obtain ⟨hk, h⟩ := h
  by_cases e20003 : x0 = 20003
  · replace h := hk e20003
    refine g_tableIn (dflt := 101) (lo := 20000) (hi := 20006) (offs := #[43, 57, 101, 71, 82, 93, 97]) (len := 43) (tgt := 72) (by decide +kernel) (by rw [e20003]; decide) (by rw [e20003]; decide) (by rw [e20003]; rfl) (by decide) ?_
    refine g_iload_n (q := 1) (i := 1) (by decide +kernel) rfl rfl ?_
    refine g_iload_n (q := 2) (i := 2) (by decide +kernel) rfl rfl ?_
    suffices hj5 : g_Text_joined E d 82 [some (vi x0), some (vi x1), some (vi x2)] [vi (if x2 ≤ x1 then 0 else 1 : Int32)] H (qi Q) by
      refine g_icmp_ge (off := 7) (tgt := 81) (by decide +kernel) (by decide) (fun c => ?_) (fun c => ?_)
      · rw [if_pos c] at hj5
        refine g_iconst (n := 0) (v := 0) (by decide +kernel) (by decide) ?_
        exact hj5
      · rw [if_neg c] at hj5
        refine g_iconst (n := 1) (v := 1) (by decide +kernel) (by decide) ?_
        refine g_goto (off := 4) (tgt := 82) (by decide +kernel) (by decide) ?_
        exact hj5
    exact g_iret (by decide +kernel) rfl ⟨_, rfl, h⟩
  clear hk
  obtain ⟨hk, h⟩ := h
  by_cases e20004 : x0 = 20004
  · replace h := hk e20004
    refine g_tableIn (dflt := 101) (lo := 20000) (hi := 20006) (offs := #[43, 57, 101, 71, 82, 93, 97]) (len := 43) (tgt := 83) (by decide +kernel) (by rw [e20004]; decide) (by rw [e20004]; decide) (by rw [e20004]; rfl) (by decide) ?_
    refine g_iload_n (q := 1) (i := 1) (by decide +kernel) rfl rfl ?_
    refine g_iload_n (q := 2) (i := 2) (by decide +kernel) rfl rfl ?_
    suffices hj6 : g_Text_joined E d 93 [some (vi x0), some (vi x1), some (vi x2)] [vi (if x1 = x2 then 1 else 0 : Int32)] H (qi Q) by
      refine g_icmp_ne (off := 7) (tgt := 92) (by decide +kernel) (by decide) (fun c => ?_) (fun c => ?_)
      · rw [if_neg c] at hj6
        refine g_iconst (n := 0) (v := 0) (by decide +kernel) (by decide) ?_
        exact hj6
      · rw [if_pos c] at hj6
        refine g_iconst (n := 1) (v := 1) (by decide +kernel) (by decide) ?_
        refine g_goto (off := 4) (tgt := 93) (by decide +kernel) (by decide) ?_
        exact hj6
    exact g_iret (by decide +kernel) rfl ⟨_, rfl, h⟩
  clear hk
  obtain ⟨hk, h⟩ := h
  by_cases e20005 : x0 = 20005
  · replace h := hk e20005
    refine g_tableIn (dflt := 101) (lo := 20000) (hi := 20006) (offs := #[43, 57, 101, 71, 82, 93, 97]) (len := 43) (tgt := 94) (by decide +kernel) (by rw [e20005]; decide) (by rw [e20005]; decide) (by rw [e20005]; rfl) (by decide) ?_
    refine g_iload_n (q := 1) (i := 1) (by decide +kernel) rfl rfl ?_
    refine g_iload_n (q := 2) (i := 2) (by decide +kernel) rfl rfl ?_
    refine g_iadd (by decide +kernel) ?_
    exact g_iret (by decide +kernel) rfl ⟨_, rfl, h⟩
  clear hk
  obtain ⟨hk, h⟩ := h
  by_cases e20006 : x0 = 20006
  · replace h := hk e20006
    refine g_tableIn (dflt := 101) (lo := 20000) (hi := 20006) (offs := #[43, 57, 101, 71, 82, 93, 97]) (len := 43) (tgt := 98) (by decide +kernel) (by rw [e20006]; decide) (by rw [e20006]; decide) (by rw [e20006]; rfl) (by decide) ?_
    refine g_iload_n (q := 1) (i := 1) (by decide +kernel) rfl rfl ?_
    refine g_iload_n (q := 2) (i := 2) (by decide +kernel) rfl rfl ?_
    refine g_isub (by decide +kernel) ?_
    exact g_iret (by decide +kernel) rfl ⟨_, rfl, h⟩
  clear hk
  replace h := h e20000 e20001 e20003 e20004 e20005 e20006
  by_cases e20002 : x0 = 20002
  · refine g_tableIn (dflt := 101) (lo := 20000) (hi := 20006) (offs := #[43, 57, 101, 71, 82, 93, 97]) (len := 43) (tgt := 102) (by decide +kernel) (by rw [e20002]; decide) (by rw [e20002]; decide) (by rw [e20002]; rfl) (by decide) ?_
    refine g_iload_n (q := 1) (i := 1) (by decide +kernel) rfl rfl ?_
    refine g_iload_n (q := 2) (i := 2) (by decide +kernel) rfl rfl ?_
    refine g_imul (by decide +kernel) ?_
    exact g_iret (by decide +kernel) rfl ⟨_, rfl, h⟩
  refine g_tableOut (dflt := 101) (lo := 20000) (hi := 20006) (offs := #[43, 57, 101, 71, 82, 93, 97]) (len := 43) (tgt := 102) (by decide +kernel) (by have q20000 := xsw (m := 20000) (by decide) e20000; have q20001 := xsw (m := 20001) (by decide) e20001; have q20002 := xsw (m := 20002) (by decide) e20002; have q20003 := xsw (m := 20003) (by decide) e20003; have q20004 := xsw (m := 20004) (by decide) e20004; have q20005 := xsw (m := 20005) (by decide) e20005; have q20006 := xsw (m := 20006) (by decide) e20006; omega) (by decide) ?_
  refine g_iload_n (q := 1) (i := 1) (by decide +kernel) rfl rfl ?_
  refine g_iload_n (q := 2) (i := 2) (by decide +kernel) rfl rfl ?_
  refine g_imul (by decide +kernel) ?_
  exact g_iret (by decide +kernel) rfl ⟨_, rfl, h⟩
def p_Text_says (E : XE) (d : Nat) (t : Nat) (x1 : Int32) (H : HH) (Q : Int32 → HH → Prop) : Prop := (x1 < 0 → (Q 0 H)) ∧ (¬ x1 < 0 → ((x1 < 3 → (∃ J1 : Int32 → HH → Prop, ((¬ x1 = 0 → (vp_in (x1 - 1) 3 ∧ (J1 (H 13 t ((x1 - 1).toNatClampNeg)) H))) ∧ (x1 = 0 → (J1 0 H))) ∧ ∀ (y2 : Int32) (H3 : HH), J1 y2 H3 → (∃ (I4 : Int32 → Int32 → HH → Prop) (μ4 : Int32 → Int32 → HH → Nat), I4 0 y2 H3 ∧ ∀ (z5 : Int32) (z6 : Int32) (H7 : HH), I4 z5 z6 H7 → (vp_in x1 3 ∧ (((H7 13 t (x1.toNatClampNeg)) ≤ z6 → ((1 ≤ z5 → (vp_in (z5 - 1) 160 ∧ (vp_in x1 3 ∧ (Q (xmax 0 (xmin (H7 14 t ((z5 - 1).toNatClampNeg)) (xBND.getD (x1.toNatClampNeg) 0))) H7)))) ∧ (¬ 1 ≤ z5 → (Q 0 H7)))) ∧ (¬ (H7 13 t (x1.toNatClampNeg)) ≤ z6 → ((160 ≤ z6 → ((1 ≤ z5 → (vp_in (z5 - 1) 160 ∧ (vp_in x1 3 ∧ (Q (xmax 0 (xmin (H7 14 t ((z5 - 1).toNatClampNeg)) (xBND.getD (x1.toNatClampNeg) 0))) H7)))) ∧ (¬ 1 ≤ z5 → (Q 0 H7)))) ∧ (¬ 160 ≤ z6 → (vp_in z6 160 ∧ (∀ v8 : Int32, v8 = (H7 12 t (z6.toNatClampNeg)) → ((20000 ≤ v8 → ((v8 = 20002 → ((1 ≤ z5 → (vp_in (z5 - 1) 160 ∧ (∀ v9 : Int32, v9 = (H7 14 t ((z5 - 1).toNatClampNeg)) → (vp_in (z5 - 1) 160 ∧ (∀ H12 : HH, H12 = (hu H7 14 t ((z5 - 1).toNatClampNeg) (if v8 = 20002 then (if v9 = 0 then 1 else 0 : Int32) else (-v9) : Int32)) → (I4 z5 (z6 + 1) H12 ∧ μ4 z5 (z6 + 1) H12 < μ4 z5 z6 H7)))))) ∧ (¬ 1 ≤ z5 → (Q 0 H7)))) ∧ (¬ v8 = 20002 → ((¬ v8 = 20008 → ((2 ≤ z5 → (vp_in (z5 - 2) 160 ∧ (vp_in (z5 - 1) 160 ∧ (c_Text_joined E d v8 (H7 14 t ((z5 - 2).toNatClampNeg)) (H7 14 t ((z5 - 1).toNatClampNeg)) H7 (fun r14 H13 => vp_in (z5 - 2) 160 ∧ (∀ H15 : HH, H15 = (hu H13 14 t ((z5 - 2).toNatClampNeg) r14) → (I4 (z5 + (-1)) (z6 + 1) H15 ∧ μ4 (z5 + (-1)) (z6 + 1) H15 < μ4 z5 z6 H7))))))) ∧ (¬ 2 ≤ z5 → (Q 0 H7)))) ∧ (v8 = 20008 → ((1 ≤ z5 → (vp_in (z5 - 1) 160 ∧ (∀ v16 : Int32, v16 = (H7 14 t ((z5 - 1).toNatClampNeg)) → (vp_in (z5 - 1) 160 ∧ (∀ H19 : HH, H19 = (hu H7 14 t ((z5 - 1).toNatClampNeg) (if v8 = 20002 then (if v16 = 0 then 1 else 0 : Int32) else (-v16) : Int32)) → (I4 z5 (z6 + 1) H19 ∧ μ4 z5 (z6 + 1) H19 < μ4 z5 z6 H7)))))) ∧ (¬ 1 ≤ z5 → (Q 0 H7)))))))) ∧ (¬ 20000 ≤ v8 → ((z5 < 160 → (c_Text_operand E d v8 H7 (fun r21 H20 => vp_in z5 160 ∧ (∀ H22 : HH, H22 = (hu H20 14 t (z5.toNatClampNeg) r21) → (I4 (z5 + 1) (z6 + 1) H22 ∧ μ4 (z5 + 1) (z6 + 1) H22 < μ4 z5 z6 H7))))) ∧ (¬ z5 < 160 → (Q 0 H7))))))))))))))) ∧ (¬ x1 < 3 → (Q 0 H))))
set_option maxHeartbeats 4000000 in
theorem l_Text_says {E : XE} {d : Nat} {t : Nat} {x1 : Int32} {H : HH} {Q : Int32 → HH → Prop} (h : p_Text_says E d t x1 H Q) : c_Text_says E (d + 1) t x1 H Q := by
  show g_Text_says E (d + 1) 0 (xent [vr 11 t, vi x1, vr 20 0]) [] H (qi Q)
  refine g_drop (ls2 := [some (vr 11 t), some (vi x1), some (vr 20 0), none, none, none, none]) (And.intro rfl (And.intro rfl (And.intro rfl trivial))) ?_
  refine g_iload_n (q := 1) (i := 1) (by decide +kernel) rfl rfl ?_
  refine g_if_lt (off := 8) (tgt := 9) (by decide +kernel) (by decide) (fun c => ?_) (fun c => ?_)
  · replace h := h.1 c
    refine g_iconst (n := 0) (v := 0) (by decide +kernel) (by decide) ?_
    exact g_iret (by decide +kernel) rfl ⟨_, rfl, h⟩
  · replace h := h.2 c
    refine g_iload_n (q := 1) (i := 1) (by decide +kernel) rfl rfl ?_
    refine g_iconst (n := 3) (v := 3) (by decide +kernel) (by decide) ?_
    refine g_icmp_lt (off := 5) (tgt := 11) (by decide +kernel) (by decide) (fun c => ?_) (fun c => ?_)
    · replace h := h.1 c
      refine g_iconst (n := 0) (v := 0) (by decide +kernel) (by decide) ?_
      refine g_istore_n (q := 3) (i := 3) (ls2 := [some (vr 11 t), some (vi x1), some (vr 20 0), some (vi 0), none, none, none]) (by decide +kernel) rfl (by decide) rfl rfl ?_
      refine g_iload_n (q := 1) (i := 1) (by decide +kernel) rfl rfl ?_
      obtain ⟨J1, h, hk1⟩ := h
      have hc1 : ∀ (y2 : Int32) (H3 : HH), J1 y2 H3 → g_Text_says E (d + 1) 29 [some (vr 11 t), some (vi x1), some (vr 20 0), some (vi 0), none, none, none] [vi y2] H3 (qi Q) := by
        intro y2 H3 h
        replace h := hk1 y2 H3 h
        refine g_istore (i := 4) (ls2 := [some (vr 11 t), some (vi x1), some (vr 20 0), some (vi 0), some (vi y2), none, none]) (by decide +kernel) (by decide) rfl rfl ?_
        refine g_drop (ls2 := [some (vr 11 t), some (vi x1), some (vr 20 0), some (vi 0), some (vi y2), none, none]) (And.intro rfl (And.intro rfl (And.intro rfl (And.intro rfl (And.intro rfl trivial))))) ?_
        obtain ⟨I4, μ4, h0, h⟩ := h
        refine xloop (σ := Int32 × Int32) (fun s H => I4 s.1 s.2 H) (fun s H => μ4 s.1 s.2 H) (fun s H => g_Text_says E (d + 1) 31 [some (vr 11 t), some (vi x1), some (vr 20 0), some (vi s.1), some (vi s.2), none, none] [] H (qi Q)) (fun s H7 hI ih4 => ?_) (0, y2) H3 h0
        obtain ⟨z5, z6⟩ := s
        replace h := h z5 z6 H7 hI
        refine g_iload (i := 4) (by decide +kernel) rfl ?_
        refine g_aload_n (q := 0) (i := 0) (by decide +kernel) rfl rfl ?_
        refine g_get (C := "ThreePoints$Text") (T := xT_Text) (N := 4) (ci := 6) (k := 2) (v := vr 13 t) (by decide +kernel) (by decide) rfl rfl xi_Text (by decide) kw_216 rfl ?_
        refine g_iload_n (q := 1) (i := 1) (by decide +kernel) rfl rfl ?_
        obtain ⟨hin, h⟩ := h
        refine g_iald (by decide +kernel) (by decide) rfl hin ?_
        refine g_icmp_ge (off := 172) (tgt := 211) (by decide +kernel) (by decide) (fun c => ?_) (fun c => ?_)
        · replace h := h.1 c
          refine g_iload_n (q := 3) (i := 3) (by decide +kernel) rfl rfl ?_
          refine g_iconst (n := 1) (v := 1) (by decide +kernel) (by decide) ?_
          refine g_icmp_ge (off := 7) (tgt := 220) (by decide +kernel) (by decide) (fun c => ?_) (fun c => ?_)
          · replace h := h.1 c
            refine g_iconst (n := 0) (v := 0) (by decide +kernel) (by decide) ?_
            refine g_aload_n (q := 0) (i := 0) (by decide +kernel) rfl rfl ?_
            refine g_get (C := "ThreePoints$Text") (T := xT_Text) (N := 4) (ci := 6) (k := 3) (v := vr 14 t) (by decide +kernel) (by decide) rfl rfl xi_Text (by decide) kw_217 rfl ?_
            refine g_iload_n (q := 3) (i := 3) (by decide +kernel) rfl rfl ?_
            refine g_iconst (n := 1) (v := 1) (by decide +kernel) (by decide) ?_
            refine g_isub (by decide +kernel) ?_
            obtain ⟨hin, h⟩ := h
            refine g_iald (by decide +kernel) (by decide) rfl hin ?_
            refine g_gsBND (by decide +kernel) kw_674 ?_
            refine g_iload_n (q := 1) (i := 1) (by decide +kernel) rfl rfl ?_
            obtain ⟨hin, h⟩ := h
            refine g_ialdBND (by decide +kernel) hin ?_
            refine g_mmin (by decide +kernel) kw_676 kw_463 kw_79 kw_464 (Nat.le_of_ble_eq_true rfl) ?_
            refine g_mmax (by decide +kernel) kw_677 kw_460 kw_79 kw_461 (Nat.le_of_ble_eq_true rfl) ?_
            exact g_iret (by decide +kernel) rfl ⟨_, rfl, h⟩
          · replace h := h.2 c
            refine g_iconst (n := 0) (v := 0) (by decide +kernel) (by decide) ?_
            refine g_goto (off := 23) (tgt := 240) (by decide +kernel) (by decide) ?_
            exact g_iret (by decide +kernel) rfl ⟨_, rfl, h⟩
        · replace h := h.2 c
          refine g_iload (i := 4) (by decide +kernel) rfl ?_
          refine g_aload_n (q := 0) (i := 0) (by decide +kernel) rfl rfl ?_
          refine g_get (C := "ThreePoints$Text") (T := xT_Text) (N := 4) (ci := 6) (k := 0) (v := vr 12 t) (by decide +kernel) (by decide) rfl rfl xi_Text (by decide) kw_214 rfl ?_
          refine g_alen (v := 160) (by decide +kernel) (by decide) rfl (by decide) ?_
          refine g_icmp_ge (off := 162) (tgt := 211) (by decide +kernel) (by decide) (fun c => ?_) (fun c => ?_)
          · replace h := h.1 c
            refine g_iload_n (q := 3) (i := 3) (by decide +kernel) rfl rfl ?_
            refine g_iconst (n := 1) (v := 1) (by decide +kernel) (by decide) ?_
            refine g_icmp_ge (off := 7) (tgt := 220) (by decide +kernel) (by decide) (fun c => ?_) (fun c => ?_)
            · replace h := h.1 c
              refine g_iconst (n := 0) (v := 0) (by decide +kernel) (by decide) ?_
              refine g_aload_n (q := 0) (i := 0) (by decide +kernel) rfl rfl ?_
              refine g_get (C := "ThreePoints$Text") (T := xT_Text) (N := 4) (ci := 6) (k := 3) (v := vr 14 t) (by decide +kernel) (by decide) rfl rfl xi_Text (by decide) kw_217 rfl ?_
              refine g_iload_n (q := 3) (i := 3) (by decide +kernel) rfl rfl ?_
              refine g_iconst (n := 1) (v := 1) (by decide +kernel) (by decide) ?_
              refine g_isub (by decide +kernel) ?_
              obtain ⟨hin, h⟩ := h
              refine g_iald (by decide +kernel) (by decide) rfl hin ?_
              refine g_gsBND (by decide +kernel) kw_674 ?_
              refine g_iload_n (q := 1) (i := 1) (by decide +kernel) rfl rfl ?_
              obtain ⟨hin, h⟩ := h
              refine g_ialdBND (by decide +kernel) hin ?_
              refine g_mmin (by decide +kernel) kw_676 kw_463 kw_79 kw_464 (Nat.le_of_ble_eq_true rfl) ?_
              refine g_mmax (by decide +kernel) kw_677 kw_460 kw_79 kw_461 (Nat.le_of_ble_eq_true rfl) ?_
              exact g_iret (by decide +kernel) rfl ⟨_, rfl, h⟩
            · replace h := h.2 c
              refine g_iconst (n := 0) (v := 0) (by decide +kernel) (by decide) ?_
              refine g_goto (off := 23) (tgt := 240) (by decide +kernel) (by decide) ?_
              exact g_iret (by decide +kernel) rfl ⟨_, rfl, h⟩
          · replace h := h.2 c
            refine g_aload_n (q := 0) (i := 0) (by decide +kernel) rfl rfl ?_
            refine g_get (C := "ThreePoints$Text") (T := xT_Text) (N := 4) (ci := 6) (k := 0) (v := vr 12 t) (by decide +kernel) (by decide) rfl rfl xi_Text (by decide) kw_214 rfl ?_
            refine g_iload (i := 4) (by decide +kernel) rfl ?_
            obtain ⟨hin, h⟩ := h
            refine g_iald (by decide +kernel) (by decide) rfl hin ?_
            refine g_topi (fun v8 ev8 => ?_)
            replace h := h v8 ev8
            refine g_istore (i := 5) (ls2 := [some (vr 11 t), some (vi x1), some (vr 20 0), some (vi z5), some (vi z6), some (vi v8), none]) (by decide +kernel) (by decide) rfl rfl ?_
            refine g_iload (i := 5) (by decide +kernel) rfl ?_
            refine g_sipush (n := 20000) (v := 20000) (by decide +kernel) (by decide) ?_
            refine g_icmp_ge (off := 32) (tgt := 98) (by decide +kernel) (by decide) (fun c => ?_) (fun c => ?_)
            · replace h := h.1 c
              refine g_iload (i := 5) (by decide +kernel) rfl ?_
              refine g_sipush (n := 20002) (v := 20002) (by decide +kernel) (by decide) ?_
              refine g_icmp_eq (off := 11) (tgt := 114) (by decide +kernel) (by decide) (fun c => ?_) (fun c => ?_)
              · replace h := h.1 c
                refine g_iload_n (q := 3) (i := 3) (by decide +kernel) rfl rfl ?_
                refine g_iconst (n := 1) (v := 1) (by decide +kernel) (by decide) ?_
                refine g_icmp_ge (off := 5) (tgt := 121) (by decide +kernel) (by decide) (fun c => ?_) (fun c => ?_)
                · replace h := h.1 c
                  refine g_aload_n (q := 0) (i := 0) (by decide +kernel) rfl rfl ?_
                  refine g_get (C := "ThreePoints$Text") (T := xT_Text) (N := 4) (ci := 6) (k := 3) (v := vr 14 t) (by decide +kernel) (by decide) rfl rfl xi_Text (by decide) kw_217 rfl ?_
                  refine g_iload_n (q := 3) (i := 3) (by decide +kernel) rfl rfl ?_
                  refine g_iconst (n := 1) (v := 1) (by decide +kernel) (by decide) ?_
                  refine g_isub (by decide +kernel) ?_
                  obtain ⟨hin, h⟩ := h
                  refine g_iald (by decide +kernel) (by decide) rfl hin ?_
                  refine g_topi (fun v9 ev9 => ?_)
                  replace h := h v9 ev9
                  refine g_istore (i := 6) (ls2 := [some (vr 11 t), some (vi x1), some (vr 20 0), some (vi z5), some (vi z6), some (vi v8), some (vi v9)]) (by decide +kernel) (by decide) rfl rfl ?_
                  refine g_aload_n (q := 0) (i := 0) (by decide +kernel) rfl rfl ?_
                  refine g_get (C := "ThreePoints$Text") (T := xT_Text) (N := 4) (ci := 6) (k := 3) (v := vr 14 t) (by decide +kernel) (by decide) rfl rfl xi_Text (by decide) kw_217 rfl ?_
                  refine g_iload_n (q := 3) (i := 3) (by decide +kernel) rfl rfl ?_
                  refine g_iconst (n := 1) (v := 1) (by decide +kernel) (by decide) ?_
                  refine g_isub (by decide +kernel) ?_
                  refine g_iload (i := 5) (by decide +kernel) rfl ?_
                  refine g_sipush (n := 20002) (v := 20002) (by decide +kernel) (by decide) ?_
                  suffices hj11 : g_Text_says E (d + 1) 162 [some (vr 11 t), some (vi x1), some (vr 20 0), some (vi z5), some (vi z6), some (vi v8), some (vi v9)] [vi (if v8 = 20002 then (if v9 = 0 then 1 else 0 : Int32) else (-v9) : Int32), vi (z5 - 1), vr 14 t] H7 (qi Q) by
                    refine g_icmp_ne (off := 16) (tgt := 159) (by decide +kernel) (by decide) (fun c => ?_) (fun c => ?_)
                    · rw [if_neg c] at hj11
                      refine g_iload (i := 6) (by decide +kernel) rfl ?_
                      refine g_ineg (by decide +kernel) ?_
                      exact hj11
                    · rw [if_pos c] at hj11
                      refine g_iload (i := 6) (by decide +kernel) rfl ?_
                      suffices hj10 : g_Text_says E (d + 1) 162 [some (vr 11 t), some (vi x1), some (vr 20 0), some (vi z5), some (vi z6), some (vi v8), some (vi v9)] [vi (if v9 = 0 then 1 else 0 : Int32), vi (z5 - 1), vr 14 t] H7 (qi Q) by
                        refine g_if_ne (off := 7) (tgt := 155) (by decide +kernel) (by decide) (fun c => ?_) (fun c => ?_)
                        · rw [if_neg c] at hj10
                          refine g_iconst (n := 0) (v := 0) (by decide +kernel) (by decide) ?_
                          refine g_goto (off := 6) (tgt := 162) (by decide +kernel) (by decide) ?_
                          exact hj10
                        · rw [if_pos c] at hj10
                          refine g_iconst (n := 1) (v := 1) (by decide +kernel) (by decide) ?_
                          refine g_goto (off := 10) (tgt := 162) (by decide +kernel) (by decide) ?_
                          exact hj10
                      exact hj11
                  obtain ⟨hin, h⟩ := h
                  refine g_iast (by decide +kernel) (by decide) rfl hin ?_
                  refine g_goto (off := 42) (tgt := 205) (by decide +kernel) (by decide) ?_
                  refine g_iinc (i := 4) (n := 1) (v := (z6 + 1)) (ls2 := [some (vr 11 t), some (vi x1), some (vr 20 0), some (vi z5), some (vi (z6 + 1)), some (vi v8), some (vi v9)]) (by decide +kernel) rfl rfl (by decide) rfl rfl ?_
                  refine g_goto (off := (-177)) (tgt := 31) (by decide +kernel) (by decide) ?_
                  refine g_heap (fun H12 eH12 => ?_)
                  replace h := h H12 eH12
                  obtain ⟨hI, hlt⟩ := h
                  exact g_drop (ls2 := [some (vr 11 t), some (vi x1), some (vr 20 0), some (vi z5), some (vi (z6 + 1)), none, none]) (And.intro rfl (And.intro rfl (And.intro rfl (And.intro rfl (And.intro rfl trivial))))) (ih4 (z5, (z6 + 1)) H12 hI hlt)
                · replace h := h.2 c
                  refine g_iconst (n := 0) (v := 0) (by decide +kernel) (by decide) ?_
                  exact g_iret (by decide +kernel) rfl ⟨_, rfl, h⟩
              · replace h := h.2 c
                refine g_iload (i := 5) (by decide +kernel) rfl ?_
                refine g_sipush (n := 20008) (v := 20008) (by decide +kernel) (by decide) ?_
                refine g_icmp_ne (off := 55) (tgt := 166) (by decide +kernel) (by decide) (fun c => ?_) (fun c => ?_)
                · replace h := h.1 c
                  refine g_iload_n (q := 3) (i := 3) (by decide +kernel) rfl rfl ?_
                  refine g_iconst (n := 2) (v := 2) (by decide +kernel) (by decide) ?_
                  refine g_icmp_ge (off := 5) (tgt := 173) (by decide +kernel) (by decide) (fun c => ?_) (fun c => ?_)
                  · replace h := h.1 c
                    refine g_aload_n (q := 0) (i := 0) (by decide +kernel) rfl rfl ?_
                    refine g_get (C := "ThreePoints$Text") (T := xT_Text) (N := 4) (ci := 6) (k := 3) (v := vr 14 t) (by decide +kernel) (by decide) rfl rfl xi_Text (by decide) kw_217 rfl ?_
                    refine g_iload_n (q := 3) (i := 3) (by decide +kernel) rfl rfl ?_
                    refine g_iconst (n := 2) (v := 2) (by decide +kernel) (by decide) ?_
                    refine g_isub (by decide +kernel) ?_
                    refine g_iload (i := 5) (by decide +kernel) rfl ?_
                    refine g_aload_n (q := 0) (i := 0) (by decide +kernel) rfl rfl ?_
                    refine g_get (C := "ThreePoints$Text") (T := xT_Text) (N := 4) (ci := 6) (k := 3) (v := vr 14 t) (by decide +kernel) (by decide) rfl rfl xi_Text (by decide) kw_217 rfl ?_
                    refine g_iload_n (q := 3) (i := 3) (by decide +kernel) rfl rfl ?_
                    refine g_iconst (n := 2) (v := 2) (by decide +kernel) (by decide) ?_
                    refine g_isub (by decide +kernel) ?_
                    obtain ⟨hin, h⟩ := h
                    refine g_iald (by decide +kernel) (by decide) rfl hin ?_
                    refine g_aload_n (q := 0) (i := 0) (by decide +kernel) rfl rfl ?_
                    refine g_get (C := "ThreePoints$Text") (T := xT_Text) (N := 4) (ci := 6) (k := 3) (v := vr 14 t) (by decide +kernel) (by decide) rfl rfl xi_Text (by decide) kw_217 rfl ?_
                    refine g_iload_n (q := 3) (i := 3) (by decide +kernel) rfl rfl ?_
                    refine g_iconst (n := 1) (v := 1) (by decide +kernel) (by decide) ?_
                    refine g_isub (by decide +kernel) ?_
                    obtain ⟨hin, h⟩ := h
                    refine g_iald (by decide +kernel) (by decide) rfl hin ?_
                    refine g_callS (vs := [vi v8, vi (H7 14 t ((z5 - 2).toNatClampNeg)), vi (H7 14 t ((z5 - 1).toNatClampNeg))]) (st := [vi (z5 - 2), vr 14 t]) (by decide +kernel) xm_Text_joined kw_671 kw_672 rfl rfl (Nat.le_of_ble_eq_true rfl) (Nat.le_of_ble_eq_true rfl) h (fun vH13 H13 hq => ?_)
                    obtain ⟨r14, rfl, h⟩ := hq
                    obtain ⟨hin, h⟩ := h
                    refine g_iast (by decide +kernel) (by decide) rfl hin ?_
                    refine g_iinc (i := 3) (n := (-1)) (v := (z5 + (-1))) (ls2 := [some (vr 11 t), some (vi x1), some (vr 20 0), some (vi (z5 + (-1))), some (vi z6), some (vi v8), none]) (by decide +kernel) rfl rfl (by decide) rfl rfl ?_
                    refine g_iinc (i := 4) (n := 1) (v := (z6 + 1)) (ls2 := [some (vr 11 t), some (vi x1), some (vr 20 0), some (vi (z5 + (-1))), some (vi (z6 + 1)), some (vi v8), none]) (by decide +kernel) rfl rfl (by decide) rfl rfl ?_
                    refine g_goto (off := (-177)) (tgt := 31) (by decide +kernel) (by decide) ?_
                    refine g_heap (fun H15 eH15 => ?_)
                    replace h := h H15 eH15
                    obtain ⟨hI, hlt⟩ := h
                    exact g_drop (ls2 := [some (vr 11 t), some (vi x1), some (vr 20 0), some (vi (z5 + (-1))), some (vi (z6 + 1)), none, none]) (And.intro rfl (And.intro rfl (And.intro rfl (And.intro rfl (And.intro rfl trivial))))) (ih4 ((z5 + (-1)), (z6 + 1)) H15 hI hlt)
                  · replace h := h.2 c
                    refine g_iconst (n := 0) (v := 0) (by decide +kernel) (by decide) ?_
                    exact g_iret (by decide +kernel) rfl ⟨_, rfl, h⟩
                · replace h := h.2 c
                  refine g_iload_n (q := 3) (i := 3) (by decide +kernel) rfl rfl ?_
                  refine g_iconst (n := 1) (v := 1) (by decide +kernel) (by decide) ?_
                  refine g_icmp_ge (off := 5) (tgt := 121) (by decide +kernel) (by decide) (fun c => ?_) (fun c => ?_)
                  · replace h := h.1 c
                    refine g_aload_n (q := 0) (i := 0) (by decide +kernel) rfl rfl ?_
                    refine g_get (C := "ThreePoints$Text") (T := xT_Text) (N := 4) (ci := 6) (k := 3) (v := vr 14 t) (by decide +kernel) (by decide) rfl rfl xi_Text (by decide) kw_217 rfl ?_
                    refine g_iload_n (q := 3) (i := 3) (by decide +kernel) rfl rfl ?_
                    refine g_iconst (n := 1) (v := 1) (by decide +kernel) (by decide) ?_
                    refine g_isub (by decide +kernel) ?_
                    obtain ⟨hin, h⟩ := h
                    refine g_iald (by decide +kernel) (by decide) rfl hin ?_
                    refine g_topi (fun v16 ev16 => ?_)
                    replace h := h v16 ev16
                    refine g_istore (i := 6) (ls2 := [some (vr 11 t), some (vi x1), some (vr 20 0), some (vi z5), some (vi z6), some (vi v8), some (vi v16)]) (by decide +kernel) (by decide) rfl rfl ?_
                    refine g_aload_n (q := 0) (i := 0) (by decide +kernel) rfl rfl ?_
                    refine g_get (C := "ThreePoints$Text") (T := xT_Text) (N := 4) (ci := 6) (k := 3) (v := vr 14 t) (by decide +kernel) (by decide) rfl rfl xi_Text (by decide) kw_217 rfl ?_
                    refine g_iload_n (q := 3) (i := 3) (by decide +kernel) rfl rfl ?_
                    refine g_iconst (n := 1) (v := 1) (by decide +kernel) (by decide) ?_
                    refine g_isub (by decide +kernel) ?_
                    refine g_iload (i := 5) (by decide +kernel) rfl ?_
                    refine g_sipush (n := 20002) (v := 20002) (by decide +kernel) (by decide) ?_
                    suffices hj18 : g_Text_says E (d + 1) 162 [some (vr 11 t), some (vi x1), some (vr 20 0), some (vi z5), some (vi z6), some (vi v8), some (vi v16)] [vi (if v8 = 20002 then (if v16 = 0 then 1 else 0 : Int32) else (-v16) : Int32), vi (z5 - 1), vr 14 t] H7 (qi Q) by
                      refine g_icmp_ne (off := 16) (tgt := 159) (by decide +kernel) (by decide) (fun c => ?_) (fun c => ?_)
                      · rw [if_neg c] at hj18
                        refine g_iload (i := 6) (by decide +kernel) rfl ?_
                        refine g_ineg (by decide +kernel) ?_
                        exact hj18
                      · rw [if_pos c] at hj18
                        refine g_iload (i := 6) (by decide +kernel) rfl ?_
                        suffices hj17 : g_Text_says E (d + 1) 162 [some (vr 11 t), some (vi x1), some (vr 20 0), some (vi z5), some (vi z6), some (vi v8), some (vi v16)] [vi (if v16 = 0 then 1 else 0 : Int32), vi (z5 - 1), vr 14 t] H7 (qi Q) by
                          refine g_if_ne (off := 7) (tgt := 155) (by decide +kernel) (by decide) (fun c => ?_) (fun c => ?_)
                          · rw [if_neg c] at hj17
                            refine g_iconst (n := 0) (v := 0) (by decide +kernel) (by decide) ?_
                            refine g_goto (off := 6) (tgt := 162) (by decide +kernel) (by decide) ?_
                            exact hj17
                          · rw [if_pos c] at hj17
                            refine g_iconst (n := 1) (v := 1) (by decide +kernel) (by decide) ?_
                            refine g_goto (off := 10) (tgt := 162) (by decide +kernel) (by decide) ?_
                            exact hj17
                        exact hj18
                    obtain ⟨hin, h⟩ := h
                    refine g_iast (by decide +kernel) (by decide) rfl hin ?_
                    refine g_goto (off := 42) (tgt := 205) (by decide +kernel) (by decide) ?_
                    refine g_iinc (i := 4) (n := 1) (v := (z6 + 1)) (ls2 := [some (vr 11 t), some (vi x1), some (vr 20 0), some (vi z5), some (vi (z6 + 1)), some (vi v8), some (vi v16)]) (by decide +kernel) rfl rfl (by decide) rfl rfl ?_
                    refine g_goto (off := (-177)) (tgt := 31) (by decide +kernel) (by decide) ?_
                    refine g_heap (fun H19 eH19 => ?_)
                    replace h := h H19 eH19
                    obtain ⟨hI, hlt⟩ := h
                    exact g_drop (ls2 := [some (vr 11 t), some (vi x1), some (vr 20 0), some (vi z5), some (vi (z6 + 1)), none, none]) (And.intro rfl (And.intro rfl (And.intro rfl (And.intro rfl (And.intro rfl trivial))))) (ih4 (z5, (z6 + 1)) H19 hI hlt)
                  · replace h := h.2 c
                    refine g_iconst (n := 0) (v := 0) (by decide +kernel) (by decide) ?_
                    exact g_iret (by decide +kernel) rfl ⟨_, rfl, h⟩
            · replace h := h.2 c
              refine g_iload_n (q := 3) (i := 3) (by decide +kernel) rfl rfl ?_
              refine g_aload_n (q := 0) (i := 0) (by decide +kernel) rfl rfl ?_
              refine g_get (C := "ThreePoints$Text") (T := xT_Text) (N := 4) (ci := 6) (k := 3) (v := vr 14 t) (by decide +kernel) (by decide) rfl rfl xi_Text (by decide) kw_217 rfl ?_
              refine g_alen (v := 160) (by decide +kernel) (by decide) rfl (by decide) ?_
              refine g_icmp_lt (off := 5) (tgt := 80) (by decide +kernel) (by decide) (fun c => ?_) (fun c => ?_)
              · replace h := h.1 c
                refine g_aload_n (q := 0) (i := 0) (by decide +kernel) rfl rfl ?_
                refine g_get (C := "ThreePoints$Text") (T := xT_Text) (N := 4) (ci := 6) (k := 3) (v := vr 14 t) (by decide +kernel) (by decide) rfl rfl xi_Text (by decide) kw_217 rfl ?_
                refine g_iload_n (q := 3) (i := 3) (by decide +kernel) rfl rfl ?_
                refine g_iload (i := 5) (by decide +kernel) rfl ?_
                refine g_aload_n (q := 2) (i := 2) (by decide +kernel) rfl rfl ?_
                refine g_callS (vs := [vi v8, vr 20 0]) (st := [vi z5, vr 14 t]) (by decide +kernel) xm_Text_operand kw_668 kw_669 rfl rfl (Nat.le_of_ble_eq_true rfl) (Nat.le_of_ble_eq_true rfl) h (fun vH20 H20 hq => ?_)
                obtain ⟨r21, rfl, h⟩ := hq
                obtain ⟨hin, h⟩ := h
                refine g_iast (by decide +kernel) (by decide) rfl hin ?_
                refine g_iinc (i := 3) (n := 1) (v := (z5 + 1)) (ls2 := [some (vr 11 t), some (vi x1), some (vr 20 0), some (vi (z5 + 1)), some (vi z6), some (vi v8), none]) (by decide +kernel) rfl rfl (by decide) rfl rfl ?_
                refine g_goto (off := 110) (tgt := 205) (by decide +kernel) (by decide) ?_
                refine g_iinc (i := 4) (n := 1) (v := (z6 + 1)) (ls2 := [some (vr 11 t), some (vi x1), some (vr 20 0), some (vi (z5 + 1)), some (vi (z6 + 1)), some (vi v8), none]) (by decide +kernel) rfl rfl (by decide) rfl rfl ?_
                refine g_goto (off := (-177)) (tgt := 31) (by decide +kernel) (by decide) ?_
                refine g_heap (fun H22 eH22 => ?_)
                replace h := h H22 eH22
                obtain ⟨hI, hlt⟩ := h
                exact g_drop (ls2 := [some (vr 11 t), some (vi x1), some (vr 20 0), some (vi (z5 + 1)), some (vi (z6 + 1)), none, none]) (And.intro rfl (And.intro rfl (And.intro rfl (And.intro rfl (And.intro rfl trivial))))) (ih4 ((z5 + 1), (z6 + 1)) H22 hI hlt)
              · replace h := h.2 c
                refine g_iconst (n := 0) (v := 0) (by decide +kernel) (by decide) ?_
                exact g_iret (by decide +kernel) rfl ⟨_, rfl, h⟩
      refine g_if_ne (off := 7) (tgt := 21) (by decide +kernel) (by decide) (fun c => ?_) (fun c => ?_)
      · replace h := h.1 c
        refine g_aload_n (q := 0) (i := 0) (by decide +kernel) rfl rfl ?_
        refine g_get (C := "ThreePoints$Text") (T := xT_Text) (N := 4) (ci := 6) (k := 2) (v := vr 13 t) (by decide +kernel) (by decide) rfl rfl xi_Text (by decide) kw_216 rfl ?_
        refine g_iload_n (q := 1) (i := 1) (by decide +kernel) rfl rfl ?_
        refine g_iconst (n := 1) (v := 1) (by decide +kernel) (by decide) ?_
        refine g_isub (by decide +kernel) ?_
        obtain ⟨hin, h⟩ := h
        refine g_iald (by decide +kernel) (by decide) rfl hin ?_
        exact g_drop (ls2 := [some (vr 11 t), some (vi x1), some (vr 20 0), some (vi 0), none, none, none]) (And.intro rfl (And.intro rfl (And.intro rfl (And.intro rfl trivial)))) (hc1 (H 13 t ((x1 - 1).toNatClampNeg)) H h)
      · replace h := h.2 c
        refine g_iconst (n := 0) (v := 0) (by decide +kernel) (by decide) ?_
        refine g_goto (off := 11) (tgt := 29) (by decide +kernel) (by decide) ?_
        exact g_drop (ls2 := [some (vr 11 t), some (vi x1), some (vr 20 0), some (vi 0), none, none, none]) (And.intro rfl (And.intro rfl (And.intro rfl (And.intro rfl trivial)))) (hc1 0 H h)
    · replace h := h.2 c
      refine g_iconst (n := 0) (v := 0) (by decide +kernel) (by decide) ?_
      exact g_iret (by decide +kernel) rfl ⟨_, rfl, h⟩
def p_Main_isByte (E : XE) (d : Nat) (x0 : Int32) (H : HH) (Q : Int32 → HH → Prop) : Prop := c_Main_isWithin E d x0 0 255 H (fun r2 H1 => (r2 = 0 ∨ r2 = 1) ∧ Q r2 H1)
set_option maxHeartbeats 4000000 in
theorem l_Main_isByte {E : XE} {d : Nat} {x0 : Int32} {H : HH} {Q : Int32 → HH → Prop} (h : p_Main_isByte E d x0 H Q) : c_Main_isByte E (d + 1) x0 H Q := by
  show g_Main_isByte E (d + 1) 0 (xent [vi x0]) [] H (qi Q)
  refine g_drop (ls2 := [some (vi x0)]) (And.intro rfl trivial) ?_
  refine g_iload_n (q := 0) (i := 0) (by decide +kernel) rfl rfl ?_
  refine g_iconst (n := 0) (v := 0) (by decide +kernel) (by decide) ?_
  refine g_sipush (n := 255) (v := 255) (by decide +kernel) (by decide) ?_
  refine g_callS (vs := [vi x0, vi 0, vi 255]) (st := []) (by decide +kernel) xm_Main_isWithin kw_619 kw_620 rfl rfl (Nat.le_of_ble_eq_true rfl) (Nat.le_of_ble_eq_true rfl) h (fun vH1 H1 hq => ?_)
  obtain ⟨r2, rfl, h⟩ := hq
  obtain ⟨h01, h⟩ := h
  exact g_zret (by decide +kernel) rfl (nbool h01) ⟨_, rfl, h⟩
def p_Main_isTwoFlags (E : XE) (d : Nat) (x0 : Int32) (H : HH) (Q : Int32 → HH → Prop) : Prop := ((if x0 = 0 then 1 else (if x0 = 1 then 1 else (if x0 = 10 then 1 else (if x0 = 11 then 1 else 0 : Int32) : Int32) : Int32) : Int32) = 0 ∨ (if x0 = 0 then 1 else (if x0 = 1 then 1 else (if x0 = 10 then 1 else (if x0 = 11 then 1 else 0 : Int32) : Int32) : Int32) : Int32) = 1) ∧ Q (if x0 = 0 then 1 else (if x0 = 1 then 1 else (if x0 = 10 then 1 else (if x0 = 11 then 1 else 0 : Int32) : Int32) : Int32) : Int32) H
set_option maxHeartbeats 4000000 in
theorem l_Main_isTwoFlags {E : XE} {d : Nat} {x0 : Int32} {H : HH} {Q : Int32 → HH → Prop} (h : p_Main_isTwoFlags E d x0 H Q) : c_Main_isTwoFlags E d x0 H Q := by
  show g_Main_isTwoFlags E d 0 (xent [vi x0]) [] H (qi Q)
  refine g_drop (ls2 := [some (vi x0)]) (And.intro rfl trivial) ?_
  refine g_iload_n (q := 0) (i := 0) (by decide +kernel) rfl rfl ?_
  suffices hj4 : g_Main_isTwoFlags E d 26 [some (vi x0)] [vi (if x0 = 0 then 1 else (if x0 = 1 then 1 else (if x0 = 10 then 1 else (if x0 = 11 then 1 else 0 : Int32) : Int32) : Int32) : Int32)] H (qi Q) by
    refine g_if_eq (off := 20) (tgt := 21) (by decide +kernel) (by decide) (fun c => ?_) (fun c => ?_)
    · rw [if_pos c] at hj4
      refine g_iconst (n := 1) (v := 1) (by decide +kernel) (by decide) ?_
      refine g_goto (off := 4) (tgt := 26) (by decide +kernel) (by decide) ?_
      exact hj4
    · rw [if_neg c] at hj4
      refine g_iload_n (q := 0) (i := 0) (by decide +kernel) rfl rfl ?_
      refine g_iconst (n := 1) (v := 1) (by decide +kernel) (by decide) ?_
      suffices hj3 : g_Main_isTwoFlags E d 26 [some (vi x0)] [vi (if x0 = 1 then 1 else (if x0 = 10 then 1 else (if x0 = 11 then 1 else 0 : Int32) : Int32) : Int32)] H (qi Q) by
        refine g_icmp_eq (off := 15) (tgt := 21) (by decide +kernel) (by decide) (fun c => ?_) (fun c => ?_)
        · rw [if_pos c] at hj3
          refine g_iconst (n := 1) (v := 1) (by decide +kernel) (by decide) ?_
          refine g_goto (off := 4) (tgt := 26) (by decide +kernel) (by decide) ?_
          exact hj3
        · rw [if_neg c] at hj3
          refine g_iload_n (q := 0) (i := 0) (by decide +kernel) rfl rfl ?_
          refine g_bipush (n := 10) (v := 10) (by decide +kernel) (by decide) ?_
          suffices hj2 : g_Main_isTwoFlags E d 26 [some (vi x0)] [vi (if x0 = 10 then 1 else (if x0 = 11 then 1 else 0 : Int32) : Int32)] H (qi Q) by
            refine g_icmp_eq (off := 9) (tgt := 21) (by decide +kernel) (by decide) (fun c => ?_) (fun c => ?_)
            · rw [if_pos c] at hj2
              refine g_iconst (n := 1) (v := 1) (by decide +kernel) (by decide) ?_
              refine g_goto (off := 4) (tgt := 26) (by decide +kernel) (by decide) ?_
              exact hj2
            · rw [if_neg c] at hj2
              refine g_iload_n (q := 0) (i := 0) (by decide +kernel) rfl rfl ?_
              refine g_bipush (n := 11) (v := 11) (by decide +kernel) (by decide) ?_
              suffices hj1 : g_Main_isTwoFlags E d 26 [some (vi x0)] [vi (if x0 = 11 then 1 else 0 : Int32)] H (qi Q) by
                refine g_icmp_ne (off := 7) (tgt := 25) (by decide +kernel) (by decide) (fun c => ?_) (fun c => ?_)
                · rw [if_neg c] at hj1
                  refine g_iconst (n := 0) (v := 0) (by decide +kernel) (by decide) ?_
                  exact hj1
                · rw [if_pos c] at hj1
                  refine g_iconst (n := 1) (v := 1) (by decide +kernel) (by decide) ?_
                  refine g_goto (off := 4) (tgt := 26) (by decide +kernel) (by decide) ?_
                  exact hj1
              exact hj2
          exact hj3
      exact hj4
  obtain ⟨h01, h⟩ := h
  exact g_zret (by decide +kernel) rfl (nbool h01) ⟨_, rfl, h⟩
def p_Vehicle_startAt (E : XE) (d : Nat) (t : Nat) (x1 : Int32) (H : HH) (Q : HH → Prop) : Prop := ∀ H1 : HH, H1 = (hu (hu (hu (hu (hu H 3 t 2 x1) 3 t 3 0) 3 t 4 0) 3 t 5 0) 3 t 6 (-1)) → (Q H1)
set_option maxHeartbeats 4000000 in
theorem l_Vehicle_startAt {E : XE} {d : Nat} {t : Nat} {x1 : Int32} {H : HH} {Q : HH → Prop} (h : p_Vehicle_startAt E d t x1 H Q) : c_Vehicle_startAt E d t x1 H Q := by
  show g_Vehicle_startAt E d 0 (xent [vr 3 t, vi x1]) [] H (qv Q)
  refine g_drop (ls2 := [some (vr 3 t), some (vi x1)]) (And.intro rfl (And.intro rfl trivial)) ?_
  refine g_aload_n (q := 0) (i := 0) (by decide +kernel) rfl rfl ?_
  refine g_iload_n (q := 1) (i := 1) (by decide +kernel) rfl rfl ?_
  refine g_put (C := "ThreePoints$Vehicle") (T := xT_Vehicle) (N := 7) (ci := 3) (k := 2) xy_Vehicle (by decide +kernel) (by decide) rfl rfl xi_Vehicle xy_Vehicle_ok xn_Vehicle (by decide) kw_132 rfl (by decide +kernel) (fun _ => rfl) ?_
  refine g_aload_n (q := 0) (i := 0) (by decide +kernel) rfl rfl ?_
  refine g_iconst (n := 0) (v := 0) (by decide +kernel) (by decide) ?_
  refine g_put (C := "ThreePoints$Vehicle") (T := xT_Vehicle) (N := 7) (ci := 3) (k := 3) xy_Vehicle (by decide +kernel) (by decide) rfl rfl xi_Vehicle xy_Vehicle_ok xn_Vehicle (by decide) kw_136 rfl (by decide +kernel) (fun _ => rfl) ?_
  refine g_aload_n (q := 0) (i := 0) (by decide +kernel) rfl rfl ?_
  refine g_iconst (n := 0) (v := 0) (by decide +kernel) (by decide) ?_
  refine g_put (C := "ThreePoints$Vehicle") (T := xT_Vehicle) (N := 7) (ci := 3) (k := 4) xy_Vehicle (by decide +kernel) (by decide) rfl rfl xi_Vehicle xy_Vehicle_ok xn_Vehicle (by decide) kw_140 rfl (by decide +kernel) (fun _ => rfl) ?_
  refine g_aload_n (q := 0) (i := 0) (by decide +kernel) rfl rfl ?_
  refine g_iconst (n := 0) (v := 0) (by decide +kernel) (by decide) ?_
  refine g_put (C := "ThreePoints$Vehicle") (T := xT_Vehicle) (N := 7) (ci := 3) (k := 5) xy_Vehicle (by decide +kernel) (by decide) rfl rfl xi_Vehicle xy_Vehicle_ok xn_Vehicle (by decide) kw_142 rfl (by decide +kernel) (fun _ => rfl) ?_
  refine g_aload_n (q := 0) (i := 0) (by decide +kernel) rfl rfl ?_
  refine g_iconst (n := (-1)) (v := (-1)) (by decide +kernel) (by decide) ?_
  refine g_put (C := "ThreePoints$Vehicle") (T := xT_Vehicle) (N := 7) (ci := 3) (k := 6) xy_Vehicle (by decide +kernel) (by decide) rfl rfl xi_Vehicle xy_Vehicle_ok xn_Vehicle (by decide) kw_144 rfl (by decide +kernel) (fun _ => rfl) ?_
  refine g_heap (fun H1 eH1 => ?_)
  replace h := h H1 eH1
  exact g_vret (by decide +kernel) rfl h
def p_Vehicle_turns (E : XE) (d : Nat) (t : Nat) (x1 : Int32) (x2 : Int32) (H : HH) (Q : Int32 → HH → Prop) : Prop := ∀ v2 : Int32, v2 = (if x1 = 0 then x2 else (-x2) : Int32) → (((H 3 t 0) = 3 → ((¬ x1 = 0 → (Q (if (H 3 t 1) ≤ 4 then (-v2) else 0 : Int32) H)) ∧ (x1 = 0 → (Q v2 H)))) ∧ ((H 3 t 0) = 4 → (Q (2 * v2) H)) ∧ ((H 3 t 0) = 5 → (Q (if (if x2 ≤ 0 then 0 else 1 : Int32) = (if (xrem (H 3 t 1) 2) = 0 then 1 else 0 : Int32) then v2 else 0 : Int32) H)) ∧ (¬ (H 3 t 0) = 3 → ¬ (H 3 t 0) = 4 → ¬ (H 3 t 0) = 5 → (Q v2 H)))
set_option maxHeartbeats 4000000 in
theorem l_Vehicle_turns {E : XE} {d : Nat} {t : Nat} {x1 : Int32} {x2 : Int32} {H : HH} {Q : Int32 → HH → Prop} (h : p_Vehicle_turns E d t x1 x2 H Q) : c_Vehicle_turns E d t x1 x2 H Q := by
  show g_Vehicle_turns E d 0 (xent [vr 3 t, vi x1, vi x2]) [] H (qi Q)
  refine g_drop (ls2 := [some (vr 3 t), some (vi x1), some (vi x2), none]) (And.intro rfl (And.intro rfl (And.intro rfl trivial))) ?_
  refine g_iload_n (q := 1) (i := 1) (by decide +kernel) rfl rfl ?_
  suffices hj1 : g_Vehicle_turns E d 10 [some (vr 3 t), some (vi x1), some (vi x2), none] [vi (if x1 = 0 then x2 else (-x2) : Int32)] H (qi Q) by
    refine g_if_ne (off := 7) (tgt := 8) (by decide +kernel) (by decide) (fun c => ?_) (fun c => ?_)
    · rw [if_neg c] at hj1
      refine g_iload_n (q := 2) (i := 2) (by decide +kernel) rfl rfl ?_
      refine g_ineg (by decide +kernel) ?_
      exact hj1
    · rw [if_pos c] at hj1
      refine g_iload_n (q := 2) (i := 2) (by decide +kernel) rfl rfl ?_
      refine g_goto (off := 5) (tgt := 10) (by decide +kernel) (by decide) ?_
      exact hj1
  refine g_topi (fun v2 ev2 => ?_)
  replace h := h v2 ev2
  refine g_istore_n (q := 3) (i := 3) (ls2 := [some (vr 3 t), some (vi x1), some (vi x2), some (vi v2)]) (by decide +kernel) rfl (by decide) rfl rfl ?_
  refine g_aload_n (q := 0) (i := 0) (by decide +kernel) rfl rfl ?_
  refine g_get (C := "ThreePoints$Vehicle") (T := xT_Vehicle) (N := 7) (ci := 3) (k := 0) (v := vi (H 3 t 0)) (by decide +kernel) (by decide) rfl rfl xi_Vehicle (by decide) kw_127 rfl ?_
  obtain ⟨hk, h⟩ := h
  by_cases e3 : (H 3 t 0) = 3
  · replace h := hk e3
    refine g_tableIn (dflt := 82) (lo := 3) (hi := 5) (offs := #[25, 46, 50]) (len := 25) (tgt := 40) (by decide +kernel) (by rw [e3]; decide) (by rw [e3]; decide) (by rw [e3]; rfl) (by decide) ?_
    refine g_iload_n (q := 1) (i := 1) (by decide +kernel) rfl rfl ?_
    refine g_if_ne (off := 5) (tgt := 46) (by decide +kernel) (by decide) (fun c => ?_) (fun c => ?_)
    · replace h := h.1 c
      refine g_aload_n (q := 0) (i := 0) (by decide +kernel) rfl rfl ?_
      refine g_get (C := "ThreePoints$Vehicle") (T := xT_Vehicle) (N := 7) (ci := 3) (k := 1) (v := vi (H 3 t 1)) (by decide +kernel) (by decide) rfl rfl xi_Vehicle (by decide) kw_129 rfl ?_
      refine g_iconst (n := 4) (v := 4) (by decide +kernel) (by decide) ?_
      suffices hj3 : g_Vehicle_turns E d 60 [some (vr 3 t), some (vi x1), some (vi x2), some (vi v2)] [vi (if (H 3 t 1) ≤ 4 then (-v2) else 0 : Int32)] H (qi Q) by
        refine g_icmp_le (off := 7) (tgt := 58) (by decide +kernel) (by decide) (fun c => ?_) (fun c => ?_)
        · rw [if_pos c] at hj3
          refine g_iload_n (q := 3) (i := 3) (by decide +kernel) rfl rfl ?_
          refine g_ineg (by decide +kernel) ?_
          exact hj3
        · rw [if_neg c] at hj3
          refine g_iconst (n := 0) (v := 0) (by decide +kernel) (by decide) ?_
          refine g_goto (off := 5) (tgt := 60) (by decide +kernel) (by decide) ?_
          exact hj3
      exact g_iret (by decide +kernel) rfl ⟨_, rfl, h⟩
    · replace h := h.2 c
      refine g_iload_n (q := 3) (i := 3) (by decide +kernel) rfl rfl ?_
      exact g_iret (by decide +kernel) rfl ⟨_, rfl, h⟩
  clear hk
  obtain ⟨hk, h⟩ := h
  by_cases e4 : (H 3 t 0) = 4
  · replace h := hk e4
    refine g_tableIn (dflt := 82) (lo := 3) (hi := 5) (offs := #[25, 46, 50]) (len := 25) (tgt := 61) (by decide +kernel) (by rw [e4]; decide) (by rw [e4]; decide) (by rw [e4]; rfl) (by decide) ?_
    refine g_iconst (n := 2) (v := 2) (by decide +kernel) (by decide) ?_
    refine g_iload_n (q := 3) (i := 3) (by decide +kernel) rfl rfl ?_
    refine g_imul (by decide +kernel) ?_
    exact g_iret (by decide +kernel) rfl ⟨_, rfl, h⟩
  clear hk
  obtain ⟨hk, h⟩ := h
  by_cases e5 : (H 3 t 0) = 5
  · replace h := hk e5
    refine g_tableIn (dflt := 82) (lo := 3) (hi := 5) (offs := #[25, 46, 50]) (len := 25) (tgt := 65) (by decide +kernel) (by rw [e5]; decide) (by rw [e5]; decide) (by rw [e5]; rfl) (by decide) ?_
    refine g_iload_n (q := 2) (i := 2) (by decide +kernel) rfl rfl ?_
    suffices hj4 : g_Vehicle_turns E d 74 [some (vr 3 t), some (vi x1), some (vi x2), some (vi v2)] [vi (if x2 ≤ 0 then 0 else 1 : Int32)] H (qi Q) by
      refine g_if_le (off := 7) (tgt := 73) (by decide +kernel) (by decide) (fun c => ?_) (fun c => ?_)
      · rw [if_pos c] at hj4
        refine g_iconst (n := 0) (v := 0) (by decide +kernel) (by decide) ?_
        exact hj4
      · rw [if_neg c] at hj4
        refine g_iconst (n := 1) (v := 1) (by decide +kernel) (by decide) ?_
        refine g_goto (off := 4) (tgt := 74) (by decide +kernel) (by decide) ?_
        exact hj4
    refine g_aload_n (q := 0) (i := 0) (by decide +kernel) rfl rfl ?_
    refine g_get (C := "ThreePoints$Vehicle") (T := xT_Vehicle) (N := 7) (ci := 3) (k := 1) (v := vi (H 3 t 1)) (by decide +kernel) (by decide) rfl rfl xi_Vehicle (by decide) kw_129 rfl ?_
    refine g_iconst (n := 2) (v := 2) (by decide +kernel) (by decide) ?_
    refine g_irem (by decide +kernel) (by decide) ?_
    suffices hj5 : g_Vehicle_turns E d 88 [some (vr 3 t), some (vi x1), some (vi x2), some (vi v2)] [vi (if (xrem (H 3 t 1) 2) = 0 then 1 else 0 : Int32), vi (if x2 ≤ 0 then 0 else 1 : Int32)] H (qi Q) by
      refine g_if_ne (off := 7) (tgt := 87) (by decide +kernel) (by decide) (fun c => ?_) (fun c => ?_)
      · rw [if_neg c] at hj5
        refine g_iconst (n := 0) (v := 0) (by decide +kernel) (by decide) ?_
        exact hj5
      · rw [if_pos c] at hj5
        refine g_iconst (n := 1) (v := 1) (by decide +kernel) (by decide) ?_
        refine g_goto (off := 4) (tgt := 88) (by decide +kernel) (by decide) ?_
        exact hj5
    suffices hj6 : g_Vehicle_turns E d 96 [some (vr 3 t), some (vi x1), some (vi x2), some (vi v2)] [vi (if (if x2 ≤ 0 then 0 else 1 : Int32) = (if (xrem (H 3 t 1) 2) = 0 then 1 else 0 : Int32) then v2 else 0 : Int32)] H (qi Q) by
      refine g_icmp_ne (off := 7) (tgt := 95) (by decide +kernel) (by decide) (fun c => ?_) (fun c => ?_)
      · rw [if_neg c] at hj6
        refine g_iconst (n := 0) (v := 0) (by decide +kernel) (by decide) ?_
        exact hj6
      · rw [if_pos c] at hj6
        refine g_iload_n (q := 3) (i := 3) (by decide +kernel) rfl rfl ?_
        refine g_goto (off := 4) (tgt := 96) (by decide +kernel) (by decide) ?_
        exact hj6
    exact g_iret (by decide +kernel) rfl ⟨_, rfl, h⟩
  clear hk
  replace h := h e3 e4 e5
  refine g_tableOut (dflt := 82) (lo := 3) (hi := 5) (offs := #[25, 46, 50]) (len := 25) (tgt := 97) (by decide +kernel) (by have q3 := xsw (m := 3) (by decide) e3; have q4 := xsw (m := 4) (by decide) e4; have q5 := xsw (m := 5) (by decide) e5; omega) (by decide) ?_
  refine g_iload_n (q := 3) (i := 3) (by decide +kernel) rfl rfl ?_
  exact g_iret (by decide +kernel) rfl ⟨_, rfl, h⟩
def p_Vehicle_stepTo (E : XE) (d : Nat) (t : Nat) (x1 : Int32) (x2 : Int32) (x3 : Int32) (x4 : Int32) (H : HH) (Q : HH → Prop) : Prop := ∀ H1 : HH, H1 = (hu (hu H 3 t 2 x1) 3 t 3 x2) → (∀ H2 : HH, H2 = (hu H1 3 t 5 (xmin ((H1 3 t 5) + x4) 9999)) → ((x3 = (H2 3 t 6) → (∀ H3 : HH, H3 = (hu H2 3 t 6 x3) → (Q H3))) ∧ (¬ x3 = (H2 3 t 6) → (∀ H4 : HH, H4 = (hu (hu H2 3 t 4 (xmin ((H2 3 t 4) + 1) 9999)) 3 t 6 x3) → (Q H4)))))
set_option maxHeartbeats 4000000 in
theorem l_Vehicle_stepTo {E : XE} {d : Nat} {t : Nat} {x1 : Int32} {x2 : Int32} {x3 : Int32} {x4 : Int32} {H : HH} {Q : HH → Prop} (h : p_Vehicle_stepTo E d t x1 x2 x3 x4 H Q) : c_Vehicle_stepTo E (d + 1) t x1 x2 x3 x4 H Q := by
  show g_Vehicle_stepTo E (d + 1) 0 (xent [vr 3 t, vi x1, vi x2, vi x3, vi x4]) [] H (qv Q)
  refine g_drop (ls2 := [some (vr 3 t), some (vi x1), some (vi x2), some (vi x3), some (vi x4)]) (And.intro rfl (And.intro rfl (And.intro rfl (And.intro rfl (And.intro rfl trivial))))) ?_
  refine g_aload_n (q := 0) (i := 0) (by decide +kernel) rfl rfl ?_
  refine g_iload_n (q := 1) (i := 1) (by decide +kernel) rfl rfl ?_
  refine g_put (C := "ThreePoints$Vehicle") (T := xT_Vehicle) (N := 7) (ci := 3) (k := 2) xy_Vehicle (by decide +kernel) (by decide) rfl rfl xi_Vehicle xy_Vehicle_ok xn_Vehicle (by decide) kw_132 rfl (by decide +kernel) (fun _ => rfl) ?_
  refine g_aload_n (q := 0) (i := 0) (by decide +kernel) rfl rfl ?_
  refine g_iload_n (q := 2) (i := 2) (by decide +kernel) rfl rfl ?_
  refine g_put (C := "ThreePoints$Vehicle") (T := xT_Vehicle) (N := 7) (ci := 3) (k := 3) xy_Vehicle (by decide +kernel) (by decide) rfl rfl xi_Vehicle xy_Vehicle_ok xn_Vehicle (by decide) kw_136 rfl (by decide +kernel) (fun _ => rfl) ?_
  refine g_aload_n (q := 0) (i := 0) (by decide +kernel) rfl rfl ?_
  refine g_aload_n (q := 0) (i := 0) (by decide +kernel) rfl rfl ?_
  refine g_heap (fun H1 eH1 => ?_)
  replace h := h H1 eH1
  refine g_get (C := "ThreePoints$Vehicle") (T := xT_Vehicle) (N := 7) (ci := 3) (k := 5) (v := vi (H1 3 t 5)) (by decide +kernel) (by decide) rfl rfl xi_Vehicle (by decide) kw_142 rfl ?_
  refine g_iload (i := 4) (by decide +kernel) rfl ?_
  refine g_iadd (by decide +kernel) ?_
  refine g_sipush (n := 9999) (v := 9999) (by decide +kernel) (by decide) ?_
  refine g_mmin (by decide +kernel) kw_764 kw_463 kw_79 kw_464 (Nat.le_of_ble_eq_true rfl) ?_
  refine g_put (C := "ThreePoints$Vehicle") (T := xT_Vehicle) (N := 7) (ci := 3) (k := 5) xy_Vehicle (by decide +kernel) (by decide) rfl rfl xi_Vehicle xy_Vehicle_ok xn_Vehicle (by decide) kw_142 rfl (by decide +kernel) (fun _ => rfl) ?_
  refine g_iload_n (q := 3) (i := 3) (by decide +kernel) rfl rfl ?_
  refine g_aload_n (q := 0) (i := 0) (by decide +kernel) rfl rfl ?_
  refine g_heap (fun H2 eH2 => ?_)
  replace h := h H2 eH2
  refine g_get (C := "ThreePoints$Vehicle") (T := xT_Vehicle) (N := 7) (ci := 3) (k := 6) (v := vi (H2 3 t 6)) (by decide +kernel) (by decide) rfl rfl xi_Vehicle (by decide) kw_144 rfl ?_
  refine g_icmp_eq (off := 19) (tgt := 51) (by decide +kernel) (by decide) (fun c => ?_) (fun c => ?_)
  · replace h := h.1 c
    refine g_aload_n (q := 0) (i := 0) (by decide +kernel) rfl rfl ?_
    refine g_iload_n (q := 3) (i := 3) (by decide +kernel) rfl rfl ?_
    refine g_put (C := "ThreePoints$Vehicle") (T := xT_Vehicle) (N := 7) (ci := 3) (k := 6) xy_Vehicle (by decide +kernel) (by decide) rfl rfl xi_Vehicle xy_Vehicle_ok xn_Vehicle (by decide) kw_144 rfl (by decide +kernel) (fun _ => rfl) ?_
    refine g_heap (fun H3 eH3 => ?_)
    replace h := h H3 eH3
    exact g_vret (by decide +kernel) rfl h
  · replace h := h.2 c
    refine g_aload_n (q := 0) (i := 0) (by decide +kernel) rfl rfl ?_
    refine g_aload_n (q := 0) (i := 0) (by decide +kernel) rfl rfl ?_
    refine g_get (C := "ThreePoints$Vehicle") (T := xT_Vehicle) (N := 7) (ci := 3) (k := 4) (v := vi (H2 3 t 4)) (by decide +kernel) (by decide) rfl rfl xi_Vehicle (by decide) kw_140 rfl ?_
    refine g_iconst (n := 1) (v := 1) (by decide +kernel) (by decide) ?_
    refine g_iadd (by decide +kernel) ?_
    refine g_sipush (n := 9999) (v := 9999) (by decide +kernel) (by decide) ?_
    refine g_mmin (by decide +kernel) kw_764 kw_463 kw_79 kw_464 (Nat.le_of_ble_eq_true rfl) ?_
    refine g_put (C := "ThreePoints$Vehicle") (T := xT_Vehicle) (N := 7) (ci := 3) (k := 4) xy_Vehicle (by decide +kernel) (by decide) rfl rfl xi_Vehicle xy_Vehicle_ok xn_Vehicle (by decide) kw_140 rfl (by decide +kernel) (fun _ => rfl) ?_
    refine g_aload_n (q := 0) (i := 0) (by decide +kernel) rfl rfl ?_
    refine g_iload_n (q := 3) (i := 3) (by decide +kernel) rfl rfl ?_
    refine g_put (C := "ThreePoints$Vehicle") (T := xT_Vehicle) (N := 7) (ci := 3) (k := 6) xy_Vehicle (by decide +kernel) (by decide) rfl rfl xi_Vehicle xy_Vehicle_ok xn_Vehicle (by decide) kw_144 rfl (by decide +kernel) (fun _ => rfl) ?_
    refine g_heap (fun H4 eH4 => ?_)
    replace h := h H4 eH4
    exact g_vret (by decide +kernel) rfl h
def p_Main_otherHeading (E : XE) (d : Nat) (x0 : Int32) (H : HH) (Q : Int32 → HH → Prop) : Prop := Q ((x0 + 8) &&& 15) H
set_option maxHeartbeats 4000000 in
theorem l_Main_otherHeading {E : XE} {d : Nat} {x0 : Int32} {H : HH} {Q : Int32 → HH → Prop} (h : p_Main_otherHeading E d x0 H Q) : c_Main_otherHeading E d x0 H Q := by
  show g_Main_otherHeading E d 0 (xent [vi x0]) [] H (qi Q)
  refine g_drop (ls2 := [some (vi x0)]) (And.intro rfl trivial) ?_
  refine g_iload_n (q := 0) (i := 0) (by decide +kernel) rfl rfl ?_
  refine g_bipush (n := 8) (v := 8) (by decide +kernel) (by decide) ?_
  refine g_iadd (by decide +kernel) ?_
  refine g_bipush (n := 15) (v := 15) (by decide +kernel) (by decide) ?_
  refine g_iand (by decide +kernel) ?_
  exact g_iret (by decide +kernel) rfl ⟨_, rfl, h⟩
def p_Main_isSheet (E : XE) (d : Nat) (x0 : Int32) (H : HH) (Q : Int32 → HH → Prop) : Prop := ((if x0 < 0 then 0 else (if 4 ≤ x0 then 0 else 1 : Int32) : Int32) = 0 ∨ (if x0 < 0 then 0 else (if 4 ≤ x0 then 0 else 1 : Int32) : Int32) = 1) ∧ Q (if x0 < 0 then 0 else (if 4 ≤ x0 then 0 else 1 : Int32) : Int32) H
set_option maxHeartbeats 4000000 in
theorem l_Main_isSheet {E : XE} {d : Nat} {x0 : Int32} {H : HH} {Q : Int32 → HH → Prop} (h : p_Main_isSheet E d x0 H Q) : c_Main_isSheet E d x0 H Q := by
  show g_Main_isSheet E d 0 (xent [vi x0]) [] H (qi Q)
  refine g_drop (ls2 := [some (vi x0)]) (And.intro rfl trivial) ?_
  refine g_iload_n (q := 0) (i := 0) (by decide +kernel) rfl rfl ?_
  suffices hj2 : g_Main_isSheet E d 14 [some (vi x0)] [vi (if x0 < 0 then 0 else (if 4 ≤ x0 then 0 else 1 : Int32) : Int32)] H (qi Q) by
    refine g_if_lt (off := 12) (tgt := 13) (by decide +kernel) (by decide) (fun c => ?_) (fun c => ?_)
    · rw [if_pos c] at hj2
      refine g_iconst (n := 0) (v := 0) (by decide +kernel) (by decide) ?_
      exact hj2
    · rw [if_neg c] at hj2
      refine g_iload_n (q := 0) (i := 0) (by decide +kernel) rfl rfl ?_
      refine g_iconst (n := 4) (v := 4) (by decide +kernel) (by decide) ?_
      suffices hj1 : g_Main_isSheet E d 14 [some (vi x0)] [vi (if 4 ≤ x0 then 0 else 1 : Int32)] H (qi Q) by
        refine g_icmp_ge (off := 7) (tgt := 13) (by decide +kernel) (by decide) (fun c => ?_) (fun c => ?_)
        · rw [if_pos c] at hj1
          refine g_iconst (n := 0) (v := 0) (by decide +kernel) (by decide) ?_
          exact hj1
        · rw [if_neg c] at hj1
          refine g_iconst (n := 1) (v := 1) (by decide +kernel) (by decide) ?_
          refine g_goto (off := 4) (tgt := 14) (by decide +kernel) (by decide) ?_
          exact hj1
      exact hj2
  obtain ⟨h01, h⟩ := h
  exact g_zret (by decide +kernel) rfl (nbool h01) ⟨_, rfl, h⟩
def p_Sheet_isMissing (E : XE) (d : Nat) (t : Nat) (H : HH) (Q : Int32 → HH → Prop) : Prop := ((if (H 16 t 1) = (-1) then 1 else 0 : Int32) = 0 ∨ (if (H 16 t 1) = (-1) then 1 else 0 : Int32) = 1) ∧ Q (if (H 16 t 1) = (-1) then 1 else 0 : Int32) H
set_option maxHeartbeats 4000000 in
theorem l_Sheet_isMissing {E : XE} {d : Nat} {t : Nat} {H : HH} {Q : Int32 → HH → Prop} (h : p_Sheet_isMissing E d t H Q) : c_Sheet_isMissing E d t H Q := by
  show g_Sheet_isMissing E d 0 (xent [vr 16 t]) [] H (qi Q)
  refine g_drop (ls2 := [some (vr 16 t)]) (And.intro rfl trivial) ?_
  refine g_aload_n (q := 0) (i := 0) (by decide +kernel) rfl rfl ?_
  refine g_get (C := "ThreePoints$Sheet") (T := xT_Sheet) (N := 3) (ci := 7) (k := 1) (v := vi (H 16 t 1)) (by decide +kernel) (by decide) rfl rfl xi_Sheet (by decide) kw_318 rfl ?_
  refine g_iconst (n := (-1)) (v := (-1)) (by decide +kernel) (by decide) ?_
  suffices hj1 : g_Sheet_isMissing E d 13 [some (vr 16 t)] [vi (if (H 16 t 1) = (-1) then 1 else 0 : Int32)] H (qi Q) by
    refine g_icmp_ne (off := 7) (tgt := 12) (by decide +kernel) (by decide) (fun c => ?_) (fun c => ?_)
    · rw [if_neg c] at hj1
      refine g_iconst (n := 0) (v := 0) (by decide +kernel) (by decide) ?_
      exact hj1
    · rw [if_pos c] at hj1
      refine g_iconst (n := 1) (v := 1) (by decide +kernel) (by decide) ?_
      refine g_goto (off := 4) (tgt := 13) (by decide +kernel) (by decide) ?_
      exact hj1
  obtain ⟨h01, h⟩ := h
  exact g_zret (by decide +kernel) rfl (nbool h01) ⟨_, rfl, h⟩
def p_Sheet_tellsMoves (E : XE) (d : Nat) (t : Nat) (H : HH) (Q : Int32 → HH → Prop) : Prop := ((xrem (H 16 t 2) 3) = 0 → (∃ (I1 : Int32 → HH → Prop) (μ1 : Int32 → HH → Nat), I1 0 H ∧ ∀ (z2 : Int32) (H3 : HH), I1 z2 H3 → (((H3 16 t 2) ≤ (z2 + 2) → (Q 1 H3)) ∧ (¬ (H3 16 t 2) ≤ (z2 + 2) → (vp_in z2 40 ∧ (c_Main_isWithin E d (H3 17 t (z2.toNatClampNeg)) 0 1 H3 (fun r5 H4 => (¬ r5 = 0 → (vp_in (z2 + 1) 40 ∧ (c_Main_isWithin E d (H4 17 t ((z2 + 1).toNatClampNeg)) (-1) 1 H4 (fun r7 H6 => (r7 = 0 → (Q 0 H6)) ∧ (¬ r7 = 0 → (vp_in (z2 + 2) 40 ∧ (c_Main_isWithin E d (H6 17 t ((z2 + 2).toNatClampNeg)) 1 30 H6 (fun r9 H8 => (¬ r9 = 0 → (I1 (z2 + 3) H8 ∧ μ1 (z2 + 3) H8 < μ1 z2 H3)) ∧ (r9 = 0 → (Q 0 H8)))))))))) ∧ (r5 = 0 → (Q 0 H4))))))))) ∧ (¬ (xrem (H 16 t 2) 3) = 0 → (Q 0 H))
set_option maxHeartbeats 4000000 in
theorem l_Sheet_tellsMoves {E : XE} {d : Nat} {t : Nat} {H : HH} {Q : Int32 → HH → Prop} (h : p_Sheet_tellsMoves E d t H Q) : c_Sheet_tellsMoves E (d + 1) t H Q := by
  show g_Sheet_tellsMoves E (d + 1) 0 (xent [vr 16 t]) [] H (qi Q)
  refine g_drop (ls2 := [some (vr 16 t), none]) (And.intro rfl trivial) ?_
  refine g_aload_n (q := 0) (i := 0) (by decide +kernel) rfl rfl ?_
  refine g_get (C := "ThreePoints$Sheet") (T := xT_Sheet) (N := 3) (ci := 7) (k := 2) (v := vi (H 16 t 2)) (by decide +kernel) (by decide) rfl rfl xi_Sheet (by decide) kw_320 rfl ?_
  refine g_iconst (n := 3) (v := 3) (by decide +kernel) (by decide) ?_
  refine g_irem (by decide +kernel) (by decide) ?_
  refine g_if_eq (off := 5) (tgt := 11) (by decide +kernel) (by decide) (fun c => ?_) (fun c => ?_)
  · replace h := h.1 c
    refine g_iconst (n := 0) (v := 0) (by decide +kernel) (by decide) ?_
    refine g_istore_n (q := 1) (i := 1) (ls2 := [some (vr 16 t), some (vi 0)]) (by decide +kernel) rfl (by decide) rfl rfl ?_
    refine g_drop (ls2 := [some (vr 16 t), some (vi 0)]) (And.intro rfl (And.intro rfl trivial)) ?_
    obtain ⟨I1, μ1, h0, h⟩ := h
    refine xloop (σ := Int32) (fun s H => I1 s H) (fun s H => μ1 s H) (fun s H => g_Sheet_tellsMoves E (d + 1) 13 [some (vr 16 t), some (vi s)] [] H (qi Q)) (fun s H3 hI ih1 => ?_) 0 H h0
    obtain ⟨z2, es⟩ : ∃ z, z = s := ⟨s, rfl⟩
    subst es
    replace h := h z2 H3 hI
    refine g_iload_n (q := 1) (i := 1) (by decide +kernel) rfl rfl ?_
    refine g_iconst (n := 2) (v := 2) (by decide +kernel) (by decide) ?_
    refine g_iadd (by decide +kernel) ?_
    refine g_aload_n (q := 0) (i := 0) (by decide +kernel) rfl rfl ?_
    refine g_get (C := "ThreePoints$Sheet") (T := xT_Sheet) (N := 3) (ci := 7) (k := 2) (v := vi (H3 16 t 2)) (by decide +kernel) (by decide) rfl rfl xi_Sheet (by decide) kw_320 rfl ?_
    refine g_icmp_ge (off := 60) (tgt := 80) (by decide +kernel) (by decide) (fun c => ?_) (fun c => ?_)
    · replace h := h.1 c
      refine g_iconst (n := 1) (v := 1) (by decide +kernel) (by decide) ?_
      exact g_zret (by decide +kernel) rfl rfl ⟨_, rfl, h⟩
    · replace h := h.2 c
      refine g_aload_n (q := 0) (i := 0) (by decide +kernel) rfl rfl ?_
      refine g_get (C := "ThreePoints$Sheet") (T := xT_Sheet) (N := 3) (ci := 7) (k := 0) (v := vr 17 t) (by decide +kernel) (by decide) rfl rfl xi_Sheet (by decide) kw_316 rfl ?_
      refine g_iload_n (q := 1) (i := 1) (by decide +kernel) rfl rfl ?_
      obtain ⟨hin, h⟩ := h
      refine g_iald (by decide +kernel) (by decide) rfl hin ?_
      refine g_iconst (n := 0) (v := 0) (by decide +kernel) (by decide) ?_
      refine g_iconst (n := 1) (v := 1) (by decide +kernel) (by decide) ?_
      refine g_callSN (index := 41) (host := "ThreePoints") (vs := [vi (H3 17 t (z2.toNatClampNeg)), vi 0, vi 1]) (st := []) (by decide +kernel) xm_Main_isWithin (by decide +kernel) kw_620 rfl rfl (Nat.le_of_ble_eq_true rfl) (Nat.le_of_ble_eq_true rfl) h (fun vH4 H4 hq => ?_)
      obtain ⟨r5, rfl, h⟩ := hq
      refine g_if_ne (off := 5) (tgt := 39) (by decide +kernel) (by decide) (fun c => ?_) (fun c => ?_)
      · replace h := h.1 c
        refine g_aload_n (q := 0) (i := 0) (by decide +kernel) rfl rfl ?_
        refine g_get (C := "ThreePoints$Sheet") (T := xT_Sheet) (N := 3) (ci := 7) (k := 0) (v := vr 17 t) (by decide +kernel) (by decide) rfl rfl xi_Sheet (by decide) kw_316 rfl ?_
        refine g_iload_n (q := 1) (i := 1) (by decide +kernel) rfl rfl ?_
        refine g_iconst (n := 1) (v := 1) (by decide +kernel) (by decide) ?_
        refine g_iadd (by decide +kernel) ?_
        obtain ⟨hin, h⟩ := h
        refine g_iald (by decide +kernel) (by decide) rfl hin ?_
        refine g_iconst (n := (-1)) (v := (-1)) (by decide +kernel) (by decide) ?_
        refine g_iconst (n := 1) (v := 1) (by decide +kernel) (by decide) ?_
        refine g_callSN (index := 41) (host := "ThreePoints") (vs := [vi (H4 17 t ((z2 + 1).toNatClampNeg)), vi (-1), vi 1]) (st := []) (by decide +kernel) xm_Main_isWithin (by decide +kernel) kw_620 rfl rfl (Nat.le_of_ble_eq_true rfl) (Nat.le_of_ble_eq_true rfl) h (fun vH6 H6 hq => ?_)
        obtain ⟨r7, rfl, h⟩ := hq
        refine g_if_eq (off := 20) (tgt := 72) (by decide +kernel) (by decide) (fun c => ?_) (fun c => ?_)
        · replace h := h.1 c
          refine g_iconst (n := 0) (v := 0) (by decide +kernel) (by decide) ?_
          exact g_zret (by decide +kernel) rfl rfl ⟨_, rfl, h⟩
        · replace h := h.2 c
          refine g_aload_n (q := 0) (i := 0) (by decide +kernel) rfl rfl ?_
          refine g_get (C := "ThreePoints$Sheet") (T := xT_Sheet) (N := 3) (ci := 7) (k := 0) (v := vr 17 t) (by decide +kernel) (by decide) rfl rfl xi_Sheet (by decide) kw_316 rfl ?_
          refine g_iload_n (q := 1) (i := 1) (by decide +kernel) rfl rfl ?_
          refine g_iconst (n := 2) (v := 2) (by decide +kernel) (by decide) ?_
          refine g_iadd (by decide +kernel) ?_
          obtain ⟨hin, h⟩ := h
          refine g_iald (by decide +kernel) (by decide) rfl hin ?_
          refine g_iconst (n := 1) (v := 1) (by decide +kernel) (by decide) ?_
          refine g_bipush (n := 30) (v := 30) (by decide +kernel) (by decide) ?_
          refine g_callSN (index := 41) (host := "ThreePoints") (vs := [vi (H6 17 t ((z2 + 2).toNatClampNeg)), vi 1, vi 30]) (st := []) (by decide +kernel) xm_Main_isWithin (by decide +kernel) kw_620 rfl rfl (Nat.le_of_ble_eq_true rfl) (Nat.le_of_ble_eq_true rfl) h (fun vH8 H8 hq => ?_)
          obtain ⟨r9, rfl, h⟩ := hq
          refine g_if_ne (off := 5) (tgt := 74) (by decide +kernel) (by decide) (fun c => ?_) (fun c => ?_)
          · replace h := h.1 c
            refine g_iinc (i := 1) (n := 3) (v := (z2 + 3)) (ls2 := [some (vr 16 t), some (vi (z2 + 3))]) (by decide +kernel) rfl rfl (by decide) rfl rfl ?_
            refine g_goto (off := (-64)) (tgt := 13) (by decide +kernel) (by decide) ?_
            obtain ⟨hI, hlt⟩ := h
            exact g_drop (ls2 := [some (vr 16 t), some (vi (z2 + 3))]) (And.intro rfl (And.intro rfl trivial)) (ih1 (z2 + 3) H8 hI hlt)
          · replace h := h.2 c
            refine g_iconst (n := 0) (v := 0) (by decide +kernel) (by decide) ?_
            exact g_zret (by decide +kernel) rfl rfl ⟨_, rfl, h⟩
      · replace h := h.2 c
        refine g_iconst (n := 0) (v := 0) (by decide +kernel) (by decide) ?_
        exact g_zret (by decide +kernel) rfl rfl ⟨_, rfl, h⟩
  · replace h := h.2 c
    refine g_iconst (n := 0) (v := 0) (by decide +kernel) (by decide) ?_
    exact g_zret (by decide +kernel) rfl rfl ⟨_, rfl, h⟩
def p_Sheet_has (E : XE) (d : Nat) (t : Nat) (x1 : Int32) (H : HH) (Q : Int32 → HH → Prop) : Prop := ((if x1 < 0 then 0 else (if (H 16 t 2) ≤ x1 then 0 else 1 : Int32) : Int32) = 0 ∨ (if x1 < 0 then 0 else (if (H 16 t 2) ≤ x1 then 0 else 1 : Int32) : Int32) = 1) ∧ Q (if x1 < 0 then 0 else (if (H 16 t 2) ≤ x1 then 0 else 1 : Int32) : Int32) H
set_option maxHeartbeats 4000000 in
theorem l_Sheet_has {E : XE} {d : Nat} {t : Nat} {x1 : Int32} {H : HH} {Q : Int32 → HH → Prop} (h : p_Sheet_has E d t x1 H Q) : c_Sheet_has E d t x1 H Q := by
  show g_Sheet_has E d 0 (xent [vr 16 t, vi x1]) [] H (qi Q)
  refine g_drop (ls2 := [some (vr 16 t), some (vi x1)]) (And.intro rfl (And.intro rfl trivial)) ?_
  refine g_iload_n (q := 1) (i := 1) (by decide +kernel) rfl rfl ?_
  suffices hj2 : g_Sheet_has E d 17 [some (vr 16 t), some (vi x1)] [vi (if x1 < 0 then 0 else (if (H 16 t 2) ≤ x1 then 0 else 1 : Int32) : Int32)] H (qi Q) by
    refine g_if_lt (off := 15) (tgt := 16) (by decide +kernel) (by decide) (fun c => ?_) (fun c => ?_)
    · rw [if_pos c] at hj2
      refine g_iconst (n := 0) (v := 0) (by decide +kernel) (by decide) ?_
      exact hj2
    · rw [if_neg c] at hj2
      refine g_iload_n (q := 1) (i := 1) (by decide +kernel) rfl rfl ?_
      refine g_aload_n (q := 0) (i := 0) (by decide +kernel) rfl rfl ?_
      refine g_get (C := "ThreePoints$Sheet") (T := xT_Sheet) (N := 3) (ci := 7) (k := 2) (v := vi (H 16 t 2)) (by decide +kernel) (by decide) rfl rfl xi_Sheet (by decide) kw_320 rfl ?_
      suffices hj1 : g_Sheet_has E d 17 [some (vr 16 t), some (vi x1)] [vi (if (H 16 t 2) ≤ x1 then 0 else 1 : Int32)] H (qi Q) by
        refine g_icmp_ge (off := 7) (tgt := 16) (by decide +kernel) (by decide) (fun c => ?_) (fun c => ?_)
        · rw [if_pos c] at hj1
          refine g_iconst (n := 0) (v := 0) (by decide +kernel) (by decide) ?_
          exact hj1
        · rw [if_neg c] at hj1
          refine g_iconst (n := 1) (v := 1) (by decide +kernel) (by decide) ?_
          refine g_goto (off := 4) (tgt := 17) (by decide +kernel) (by decide) ?_
          exact hj1
      exact hj2
  obtain ⟨h01, h⟩ := h
  exact g_zret (by decide +kernel) rfl (nbool h01) ⟨_, rfl, h⟩
def p_Sheet_get (E : XE) (d : Nat) (t : Nat) (x1 : Int32) (H : HH) (Q : Int32 → HH → Prop) : Prop := c_Sheet_has E d t x1 H (fun r2 H1 => (r2 = 0 → (Q 0 H1)) ∧ (¬ r2 = 0 → (vp_in x1 40 ∧ (Q (H1 17 t (x1.toNatClampNeg)) H1))))
set_option maxHeartbeats 4000000 in
theorem l_Sheet_get {E : XE} {d : Nat} {t : Nat} {x1 : Int32} {H : HH} {Q : Int32 → HH → Prop} (h : p_Sheet_get E d t x1 H Q) : c_Sheet_get E (d + 1) t x1 H Q := by
  show g_Sheet_get E (d + 1) 0 (xent [vr 16 t, vi x1]) [] H (qi Q)
  refine g_drop (ls2 := [some (vr 16 t), some (vi x1)]) (And.intro rfl (And.intro rfl trivial)) ?_
  refine g_aload_n (q := 0) (i := 0) (by decide +kernel) rfl rfl ?_
  refine g_iload_n (q := 1) (i := 1) (by decide +kernel) rfl rfl ?_
  refine g_callV (kd := 16) (ix := t) (ci := 7) (N := 3) (T := xT_Sheet) (vs := [vi x1]) (st := []) (by decide +kernel) xm_Sheet_has kw_870 kw_871 kw_872 (by decide) rfl rfl rfl rfl (Nat.le_of_ble_eq_true rfl) (Nat.le_of_ble_eq_true rfl) h (fun vH1 H1 hq => ?_)
  obtain ⟨r2, rfl, h⟩ := hq
  refine g_if_eq (off := 12) (tgt := 17) (by decide +kernel) (by decide) (fun c => ?_) (fun c => ?_)
  · replace h := h.1 c
    refine g_iconst (n := 0) (v := 0) (by decide +kernel) (by decide) ?_
    exact g_iret (by decide +kernel) rfl ⟨_, rfl, h⟩
  · replace h := h.2 c
    refine g_aload_n (q := 0) (i := 0) (by decide +kernel) rfl rfl ?_
    refine g_get (C := "ThreePoints$Sheet") (T := xT_Sheet) (N := 3) (ci := 7) (k := 0) (v := vr 17 t) (by decide +kernel) (by decide) rfl rfl xi_Sheet (by decide) kw_316 rfl ?_
    refine g_iload_n (q := 1) (i := 1) (by decide +kernel) rfl rfl ?_
    obtain ⟨hin, h⟩ := h
    refine g_iald (by decide +kernel) (by decide) rfl hin ?_
    refine g_goto (off := 4) (tgt := 18) (by decide +kernel) (by decide) ?_
    exact g_iret (by decide +kernel) rfl ⟨_, rfl, h⟩
def p_Main_inLowestTerms (E : XE) (d : Nat) (x0 : Int32) (x1 : Int32) (H : HH) (Q : Int32 → HH → Prop) : Prop := ∃ (I1 : Int32 → HH → Prop) (μ1 : Int32 → HH → Nat), I1 x0 H ∧ ∀ (z2 : Int32) (H3 : HH), I1 z2 H3 → ((z2 ≤ 1 → (Q x0 H3)) ∧ (¬ z2 ≤ 1 → (¬ z2 = 0 ∧ ((¬ (xrem x0 z2) = 0 → (I1 (z2 + (-1)) H3 ∧ μ1 (z2 + (-1)) H3 < μ1 z2 H3)) ∧ ((xrem x0 z2) = 0 → (¬ z2 = 0 ∧ ((¬ (xrem x1 z2) = 0 → (I1 (z2 + (-1)) H3 ∧ μ1 (z2 + (-1)) H3 < μ1 z2 H3)) ∧ ((xrem x1 z2) = 0 → (¬ z2 = 0 ∧ (Q (x0 / z2) H3))))))))))
set_option maxHeartbeats 4000000 in
theorem l_Main_inLowestTerms {E : XE} {d : Nat} {x0 : Int32} {x1 : Int32} {H : HH} {Q : Int32 → HH → Prop} (h : p_Main_inLowestTerms E d x0 x1 H Q) : c_Main_inLowestTerms E d x0 x1 H Q := by
  show g_Main_inLowestTerms E d 0 (xent [vi x0, vi x1]) [] H (qi Q)
  refine g_drop (ls2 := [some (vi x0), some (vi x1), none]) (And.intro rfl (And.intro rfl trivial)) ?_
  refine g_iload_n (q := 0) (i := 0) (by decide +kernel) rfl rfl ?_
  refine g_istore_n (q := 2) (i := 2) (ls2 := [some (vi x0), some (vi x1), some (vi x0)]) (by decide +kernel) rfl (by decide) rfl rfl ?_
  refine g_drop (ls2 := [some (vi x0), some (vi x1), some (vi x0)]) (And.intro rfl (And.intro rfl (And.intro rfl trivial))) ?_
  obtain ⟨I1, μ1, h0, h⟩ := h
  refine xloop (σ := Int32) (fun s H => I1 s H) (fun s H => μ1 s H) (fun s H => g_Main_inLowestTerms E d 2 [some (vi x0), some (vi x1), some (vi s)] [] H (qi Q)) (fun s H3 hI ih1 => ?_) x0 H h0
  obtain ⟨z2, es⟩ : ∃ z, z = s := ⟨s, rfl⟩
  subst es
  replace h := h z2 H3 hI
  refine g_iload_n (q := 2) (i := 2) (by decide +kernel) rfl rfl ?_
  refine g_iconst (n := 1) (v := 1) (by decide +kernel) (by decide) ?_
  refine g_icmp_le (off := 25) (tgt := 29) (by decide +kernel) (by decide) (fun c => ?_) (fun c => ?_)
  · replace h := h.1 c
    refine g_iload_n (q := 0) (i := 0) (by decide +kernel) rfl rfl ?_
    exact g_iret (by decide +kernel) rfl ⟨_, rfl, h⟩
  · replace h := h.2 c
    refine g_iload_n (q := 0) (i := 0) (by decide +kernel) rfl rfl ?_
    refine g_iload_n (q := 2) (i := 2) (by decide +kernel) rfl rfl ?_
    obtain ⟨hnz, h⟩ := h
    refine g_irem (by decide +kernel) hnz ?_
    refine g_if_ne (off := 13) (tgt := 23) (by decide +kernel) (by decide) (fun c => ?_) (fun c => ?_)
    · replace h := h.1 c
      refine g_iinc (i := 2) (n := (-1)) (v := (z2 + (-1))) (ls2 := [some (vi x0), some (vi x1), some (vi (z2 + (-1)))]) (by decide +kernel) rfl rfl (by decide) rfl rfl ?_
      refine g_goto (off := (-24)) (tgt := 2) (by decide +kernel) (by decide) ?_
      obtain ⟨hI, hlt⟩ := h
      exact g_drop (ls2 := [some (vi x0), some (vi x1), some (vi (z2 + (-1)))]) (And.intro rfl (And.intro rfl (And.intro rfl trivial))) (ih1 (z2 + (-1)) H3 hI hlt)
    · replace h := h.2 c
      refine g_iload_n (q := 1) (i := 1) (by decide +kernel) rfl rfl ?_
      refine g_iload_n (q := 2) (i := 2) (by decide +kernel) rfl rfl ?_
      obtain ⟨hnz, h⟩ := h
      refine g_irem (by decide +kernel) hnz ?_
      refine g_if_ne (off := 7) (tgt := 23) (by decide +kernel) (by decide) (fun c => ?_) (fun c => ?_)
      · replace h := h.1 c
        refine g_iinc (i := 2) (n := (-1)) (v := (z2 + (-1))) (ls2 := [some (vi x0), some (vi x1), some (vi (z2 + (-1)))]) (by decide +kernel) rfl rfl (by decide) rfl rfl ?_
        refine g_goto (off := (-24)) (tgt := 2) (by decide +kernel) (by decide) ?_
        obtain ⟨hI, hlt⟩ := h
        exact g_drop (ls2 := [some (vi x0), some (vi x1), some (vi (z2 + (-1)))]) (And.intro rfl (And.intro rfl (And.intro rfl trivial))) (ih1 (z2 + (-1)) H3 hI hlt)
      · replace h := h.2 c
        refine g_iload_n (q := 0) (i := 0) (by decide +kernel) rfl rfl ?_
        refine g_iload_n (q := 2) (i := 2) (by decide +kernel) rfl rfl ?_
        obtain ⟨hnz, h⟩ := h
        refine g_idiv (by decide +kernel) hnz ?_
        exact g_iret (by decide +kernel) rfl ⟨_, rfl, h⟩
def p_Yard_become (E : XE) (d : Nat) (t : Nat) (u : Nat) (H : HH) (Q : HH → Prop) : Prop := c_Lane_become E d t u H (fun H1 => c_Vehicle_become E d (4 * t + 0) (4 * u + 0) H1 (fun H2 => c_Vehicle_become E d (4 * t + 1) (4 * u + 1) H2 (fun H3 => c_Vehicle_become E d (4 * t + 2) (4 * u + 2) H3 (fun H4 => c_Vehicle_become E d (4 * t + 3) (4 * u + 3) H4 (fun H5 => ∀ H6 : HH, H6 = (hu H5 1 t 2 (H5 1 u 2)) → (Q H6))))))
set_option maxHeartbeats 4000000 in
theorem l_Yard_become {E : XE} {d : Nat} {t : Nat} {u : Nat} {H : HH} {Q : HH → Prop} (h : p_Yard_become E d t u H Q) : c_Yard_become E (d + 1) t u H Q := by
  show g_Yard_become E (d + 1) 0 (xent [vr 1 t, vr 1 u]) [] H (qv Q)
  refine g_drop (ls2 := [some (vr 1 t), some (vr 1 u), none]) (And.intro rfl (And.intro rfl trivial)) ?_
  refine g_aload_n (q := 0) (i := 0) (by decide +kernel) rfl rfl ?_
  refine g_get (C := "ThreePoints$Yard") (T := xT_Yard) (N := 3) (ci := 1) (k := 0) (v := vr 2 t) (by decide +kernel) (by decide) rfl rfl xi_Yard (by decide) kw_162 rfl ?_
  refine g_aload_n (q := 1) (i := 1) (by decide +kernel) rfl rfl ?_
  refine g_get (C := "ThreePoints$Yard") (T := xT_Yard) (N := 3) (ci := 1) (k := 0) (v := vr 2 u) (by decide +kernel) (by decide) rfl rfl xi_Yard (by decide) kw_162 rfl ?_
  refine g_callV (kd := 2) (ix := t) (ci := 2) (N := 3) (T := xT_Lane) (vs := [vr 2 u]) (st := []) (by decide +kernel) xm_Lane_become kw_922 kw_627 kw_628 (by decide) rfl rfl rfl rfl (Nat.le_of_ble_eq_true rfl) (Nat.le_of_ble_eq_true rfl) h (fun vH1 H1 hq => ?_)
  replace h := hq
  refine g_iconst (n := 0) (v := 0) (by decide +kernel) (by decide) ?_
  refine g_istore_n (q := 2) (i := 2) (ls2 := [some (vr 1 t), some (vr 1 u), some (vi 0)]) (by decide +kernel) rfl (by decide) rfl rfl ?_
  refine g_iload_n (q := 2) (i := 2) (by decide +kernel) rfl rfl ?_
  refine g_iconst (n := 4) (v := 4) (by decide +kernel) (by decide) ?_
  refine g_icmp_ge (off := 24) (tgt := 39) (by decide +kernel) (by decide) (fun c => absurd c (by decide)) (fun c => ?_)
  refine g_aload_n (q := 0) (i := 0) (by decide +kernel) rfl rfl ?_
  refine g_get (C := "ThreePoints$Yard") (T := xT_Yard) (N := 3) (ci := 1) (k := 1) (v := vr 4 t) (by decide +kernel) (by decide) rfl rfl xi_Yard (by decide) kw_164 rfl ?_
  refine g_iload_n (q := 2) (i := 2) (by decide +kernel) rfl rfl ?_
  refine g_aald (v := vr 3 (4 * t + 0)) (by decide +kernel) (by decide) rfl (by decide) (vp_lit (by decide)) rfl ?_
  refine g_aload_n (q := 1) (i := 1) (by decide +kernel) rfl rfl ?_
  refine g_get (C := "ThreePoints$Yard") (T := xT_Yard) (N := 3) (ci := 1) (k := 1) (v := vr 4 u) (by decide +kernel) (by decide) rfl rfl xi_Yard (by decide) kw_164 rfl ?_
  refine g_iload_n (q := 2) (i := 2) (by decide +kernel) rfl rfl ?_
  refine g_aald (v := vr 3 (4 * u + 0)) (by decide +kernel) (by decide) rfl (by decide) (vp_lit (by decide)) rfl ?_
  refine g_callV (kd := 3) (ix := (4 * t + 0)) (ci := 3) (N := 7) (T := xT_Vehicle) (vs := [vr 3 (4 * u + 0)]) (st := []) (by decide +kernel) xm_Vehicle_become kw_923 kw_635 kw_636 (by decide) rfl rfl rfl rfl (Nat.le_of_ble_eq_true rfl) (Nat.le_of_ble_eq_true rfl) h (fun vH2 H2 hq => ?_)
  replace h := hq
  refine g_iinc (i := 2) (n := 1) (v := 1) (ls2 := [some (vr 1 t), some (vr 1 u), some (vi 1)]) (by decide +kernel) rfl (by decide) (by decide) rfl rfl ?_
  refine g_goto (off := (-23)) (tgt := 13) (by decide +kernel) (by decide) ?_
  refine g_iload_n (q := 2) (i := 2) (by decide +kernel) rfl rfl ?_
  refine g_iconst (n := 4) (v := 4) (by decide +kernel) (by decide) ?_
  refine g_icmp_ge (off := 24) (tgt := 39) (by decide +kernel) (by decide) (fun c => absurd c (by decide)) (fun c => ?_)
  refine g_aload_n (q := 0) (i := 0) (by decide +kernel) rfl rfl ?_
  refine g_get (C := "ThreePoints$Yard") (T := xT_Yard) (N := 3) (ci := 1) (k := 1) (v := vr 4 t) (by decide +kernel) (by decide) rfl rfl xi_Yard (by decide) kw_164 rfl ?_
  refine g_iload_n (q := 2) (i := 2) (by decide +kernel) rfl rfl ?_
  refine g_aald (v := vr 3 (4 * t + 1)) (by decide +kernel) (by decide) rfl (by decide) (vp_lit (by decide)) rfl ?_
  refine g_aload_n (q := 1) (i := 1) (by decide +kernel) rfl rfl ?_
  refine g_get (C := "ThreePoints$Yard") (T := xT_Yard) (N := 3) (ci := 1) (k := 1) (v := vr 4 u) (by decide +kernel) (by decide) rfl rfl xi_Yard (by decide) kw_164 rfl ?_
  refine g_iload_n (q := 2) (i := 2) (by decide +kernel) rfl rfl ?_
  refine g_aald (v := vr 3 (4 * u + 1)) (by decide +kernel) (by decide) rfl (by decide) (vp_lit (by decide)) rfl ?_
  refine g_callV (kd := 3) (ix := (4 * t + 1)) (ci := 3) (N := 7) (T := xT_Vehicle) (vs := [vr 3 (4 * u + 1)]) (st := []) (by decide +kernel) xm_Vehicle_become kw_923 kw_635 kw_636 (by decide) rfl rfl rfl rfl (Nat.le_of_ble_eq_true rfl) (Nat.le_of_ble_eq_true rfl) h (fun vH3 H3 hq => ?_)
  replace h := hq
  refine g_iinc (i := 2) (n := 1) (v := 2) (ls2 := [some (vr 1 t), some (vr 1 u), some (vi 2)]) (by decide +kernel) rfl (by decide) (by decide) rfl rfl ?_
  refine g_goto (off := (-23)) (tgt := 13) (by decide +kernel) (by decide) ?_
  refine g_iload_n (q := 2) (i := 2) (by decide +kernel) rfl rfl ?_
  refine g_iconst (n := 4) (v := 4) (by decide +kernel) (by decide) ?_
  refine g_icmp_ge (off := 24) (tgt := 39) (by decide +kernel) (by decide) (fun c => absurd c (by decide)) (fun c => ?_)
  refine g_aload_n (q := 0) (i := 0) (by decide +kernel) rfl rfl ?_
  refine g_get (C := "ThreePoints$Yard") (T := xT_Yard) (N := 3) (ci := 1) (k := 1) (v := vr 4 t) (by decide +kernel) (by decide) rfl rfl xi_Yard (by decide) kw_164 rfl ?_
  refine g_iload_n (q := 2) (i := 2) (by decide +kernel) rfl rfl ?_
  refine g_aald (v := vr 3 (4 * t + 2)) (by decide +kernel) (by decide) rfl (by decide) (vp_lit (by decide)) rfl ?_
  refine g_aload_n (q := 1) (i := 1) (by decide +kernel) rfl rfl ?_
  refine g_get (C := "ThreePoints$Yard") (T := xT_Yard) (N := 3) (ci := 1) (k := 1) (v := vr 4 u) (by decide +kernel) (by decide) rfl rfl xi_Yard (by decide) kw_164 rfl ?_
  refine g_iload_n (q := 2) (i := 2) (by decide +kernel) rfl rfl ?_
  refine g_aald (v := vr 3 (4 * u + 2)) (by decide +kernel) (by decide) rfl (by decide) (vp_lit (by decide)) rfl ?_
  refine g_callV (kd := 3) (ix := (4 * t + 2)) (ci := 3) (N := 7) (T := xT_Vehicle) (vs := [vr 3 (4 * u + 2)]) (st := []) (by decide +kernel) xm_Vehicle_become kw_923 kw_635 kw_636 (by decide) rfl rfl rfl rfl (Nat.le_of_ble_eq_true rfl) (Nat.le_of_ble_eq_true rfl) h (fun vH4 H4 hq => ?_)
  replace h := hq
  refine g_iinc (i := 2) (n := 1) (v := 3) (ls2 := [some (vr 1 t), some (vr 1 u), some (vi 3)]) (by decide +kernel) rfl (by decide) (by decide) rfl rfl ?_
  refine g_goto (off := (-23)) (tgt := 13) (by decide +kernel) (by decide) ?_
  refine g_iload_n (q := 2) (i := 2) (by decide +kernel) rfl rfl ?_
  refine g_iconst (n := 4) (v := 4) (by decide +kernel) (by decide) ?_
  refine g_icmp_ge (off := 24) (tgt := 39) (by decide +kernel) (by decide) (fun c => absurd c (by decide)) (fun c => ?_)
  refine g_aload_n (q := 0) (i := 0) (by decide +kernel) rfl rfl ?_
  refine g_get (C := "ThreePoints$Yard") (T := xT_Yard) (N := 3) (ci := 1) (k := 1) (v := vr 4 t) (by decide +kernel) (by decide) rfl rfl xi_Yard (by decide) kw_164 rfl ?_
  refine g_iload_n (q := 2) (i := 2) (by decide +kernel) rfl rfl ?_
  refine g_aald (v := vr 3 (4 * t + 3)) (by decide +kernel) (by decide) rfl (by decide) (vp_lit (by decide)) rfl ?_
  refine g_aload_n (q := 1) (i := 1) (by decide +kernel) rfl rfl ?_
  refine g_get (C := "ThreePoints$Yard") (T := xT_Yard) (N := 3) (ci := 1) (k := 1) (v := vr 4 u) (by decide +kernel) (by decide) rfl rfl xi_Yard (by decide) kw_164 rfl ?_
  refine g_iload_n (q := 2) (i := 2) (by decide +kernel) rfl rfl ?_
  refine g_aald (v := vr 3 (4 * u + 3)) (by decide +kernel) (by decide) rfl (by decide) (vp_lit (by decide)) rfl ?_
  refine g_callV (kd := 3) (ix := (4 * t + 3)) (ci := 3) (N := 7) (T := xT_Vehicle) (vs := [vr 3 (4 * u + 3)]) (st := []) (by decide +kernel) xm_Vehicle_become kw_923 kw_635 kw_636 (by decide) rfl rfl rfl rfl (Nat.le_of_ble_eq_true rfl) (Nat.le_of_ble_eq_true rfl) h (fun vH5 H5 hq => ?_)
  replace h := hq
  refine g_iinc (i := 2) (n := 1) (v := 4) (ls2 := [some (vr 1 t), some (vr 1 u), some (vi 4)]) (by decide +kernel) rfl (by decide) (by decide) rfl rfl ?_
  refine g_goto (off := (-23)) (tgt := 13) (by decide +kernel) (by decide) ?_
  refine g_iload_n (q := 2) (i := 2) (by decide +kernel) rfl rfl ?_
  refine g_iconst (n := 4) (v := 4) (by decide +kernel) (by decide) ?_
  refine g_icmp_ge (off := 24) (tgt := 39) (by decide +kernel) (by decide) (fun c => ?_) (fun c => absurd c (by decide))
  refine g_aload_n (q := 0) (i := 0) (by decide +kernel) rfl rfl ?_
  refine g_aload_n (q := 1) (i := 1) (by decide +kernel) rfl rfl ?_
  refine g_get (C := "ThreePoints$Yard") (T := xT_Yard) (N := 3) (ci := 1) (k := 2) (v := vi (H5 1 u 2)) (by decide +kernel) (by decide) rfl rfl xi_Yard (by decide) kw_166 rfl ?_
  refine g_put (C := "ThreePoints$Yard") (T := xT_Yard) (N := 3) (ci := 1) (k := 2) xy_Yard (by decide +kernel) (by decide) rfl rfl xi_Yard xy_Yard_ok xn_Yard (by decide) kw_166 rfl (by decide +kernel) (fun _ => rfl) ?_
  refine g_heap (fun H6 eH6 => ?_)
  replace h := h H6 eH6
  exact g_vret (by decide +kernel) rfl h
def p_Sheet_renew (E : XE) (d : Nat) (t : Nat) (x1 : Int32) (x2 : Int32) (H : HH) (Q : HH → Prop) : Prop := ∀ H1 : HH, H1 = (hu H 16 t 1 x1) → ((¬ x1 = (-1) → (∀ H2 : HH, H2 = (hu H1 16 t 2 (xmax 0 (xmin x2 40))) → (c_fill E d 17 40 t 0 H2 (fun H3 => Q H3)))) ∧ (x1 = (-1) → (∀ H4 : HH, H4 = (hu H1 16 t 2 0) → (c_fill E d 17 40 t 0 H4 (fun H5 => Q H5)))))
set_option maxHeartbeats 4000000 in
theorem l_Sheet_renew {E : XE} {d : Nat} {t : Nat} {x1 : Int32} {x2 : Int32} {H : HH} {Q : HH → Prop} (h : p_Sheet_renew E d t x1 x2 H Q) : c_Sheet_renew E (d + 1) t x1 x2 H Q := by
  show g_Sheet_renew E (d + 1) 0 (xent [vr 16 t, vi x1, vi x2]) [] H (qv Q)
  refine g_drop (ls2 := [some (vr 16 t), some (vi x1), some (vi x2)]) (And.intro rfl (And.intro rfl (And.intro rfl trivial))) ?_
  refine g_aload_n (q := 0) (i := 0) (by decide +kernel) rfl rfl ?_
  refine g_iload_n (q := 1) (i := 1) (by decide +kernel) rfl rfl ?_
  refine g_put (C := "ThreePoints$Sheet") (T := xT_Sheet) (N := 3) (ci := 7) (k := 1) xy_Sheet (by decide +kernel) (by decide) rfl rfl xi_Sheet xy_Sheet_ok xn_Sheet (by decide) kw_318 rfl (by decide +kernel) (fun _ => rfl) ?_
  refine g_aload_n (q := 0) (i := 0) (by decide +kernel) rfl rfl ?_
  refine g_iload_n (q := 1) (i := 1) (by decide +kernel) rfl rfl ?_
  refine g_iconst (n := (-1)) (v := (-1)) (by decide +kernel) (by decide) ?_
  refine g_heap (fun H1 eH1 => ?_)
  replace h := h H1 eH1
  refine g_icmp_ne (off := 7) (tgt := 15) (by decide +kernel) (by decide) (fun c => ?_) (fun c => ?_)
  · replace h := h.1 c
    refine g_iconst (n := 0) (v := 0) (by decide +kernel) (by decide) ?_
    refine g_iload_n (q := 2) (i := 2) (by decide +kernel) rfl rfl ?_
    refine g_bipush (n := 40) (v := 40) (by decide +kernel) (by decide) ?_
    refine g_mmin (by decide +kernel) kw_936 kw_463 kw_79 kw_464 (Nat.le_of_ble_eq_true rfl) ?_
    refine g_mmax (by decide +kernel) kw_937 kw_460 kw_79 kw_461 (Nat.le_of_ble_eq_true rfl) ?_
    refine g_put (C := "ThreePoints$Sheet") (T := xT_Sheet) (N := 3) (ci := 7) (k := 2) xy_Sheet (by decide +kernel) (by decide) rfl rfl xi_Sheet xy_Sheet_ok xn_Sheet (by decide) kw_320 rfl (by decide +kernel) (fun _ => rfl) ?_
    refine g_aload_n (q := 0) (i := 0) (by decide +kernel) rfl rfl ?_
    refine g_get (C := "ThreePoints$Sheet") (T := xT_Sheet) (N := 3) (ci := 7) (k := 0) (v := vr 17 t) (by decide +kernel) (by decide) rfl rfl xi_Sheet (by decide) kw_316 rfl ?_
    refine g_iconst (n := 0) (v := 0) (by decide +kernel) (by decide) ?_
    refine g_heap (fun H2 eH2 => ?_)
    replace h := h H2 eH2
    refine g_callS (vs := [vr 17 t, vi 0]) (st := []) (by decide +kernel) xm_fill kw_938 kw_509 rfl rfl (Nat.le_of_ble_eq_true rfl) (Nat.le_of_ble_eq_true rfl) h (fun vH3 H3 hq => ?_)
    replace h := hq
    exact g_vret (by decide +kernel) rfl h
  · replace h := h.2 c
    refine g_iconst (n := 0) (v := 0) (by decide +kernel) (by decide) ?_
    refine g_goto (off := 13) (tgt := 25) (by decide +kernel) (by decide) ?_
    refine g_put (C := "ThreePoints$Sheet") (T := xT_Sheet) (N := 3) (ci := 7) (k := 2) xy_Sheet (by decide +kernel) (by decide) rfl rfl xi_Sheet xy_Sheet_ok xn_Sheet (by decide) kw_320 rfl (by decide +kernel) (fun _ => rfl) ?_
    refine g_aload_n (q := 0) (i := 0) (by decide +kernel) rfl rfl ?_
    refine g_get (C := "ThreePoints$Sheet") (T := xT_Sheet) (N := 3) (ci := 7) (k := 0) (v := vr 17 t) (by decide +kernel) (by decide) rfl rfl xi_Sheet (by decide) kw_316 rfl ?_
    refine g_iconst (n := 0) (v := 0) (by decide +kernel) (by decide) ?_
    refine g_heap (fun H4 eH4 => ?_)
    replace h := h H4 eH4
    refine g_callS (vs := [vr 17 t, vi 0]) (st := []) (by decide +kernel) xm_fill kw_938 kw_509 rfl rfl (Nat.le_of_ble_eq_true rfl) (Nat.le_of_ble_eq_true rfl) h (fun vH5 H5 hq => ?_)
    replace h := hq
    exact g_vret (by decide +kernel) rfl h
def p_Sheet_put (E : XE) (d : Nat) (t : Nat) (x1 : Int32) (x2 : Int32) (H : HH) (Q : HH → Prop) : Prop := c_Sheet_has E d t x1 H (fun r2 H1 => (¬ r2 = 0 → ((¬ (H1 16 t 1) = 0 → ((¬ (H1 16 t 1) = 1 → (vp_in x1 40 ∧ (∀ H3 : HH, H3 = (hu H1 17 t (x1.toNatClampNeg) x2) → (Q H3)))) ∧ ((H1 16 t 1) = 1 → (vp_in x1 40 ∧ (∀ H4 : HH, H4 = (hu H1 17 t (x1.toNatClampNeg) (x2.toInt16.toInt32)) → (Q H4)))))) ∧ ((H1 16 t 1) = 0 → (vp_in x1 40 ∧ (∀ H5 : HH, H5 = (hu H1 17 t (x1.toNatClampNeg) (x2.toInt8.toInt32)) → (Q H5)))))) ∧ (r2 = 0 → (Q H1)))
set_option maxHeartbeats 4000000 in
theorem l_Sheet_put {E : XE} {d : Nat} {t : Nat} {x1 : Int32} {x2 : Int32} {H : HH} {Q : HH → Prop} (h : p_Sheet_put E d t x1 x2 H Q) : c_Sheet_put E (d + 1) t x1 x2 H Q := by
  show g_Sheet_put E (d + 1) 0 (xent [vr 16 t, vi x1, vi x2]) [] H (qv Q)
  refine g_drop (ls2 := [some (vr 16 t), some (vi x1), some (vi x2)]) (And.intro rfl (And.intro rfl (And.intro rfl trivial))) ?_
  refine g_aload_n (q := 0) (i := 0) (by decide +kernel) rfl rfl ?_
  refine g_iload_n (q := 1) (i := 1) (by decide +kernel) rfl rfl ?_
  refine g_callV (kd := 16) (ix := t) (ci := 7) (N := 3) (T := xT_Sheet) (vs := [vi x1]) (st := []) (by decide +kernel) xm_Sheet_has kw_870 kw_871 kw_872 (by decide) rfl rfl rfl rfl (Nat.le_of_ble_eq_true rfl) (Nat.le_of_ble_eq_true rfl) h (fun vH1 H1 hq => ?_)
  obtain ⟨r2, rfl, h⟩ := hq
  refine g_if_ne (off := 4) (tgt := 9) (by decide +kernel) (by decide) (fun c => ?_) (fun c => ?_)
  · replace h := h.1 c
    refine g_aload_n (q := 0) (i := 0) (by decide +kernel) rfl rfl ?_
    refine g_get (C := "ThreePoints$Sheet") (T := xT_Sheet) (N := 3) (ci := 7) (k := 1) (v := vi (H1 16 t 1)) (by decide +kernel) (by decide) rfl rfl xi_Sheet (by decide) kw_318 rfl ?_
    refine g_if_ne (off := 14) (tgt := 27) (by decide +kernel) (by decide) (fun c => ?_) (fun c => ?_)
    · replace h := h.1 c
      refine g_aload_n (q := 0) (i := 0) (by decide +kernel) rfl rfl ?_
      refine g_get (C := "ThreePoints$Sheet") (T := xT_Sheet) (N := 3) (ci := 7) (k := 1) (v := vi (H1 16 t 1)) (by decide +kernel) (by decide) rfl rfl xi_Sheet (by decide) kw_318 rfl ?_
      refine g_iconst (n := 1) (v := 1) (by decide +kernel) (by decide) ?_
      refine g_icmp_ne (off := 14) (tgt := 46) (by decide +kernel) (by decide) (fun c => ?_) (fun c => ?_)
      · replace h := h.1 c
        refine g_aload_n (q := 0) (i := 0) (by decide +kernel) rfl rfl ?_
        refine g_get (C := "ThreePoints$Sheet") (T := xT_Sheet) (N := 3) (ci := 7) (k := 0) (v := vr 17 t) (by decide +kernel) (by decide) rfl rfl xi_Sheet (by decide) kw_316 rfl ?_
        refine g_iload_n (q := 1) (i := 1) (by decide +kernel) rfl rfl ?_
        refine g_iload_n (q := 2) (i := 2) (by decide +kernel) rfl rfl ?_
        obtain ⟨hin, h⟩ := h
        refine g_iast (by decide +kernel) (by decide) rfl hin ?_
        refine g_heap (fun H3 eH3 => ?_)
        replace h := h H3 eH3
        exact g_vret (by decide +kernel) rfl h
      · replace h := h.2 c
        refine g_aload_n (q := 0) (i := 0) (by decide +kernel) rfl rfl ?_
        refine g_get (C := "ThreePoints$Sheet") (T := xT_Sheet) (N := 3) (ci := 7) (k := 0) (v := vr 17 t) (by decide +kernel) (by decide) rfl rfl xi_Sheet (by decide) kw_316 rfl ?_
        refine g_iload_n (q := 1) (i := 1) (by decide +kernel) rfl rfl ?_
        refine g_iload_n (q := 2) (i := 2) (by decide +kernel) rfl rfl ?_
        refine g_i2s (by decide +kernel) ?_
        obtain ⟨hin, h⟩ := h
        refine g_iast (by decide +kernel) (by decide) rfl hin ?_
        refine g_goto (off := 10) (tgt := 53) (by decide +kernel) (by decide) ?_
        refine g_heap (fun H4 eH4 => ?_)
        replace h := h H4 eH4
        exact g_vret (by decide +kernel) rfl h
    · replace h := h.2 c
      refine g_aload_n (q := 0) (i := 0) (by decide +kernel) rfl rfl ?_
      refine g_get (C := "ThreePoints$Sheet") (T := xT_Sheet) (N := 3) (ci := 7) (k := 0) (v := vr 17 t) (by decide +kernel) (by decide) rfl rfl xi_Sheet (by decide) kw_316 rfl ?_
      refine g_iload_n (q := 1) (i := 1) (by decide +kernel) rfl rfl ?_
      refine g_iload_n (q := 2) (i := 2) (by decide +kernel) rfl rfl ?_
      refine g_i2b (by decide +kernel) ?_
      obtain ⟨hin, h⟩ := h
      refine g_iast (by decide +kernel) (by decide) rfl hin ?_
      refine g_goto (off := 29) (tgt := 53) (by decide +kernel) (by decide) ?_
      refine g_heap (fun H5 eH5 => ?_)
      replace h := h H5 eH5
      exact g_vret (by decide +kernel) rfl h
  · replace h := h.2 c
    exact g_vret (by decide +kernel) rfl h
def p_Sheet_hasRow (E : XE) (d : Nat) (t : Nat) (x1 : Int32) (x2 : Int32) (H : HH) (Q : Int32 → HH → Prop) : Prop := ((if x1 < 0 then 0 else (if x2 < 0 then 0 else (if ((H 16 t 2) - x2) < x1 then 0 else 1 : Int32) : Int32) : Int32) = 0 ∨ (if x1 < 0 then 0 else (if x2 < 0 then 0 else (if ((H 16 t 2) - x2) < x1 then 0 else 1 : Int32) : Int32) : Int32) = 1) ∧ Q (if x1 < 0 then 0 else (if x2 < 0 then 0 else (if ((H 16 t 2) - x2) < x1 then 0 else 1 : Int32) : Int32) : Int32) H
set_option maxHeartbeats 4000000 in
theorem l_Sheet_hasRow {E : XE} {d : Nat} {t : Nat} {x1 : Int32} {x2 : Int32} {H : HH} {Q : Int32 → HH → Prop} (h : p_Sheet_hasRow E d t x1 x2 H Q) : c_Sheet_hasRow E d t x1 x2 H Q := by
  show g_Sheet_hasRow E d 0 (xent [vr 16 t, vi x1, vi x2]) [] H (qi Q)
  refine g_drop (ls2 := [some (vr 16 t), some (vi x1), some (vi x2)]) (And.intro rfl (And.intro rfl (And.intro rfl trivial))) ?_
  refine g_iload_n (q := 1) (i := 1) (by decide +kernel) rfl rfl ?_
  suffices hj3 : g_Sheet_hasRow E d 23 [some (vr 16 t), some (vi x1), some (vi x2)] [vi (if x1 < 0 then 0 else (if x2 < 0 then 0 else (if ((H 16 t 2) - x2) < x1 then 0 else 1 : Int32) : Int32) : Int32)] H (qi Q) by
    refine g_if_lt (off := 21) (tgt := 22) (by decide +kernel) (by decide) (fun c => ?_) (fun c => ?_)
    · rw [if_pos c] at hj3
      refine g_iconst (n := 0) (v := 0) (by decide +kernel) (by decide) ?_
      exact hj3
    · rw [if_neg c] at hj3
      refine g_iload_n (q := 2) (i := 2) (by decide +kernel) rfl rfl ?_
      suffices hj2 : g_Sheet_hasRow E d 23 [some (vr 16 t), some (vi x1), some (vi x2)] [vi (if x2 < 0 then 0 else (if ((H 16 t 2) - x2) < x1 then 0 else 1 : Int32) : Int32)] H (qi Q) by
        refine g_if_lt (off := 17) (tgt := 22) (by decide +kernel) (by decide) (fun c => ?_) (fun c => ?_)
        · rw [if_pos c] at hj2
          refine g_iconst (n := 0) (v := 0) (by decide +kernel) (by decide) ?_
          exact hj2
        · rw [if_neg c] at hj2
          refine g_iload_n (q := 1) (i := 1) (by decide +kernel) rfl rfl ?_
          refine g_aload_n (q := 0) (i := 0) (by decide +kernel) rfl rfl ?_
          refine g_get (C := "ThreePoints$Sheet") (T := xT_Sheet) (N := 3) (ci := 7) (k := 2) (v := vi (H 16 t 2)) (by decide +kernel) (by decide) rfl rfl xi_Sheet (by decide) kw_320 rfl ?_
          refine g_iload_n (q := 2) (i := 2) (by decide +kernel) rfl rfl ?_
          refine g_isub (by decide +kernel) ?_
          suffices hj1 : g_Sheet_hasRow E d 23 [some (vr 16 t), some (vi x1), some (vi x2)] [vi (if ((H 16 t 2) - x2) < x1 then 0 else 1 : Int32)] H (qi Q) by
            refine g_icmp_gt (off := 7) (tgt := 22) (by decide +kernel) (by decide) (fun c => ?_) (fun c => ?_)
            · rw [if_pos c] at hj1
              refine g_iconst (n := 0) (v := 0) (by decide +kernel) (by decide) ?_
              exact hj1
            · rw [if_neg c] at hj1
              refine g_iconst (n := 1) (v := 1) (by decide +kernel) (by decide) ?_
              refine g_goto (off := 4) (tgt := 23) (by decide +kernel) (by decide) ?_
              exact hj1
          exact hj2
      exact hj3
  obtain ⟨h01, h⟩ := h
  exact g_zret (by decide +kernel) rfl (nbool h01) ⟨_, rfl, h⟩
def p_Vehicle_isA (E : XE) (d : Nat) (t : Nat) (x1 : Int32) (H : HH) (Q : Int32 → HH → Prop) : Prop := ∃ (I1 : Int32 → Int32 → HH → Prop) (μ1 : Int32 → Int32 → HH → Nat), I1 (H 3 t 0) 6 H ∧ ∀ (z2 : Int32) (z3 : Int32) (H4 : HH), I1 z2 z3 H4 → ((z3 ≤ 0 → (Q 0 H4)) ∧ (¬ z3 ≤ 0 → ((z2 < 0 → (Q 0 H4)) ∧ (¬ z2 < 0 → ((6 ≤ z2 → (Q 0 H4)) ∧ (¬ 6 ≤ z2 → ((¬ z2 = x1 → (vp_in z2 6 ∧ (∀ v5 : Int32, v5 = (xABV.getD (z2.toNatClampNeg) 0) → (I1 v5 (z3 + (-1)) H4 ∧ μ1 v5 (z3 + (-1)) H4 < μ1 z2 z3 H4)))) ∧ (z2 = x1 → (Q 1 H4)))))))))
set_option maxHeartbeats 4000000 in
theorem l_Vehicle_isA {E : XE} {d : Nat} {t : Nat} {x1 : Int32} {H : HH} {Q : Int32 → HH → Prop} (h : p_Vehicle_isA E d t x1 H Q) : c_Vehicle_isA E d t x1 H Q := by
  show g_Vehicle_isA E d 0 (xent [vr 3 t, vi x1]) [] H (qi Q)
  refine g_drop (ls2 := [some (vr 3 t), some (vi x1), none, none]) (And.intro rfl (And.intro rfl trivial)) ?_
  refine g_aload_n (q := 0) (i := 0) (by decide +kernel) rfl rfl ?_
  refine g_get (C := "ThreePoints$Vehicle") (T := xT_Vehicle) (N := 7) (ci := 3) (k := 0) (v := vi (H 3 t 0)) (by decide +kernel) (by decide) rfl rfl xi_Vehicle (by decide) kw_127 rfl ?_
  refine g_istore_n (q := 2) (i := 2) (ls2 := [some (vr 3 t), some (vi x1), some (vi (H 3 t 0)), none]) (by decide +kernel) rfl (by decide) rfl rfl ?_
  refine g_bipush (n := 6) (v := 6) (by decide +kernel) (by decide) ?_
  refine g_istore_n (q := 3) (i := 3) (ls2 := [some (vr 3 t), some (vi x1), some (vi (H 3 t 0)), some (vi 6)]) (by decide +kernel) rfl (by decide) rfl rfl ?_
  refine g_drop (ls2 := [none, some (vi x1), some (vi (H 3 t 0)), some (vi 6)]) (And.intro rfl (And.intro rfl (And.intro rfl trivial))) ?_
  obtain ⟨I1, μ1, h0, h⟩ := h
  refine xloop (σ := Int32 × Int32) (fun s H => I1 s.1 s.2 H) (fun s H => μ1 s.1 s.2 H) (fun s H => g_Vehicle_isA E d 8 [none, some (vi x1), some (vi s.1), some (vi s.2)] [] H (qi Q)) (fun s H4 hI ih1 => ?_) ((H 3 t 0), 6) H h0
  obtain ⟨z2, z3⟩ := s
  replace h := h z2 z3 H4 hI
  refine g_iload_n (q := 3) (i := 3) (by decide +kernel) rfl rfl ?_
  refine g_if_le (off := 32) (tgt := 41) (by decide +kernel) (by decide) (fun c => ?_) (fun c => ?_)
  · replace h := h.1 c
    refine g_iconst (n := 0) (v := 0) (by decide +kernel) (by decide) ?_
    exact g_zret (by decide +kernel) rfl rfl ⟨_, rfl, h⟩
  · replace h := h.2 c
    refine g_iload_n (q := 2) (i := 2) (by decide +kernel) rfl rfl ?_
    refine g_if_lt (off := 28) (tgt := 41) (by decide +kernel) (by decide) (fun c => ?_) (fun c => ?_)
    · replace h := h.1 c
      refine g_iconst (n := 0) (v := 0) (by decide +kernel) (by decide) ?_
      exact g_zret (by decide +kernel) rfl rfl ⟨_, rfl, h⟩
    · replace h := h.2 c
      refine g_iload_n (q := 2) (i := 2) (by decide +kernel) rfl rfl ?_
      refine g_bipush (n := 6) (v := 6) (by decide +kernel) (by decide) ?_
      refine g_icmp_ge (off := 22) (tgt := 41) (by decide +kernel) (by decide) (fun c => ?_) (fun c => ?_)
      · replace h := h.1 c
        refine g_iconst (n := 0) (v := 0) (by decide +kernel) (by decide) ?_
        exact g_zret (by decide +kernel) rfl rfl ⟨_, rfl, h⟩
      · replace h := h.2 c
        refine g_iload_n (q := 2) (i := 2) (by decide +kernel) rfl rfl ?_
        refine g_iload_n (q := 1) (i := 1) (by decide +kernel) rfl rfl ?_
        refine g_icmp_ne (off := 5) (tgt := 29) (by decide +kernel) (by decide) (fun c => ?_) (fun c => ?_)
        · replace h := h.1 c
          refine g_gsABV (by decide +kernel) kw_971 ?_
          refine g_iload_n (q := 2) (i := 2) (by decide +kernel) rfl rfl ?_
          obtain ⟨hin, h⟩ := h
          refine g_ialdABV (by decide +kernel) hin ?_
          refine g_topi (fun v5 ev5 => ?_)
          replace h := h v5 ev5
          refine g_istore_n (q := 2) (i := 2) (ls2 := [none, some (vi x1), some (vi v5), some (vi z3)]) (by decide +kernel) rfl (by decide) rfl rfl ?_
          refine g_iinc (i := 3) (n := (-1)) (v := (z3 + (-1))) (ls2 := [none, some (vi x1), some (vi v5), some (vi (z3 + (-1)))]) (by decide +kernel) rfl rfl (by decide) rfl rfl ?_
          refine g_goto (off := (-30)) (tgt := 8) (by decide +kernel) (by decide) ?_
          obtain ⟨hI, hlt⟩ := h
          exact g_drop (ls2 := [none, some (vi x1), some (vi v5), some (vi (z3 + (-1)))]) (And.intro rfl (And.intro rfl (And.intro rfl trivial))) (ih1 (v5, (z3 + (-1))) H4 hI hlt)
        · replace h := h.2 c
          refine g_iconst (n := 1) (v := 1) (by decide +kernel) (by decide) ?_
          exact g_zret (by decide +kernel) rfl rfl ⟨_, rfl, h⟩
