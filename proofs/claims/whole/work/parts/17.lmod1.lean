/-! a method: its place, its formula, the walk that proves it; printed by wip/gen/emitall.py -/
abbrev g_Model_in (E : XE) (d pc : Nat) (ls : List (Option AV)) (st : List AV) (H : HH) (Q : AV → HH → Prop) : Prop := Gp E.1 E.2.1 E.2.2.1 E.2.2.2 xTX xRF xLM d "ThreePointsModel" prog_12_method_3_code 3 (some .boolean) pc ls st H Q
def c_Model_in (E : XE) (d : Nat) (x0 : Int32) (x1 : Int32) (x2 : Int32) (H : HH) (Q : Int32 → HH → Prop) : Prop := g_Model_in E d 0 (xent [vi x0, vi x1, vi x2]) [] H (qi Q)
theorem xm_Model_in : xM ⟨"ThreePointsModel", "in", "(III)Z"⟩ prog_12_method_3_code 3 (some .boolean) 3 := ⟨kw_989, kw_83, by decide +kernel, by decide +kernel, by decide⟩
abbrev g_Model_wordFrom (E : XE) (d pc : Nat) (ls : List (Option AV)) (st : List AV) (H : HH) (Q : AV → HH → Prop) : Prop := Gp E.1 E.2.1 E.2.2.1 E.2.2.2 xTX xRF xLM d "ThreePointsModel" prog_12_method_13_code 6 (some .int) pc ls st H Q
def c_Model_wordFrom (E : XE) (d : Nat) (x1 : Int32) (x2 : Int32) (H : HH) (Q : Int32 → HH → Prop) : Prop := g_Model_wordFrom E d 0 (xent [vr 30 0, vi x1, vi x2]) [] H (qi Q)
theorem xm_Model_wordFrom : xM ⟨"ThreePointsModel", "wordFrom", "(II)I"⟩ prog_12_method_13_code 6 (some .int) 2 := ⟨kw_993, kw_83, by decide +kernel, by decide +kernel, by decide⟩
abbrev g_Model_next (E : XE) (d pc : Nat) (ls : List (Option AV)) (st : List AV) (H : HH) (Q : AV → HH → Prop) : Prop := Gp E.1 E.2.1 E.2.2.1 E.2.2.2 xTX xRF xLM d "ThreePointsModel" prog_12_method_14_code 3 none pc ls st H Q
def c_Model_next (E : XE) (d : Nat)  (H : HH) (Q : HH → Prop) : Prop := g_Model_next E d 0 (xent [vr 30 0]) [] H (qv Q)
theorem xm_Model_next : xM ⟨"ThreePointsModel", "next", "()V"⟩ prog_12_method_14_code 3 none 0 := ⟨kw_986, kw_83, by decide +kernel, by decide +kernel, by decide⟩
abbrev g_Model_puts (E : XE) (d pc : Nat) (ls : List (Option AV)) (st : List AV) (H : HH) (Q : AV → HH → Prop) : Prop := Gp E.1 E.2.1 E.2.2.1 E.2.2.2 xTX xRF xLM d "ThreePointsModel" prog_12_method_16_code 2 none pc ls st H Q
def c_Model_puts (E : XE) (d : Nat) (x1 : Int32) (H : HH) (Q : HH → Prop) : Prop := g_Model_puts E d 0 (xent [vr 30 0, vi x1]) [] H (qv Q)
theorem xm_Model_puts : xM ⟨"ThreePointsModel", "puts", "(I)V"⟩ prog_12_method_16_code 2 none 1 := ⟨kw_1002, kw_83, by decide +kernel, by decide +kernel, by decide⟩
abbrev g_Model_rank (E : XE) (d pc : Nat) (ls : List (Option AV)) (st : List AV) (H : HH) (Q : AV → HH → Prop) : Prop := Gp E.1 E.2.1 E.2.2.1 E.2.2.2 xTX xRF xLM d "ThreePointsModel" prog_12_method_15_code 1 (some .int) pc ls st H Q
def c_Model_rank (E : XE) (d : Nat) (x0 : Int32) (H : HH) (Q : Int32 → HH → Prop) : Prop := g_Model_rank E d 0 (xent [vi x0]) [] H (qi Q)
theorem xm_Model_rank : xM ⟨"ThreePointsModel", "rank", "(I)I"⟩ prog_12_method_15_code 1 (some .int) 1 := ⟨kw_1009, kw_83, by decide +kernel, by decide +kernel, by decide⟩
abbrev g_Model_unwinds (E : XE) (d pc : Nat) (ls : List (Option AV)) (st : List AV) (H : HH) (Q : AV → HH → Prop) : Prop := Gp E.1 E.2.1 E.2.2.1 E.2.2.2 xTX xRF xLM d "ThreePointsModel" prog_12_method_17_code 3 none pc ls st H Q
def c_Model_unwinds (E : XE) (d : Nat) (x1 : Int32) (H : HH) (Q : HH → Prop) : Prop := g_Model_unwinds E d 0 (xent [vr 30 0, vi x1]) [] H (qv Q)
theorem xm_Model_unwinds : xM ⟨"ThreePointsModel", "unwinds", "(I)V"⟩ prog_12_method_17_code 3 none 1 := ⟨kw_1006, kw_83, by decide +kernel, by decide +kernel, by decide⟩
abbrev g_Model_holds (E : XE) (d pc : Nat) (ls : List (Option AV)) (st : List AV) (H : HH) (Q : AV → HH → Prop) : Prop := Gp E.1 E.2.1 E.2.2.1 E.2.2.2 xTX xRF xLM d "ThreePointsModel" prog_12_method_18_code 2 none pc ls st H Q
def c_Model_holds (E : XE) (d : Nat) (x1 : Int32) (H : HH) (Q : HH → Prop) : Prop := g_Model_holds E d 0 (xent [vr 30 0, vi x1]) [] H (qv Q)
theorem xm_Model_holds : xM ⟨"ThreePointsModel", "holds", "(I)V"⟩ prog_12_method_18_code 2 none 1 := ⟨kw_1017, kw_83, by decide +kernel, by decide +kernel, by decide⟩
abbrev g_Model_opensOne (E : XE) (d pc : Nat) (ls : List (Option AV)) (st : List AV) (H : HH) (Q : AV → HH → Prop) : Prop := Gp E.1 E.2.1 E.2.2.1 E.2.2.2 xTX xRF xLM d "ThreePointsModel" prog_12_method_19_code 2 (some .boolean) pc ls st H Q
def c_Model_opensOne (E : XE) (d : Nat) (x1 : Int32) (H : HH) (Q : Int32 → HH → Prop) : Prop := g_Model_opensOne E d 0 (xent [vr 30 0, vi x1]) [] H (qi Q)
theorem xm_Model_opensOne : xM ⟨"ThreePointsModel", "opensOne", "(I)Z"⟩ prog_12_method_19_code 2 (some .boolean) 1 := ⟨kw_1013, kw_83, by decide +kernel, by decide +kernel, by decide⟩
abbrev g_Model_signOf (E : XE) (d pc : Nat) (ls : List (Option AV)) (st : List AV) (H : HH) (Q : AV → HH → Prop) : Prop := Gp E.1 E.2.1 E.2.2.1 E.2.2.2 xTX xRF xLM d "ThreePointsModel" prog_12_method_21_code 1 (some .int) pc ls st H Q
def c_Model_signOf (E : XE) (d : Nat)  (H : HH) (Q : Int32 → HH → Prop) : Prop := g_Model_signOf E d 0 (xent [vr 30 0]) [] H (qi Q)
theorem xm_Model_signOf : xM ⟨"ThreePointsModel", "signOf", "()I"⟩ prog_12_method_21_code 1 (some .int) 0 := ⟨kw_1021, kw_83, by decide +kernel, by decide +kernel, by decide⟩
abbrev g_Model_between (E : XE) (d pc : Nat) (ls : List (Option AV)) (st : List AV) (H : HH) (Q : AV → HH → Prop) : Prop := Gp E.1 E.2.1 E.2.2.1 E.2.2.2 xTX xRF xLM d "ThreePointsModel" prog_12_method_20_code 2 (some .boolean) pc ls st H Q
def c_Model_between (E : XE) (d : Nat) (x1 : Int32) (H : HH) (Q : Int32 → HH → Prop) : Prop := g_Model_between E d 0 (xent [vr 30 0, vi x1]) [] H (qi Q)
theorem xm_Model_between : xM ⟨"ThreePointsModel", "between", "(I)Z"⟩ prog_12_method_20_code 2 (some .boolean) 1 := ⟨kw_1025, kw_83, by decide +kernel, by decide +kernel, by decide⟩
abbrev g_Model_eRead (E : XE) (d pc : Nat) (ls : List (Option AV)) (st : List AV) (H : HH) (Q : AV → HH → Prop) : Prop := Gp E.1 E.2.1 E.2.2.1 E.2.2.2 xTX xRF xLM d "ThreePointsModel" prog_12_method_22_code 4 (some .boolean) pc ls st H Q
def c_Model_eRead (E : XE) (d : Nat)  (H : HH) (Q : Int32 → HH → Prop) : Prop := g_Model_eRead E d 0 (xent [vr 30 0]) [] H (qi Q)
theorem xm_Model_eRead : xM ⟨"ThreePointsModel", "eRead", "()Z"⟩ prog_12_method_22_code 4 (some .boolean) 0 := ⟨kw_997, kw_83, by decide +kernel, by decide +kernel, by decide⟩
abbrev g_Model_text (E : XE) (d pc : Nat) (ls : List (Option AV)) (st : List AV) (H : HH) (Q : AV → HH → Prop) : Prop := Gp E.1 E.2.1 E.2.2.1 E.2.2.2 xTX xRF xLM d "ThreePointsModel" prog_12_method_23_code 3 (some .int) pc ls st H Q
def c_Model_text (E : XE) (d : Nat)  (H : HH) (Q : Int32 → HH → Prop) : Prop := g_Model_text E d 0 (xent [vr 30 0]) [] H (qi Q)
theorem xm_Model_text : xM ⟨"ThreePointsModel", "text", "()I"⟩ prog_12_method_23_code 3 (some .int) 0 := ⟨kw_982, kw_83, by decide +kernel, by decide +kernel, by decide⟩
abbrev g_Model_count (E : XE) (d pc : Nat) (ls : List (Option AV)) (st : List AV) (H : HH) (Q : AV → HH → Prop) : Prop := Gp E.1 E.2.1 E.2.2.1 E.2.2.2 xTX xRF xLM d "ThreePointsModel" prog_12_method_8_code 2 (some .int) pc ls st H Q
def c_Model_count (E : XE) (d : Nat) (x1 : Int32) (H : HH) (Q : Int32 → HH → Prop) : Prop := g_Model_count E d 0 (xent [vr 30 0, vi x1]) [] H (qi Q)
theorem xm_Model_count : xM ⟨"ThreePointsModel", "count", "(I)I"⟩ prog_12_method_8_code 2 (some .int) 1 := ⟨kw_1147, kw_83, by decide +kernel, by decide +kernel, by decide⟩
abbrev g_Model_isPlace (E : XE) (d pc : Nat) (ls : List (Option AV)) (st : List AV) (H : HH) (Q : AV → HH → Prop) : Prop := Gp E.1 E.2.1 E.2.2.1 E.2.2.2 xTX xRF xLM d "ThreePointsModel" prog_12_method_6_code 2 (some .boolean) pc ls st H Q
def c_Model_isPlace (E : XE) (d : Nat) (x1 : Int32) (H : HH) (Q : Int32 → HH → Prop) : Prop := g_Model_isPlace E d 0 (xent [vr 30 0, vi x1]) [] H (qi Q)
theorem xm_Model_isPlace : xM ⟨"ThreePointsModel", "isPlace", "(I)Z"⟩ prog_12_method_6_code 2 (some .boolean) 1 := ⟨kw_1159, kw_83, by decide +kernel, by decide +kernel, by decide⟩
abbrev g_Model_frontOf (E : XE) (d pc : Nat) (ls : List (Option AV)) (st : List AV) (H : HH) (Q : AV → HH → Prop) : Prop := Gp E.1 E.2.1 E.2.2.1 E.2.2.2 xTX xRF xLM d "ThreePointsModel" prog_12_method_29_code 2 (some .int) pc ls st H Q
def c_Model_frontOf (E : XE) (d : Nat) (x1 : Int32) (H : HH) (Q : Int32 → HH → Prop) : Prop := g_Model_frontOf E d 0 (xent [vr 30 0, vi x1]) [] H (qi Q)
theorem xm_Model_frontOf : xM ⟨"ThreePointsModel", "frontOf", "(I)I"⟩ prog_12_method_29_code 2 (some .int) 1 := ⟨kw_1167, kw_83, by decide +kernel, by decide +kernel, by decide⟩
abbrev g_Model_backOf (E : XE) (d pc : Nat) (ls : List (Option AV)) (st : List AV) (H : HH) (Q : AV → HH → Prop) : Prop := Gp E.1 E.2.1 E.2.2.1 E.2.2.2 xTX xRF xLM d "ThreePointsModel" prog_12_method_30_code 2 (some .int) pc ls st H Q
def c_Model_backOf (E : XE) (d : Nat) (x1 : Int32) (H : HH) (Q : Int32 → HH → Prop) : Prop := g_Model_backOf E d 0 (xent [vr 30 0, vi x1]) [] H (qi Q)
theorem xm_Model_backOf : xM ⟨"ThreePointsModel", "backOf", "(I)I"⟩ prog_12_method_30_code 2 (some .int) 1 := ⟨kw_1171, kw_83, by decide +kernel, by decide +kernel, by decide⟩
abbrev g_Model_two (E : XE) (d pc : Nat) (ls : List (Option AV)) (st : List AV) (H : HH) (Q : AV → HH → Prop) : Prop := Gp E.1 E.2.1 E.2.2.1 E.2.2.2 xTX xRF xLM d "ThreePointsModel" prog_12_method_24_code 3 (some .int) pc ls st H Q
def c_Model_two (E : XE) (d : Nat) (x0 : Int32) (x1 : Int32) (x2 : Int32) (H : HH) (Q : Int32 → HH → Prop) : Prop := g_Model_two E d 0 (xent [vi x0, vi x1, vi x2]) [] H (qi Q)
theorem xm_Model_two : xM ⟨"ThreePointsModel", "two", "(III)I"⟩ prog_12_method_24_code 3 (some .int) 3 := ⟨kw_1182, kw_83, by decide +kernel, by decide +kernel, by decide⟩
abbrev g_Model_says (E : XE) (d pc : Nat) (ls : List (Option AV)) (st : List AV) (H : HH) (Q : AV → HH → Prop) : Prop := Gp E.1 E.2.1 E.2.2.1 E.2.2.2 xTX xRF xLM d "ThreePointsModel" prog_12_method_25_code 5 (some .int) pc ls st H Q
def c_Model_says (E : XE) (d : Nat) (x1 : Int32) (H : HH) (Q : Int32 → HH → Prop) : Prop := g_Model_says E d 0 (xent [vr 30 0, vi x1]) [] H (qi Q)
theorem xm_Model_says : xM ⟨"ThreePointsModel", "says", "(I)I"⟩ prog_12_method_25_code 5 (some .int) 1 := ⟨kw_1179, kw_83, by decide +kernel, by decide +kernel, by decide⟩
abbrev g_Model_within (E : XE) (d pc : Nat) (ls : List (Option AV)) (st : List AV) (H : HH) (Q : AV → HH → Prop) : Prop := Gp E.1 E.2.1 E.2.2.1 E.2.2.2 xTX xRF xLM d "ThreePointsModel" prog_12_method_4_code 3 (some .int) pc ls st H Q
def c_Model_within (E : XE) (d : Nat) (x0 : Int32) (x1 : Int32) (x2 : Int32) (H : HH) (Q : Int32 → HH → Prop) : Prop := g_Model_within E d 0 (xent [vi x0, vi x1, vi x2]) [] H (qi Q)
theorem xm_Model_within : xM ⟨"ThreePointsModel", "within", "(III)I"⟩ prog_12_method_4_code 3 (some .int) 3 := ⟨kw_1185, kw_83, by decide +kernel, by decide +kernel, by decide⟩
abbrev g_Model_asksOf (E : XE) (d pc : Nat) (ls : List (Option AV)) (st : List AV) (H : HH) (Q : AV → HH → Prop) : Prop := Gp E.1 E.2.1 E.2.2.1 E.2.2.2 xTX xRF xLM d "ThreePointsModel" prog_12_method_27_code 7 (some .int) pc ls st H Q
def c_Model_asksOf (E : XE) (d : Nat) (x1 : Int32) (x2 : Int32) (x3 : Int32) (x4 : Int32) (x5 : Int32) (x6 : Int32) (H : HH) (Q : Int32 → HH → Prop) : Prop := g_Model_asksOf E d 0 (xent [vr 30 0, vi x1, vi x2, vi x3, vi x4, vi x5, vi x6]) [] H (qi Q)
theorem xm_Model_asksOf : xM ⟨"ThreePointsModel", "asksOf", "(IIIIII)I"⟩ prog_12_method_27_code 7 (some .int) 6 := ⟨kw_1175, kw_83, by decide +kernel, by decide +kernel, by decide⟩
abbrev g_Model_fitsAt (E : XE) (d pc : Nat) (ls : List (Option AV)) (st : List AV) (H : HH) (Q : AV → HH → Prop) : Prop := Gp E.1 E.2.1 E.2.2.1 E.2.2.2 xTX xRF xLM d "ThreePointsModel" prog_12_method_32_code 9 (some .boolean) pc ls st H Q
def c_Model_fitsAt (E : XE) (d : Nat) (x1 : Int32) (x2 : Int32) (x3 : Int32) (H : HH) (Q : Int32 → HH → Prop) : Prop := g_Model_fitsAt E d 0 (xent [vr 30 0, vi x1, vi x2, vi x3]) [] H (qi Q)
theorem xm_Model_fitsAt : xM ⟨"ThreePointsModel", "fitsAt", "(III)Z"⟩ prog_12_method_32_code 9 (some .boolean) 3 := ⟨kw_1163, kw_83, by decide +kernel, by decide +kernel, by decide⟩
abbrev g_Model_doAllFit (E : XE) (d pc : Nat) (ls : List (Option AV)) (st : List AV) (H : HH) (Q : AV → HH → Prop) : Prop := Gp E.1 E.2.1 E.2.2.1 E.2.2.2 xTX xRF xLM d "ThreePointsModel" prog_12_method_9_code 3 (some .boolean) pc ls st H Q
def c_Model_doAllFit (E : XE) (d : Nat)  (H : HH) (Q : Int32 → HH → Prop) : Prop := g_Model_doAllFit E d 0 (xent [vr 30 0]) [] H (qi Q)
theorem xm_Model_doAllFit : xM ⟨"ThreePointsModel", "doAllFit", "()Z"⟩ prog_12_method_9_code 3 (some .boolean) 0 := ⟨kw_1155, kw_83, by decide +kernel, by decide +kernel, by decide⟩
abbrev g_Model_set (E : XE) (d pc : Nat) (ls : List (Option AV)) (st : List AV) (H : HH) (Q : AV → HH → Prop) : Prop := Gp E.1 E.2.1 E.2.2.1 E.2.2.2 xTX xRF xLM d "ThreePointsModel" prog_12_method_10_code 5 (some .int) pc ls st H Q
def c_Model_set (E : XE) (d : Nat) (x1 : Int32) (x2 : Int32) (H : HH) (Q : Int32 → HH → Prop) : Prop := g_Model_set E d 0 (xent [vr 30 0, vi x1, vi x2]) [] H (qi Q)
theorem xm_Model_set : xM ⟨"ThreePointsModel", "set", "(II)I"⟩ prog_12_method_10_code 5 (some .int) 2 := ⟨kw_1151, kw_83, by decide +kernel, by decide +kernel, by decide⟩
abbrev g_Model_isByte (E : XE) (d pc : Nat) (ls : List (Option AV)) (st : List AV) (H : HH) (Q : AV → HH → Prop) : Prop := Gp E.1 E.2.1 E.2.2.1 E.2.2.2 xTX xRF xLM d "ThreePointsModel" prog_12_method_11_code 1 (some .boolean) pc ls st H Q
def c_Model_isByte (E : XE) (d : Nat) (x0 : Int32) (H : HH) (Q : Int32 → HH → Prop) : Prop := g_Model_isByte E d 0 (xent [vi x0]) [] H (qi Q)
theorem xm_Model_isByte : xM ⟨"ThreePointsModel", "isByte", "(I)Z"⟩ prog_12_method_11_code 1 (some .boolean) 1 := ⟨kw_1192, kw_83, by decide +kernel, by decide +kernel, by decide⟩
abbrev g_Model_feed (E : XE) (d pc : Nat) (ls : List (Option AV)) (st : List AV) (H : HH) (Q : AV → HH → Prop) : Prop := Gp E.1 E.2.1 E.2.2.1 E.2.2.2 xTX xRF xLM d "ThreePointsModel" prog_12_method_12_code 8 (some .int) pc ls st H Q
def c_Model_feed (E : XE) (d : Nat) (x1 : Int32) (x2 : Int32) (x3 : Int32) (x4 : Int32) (x5 : Int32) (x6 : Int32) (H : HH) (Q : Int32 → HH → Prop) : Prop := g_Model_feed E d 0 (xent [vr 30 0, vi x1, vi x2, vi x3, vi x4, vi x5, vi x6]) [] H (qi Q)
theorem xm_Model_feed : xM ⟨"ThreePointsModel", "feed", "(IIIIII)I"⟩ prog_12_method_12_code 8 (some .int) 6 := ⟨kw_1189, kw_83, by decide +kernel, by decide +kernel, by decide⟩
abbrev g_Model_force (E : XE) (d pc : Nat) (ls : List (Option AV)) (st : List AV) (H : HH) (Q : AV → HH → Prop) : Prop := Gp E.1 E.2.1 E.2.2.1 E.2.2.2 xTX xRF xLM d "ThreePointsModel" prog_12_method_26_code 3 (some .int) pc ls st H Q
def c_Model_force (E : XE) (d : Nat) (x1 : Int32) (H : HH) (Q : Int32 → HH → Prop) : Prop := g_Model_force E d 0 (xent [vr 30 0, vi x1]) [] H (qi Q)
theorem xm_Model_force : xM ⟨"ThreePointsModel", "force", "(I)I"⟩ prog_12_method_26_code 3 (some .int) 1 := ⟨kw_1197, kw_83, by decide +kernel, by decide +kernel, by decide⟩
abbrev g_Model_isVehicle (E : XE) (d pc : Nat) (ls : List (Option AV)) (st : List AV) (H : HH) (Q : AV → HH → Prop) : Prop := Gp E.1 E.2.1 E.2.2.1 E.2.2.2 xTX xRF xLM d "ThreePointsModel" prog_12_method_5_code 2 (some .boolean) pc ls st H Q
def c_Model_isVehicle (E : XE) (d : Nat) (x1 : Int32) (H : HH) (Q : Int32 → HH → Prop) : Prop := g_Model_isVehicle E d 0 (xent [vr 30 0, vi x1]) [] H (qi Q)
theorem xm_Model_isVehicle : xM ⟨"ThreePointsModel", "isVehicle", "(I)Z"⟩ prog_12_method_5_code 2 (some .boolean) 1 := ⟨kw_1205, kw_83, by decide +kernel, by decide +kernel, by decide⟩
abbrev g_Model_isBoth (E : XE) (d pc : Nat) (ls : List (Option AV)) (st : List AV) (H : HH) (Q : AV → HH → Prop) : Prop := Gp E.1 E.2.1 E.2.2.1 E.2.2.2 xTX xRF xLM d "ThreePointsModel" prog_12_method_7_code 2 (some .boolean) pc ls st H Q
def c_Model_isBoth (E : XE) (d : Nat) (x1 : Int32) (H : HH) (Q : Int32 → HH → Prop) : Prop := g_Model_isBoth E d 0 (xent [vr 30 0, vi x1]) [] H (qi Q)
theorem xm_Model_isBoth : xM ⟨"ThreePointsModel", "isBoth", "(I)Z"⟩ prog_12_method_7_code 2 (some .boolean) 1 := ⟨kw_1209, kw_83, by decide +kernel, by decide +kernel, by decide⟩
abbrev g_Model_asks (E : XE) (d pc : Nat) (ls : List (Option AV)) (st : List AV) (H : HH) (Q : AV → HH → Prop) : Prop := Gp E.1 E.2.1 E.2.2.1 E.2.2.2 xTX xRF xLM d "ThreePointsModel" prog_12_method_28_code 6 (some .int) pc ls st H Q
def c_Model_asks (E : XE) (d : Nat) (x1 : Int32) (x2 : Int32) (x3 : Int32) (x4 : Int32) (H : HH) (Q : Int32 → HH → Prop) : Prop := g_Model_asks E d 0 (xent [vr 30 0, vi x1, vi x2, vi x3, vi x4]) [] H (qi Q)
theorem xm_Model_asks : xM ⟨"ThreePointsModel", "asks", "(IIII)I"⟩ prog_12_method_28_code 6 (some .int) 4 := ⟨kw_1201, kw_83, by decide +kernel, by decide +kernel, by decide⟩
abbrev g_Model_placeBy (E : XE) (d pc : Nat) (ls : List (Option AV)) (st : List AV) (H : HH) (Q : AV → HH → Prop) : Prop := Gp E.1 E.2.1 E.2.2.1 E.2.2.2 xTX xRF xLM d "ThreePointsModel" prog_12_method_36_code 4 (some .int) pc ls st H Q
def c_Model_placeBy (E : XE) (d : Nat) (x1 : Int32) (x2 : Int32) (x3 : Int32) (H : HH) (Q : Int32 → HH → Prop) : Prop := g_Model_placeBy E d 0 (xent [vr 30 0, vi x1, vi x2, vi x3]) [] H (qi Q)
theorem xm_Model_placeBy : xM ⟨"ThreePointsModel", "placeBy", "(III)I"⟩ prog_12_method_36_code 4 (some .int) 3 := ⟨kw_1233, kw_83, by decide +kernel, by decide +kernel, by decide⟩
abbrev g_Model_turnsOf (E : XE) (d pc : Nat) (ls : List (Option AV)) (st : List AV) (H : HH) (Q : AV → HH → Prop) : Prop := Gp E.1 E.2.1 E.2.2.1 E.2.2.2 xTX xRF xLM d "ThreePointsModel" prog_12_method_31_code 5 (some .int) pc ls st H Q
def c_Model_turnsOf (E : XE) (d : Nat) (x1 : Int32) (x2 : Int32) (x3 : Int32) (H : HH) (Q : Int32 → HH → Prop) : Prop := g_Model_turnsOf E d 0 (xent [vr 30 0, vi x1, vi x2, vi x3]) [] H (qi Q)
theorem xm_Model_turnsOf : xM ⟨"ThreePointsModel", "turnsOf", "(III)I"⟩ prog_12_method_31_code 5 (some .int) 3 := ⟨kw_1241, kw_83, by decide +kernel, by decide +kernel, by decide⟩
abbrev g_Model_headingBy (E : XE) (d pc : Nat) (ls : List (Option AV)) (st : List AV) (H : HH) (Q : AV → HH → Prop) : Prop := Gp E.1 E.2.1 E.2.2.1 E.2.2.2 xTX xRF xLM d "ThreePointsModel" prog_12_method_37_code 5 (some .int) pc ls st H Q
def c_Model_headingBy (E : XE) (d : Nat) (x1 : Int32) (x2 : Int32) (x3 : Int32) (x4 : Int32) (H : HH) (Q : Int32 → HH → Prop) : Prop := g_Model_headingBy E d 0 (xent [vr 30 0, vi x1, vi x2, vi x3, vi x4]) [] H (qi Q)
theorem xm_Model_headingBy : xM ⟨"ThreePointsModel", "headingBy", "(IIII)I"⟩ prog_12_method_37_code 5 (some .int) 4 := ⟨kw_1237, kw_83, by decide +kernel, by decide +kernel, by decide⟩
abbrev g_Model_canGo (E : XE) (d pc : Nat) (ls : List (Option AV)) (st : List AV) (H : HH) (Q : AV → HH → Prop) : Prop := Gp E.1 E.2.1 E.2.2.1 E.2.2.2 xTX xRF xLM d "ThreePointsModel" prog_12_method_38_code 5 (some .boolean) pc ls st H Q
def c_Model_canGo (E : XE) (d : Nat) (x1 : Int32) (x2 : Int32) (x3 : Int32) (H : HH) (Q : Int32 → HH → Prop) : Prop := g_Model_canGo E d 0 (xent [vr 30 0, vi x1, vi x2, vi x3]) [] H (qi Q)
theorem xm_Model_canGo : xM ⟨"ThreePointsModel", "canGo", "(III)Z"⟩ prog_12_method_38_code 5 (some .boolean) 3 := ⟨kw_1229, kw_83, by decide +kernel, by decide +kernel, by decide⟩
abbrev g_Model_goes (E : XE) (d pc : Nat) (ls : List (Option AV)) (st : List AV) (H : HH) (Q : AV → HH → Prop) : Prop := Gp E.1 E.2.1 E.2.2.1 E.2.2.2 xTX xRF xLM d "ThreePointsModel" prog_12_method_39_code 6 none pc ls st H Q
def c_Model_goes (E : XE) (d : Nat) (x1 : Int32) (x2 : Int32) (x3 : Int32) (H : HH) (Q : HH → Prop) : Prop := g_Model_goes E d 0 (xent [vr 30 0, vi x1, vi x2, vi x3]) [] H (qv Q)
theorem xm_Model_goes : xM ⟨"ThreePointsModel", "goes", "(III)V"⟩ prog_12_method_39_code 6 none 3 := ⟨kw_1245, kw_83, by decide +kernel, by decide +kernel, by decide⟩
def p_Model_in (E : XE) (d : Nat) (x0 : Int32) (x1 : Int32) (x2 : Int32) (H : HH) (Q : Int32 → HH → Prop) : Prop := ((if x0 < x1 then 0 else (if x2 < x0 then 0 else 1 : Int32) : Int32) = 0 ∨ (if x0 < x1 then 0 else (if x2 < x0 then 0 else 1 : Int32) : Int32) = 1) ∧ Q (if x0 < x1 then 0 else (if x2 < x0 then 0 else 1 : Int32) : Int32) H
set_option maxHeartbeats 4000000 in
theorem l_Model_in {E : XE} {d : Nat} {x0 : Int32} {x1 : Int32} {x2 : Int32} {H : HH} {Q : Int32 → HH → Prop} (h : p_Model_in E d x0 x1 x2 H Q) : c_Model_in E d x0 x1 x2 H Q := by
  show g_Model_in E d 0 (xent [vi x0, vi x1, vi x2]) [] H (qi Q)
  refine g_drop (ls2 := [some (vi x0), some (vi x1), some (vi x2)]) (And.intro rfl (And.intro rfl (And.intro rfl trivial))) ?_
  refine g_iload_n (q := 0) (i := 0) (by decide +kernel) rfl rfl ?_
  refine g_iload_n (q := 1) (i := 1) (by decide +kernel) rfl rfl ?_
  suffices hj2 : g_Model_in E d 15 [some (vi x0), some (vi x1), some (vi x2)] [vi (if x0 < x1 then 0 else (if x2 < x0 then 0 else 1 : Int32) : Int32)] H (qi Q) by
    refine g_icmp_lt (off := 12) (tgt := 14) (by decide +kernel) (by decide) (fun c => ?_) (fun c => ?_)
    · rw [if_pos c] at hj2
      refine g_iconst (n := 0) (v := 0) (by decide +kernel) (by decide) ?_
      exact hj2
    · rw [if_neg c] at hj2
      refine g_iload_n (q := 0) (i := 0) (by decide +kernel) rfl rfl ?_
      refine g_iload_n (q := 2) (i := 2) (by decide +kernel) rfl rfl ?_
      suffices hj1 : g_Model_in E d 15 [some (vi x0), some (vi x1), some (vi x2)] [vi (if x2 < x0 then 0 else 1 : Int32)] H (qi Q) by
        refine g_icmp_gt (off := 7) (tgt := 14) (by decide +kernel) (by decide) (fun c => ?_) (fun c => ?_)
        · rw [if_pos c] at hj1
          refine g_iconst (n := 0) (v := 0) (by decide +kernel) (by decide) ?_
          exact hj1
        · rw [if_neg c] at hj1
          refine g_iconst (n := 1) (v := 1) (by decide +kernel) (by decide) ?_
          refine g_goto (off := 4) (tgt := 15) (by decide +kernel) (by decide) ?_
          exact hj1
      exact hj2
  obtain ⟨h01, h⟩ := h
  exact g_zret (by decide +kernel) rfl (nbool h01) ⟨_, rfl, h⟩
def p_Model_wordFrom (E : XE) (d : Nat) (x1 : Int32) (x2 : Int32) (H : HH) (Q : Int32 → HH → Prop) : Prop := ∃ (I1 : Int32 → HH → Prop) (μ1 : Int32 → HH → Nat), I1 0 H ∧ ∀ (z2 : Int32) (H3 : HH), I1 z2 H3 → ((12 ≤ z2 → (Q 12 H3)) ∧ (¬ 12 ≤ z2 → (∀ v5 : Int32, v5 = (if 8 < (x2 - x1) then 0 else 1 : Int32) → (∃ (I6 : Int32 → Int32 → HH → Prop) (μ6 : Int32 → Int32 → HH → Nat), I6 v5 0 H3 ∧ ∀ (z7 : Int32) (z8 : Int32) (H9 : HH), I6 z7 z8 H9 → ((8 ≤ z8 → ((z7 = 0 → (I1 (z2 + 1) H9 ∧ μ1 (z2 + 1) H9 < μ1 z2 H3)) ∧ (¬ z7 = 0 → (Q z2 H9)))) ∧ (¬ 8 ≤ z8 → ((z7 = 0 → ((z7 = 0 → (I1 (z2 + 1) H9 ∧ μ1 (z2 + 1) H9 < μ1 z2 H3)) ∧ (¬ z7 = 0 → (Q z2 H9)))) ∧ (¬ z7 = 0 → (vp_in ((8 * z2) + z8) 96 ∧ ((x2 ≤ (x1 + z8) → (∀ v11 : Int32, v11 = (if (H9 44 0 (((8 * z2) + z8).toNatClampNeg)) = 32 then 1 else 0 : Int32) → (I6 v11 (z8 + 1) H9 ∧ μ6 v11 (z8 + 1) H9 < μ6 z7 z8 H9))) ∧ (¬ x2 ≤ (x1 + z8) → (vp_in (x1 + z8) 160 ∧ (∀ v13 : Int32, v13 = (if (H9 44 0 (((8 * z2) + z8).toNatClampNeg)) = (H9 35 0 ((x1 + z8).toNatClampNeg)) then 1 else 0 : Int32) → (I6 v13 (z8 + 1) H9 ∧ μ6 v13 (z8 + 1) H9 < μ6 z7 z8 H9))))))))))))))
set_option maxHeartbeats 4000000 in
theorem l_Model_wordFrom {E : XE} {d : Nat} {x1 : Int32} {x2 : Int32} {H : HH} {Q : Int32 → HH → Prop} (h : p_Model_wordFrom E d x1 x2 H Q) : c_Model_wordFrom E d x1 x2 H Q := by
  show g_Model_wordFrom E d 0 (xent [vr 30 0, vi x1, vi x2]) [] H (qi Q)
  refine g_drop (ls2 := [some (vr 30 0), some (vi x1), some (vi x2), none, none, none]) (And.intro rfl (And.intro rfl (And.intro rfl trivial))) ?_
  refine g_iconst (n := 0) (v := 0) (by decide +kernel) (by decide) ?_
  refine g_istore_n (q := 3) (i := 3) (ls2 := [some (vr 30 0), some (vi x1), some (vi x2), some (vi 0), none, none]) (by decide +kernel) rfl (by decide) rfl rfl ?_
  refine g_drop (ls2 := [some (vr 30 0), some (vi x1), some (vi x2), some (vi 0), none, none]) (And.intro rfl (And.intro rfl (And.intro rfl (And.intro rfl trivial)))) ?_
  obtain ⟨I1, μ1, h0, h⟩ := h
  refine xloop (σ := Int32) (fun s H => I1 s H) (fun s H => μ1 s H) (fun s H => g_Model_wordFrom E d 2 [some (vr 30 0), some (vi x1), some (vi x2), some (vi s), none, none] [] H (qi Q)) (fun s H3 hI ih1 => ?_) 0 H h0
  obtain ⟨z2, es⟩ : ∃ z, z = s := ⟨s, rfl⟩
  subst es
  replace h := h z2 H3 hI
  refine g_iload_n (q := 3) (i := 3) (by decide +kernel) rfl rfl ?_
  refine g_bipush (n := 12) (v := 12) (by decide +kernel) (by decide) ?_
  refine g_icmp_ge (off := 96) (tgt := 101) (by decide +kernel) (by decide) (fun c => ?_) (fun c => ?_)
  · replace h := h.1 c
    refine g_bipush (n := 12) (v := 12) (by decide +kernel) (by decide) ?_
    exact g_iret (by decide +kernel) rfl ⟨_, rfl, h⟩
  · replace h := h.2 c
    refine g_iload_n (q := 2) (i := 2) (by decide +kernel) rfl rfl ?_
    refine g_iload_n (q := 1) (i := 1) (by decide +kernel) rfl rfl ?_
    refine g_isub (by decide +kernel) ?_
    refine g_bipush (n := 8) (v := 8) (by decide +kernel) (by decide) ?_
    suffices hj4 : g_Model_wordFrom E d 21 [some (vr 30 0), some (vi x1), some (vi x2), some (vi z2), none, none] [vi (if 8 < (x2 - x1) then 0 else 1 : Int32)] H3 (qi Q) by
      refine g_icmp_gt (off := 7) (tgt := 20) (by decide +kernel) (by decide) (fun c => ?_) (fun c => ?_)
      · rw [if_pos c] at hj4
        refine g_iconst (n := 0) (v := 0) (by decide +kernel) (by decide) ?_
        exact hj4
      · rw [if_neg c] at hj4
        refine g_iconst (n := 1) (v := 1) (by decide +kernel) (by decide) ?_
        refine g_goto (off := 4) (tgt := 21) (by decide +kernel) (by decide) ?_
        exact hj4
    refine g_topi (fun v5 ev5 => ?_)
    replace h := h v5 ev5
    refine g_istore (i := 4) (ls2 := [some (vr 30 0), some (vi x1), some (vi x2), some (vi z2), some (vi v5), none]) (by decide +kernel) (by decide) rfl rfl ?_
    refine g_iconst (n := 0) (v := 0) (by decide +kernel) (by decide) ?_
    refine g_istore (i := 5) (ls2 := [some (vr 30 0), some (vi x1), some (vi x2), some (vi z2), some (vi v5), some (vi 0)]) (by decide +kernel) (by decide) rfl rfl ?_
    refine g_drop (ls2 := [some (vr 30 0), some (vi x1), some (vi x2), some (vi z2), some (vi v5), some (vi 0)]) (And.intro rfl (And.intro rfl (And.intro rfl (And.intro rfl (And.intro rfl (And.intro rfl trivial)))))) ?_
    obtain ⟨I6, μ6, h0, h⟩ := h
    refine xloop (σ := Int32 × Int32) (fun s H => I6 s.1 s.2 H) (fun s H => μ6 s.1 s.2 H) (fun s H => g_Model_wordFrom E d 26 [some (vr 30 0), some (vi x1), some (vi x2), some (vi z2), some (vi s.1), some (vi s.2)] [] H (qi Q)) (fun s H9 hI ih6 => ?_) (v5, 0) H3 h0
    obtain ⟨z7, z8⟩ := s
    replace h := h z7 z8 H9 hI
    refine g_iload (i := 5) (by decide +kernel) rfl ?_
    refine g_bipush (n := 8) (v := 8) (by decide +kernel) (by decide) ?_
    refine g_icmp_ge (off := 58) (tgt := 88) (by decide +kernel) (by decide) (fun c => ?_) (fun c => ?_)
    · replace h := h.1 c
      refine g_iload (i := 4) (by decide +kernel) rfl ?_
      refine g_if_eq (off := 5) (tgt := 95) (by decide +kernel) (by decide) (fun c => ?_) (fun c => ?_)
      · replace h := h.1 c
        refine g_iinc (i := 3) (n := 1) (v := (z2 + 1)) (ls2 := [some (vr 30 0), some (vi x1), some (vi x2), some (vi (z2 + 1)), some (vi z7), some (vi z8)]) (by decide +kernel) rfl rfl (by decide) rfl rfl ?_
        refine g_goto (off := (-96)) (tgt := 2) (by decide +kernel) (by decide) ?_
        obtain ⟨hI, hlt⟩ := h
        exact g_drop (ls2 := [some (vr 30 0), some (vi x1), some (vi x2), some (vi (z2 + 1)), none, none]) (And.intro rfl (And.intro rfl (And.intro rfl (And.intro rfl trivial)))) (ih1 (z2 + 1) H9 hI hlt)
      · replace h := h.2 c
        refine g_iload_n (q := 3) (i := 3) (by decide +kernel) rfl rfl ?_
        exact g_iret (by decide +kernel) rfl ⟨_, rfl, h⟩
    · replace h := h.2 c
      refine g_iload (i := 4) (by decide +kernel) rfl ?_
      refine g_if_eq (off := 53) (tgt := 88) (by decide +kernel) (by decide) (fun c => ?_) (fun c => ?_)
      · replace h := h.1 c
        refine g_iload (i := 4) (by decide +kernel) rfl ?_
        refine g_if_eq (off := 5) (tgt := 95) (by decide +kernel) (by decide) (fun c => ?_) (fun c => ?_)
        · replace h := h.1 c
          refine g_iinc (i := 3) (n := 1) (v := (z2 + 1)) (ls2 := [some (vr 30 0), some (vi x1), some (vi x2), some (vi (z2 + 1)), some (vi z7), some (vi z8)]) (by decide +kernel) rfl rfl (by decide) rfl rfl ?_
          refine g_goto (off := (-96)) (tgt := 2) (by decide +kernel) (by decide) ?_
          obtain ⟨hI, hlt⟩ := h
          exact g_drop (ls2 := [some (vr 30 0), some (vi x1), some (vi x2), some (vi (z2 + 1)), none, none]) (And.intro rfl (And.intro rfl (And.intro rfl (And.intro rfl trivial)))) (ih1 (z2 + 1) H9 hI hlt)
        · replace h := h.2 c
          refine g_iload_n (q := 3) (i := 3) (by decide +kernel) rfl rfl ?_
          exact g_iret (by decide +kernel) rfl ⟨_, rfl, h⟩
      · replace h := h.2 c
        refine g_aload_n (q := 0) (i := 0) (by decide +kernel) rfl rfl ?_
        refine g_get (C := "ThreePointsModel") (T := xT_Model) (N := 39) (ci := 10) (k := 24) (v := vr 44 0) (by decide +kernel) (by decide) rfl rfl xi_Model (by decide) kw_1050 rfl ?_
        refine g_bipush (n := 8) (v := 8) (by decide +kernel) (by decide) ?_
        refine g_iload_n (q := 3) (i := 3) (by decide +kernel) rfl rfl ?_
        refine g_imul (by decide +kernel) ?_
        refine g_iload (i := 5) (by decide +kernel) rfl ?_
        refine g_iadd (by decide +kernel) ?_
        obtain ⟨hin, h⟩ := h
        refine g_iald (by decide +kernel) (by decide) rfl hin ?_
        refine g_iload_n (q := 1) (i := 1) (by decide +kernel) rfl rfl ?_
        refine g_iload (i := 5) (by decide +kernel) rfl ?_
        refine g_iadd (by decide +kernel) ?_
        refine g_iload_n (q := 2) (i := 2) (by decide +kernel) rfl rfl ?_
        refine g_icmp_ge (off := 15) (tgt := 70) (by decide +kernel) (by decide) (fun c => ?_) (fun c => ?_)
        · replace h := h.1 c
          refine g_bipush (n := 32) (v := 32) (by decide +kernel) (by decide) ?_
          suffices hj10 : g_Model_wordFrom E d 80 [some (vr 30 0), some (vi x1), some (vi x2), some (vi z2), some (vi z7), some (vi z8)] [vi (if (H9 44 0 (((8 * z2) + z8).toNatClampNeg)) = 32 then 1 else 0 : Int32)] H9 (qi Q) by
            refine g_icmp_ne (off := 7) (tgt := 79) (by decide +kernel) (by decide) (fun c => ?_) (fun c => ?_)
            · rw [if_neg c] at hj10
              refine g_iconst (n := 0) (v := 0) (by decide +kernel) (by decide) ?_
              exact hj10
            · rw [if_pos c] at hj10
              refine g_iconst (n := 1) (v := 1) (by decide +kernel) (by decide) ?_
              refine g_goto (off := 4) (tgt := 80) (by decide +kernel) (by decide) ?_
              exact hj10
          refine g_topi (fun v11 ev11 => ?_)
          replace h := h v11 ev11
          refine g_istore (i := 4) (ls2 := [some (vr 30 0), some (vi x1), some (vi x2), some (vi z2), some (vi v11), some (vi z8)]) (by decide +kernel) (by decide) rfl rfl ?_
          refine g_iinc (i := 5) (n := 1) (v := (z8 + 1)) (ls2 := [some (vr 30 0), some (vi x1), some (vi x2), some (vi z2), some (vi v11), some (vi (z8 + 1))]) (by decide +kernel) rfl rfl (by decide) rfl rfl ?_
          refine g_goto (off := (-59)) (tgt := 26) (by decide +kernel) (by decide) ?_
          obtain ⟨hI, hlt⟩ := h
          exact g_drop (ls2 := [some (vr 30 0), some (vi x1), some (vi x2), some (vi z2), some (vi v11), some (vi (z8 + 1))]) (And.intro rfl (And.intro rfl (And.intro rfl (And.intro rfl (And.intro rfl (And.intro rfl trivial)))))) (ih6 (v11, (z8 + 1)) H9 hI hlt)
        · replace h := h.2 c
          refine g_aload_n (q := 0) (i := 0) (by decide +kernel) rfl rfl ?_
          refine g_get (C := "ThreePointsModel") (T := xT_Model) (N := 39) (ci := 10) (k := 7) (v := vr 35 0) (by decide +kernel) (by decide) rfl rfl xi_Model (by decide) kw_1033 rfl ?_
          refine g_iload_n (q := 1) (i := 1) (by decide +kernel) rfl rfl ?_
          refine g_iload (i := 5) (by decide +kernel) rfl ?_
          refine g_iadd (by decide +kernel) ?_
          obtain ⟨hin, h⟩ := h
          refine g_iald (by decide +kernel) (by decide) rfl hin ?_
          refine g_goto (off := 5) (tgt := 72) (by decide +kernel) (by decide) ?_
          suffices hj12 : g_Model_wordFrom E d 80 [some (vr 30 0), some (vi x1), some (vi x2), some (vi z2), some (vi z7), some (vi z8)] [vi (if (H9 44 0 (((8 * z2) + z8).toNatClampNeg)) = (H9 35 0 ((x1 + z8).toNatClampNeg)) then 1 else 0 : Int32)] H9 (qi Q) by
            refine g_icmp_ne (off := 7) (tgt := 79) (by decide +kernel) (by decide) (fun c => ?_) (fun c => ?_)
            · rw [if_neg c] at hj12
              refine g_iconst (n := 0) (v := 0) (by decide +kernel) (by decide) ?_
              exact hj12
            · rw [if_pos c] at hj12
              refine g_iconst (n := 1) (v := 1) (by decide +kernel) (by decide) ?_
              refine g_goto (off := 4) (tgt := 80) (by decide +kernel) (by decide) ?_
              exact hj12
          refine g_topi (fun v13 ev13 => ?_)
          replace h := h v13 ev13
          refine g_istore (i := 4) (ls2 := [some (vr 30 0), some (vi x1), some (vi x2), some (vi z2), some (vi v13), some (vi z8)]) (by decide +kernel) (by decide) rfl rfl ?_
          refine g_iinc (i := 5) (n := 1) (v := (z8 + 1)) (ls2 := [some (vr 30 0), some (vi x1), some (vi x2), some (vi z2), some (vi v13), some (vi (z8 + 1))]) (by decide +kernel) rfl rfl (by decide) rfl rfl ?_
          refine g_goto (off := (-59)) (tgt := 26) (by decide +kernel) (by decide) ?_
          obtain ⟨hI, hlt⟩ := h
          exact g_drop (ls2 := [some (vr 30 0), some (vi x1), some (vi x2), some (vi z2), some (vi v13), some (vi (z8 + 1))]) (And.intro rfl (And.intro rfl (And.intro rfl (And.intro rfl (And.intro rfl (And.intro rfl trivial)))))) (ih6 (v13, (z8 + 1)) H9 hI hlt)
def p_Model_next (E : XE) (d : Nat)  (H : HH) (Q : HH → Prop) : Prop := ∃ (I1 : HH → Prop) (μ1 : HH → Nat), I1  H ∧ ∀  (H2 : HH), I1  H2 → (∃ J3 : HH → Prop, (((H2 30 0 8) ≤ (H2 30 0 20) → (J3  H2)) ∧ (¬ (H2 30 0 8) ≤ (H2 30 0 20) → (vp_in (H2 30 0 20) 160 ∧ (((H2 35 0 ((H2 30 0 20).toNatClampNeg)) = 32 → (∀ H50 : HH, H50 = (hu H2 30 0 20 ((H2 30 0 20) + 1)) → (I1  H50 ∧ μ1  H50 < μ1  H2))) ∧ (¬ (H2 35 0 ((H2 30 0 20).toNatClampNeg)) = 32 → (vp_in (H2 30 0 20) 160 ∧ ((¬ (H2 35 0 ((H2 30 0 20).toNatClampNeg)) = 10 → (J3  H2)) ∧ ((H2 35 0 ((H2 30 0 20).toNatClampNeg)) = 10 → (∀ H51 : HH, H51 = (hu H2 30 0 20 ((H2 30 0 20) + 1)) → (I1  H51 ∧ μ1  H51 < μ1  H2)))))))))) ∧ ∀  (H4 : HH), J3  H4 → (∀ H5 : HH, H5 = (hu (hu (hu H4 30 0 21 (H4 30 0 20)) 30 0 22 0) 30 0 23 0) → ((¬ (H5 30 0 20) = (H5 30 0 8) → (vp_in (H5 30 0 20) 160 ∧ (∀ v6 : Int32, v6 = (H5 35 0 ((H5 30 0 20).toNatClampNeg)) → (c_Model_in E d v6 97 122 H5 (fun r8 H7 => (r8 = 0 → (c_Model_in E d v6 48 57 H7 (fun r10 H9 => (r10 = 0 → (∀ v19 : Int32, v19 = (if v6 = 40 then 1 else (if v6 = 41 then 1 else (if v6 = 59 then 1 else (if v6 = 43 then 1 else (if v6 = 45 then 1 else (if v6 = 42 then 1 else (if v6 = 60 then 1 else (if v6 = 61 then 1 else 0 : Int32) : Int32) : Int32) : Int32) : Int32) : Int32) : Int32) : Int32) → (∀ H21 : HH, H21 = (hu H9 30 0 22 (if v19 = 0 then (-1) else v6 : Int32)) → (∀ H22 : HH, H22 = (hu H21 30 0 20 ((H21 30 0 20) + 1)) → (Q H22))))) ∧ (¬ r10 = 0 → (∃ (I23 : Int32 → HH → Prop) (μ23 : Int32 → HH → Nat), I23 0 H9 ∧ ∀ (z24 : Int32) (H25 : HH), I23 z24 H25 → (((H25 30 0 8) ≤ (H25 30 0 20) → (∀ H27 : HH, H27 = (hu H25 30 0 22 (if z24 ≤ 4 then 1 else (-1) : Int32)) → (Q H27))) ∧ (¬ (H25 30 0 8) ≤ (H25 30 0 20) → (vp_in (H25 30 0 20) 160 ∧ (c_Model_in E d (H25 35 0 ((H25 30 0 20).toNatClampNeg)) 48 57 H25 (fun r29 H28 => (r29 = 0 → (∀ H31 : HH, H31 = (hu H28 30 0 22 (if z24 ≤ 4 then 1 else (-1) : Int32)) → (Q H31))) ∧ (¬ r29 = 0 → ((4 ≤ z24 → (∀ H32 : HH, H32 = (hu H28 30 0 23 0) → (∀ H33 : HH, H33 = (hu H32 30 0 20 ((H32 30 0 20) + 1)) → (I23 (z24 + 1) H33 ∧ μ23 (z24 + 1) H33 < μ23 z24 H25)))) ∧ (¬ 4 ≤ z24 → (vp_in (H28 30 0 20) 160 ∧ (∀ H34 : HH, H34 = (hu H28 30 0 23 (((10 * (H28 30 0 23)) + (H28 35 0 ((H28 30 0 20).toNatClampNeg))) - 48)) → (∀ H35 : HH, H35 = (hu H34 30 0 20 ((H34 30 0 20) + 1)) → (I23 (z24 + 1) H35 ∧ μ23 (z24 + 1) H35 < μ23 z24 H25))))))))))))))))) ∧ (¬ r8 = 0 → (∃ (I36 : HH → Prop) (μ36 : HH → Nat), I36  H7 ∧ ∀  (H37 : HH), I36  H37 → (∃ J38 : HH → Prop, (((H37 30 0 8) ≤ (H37 30 0 20) → (J38  H37)) ∧ (¬ (H37 30 0 8) ≤ (H37 30 0 20) → (vp_in (H37 30 0 20) 160 ∧ (c_Model_in E d (H37 35 0 ((H37 30 0 20).toNatClampNeg)) 97 122 H37 (fun r48 H47 => (r48 = 0 → (J38  H47)) ∧ (¬ r48 = 0 → (∀ H49 : HH, H49 = (hu H47 30 0 20 ((H47 30 0 20) + 1)) → (I36  H49 ∧ μ36  H49 < μ36  H37)))))))) ∧ ∀  (H39 : HH), J38  H39 → (c_Model_wordFrom E d (H39 30 0 21) (H39 30 0 20) H39 (fun r41 H40 => ∀ H46 : HH, H46 = (hu (hu H40 30 0 22 (if 3 ≤ r41 then (if 9 ≤ r41 then (if r41 = 12 then (-1) else ((4 + r41) - 9) : Int32) else 2 : Int32) else 3 : Int32)) 30 0 23 (if 3 ≤ r41 then (r41 - 3) else r41 : Int32)) → (Q H46))))))))))) ∧ ((H5 30 0 20) = (H5 30 0 8) → (Q H5)))))
set_option maxHeartbeats 4000000 in
theorem l_Model_next {E : XE} {d : Nat}  {H : HH} {Q : HH → Prop} (h : p_Model_next E d  H Q) : c_Model_next E (d + 1)  H Q := by
  show g_Model_next E (d + 1) 0 (xent [vr 30 0]) [] H (qv Q)
  refine g_drop (ls2 := [some (vr 30 0), none, none]) (And.intro rfl trivial) ?_
  refine g_drop (ls2 := [some (vr 30 0), none, none]) (And.intro rfl trivial) ?_
  obtain ⟨I1, μ1, h0, h⟩ := h
  refine xloop (σ := Unit) (fun s H => I1  H) (fun s H => μ1  H) (fun s H => g_Model_next E (d + 1) 0 [some (vr 30 0), none, none] [] H (qv Q)) (fun s H2 hI ih1 => ?_) () H h0
  replace h := h  H2 hI
  refine g_aload_n (q := 0) (i := 0) (by decide +kernel) rfl rfl ?_
  refine g_get (C := "ThreePointsModel") (T := xT_Model) (N := 39) (ci := 10) (k := 20) (v := vi (H2 30 0 20)) (by decide +kernel) (by decide) rfl rfl xi_Model (by decide) kw_1046 rfl ?_
  refine g_aload_n (q := 0) (i := 0) (by decide +kernel) rfl rfl ?_
  refine g_get (C := "ThreePointsModel") (T := xT_Model) (N := 39) (ci := 10) (k := 8) (v := vi (H2 30 0 8)) (by decide +kernel) (by decide) rfl rfl xi_Model (by decide) kw_1034 rfl ?_
  obtain ⟨J3, h, hk3⟩ := h
  have hc3 : ∀  (H4 : HH), J3  H4 → g_Model_next E (d + 1) 52 [some (vr 30 0), none, none] [] H4 (qv Q) := by
    intro  H4 h
    replace h := hk3  H4 h
    refine g_aload_n (q := 0) (i := 0) (by decide +kernel) rfl rfl ?_
    refine g_aload_n (q := 0) (i := 0) (by decide +kernel) rfl rfl ?_
    refine g_get (C := "ThreePointsModel") (T := xT_Model) (N := 39) (ci := 10) (k := 20) (v := vi (H4 30 0 20)) (by decide +kernel) (by decide) rfl rfl xi_Model (by decide) kw_1046 rfl ?_
    refine g_put (C := "ThreePointsModel") (T := xT_Model) (N := 39) (ci := 10) (k := 21) xy_Model (by decide +kernel) (by decide) rfl rfl xi_Model xy_Model_ok xn_Model (by decide) kw_1047 rfl (by decide +kernel) (fun _ => rfl) ?_
    refine g_aload_n (q := 0) (i := 0) (by decide +kernel) rfl rfl ?_
    refine g_iconst (n := 0) (v := 0) (by decide +kernel) (by decide) ?_
    refine g_put (C := "ThreePointsModel") (T := xT_Model) (N := 39) (ci := 10) (k := 22) xy_Model (by decide +kernel) (by decide) rfl rfl xi_Model xy_Model_ok xn_Model (by decide) kw_1048 rfl (by decide +kernel) (fun _ => rfl) ?_
    refine g_aload_n (q := 0) (i := 0) (by decide +kernel) rfl rfl ?_
    refine g_iconst (n := 0) (v := 0) (by decide +kernel) (by decide) ?_
    refine g_put (C := "ThreePointsModel") (T := xT_Model) (N := 39) (ci := 10) (k := 23) xy_Model (by decide +kernel) (by decide) rfl rfl xi_Model xy_Model_ok xn_Model (by decide) kw_1049 rfl (by decide +kernel) (fun _ => rfl) ?_
    refine g_aload_n (q := 0) (i := 0) (by decide +kernel) rfl rfl ?_
    refine g_heap (fun H5 eH5 => ?_)
    replace h := h H5 eH5
    refine g_get (C := "ThreePointsModel") (T := xT_Model) (N := 39) (ci := 10) (k := 20) (v := vi (H5 30 0 20)) (by decide +kernel) (by decide) rfl rfl xi_Model (by decide) kw_1046 rfl ?_
    refine g_aload_n (q := 0) (i := 0) (by decide +kernel) rfl rfl ?_
    refine g_get (C := "ThreePointsModel") (T := xT_Model) (N := 39) (ci := 10) (k := 8) (v := vi (H5 30 0 8)) (by decide +kernel) (by decide) rfl rfl xi_Model (by decide) kw_1034 rfl ?_
    refine g_icmp_ne (off := 4) (tgt := 82) (by decide +kernel) (by decide) (fun c => ?_) (fun c => ?_)
    · replace h := h.1 c
      refine g_aload_n (q := 0) (i := 0) (by decide +kernel) rfl rfl ?_
      refine g_get (C := "ThreePointsModel") (T := xT_Model) (N := 39) (ci := 10) (k := 7) (v := vr 35 0) (by decide +kernel) (by decide) rfl rfl xi_Model (by decide) kw_1033 rfl ?_
      refine g_aload_n (q := 0) (i := 0) (by decide +kernel) rfl rfl ?_
      refine g_get (C := "ThreePointsModel") (T := xT_Model) (N := 39) (ci := 10) (k := 20) (v := vi (H5 30 0 20)) (by decide +kernel) (by decide) rfl rfl xi_Model (by decide) kw_1046 rfl ?_
      obtain ⟨hin, h⟩ := h
      refine g_iald (by decide +kernel) (by decide) rfl hin ?_
      refine g_topi (fun v6 ev6 => ?_)
      replace h := h v6 ev6
      refine g_istore_n (q := 1) (i := 1) (ls2 := [some (vr 30 0), some (vi v6), none]) (by decide +kernel) rfl (by decide) rfl rfl ?_
      refine g_iload_n (q := 1) (i := 1) (by decide +kernel) rfl rfl ?_
      refine g_bipush (n := 97) (v := 97) (by decide +kernel) (by decide) ?_
      refine g_bipush (n := 122) (v := 122) (by decide +kernel) (by decide) ?_
      refine g_callS (vs := [vi v6, vi 97, vi 122]) (st := []) (by decide +kernel) xm_Model_in kw_987 kw_988 rfl rfl (Nat.le_of_ble_eq_true rfl) (Nat.le_of_ble_eq_true rfl) h (fun vH7 H7 hq => ?_)
      obtain ⟨r8, rfl, h⟩ := hq
      refine g_if_eq (off := 117) (tgt := 217) (by decide +kernel) (by decide) (fun c => ?_) (fun c => ?_)
      · replace h := h.1 c
        refine g_iload_n (q := 1) (i := 1) (by decide +kernel) rfl rfl ?_
        refine g_bipush (n := 48) (v := 48) (by decide +kernel) (by decide) ?_
        refine g_bipush (n := 57) (v := 57) (by decide +kernel) (by decide) ?_
        refine g_callS (vs := [vi v6, vi 48, vi 57]) (st := []) (by decide +kernel) xm_Model_in kw_987 kw_988 rfl rfl (Nat.le_of_ble_eq_true rfl) (Nat.le_of_ble_eq_true rfl) h (fun vH9 H9 hq => ?_)
        obtain ⟨r10, rfl, h⟩ := hq
        refine g_if_eq (off := 101) (tgt := 326) (by decide +kernel) (by decide) (fun c => ?_) (fun c => ?_)
        · replace h := h.1 c
          refine g_iload_n (q := 1) (i := 1) (by decide +kernel) rfl rfl ?_
          refine g_bipush (n := 40) (v := 40) (by decide +kernel) (by decide) ?_
          suffices hj18 : g_Model_next E (d + 1) 379 [some (vr 30 0), some (vi v6), none] [vi (if v6 = 40 then 1 else (if v6 = 41 then 1 else (if v6 = 59 then 1 else (if v6 = 43 then 1 else (if v6 = 45 then 1 else (if v6 = 42 then 1 else (if v6 = 60 then 1 else (if v6 = 61 then 1 else 0 : Int32) : Int32) : Int32) : Int32) : Int32) : Int32) : Int32) : Int32)] H9 (qv Q) by
            refine g_icmp_eq (off := 45) (tgt := 374) (by decide +kernel) (by decide) (fun c => ?_) (fun c => ?_)
            · rw [if_pos c] at hj18
              refine g_iconst (n := 1) (v := 1) (by decide +kernel) (by decide) ?_
              refine g_goto (off := 4) (tgt := 379) (by decide +kernel) (by decide) ?_
              exact hj18
            · rw [if_neg c] at hj18
              refine g_iload_n (q := 1) (i := 1) (by decide +kernel) rfl rfl ?_
              refine g_bipush (n := 41) (v := 41) (by decide +kernel) (by decide) ?_
              suffices hj17 : g_Model_next E (d + 1) 379 [some (vr 30 0), some (vi v6), none] [vi (if v6 = 41 then 1 else (if v6 = 59 then 1 else (if v6 = 43 then 1 else (if v6 = 45 then 1 else (if v6 = 42 then 1 else (if v6 = 60 then 1 else (if v6 = 61 then 1 else 0 : Int32) : Int32) : Int32) : Int32) : Int32) : Int32) : Int32)] H9 (qv Q) by
                refine g_icmp_eq (off := 39) (tgt := 374) (by decide +kernel) (by decide) (fun c => ?_) (fun c => ?_)
                · rw [if_pos c] at hj17
                  refine g_iconst (n := 1) (v := 1) (by decide +kernel) (by decide) ?_
                  refine g_goto (off := 4) (tgt := 379) (by decide +kernel) (by decide) ?_
                  exact hj17
                · rw [if_neg c] at hj17
                  refine g_iload_n (q := 1) (i := 1) (by decide +kernel) rfl rfl ?_
                  refine g_bipush (n := 59) (v := 59) (by decide +kernel) (by decide) ?_
                  suffices hj16 : g_Model_next E (d + 1) 379 [some (vr 30 0), some (vi v6), none] [vi (if v6 = 59 then 1 else (if v6 = 43 then 1 else (if v6 = 45 then 1 else (if v6 = 42 then 1 else (if v6 = 60 then 1 else (if v6 = 61 then 1 else 0 : Int32) : Int32) : Int32) : Int32) : Int32) : Int32)] H9 (qv Q) by
                    refine g_icmp_eq (off := 33) (tgt := 374) (by decide +kernel) (by decide) (fun c => ?_) (fun c => ?_)
                    · rw [if_pos c] at hj16
                      refine g_iconst (n := 1) (v := 1) (by decide +kernel) (by decide) ?_
                      refine g_goto (off := 4) (tgt := 379) (by decide +kernel) (by decide) ?_
                      exact hj16
                    · rw [if_neg c] at hj16
                      refine g_iload_n (q := 1) (i := 1) (by decide +kernel) rfl rfl ?_
                      refine g_bipush (n := 43) (v := 43) (by decide +kernel) (by decide) ?_
                      suffices hj15 : g_Model_next E (d + 1) 379 [some (vr 30 0), some (vi v6), none] [vi (if v6 = 43 then 1 else (if v6 = 45 then 1 else (if v6 = 42 then 1 else (if v6 = 60 then 1 else (if v6 = 61 then 1 else 0 : Int32) : Int32) : Int32) : Int32) : Int32)] H9 (qv Q) by
                        refine g_icmp_eq (off := 27) (tgt := 374) (by decide +kernel) (by decide) (fun c => ?_) (fun c => ?_)
                        · rw [if_pos c] at hj15
                          refine g_iconst (n := 1) (v := 1) (by decide +kernel) (by decide) ?_
                          refine g_goto (off := 4) (tgt := 379) (by decide +kernel) (by decide) ?_
                          exact hj15
                        · rw [if_neg c] at hj15
                          refine g_iload_n (q := 1) (i := 1) (by decide +kernel) rfl rfl ?_
                          refine g_bipush (n := 45) (v := 45) (by decide +kernel) (by decide) ?_
                          suffices hj14 : g_Model_next E (d + 1) 379 [some (vr 30 0), some (vi v6), none] [vi (if v6 = 45 then 1 else (if v6 = 42 then 1 else (if v6 = 60 then 1 else (if v6 = 61 then 1 else 0 : Int32) : Int32) : Int32) : Int32)] H9 (qv Q) by
                            refine g_icmp_eq (off := 21) (tgt := 374) (by decide +kernel) (by decide) (fun c => ?_) (fun c => ?_)
                            · rw [if_pos c] at hj14
                              refine g_iconst (n := 1) (v := 1) (by decide +kernel) (by decide) ?_
                              refine g_goto (off := 4) (tgt := 379) (by decide +kernel) (by decide) ?_
                              exact hj14
                            · rw [if_neg c] at hj14
                              refine g_iload_n (q := 1) (i := 1) (by decide +kernel) rfl rfl ?_
                              refine g_bipush (n := 42) (v := 42) (by decide +kernel) (by decide) ?_
                              suffices hj13 : g_Model_next E (d + 1) 379 [some (vr 30 0), some (vi v6), none] [vi (if v6 = 42 then 1 else (if v6 = 60 then 1 else (if v6 = 61 then 1 else 0 : Int32) : Int32) : Int32)] H9 (qv Q) by
                                refine g_icmp_eq (off := 15) (tgt := 374) (by decide +kernel) (by decide) (fun c => ?_) (fun c => ?_)
                                · rw [if_pos c] at hj13
                                  refine g_iconst (n := 1) (v := 1) (by decide +kernel) (by decide) ?_
                                  refine g_goto (off := 4) (tgt := 379) (by decide +kernel) (by decide) ?_
                                  exact hj13
                                · rw [if_neg c] at hj13
                                  refine g_iload_n (q := 1) (i := 1) (by decide +kernel) rfl rfl ?_
                                  refine g_bipush (n := 60) (v := 60) (by decide +kernel) (by decide) ?_
                                  suffices hj12 : g_Model_next E (d + 1) 379 [some (vr 30 0), some (vi v6), none] [vi (if v6 = 60 then 1 else (if v6 = 61 then 1 else 0 : Int32) : Int32)] H9 (qv Q) by
                                    refine g_icmp_eq (off := 9) (tgt := 374) (by decide +kernel) (by decide) (fun c => ?_) (fun c => ?_)
                                    · rw [if_pos c] at hj12
                                      refine g_iconst (n := 1) (v := 1) (by decide +kernel) (by decide) ?_
                                      refine g_goto (off := 4) (tgt := 379) (by decide +kernel) (by decide) ?_
                                      exact hj12
                                    · rw [if_neg c] at hj12
                                      refine g_iload_n (q := 1) (i := 1) (by decide +kernel) rfl rfl ?_
                                      refine g_bipush (n := 61) (v := 61) (by decide +kernel) (by decide) ?_
                                      suffices hj11 : g_Model_next E (d + 1) 379 [some (vr 30 0), some (vi v6), none] [vi (if v6 = 61 then 1 else 0 : Int32)] H9 (qv Q) by
                                        refine g_icmp_ne (off := 7) (tgt := 378) (by decide +kernel) (by decide) (fun c => ?_) (fun c => ?_)
                                        · rw [if_neg c] at hj11
                                          refine g_iconst (n := 0) (v := 0) (by decide +kernel) (by decide) ?_
                                          exact hj11
                                        · rw [if_pos c] at hj11
                                          refine g_iconst (n := 1) (v := 1) (by decide +kernel) (by decide) ?_
                                          refine g_goto (off := 4) (tgt := 379) (by decide +kernel) (by decide) ?_
                                          exact hj11
                                      exact hj12
                                  exact hj13
                              exact hj14
                          exact hj15
                      exact hj16
                  exact hj17
              exact hj18
          refine g_topi (fun v19 ev19 => ?_)
          replace h := h v19 ev19
          refine g_istore_n (q := 2) (i := 2) (ls2 := [some (vr 30 0), some (vi v6), some (vi v19)]) (by decide +kernel) rfl (by decide) rfl rfl ?_
          refine g_aload_n (q := 0) (i := 0) (by decide +kernel) rfl rfl ?_
          refine g_iload_n (q := 2) (i := 2) (by decide +kernel) rfl rfl ?_
          suffices hj20 : g_Model_next E (d + 1) 390 [some (vr 30 0), some (vi v6), some (vi v19)] [vi (if v19 = 0 then (-1) else v6 : Int32), vr 30 0] H9 (qv Q) by
            refine g_if_eq (off := 7) (tgt := 389) (by decide +kernel) (by decide) (fun c => ?_) (fun c => ?_)
            · rw [if_pos c] at hj20
              refine g_iconst (n := (-1)) (v := (-1)) (by decide +kernel) (by decide) ?_
              exact hj20
            · rw [if_neg c] at hj20
              refine g_iload_n (q := 1) (i := 1) (by decide +kernel) rfl rfl ?_
              refine g_goto (off := 4) (tgt := 390) (by decide +kernel) (by decide) ?_
              exact hj20
          refine g_put (C := "ThreePointsModel") (T := xT_Model) (N := 39) (ci := 10) (k := 22) xy_Model (by decide +kernel) (by decide) rfl rfl xi_Model xy_Model_ok xn_Model (by decide) kw_1048 rfl (by decide +kernel) (fun _ => rfl) ?_
          refine g_aload_n (q := 0) (i := 0) (by decide +kernel) rfl rfl ?_
          refine g_dup (by decide +kernel) rfl ?_
          refine g_heap (fun H21 eH21 => ?_)
          replace h := h H21 eH21
          refine g_get (C := "ThreePointsModel") (T := xT_Model) (N := 39) (ci := 10) (k := 20) (v := vi (H21 30 0 20)) (by decide +kernel) (by decide) rfl rfl xi_Model (by decide) kw_1046 rfl ?_
          refine g_iconst (n := 1) (v := 1) (by decide +kernel) (by decide) ?_
          refine g_iadd (by decide +kernel) ?_
          refine g_put (C := "ThreePointsModel") (T := xT_Model) (N := 39) (ci := 10) (k := 20) xy_Model (by decide +kernel) (by decide) rfl rfl xi_Model xy_Model_ok xn_Model (by decide) kw_1046 rfl (by decide +kernel) (fun _ => rfl) ?_
          refine g_heap (fun H22 eH22 => ?_)
          replace h := h H22 eH22
          exact g_vret (by decide +kernel) rfl h
        · replace h := h.2 c
          refine g_iconst (n := 0) (v := 0) (by decide +kernel) (by decide) ?_
          refine g_istore_n (q := 2) (i := 2) (ls2 := [some (vr 30 0), some (vi v6), some (vi 0)]) (by decide +kernel) rfl (by decide) rfl rfl ?_
          refine g_drop (ls2 := [some (vr 30 0), none, some (vi 0)]) (And.intro rfl (And.intro rfl trivial)) ?_
          obtain ⟨I23, μ23, h0, h⟩ := h
          refine xloop (σ := Int32) (fun s H => I23 s H) (fun s H => μ23 s H) (fun s H => g_Model_next E (d + 1) 230 [some (vr 30 0), none, some (vi s)] [] H (qv Q)) (fun s H25 hI ih23 => ?_) 0 H9 h0
          obtain ⟨z24, es⟩ : ∃ z, z = s := ⟨s, rfl⟩
          subst es
          replace h := h z24 H25 hI
          refine g_aload_n (q := 0) (i := 0) (by decide +kernel) rfl rfl ?_
          refine g_get (C := "ThreePointsModel") (T := xT_Model) (N := 39) (ci := 10) (k := 20) (v := vi (H25 30 0 20)) (by decide +kernel) (by decide) rfl rfl xi_Model (by decide) kw_1046 rfl ?_
          refine g_aload_n (q := 0) (i := 0) (by decide +kernel) rfl rfl ?_
          refine g_get (C := "ThreePointsModel") (T := xT_Model) (N := 39) (ci := 10) (k := 8) (v := vi (H25 30 0 8)) (by decide +kernel) (by decide) rfl rfl xi_Model (by decide) kw_1034 rfl ?_
          refine g_icmp_ge (off := 71) (tgt := 309) (by decide +kernel) (by decide) (fun c => ?_) (fun c => ?_)
          · replace h := h.1 c
            refine g_aload_n (q := 0) (i := 0) (by decide +kernel) rfl rfl ?_
            refine g_iload_n (q := 2) (i := 2) (by decide +kernel) rfl rfl ?_
            refine g_iconst (n := 4) (v := 4) (by decide +kernel) (by decide) ?_
            suffices hj26 : g_Model_next E (d + 1) 320 [some (vr 30 0), none, some (vi z24)] [vi (if z24 ≤ 4 then 1 else (-1) : Int32), vr 30 0] H25 (qv Q) by
              refine g_icmp_le (off := 7) (tgt := 319) (by decide +kernel) (by decide) (fun c => ?_) (fun c => ?_)
              · rw [if_pos c] at hj26
                refine g_iconst (n := 1) (v := 1) (by decide +kernel) (by decide) ?_
                exact hj26
              · rw [if_neg c] at hj26
                refine g_iconst (n := (-1)) (v := (-1)) (by decide +kernel) (by decide) ?_
                refine g_goto (off := 4) (tgt := 320) (by decide +kernel) (by decide) ?_
                exact hj26
            refine g_put (C := "ThreePointsModel") (T := xT_Model) (N := 39) (ci := 10) (k := 22) xy_Model (by decide +kernel) (by decide) rfl rfl xi_Model xy_Model_ok xn_Model (by decide) kw_1048 rfl (by decide +kernel) (fun _ => rfl) ?_
            refine g_goto (off := 80) (tgt := 403) (by decide +kernel) (by decide) ?_
            refine g_heap (fun H27 eH27 => ?_)
            replace h := h H27 eH27
            exact g_vret (by decide +kernel) rfl h
          · replace h := h.2 c
            refine g_aload_n (q := 0) (i := 0) (by decide +kernel) rfl rfl ?_
            refine g_get (C := "ThreePointsModel") (T := xT_Model) (N := 39) (ci := 10) (k := 7) (v := vr 35 0) (by decide +kernel) (by decide) rfl rfl xi_Model (by decide) kw_1033 rfl ?_
            refine g_aload_n (q := 0) (i := 0) (by decide +kernel) rfl rfl ?_
            refine g_get (C := "ThreePointsModel") (T := xT_Model) (N := 39) (ci := 10) (k := 20) (v := vi (H25 30 0 20)) (by decide +kernel) (by decide) rfl rfl xi_Model (by decide) kw_1046 rfl ?_
            obtain ⟨hin, h⟩ := h
            refine g_iald (by decide +kernel) (by decide) rfl hin ?_
            refine g_bipush (n := 48) (v := 48) (by decide +kernel) (by decide) ?_
            refine g_bipush (n := 57) (v := 57) (by decide +kernel) (by decide) ?_
            refine g_callS (vs := [vi (H25 35 0 ((H25 30 0 20).toNatClampNeg)), vi 48, vi 57]) (st := []) (by decide +kernel) xm_Model_in kw_987 kw_988 rfl rfl (Nat.le_of_ble_eq_true rfl) (Nat.le_of_ble_eq_true rfl) h (fun vH28 H28 hq => ?_)
            obtain ⟨r29, rfl, h⟩ := hq
            refine g_if_eq (off := 52) (tgt := 309) (by decide +kernel) (by decide) (fun c => ?_) (fun c => ?_)
            · replace h := h.1 c
              refine g_aload_n (q := 0) (i := 0) (by decide +kernel) rfl rfl ?_
              refine g_iload_n (q := 2) (i := 2) (by decide +kernel) rfl rfl ?_
              refine g_iconst (n := 4) (v := 4) (by decide +kernel) (by decide) ?_
              suffices hj30 : g_Model_next E (d + 1) 320 [some (vr 30 0), none, some (vi z24)] [vi (if z24 ≤ 4 then 1 else (-1) : Int32), vr 30 0] H28 (qv Q) by
                refine g_icmp_le (off := 7) (tgt := 319) (by decide +kernel) (by decide) (fun c => ?_) (fun c => ?_)
                · rw [if_pos c] at hj30
                  refine g_iconst (n := 1) (v := 1) (by decide +kernel) (by decide) ?_
                  exact hj30
                · rw [if_neg c] at hj30
                  refine g_iconst (n := (-1)) (v := (-1)) (by decide +kernel) (by decide) ?_
                  refine g_goto (off := 4) (tgt := 320) (by decide +kernel) (by decide) ?_
                  exact hj30
              refine g_put (C := "ThreePointsModel") (T := xT_Model) (N := 39) (ci := 10) (k := 22) xy_Model (by decide +kernel) (by decide) rfl rfl xi_Model xy_Model_ok xn_Model (by decide) kw_1048 rfl (by decide +kernel) (fun _ => rfl) ?_
              refine g_goto (off := 80) (tgt := 403) (by decide +kernel) (by decide) ?_
              refine g_heap (fun H31 eH31 => ?_)
              replace h := h H31 eH31
              exact g_vret (by decide +kernel) rfl h
            · replace h := h.2 c
              refine g_aload_n (q := 0) (i := 0) (by decide +kernel) rfl rfl ?_
              refine g_iload_n (q := 2) (i := 2) (by decide +kernel) rfl rfl ?_
              refine g_iconst (n := 4) (v := 4) (by decide +kernel) (by decide) ?_
              refine g_icmp_ge (off := 26) (tgt := 289) (by decide +kernel) (by decide) (fun c => ?_) (fun c => ?_)
              · replace h := h.1 c
                refine g_iconst (n := 0) (v := 0) (by decide +kernel) (by decide) ?_
                refine g_put (C := "ThreePointsModel") (T := xT_Model) (N := 39) (ci := 10) (k := 23) xy_Model (by decide +kernel) (by decide) rfl rfl xi_Model xy_Model_ok xn_Model (by decide) kw_1049 rfl (by decide +kernel) (fun _ => rfl) ?_
                refine g_iinc (i := 2) (n := 1) (v := (z24 + 1)) (ls2 := [some (vr 30 0), none, some (vi (z24 + 1))]) (by decide +kernel) rfl rfl (by decide) rfl rfl ?_
                refine g_aload_n (q := 0) (i := 0) (by decide +kernel) rfl rfl ?_
                refine g_dup (by decide +kernel) rfl ?_
                refine g_heap (fun H32 eH32 => ?_)
                replace h := h H32 eH32
                refine g_get (C := "ThreePointsModel") (T := xT_Model) (N := 39) (ci := 10) (k := 20) (v := vi (H32 30 0 20)) (by decide +kernel) (by decide) rfl rfl xi_Model (by decide) kw_1046 rfl ?_
                refine g_iconst (n := 1) (v := 1) (by decide +kernel) (by decide) ?_
                refine g_iadd (by decide +kernel) ?_
                refine g_put (C := "ThreePointsModel") (T := xT_Model) (N := 39) (ci := 10) (k := 20) xy_Model (by decide +kernel) (by decide) rfl rfl xi_Model xy_Model_ok xn_Model (by decide) kw_1046 rfl (by decide +kernel) (fun _ => rfl) ?_
                refine g_goto (off := (-76)) (tgt := 230) (by decide +kernel) (by decide) ?_
                refine g_heap (fun H33 eH33 => ?_)
                replace h := h H33 eH33
                obtain ⟨hI, hlt⟩ := h
                exact g_drop (ls2 := [some (vr 30 0), none, some (vi (z24 + 1))]) (And.intro rfl (And.intro rfl trivial)) (ih23 (z24 + 1) H33 hI hlt)
              · replace h := h.2 c
                refine g_bipush (n := 10) (v := 10) (by decide +kernel) (by decide) ?_
                refine g_aload_n (q := 0) (i := 0) (by decide +kernel) rfl rfl ?_
                refine g_get (C := "ThreePointsModel") (T := xT_Model) (N := 39) (ci := 10) (k := 23) (v := vi (H28 30 0 23)) (by decide +kernel) (by decide) rfl rfl xi_Model (by decide) kw_1049 rfl ?_
                refine g_imul (by decide +kernel) ?_
                refine g_aload_n (q := 0) (i := 0) (by decide +kernel) rfl rfl ?_
                refine g_get (C := "ThreePointsModel") (T := xT_Model) (N := 39) (ci := 10) (k := 7) (v := vr 35 0) (by decide +kernel) (by decide) rfl rfl xi_Model (by decide) kw_1033 rfl ?_
                refine g_aload_n (q := 0) (i := 0) (by decide +kernel) rfl rfl ?_
                refine g_get (C := "ThreePointsModel") (T := xT_Model) (N := 39) (ci := 10) (k := 20) (v := vi (H28 30 0 20)) (by decide +kernel) (by decide) rfl rfl xi_Model (by decide) kw_1046 rfl ?_
                obtain ⟨hin, h⟩ := h
                refine g_iald (by decide +kernel) (by decide) rfl hin ?_
                refine g_iadd (by decide +kernel) ?_
                refine g_bipush (n := 48) (v := 48) (by decide +kernel) (by decide) ?_
                refine g_isub (by decide +kernel) ?_
                refine g_goto (off := 4) (tgt := 290) (by decide +kernel) (by decide) ?_
                refine g_put (C := "ThreePointsModel") (T := xT_Model) (N := 39) (ci := 10) (k := 23) xy_Model (by decide +kernel) (by decide) rfl rfl xi_Model xy_Model_ok xn_Model (by decide) kw_1049 rfl (by decide +kernel) (fun _ => rfl) ?_
                refine g_iinc (i := 2) (n := 1) (v := (z24 + 1)) (ls2 := [some (vr 30 0), none, some (vi (z24 + 1))]) (by decide +kernel) rfl rfl (by decide) rfl rfl ?_
                refine g_aload_n (q := 0) (i := 0) (by decide +kernel) rfl rfl ?_
                refine g_dup (by decide +kernel) rfl ?_
                refine g_heap (fun H34 eH34 => ?_)
                replace h := h H34 eH34
                refine g_get (C := "ThreePointsModel") (T := xT_Model) (N := 39) (ci := 10) (k := 20) (v := vi (H34 30 0 20)) (by decide +kernel) (by decide) rfl rfl xi_Model (by decide) kw_1046 rfl ?_
                refine g_iconst (n := 1) (v := 1) (by decide +kernel) (by decide) ?_
                refine g_iadd (by decide +kernel) ?_
                refine g_put (C := "ThreePointsModel") (T := xT_Model) (N := 39) (ci := 10) (k := 20) xy_Model (by decide +kernel) (by decide) rfl rfl xi_Model xy_Model_ok xn_Model (by decide) kw_1046 rfl (by decide +kernel) (fun _ => rfl) ?_
                refine g_goto (off := (-76)) (tgt := 230) (by decide +kernel) (by decide) ?_
                refine g_heap (fun H35 eH35 => ?_)
                replace h := h H35 eH35
                obtain ⟨hI, hlt⟩ := h
                exact g_drop (ls2 := [some (vr 30 0), none, some (vi (z24 + 1))]) (And.intro rfl (And.intro rfl trivial)) (ih23 (z24 + 1) H35 hI hlt)
      · replace h := h.2 c
        refine g_drop (ls2 := [some (vr 30 0), none, none]) (And.intro rfl trivial) ?_
        obtain ⟨I36, μ36, h0, h⟩ := h
        refine xloop (σ := Unit) (fun s H => I36  H) (fun s H => μ36  H) (fun s H => g_Model_next E (d + 1) 103 [some (vr 30 0), none, none] [] H (qv Q)) (fun s H37 hI ih36 => ?_) () H7 h0
        replace h := h  H37 hI
        refine g_aload_n (q := 0) (i := 0) (by decide +kernel) rfl rfl ?_
        refine g_get (C := "ThreePointsModel") (T := xT_Model) (N := 39) (ci := 10) (k := 20) (v := vi (H37 30 0 20)) (by decide +kernel) (by decide) rfl rfl xi_Model (by decide) kw_1046 rfl ?_
        refine g_aload_n (q := 0) (i := 0) (by decide +kernel) rfl rfl ?_
        refine g_get (C := "ThreePointsModel") (T := xT_Model) (N := 39) (ci := 10) (k := 8) (v := vi (H37 30 0 8)) (by decide +kernel) (by decide) rfl rfl xi_Model (by decide) kw_1034 rfl ?_
        obtain ⟨J38, h, hk38⟩ := h
        have hc38 : ∀  (H39 : HH), J38  H39 → g_Model_next E (d + 1) 146 [some (vr 30 0), none, none] [] H39 (qv Q) := by
          intro  H39 h
          replace h := hk38  H39 h
          refine g_aload_n (q := 0) (i := 0) (by decide +kernel) rfl rfl ?_
          refine g_aload_n (q := 0) (i := 0) (by decide +kernel) rfl rfl ?_
          refine g_get (C := "ThreePointsModel") (T := xT_Model) (N := 39) (ci := 10) (k := 21) (v := vi (H39 30 0 21)) (by decide +kernel) (by decide) rfl rfl xi_Model (by decide) kw_1047 rfl ?_
          refine g_aload_n (q := 0) (i := 0) (by decide +kernel) rfl rfl ?_
          refine g_get (C := "ThreePointsModel") (T := xT_Model) (N := 39) (ci := 10) (k := 20) (v := vi (H39 30 0 20)) (by decide +kernel) (by decide) rfl rfl xi_Model (by decide) kw_1046 rfl ?_
          refine g_callV (kd := 30) (ix := 0) (ci := 10) (N := 39) (T := xT_Model) (vs := [vi (H39 30 0 21), vi (H39 30 0 20)]) (st := []) (by decide +kernel) xm_Model_wordFrom kw_990 kw_992 kw_28 (by decide) rfl rfl rfl rfl (Nat.le_of_ble_eq_true rfl) (Nat.le_of_ble_eq_true rfl) h (fun vH40 H40 hq => ?_)
          obtain ⟨r41, rfl, h⟩ := hq
          refine g_istore_n (q := 2) (i := 2) (ls2 := [some (vr 30 0), none, some (vi r41)]) (by decide +kernel) rfl (by decide) rfl rfl ?_
          refine g_aload_n (q := 0) (i := 0) (by decide +kernel) rfl rfl ?_
          refine g_iload_n (q := 2) (i := 2) (by decide +kernel) rfl rfl ?_
          refine g_iconst (n := 3) (v := 3) (by decide +kernel) (by decide) ?_
          suffices hj44 : g_Model_next E (d + 1) 195 [some (vr 30 0), none, some (vi r41)] [vi (if 3 ≤ r41 then (if 9 ≤ r41 then (if r41 = 12 then (-1) else ((4 + r41) - 9) : Int32) else 2 : Int32) else 3 : Int32), vr 30 0] H40 (qv Q) by
            refine g_icmp_ge (off := 7) (tgt := 169) (by decide +kernel) (by decide) (fun c => ?_) (fun c => ?_)
            · rw [if_pos c] at hj44
              refine g_iload_n (q := 2) (i := 2) (by decide +kernel) rfl rfl ?_
              refine g_bipush (n := 9) (v := 9) (by decide +kernel) (by decide) ?_
              suffices hj43 : g_Model_next E (d + 1) 195 [some (vr 30 0), none, some (vi r41)] [vi (if 9 ≤ r41 then (if r41 = 12 then (-1) else ((4 + r41) - 9) : Int32) else 2 : Int32), vr 30 0] H40 (qv Q) by
                refine g_icmp_ge (off := 7) (tgt := 179) (by decide +kernel) (by decide) (fun c => ?_) (fun c => ?_)
                · rw [if_pos c] at hj43
                  refine g_iload_n (q := 2) (i := 2) (by decide +kernel) rfl rfl ?_
                  refine g_bipush (n := 12) (v := 12) (by decide +kernel) (by decide) ?_
                  suffices hj42 : g_Model_next E (d + 1) 195 [some (vr 30 0), none, some (vi r41)] [vi (if r41 = 12 then (-1) else ((4 + r41) - 9) : Int32), vr 30 0] H40 (qv Q) by
                    refine g_icmp_ne (off := 7) (tgt := 189) (by decide +kernel) (by decide) (fun c => ?_) (fun c => ?_)
                    · rw [if_neg c] at hj42
                      refine g_iconst (n := 4) (v := 4) (by decide +kernel) (by decide) ?_
                      refine g_iload_n (q := 2) (i := 2) (by decide +kernel) rfl rfl ?_
                      refine g_iadd (by decide +kernel) ?_
                      refine g_bipush (n := 9) (v := 9) (by decide +kernel) (by decide) ?_
                      refine g_isub (by decide +kernel) ?_
                      exact hj42
                    · rw [if_pos c] at hj42
                      refine g_iconst (n := (-1)) (v := (-1)) (by decide +kernel) (by decide) ?_
                      refine g_goto (off := 9) (tgt := 195) (by decide +kernel) (by decide) ?_
                      exact hj42
                  exact hj43
                · rw [if_neg c] at hj43
                  refine g_iconst (n := 2) (v := 2) (by decide +kernel) (by decide) ?_
                  refine g_goto (off := 19) (tgt := 195) (by decide +kernel) (by decide) ?_
                  exact hj43
              exact hj44
            · rw [if_neg c] at hj44
              refine g_iconst (n := 3) (v := 3) (by decide +kernel) (by decide) ?_
              refine g_goto (off := 29) (tgt := 195) (by decide +kernel) (by decide) ?_
              exact hj44
          refine g_put (C := "ThreePointsModel") (T := xT_Model) (N := 39) (ci := 10) (k := 22) xy_Model (by decide +kernel) (by decide) rfl rfl xi_Model xy_Model_ok xn_Model (by decide) kw_1048 rfl (by decide +kernel) (fun _ => rfl) ?_
          refine g_aload_n (q := 0) (i := 0) (by decide +kernel) rfl rfl ?_
          refine g_iload_n (q := 2) (i := 2) (by decide +kernel) rfl rfl ?_
          refine g_iconst (n := 3) (v := 3) (by decide +kernel) (by decide) ?_
          suffices hj45 : g_Model_next E (d + 1) 211 [some (vr 30 0), none, some (vi r41)] [vi (if 3 ≤ r41 then (r41 - 3) else r41 : Int32), vr 30 0] (hu H40 30 0 22 (if 3 ≤ r41 then (if 9 ≤ r41 then (if r41 = 12 then (-1) else ((4 + r41) - 9) : Int32) else 2 : Int32) else 3 : Int32)) (qv Q) by
            refine g_icmp_ge (off := 7) (tgt := 208) (by decide +kernel) (by decide) (fun c => ?_) (fun c => ?_)
            · rw [if_pos c] at hj45
              refine g_iload_n (q := 2) (i := 2) (by decide +kernel) rfl rfl ?_
              refine g_iconst (n := 3) (v := 3) (by decide +kernel) (by decide) ?_
              refine g_isub (by decide +kernel) ?_
              exact hj45
            · rw [if_neg c] at hj45
              refine g_iload_n (q := 2) (i := 2) (by decide +kernel) rfl rfl ?_
              refine g_goto (off := 6) (tgt := 211) (by decide +kernel) (by decide) ?_
              exact hj45
          refine g_put (C := "ThreePointsModel") (T := xT_Model) (N := 39) (ci := 10) (k := 23) xy_Model (by decide +kernel) (by decide) rfl rfl xi_Model xy_Model_ok xn_Model (by decide) kw_1049 rfl (by decide +kernel) (fun _ => rfl) ?_
          refine g_goto (off := 189) (tgt := 403) (by decide +kernel) (by decide) ?_
          refine g_heap (fun H46 eH46 => ?_)
          replace h := h H46 eH46
          exact g_vret (by decide +kernel) rfl h
        refine g_icmp_ge (off := 35) (tgt := 146) (by decide +kernel) (by decide) (fun c => ?_) (fun c => ?_)
        · replace h := h.1 c
          exact g_drop (ls2 := [some (vr 30 0), none, none]) (And.intro rfl trivial) (hc38  H37 h)
        · replace h := h.2 c
          refine g_aload_n (q := 0) (i := 0) (by decide +kernel) rfl rfl ?_
          refine g_get (C := "ThreePointsModel") (T := xT_Model) (N := 39) (ci := 10) (k := 7) (v := vr 35 0) (by decide +kernel) (by decide) rfl rfl xi_Model (by decide) kw_1033 rfl ?_
          refine g_aload_n (q := 0) (i := 0) (by decide +kernel) rfl rfl ?_
          refine g_get (C := "ThreePointsModel") (T := xT_Model) (N := 39) (ci := 10) (k := 20) (v := vi (H37 30 0 20)) (by decide +kernel) (by decide) rfl rfl xi_Model (by decide) kw_1046 rfl ?_
          obtain ⟨hin, h⟩ := h
          refine g_iald (by decide +kernel) (by decide) rfl hin ?_
          refine g_bipush (n := 97) (v := 97) (by decide +kernel) (by decide) ?_
          refine g_bipush (n := 122) (v := 122) (by decide +kernel) (by decide) ?_
          refine g_callS (vs := [vi (H37 35 0 ((H37 30 0 20).toNatClampNeg)), vi 97, vi 122]) (st := []) (by decide +kernel) xm_Model_in kw_987 kw_988 rfl rfl (Nat.le_of_ble_eq_true rfl) (Nat.le_of_ble_eq_true rfl) h (fun vH47 H47 hq => ?_)
          obtain ⟨r48, rfl, h⟩ := hq
          refine g_if_eq (off := 16) (tgt := 146) (by decide +kernel) (by decide) (fun c => ?_) (fun c => ?_)
          · replace h := h.1 c
            exact g_drop (ls2 := [some (vr 30 0), none, none]) (And.intro rfl trivial) (hc38  H47 h)
          · replace h := h.2 c
            refine g_aload_n (q := 0) (i := 0) (by decide +kernel) rfl rfl ?_
            refine g_dup (by decide +kernel) rfl ?_
            refine g_get (C := "ThreePointsModel") (T := xT_Model) (N := 39) (ci := 10) (k := 20) (v := vi (H47 30 0 20)) (by decide +kernel) (by decide) rfl rfl xi_Model (by decide) kw_1046 rfl ?_
            refine g_iconst (n := 1) (v := 1) (by decide +kernel) (by decide) ?_
            refine g_iadd (by decide +kernel) ?_
            refine g_put (C := "ThreePointsModel") (T := xT_Model) (N := 39) (ci := 10) (k := 20) xy_Model (by decide +kernel) (by decide) rfl rfl xi_Model xy_Model_ok xn_Model (by decide) kw_1046 rfl (by decide +kernel) (fun _ => rfl) ?_
            refine g_goto (off := (-40)) (tgt := 103) (by decide +kernel) (by decide) ?_
            refine g_heap (fun H49 eH49 => ?_)
            replace h := h H49 eH49
            obtain ⟨hI, hlt⟩ := h
            exact g_drop (ls2 := [some (vr 30 0), none, none]) (And.intro rfl trivial) (ih36 () H49 hI hlt)
    · replace h := h.2 c
      exact g_vret (by decide +kernel) rfl h
  refine g_icmp_ge (off := 44) (tgt := 52) (by decide +kernel) (by decide) (fun c => ?_) (fun c => ?_)
  · replace h := h.1 c
    exact g_drop (ls2 := [some (vr 30 0), none, none]) (And.intro rfl trivial) (hc3  H2 h)
  · replace h := h.2 c
    refine g_aload_n (q := 0) (i := 0) (by decide +kernel) rfl rfl ?_
    refine g_get (C := "ThreePointsModel") (T := xT_Model) (N := 39) (ci := 10) (k := 7) (v := vr 35 0) (by decide +kernel) (by decide) rfl rfl xi_Model (by decide) kw_1033 rfl ?_
    refine g_aload_n (q := 0) (i := 0) (by decide +kernel) rfl rfl ?_
    refine g_get (C := "ThreePointsModel") (T := xT_Model) (N := 39) (ci := 10) (k := 20) (v := vi (H2 30 0 20)) (by decide +kernel) (by decide) rfl rfl xi_Model (by decide) kw_1046 rfl ?_
    obtain ⟨hin, h⟩ := h
    refine g_iald (by decide +kernel) (by decide) rfl hin ?_
    refine g_bipush (n := 32) (v := 32) (by decide +kernel) (by decide) ?_
    refine g_icmp_eq (off := 17) (tgt := 39) (by decide +kernel) (by decide) (fun c => ?_) (fun c => ?_)
    · replace h := h.1 c
      refine g_aload_n (q := 0) (i := 0) (by decide +kernel) rfl rfl ?_
      refine g_dup (by decide +kernel) rfl ?_
      refine g_get (C := "ThreePointsModel") (T := xT_Model) (N := 39) (ci := 10) (k := 20) (v := vi (H2 30 0 20)) (by decide +kernel) (by decide) rfl rfl xi_Model (by decide) kw_1046 rfl ?_
      refine g_iconst (n := 1) (v := 1) (by decide +kernel) (by decide) ?_
      refine g_iadd (by decide +kernel) ?_
      refine g_put (C := "ThreePointsModel") (T := xT_Model) (N := 39) (ci := 10) (k := 20) xy_Model (by decide +kernel) (by decide) rfl rfl xi_Model xy_Model_ok xn_Model (by decide) kw_1046 rfl (by decide +kernel) (fun _ => rfl) ?_
      refine g_goto (off := (-49)) (tgt := 0) (by decide +kernel) (by decide) ?_
      refine g_heap (fun H50 eH50 => ?_)
      replace h := h H50 eH50
      obtain ⟨hI, hlt⟩ := h
      exact g_drop (ls2 := [some (vr 30 0), none, none]) (And.intro rfl trivial) (ih1 () H50 hI hlt)
    · replace h := h.2 c
      refine g_aload_n (q := 0) (i := 0) (by decide +kernel) rfl rfl ?_
      refine g_get (C := "ThreePointsModel") (T := xT_Model) (N := 39) (ci := 10) (k := 7) (v := vr 35 0) (by decide +kernel) (by decide) rfl rfl xi_Model (by decide) kw_1033 rfl ?_
      refine g_aload_n (q := 0) (i := 0) (by decide +kernel) rfl rfl ?_
      refine g_get (C := "ThreePointsModel") (T := xT_Model) (N := 39) (ci := 10) (k := 20) (v := vi (H2 30 0 20)) (by decide +kernel) (by decide) rfl rfl xi_Model (by decide) kw_1046 rfl ?_
      obtain ⟨hin, h⟩ := h
      refine g_iald (by decide +kernel) (by decide) rfl hin ?_
      refine g_bipush (n := 10) (v := 10) (by decide +kernel) (by decide) ?_
      refine g_icmp_ne (off := 16) (tgt := 52) (by decide +kernel) (by decide) (fun c => ?_) (fun c => ?_)
      · replace h := h.1 c
        exact g_drop (ls2 := [some (vr 30 0), none, none]) (And.intro rfl trivial) (hc3  H2 h)
      · replace h := h.2 c
        refine g_aload_n (q := 0) (i := 0) (by decide +kernel) rfl rfl ?_
        refine g_dup (by decide +kernel) rfl ?_
        refine g_get (C := "ThreePointsModel") (T := xT_Model) (N := 39) (ci := 10) (k := 20) (v := vi (H2 30 0 20)) (by decide +kernel) (by decide) rfl rfl xi_Model (by decide) kw_1046 rfl ?_
        refine g_iconst (n := 1) (v := 1) (by decide +kernel) (by decide) ?_
        refine g_iadd (by decide +kernel) ?_
        refine g_put (C := "ThreePointsModel") (T := xT_Model) (N := 39) (ci := 10) (k := 20) xy_Model (by decide +kernel) (by decide) rfl rfl xi_Model xy_Model_ok xn_Model (by decide) kw_1046 rfl (by decide +kernel) (fun _ => rfl) ?_
        refine g_goto (off := (-49)) (tgt := 0) (by decide +kernel) (by decide) ?_
        refine g_heap (fun H51 eH51 => ?_)
        replace h := h H51 eH51
        obtain ⟨hI, hlt⟩ := h
        exact g_drop (ls2 := [some (vr 30 0), none, none]) (And.intro rfl trivial) (ih1 () H51 hI hlt)
def p_Model_puts (E : XE) (d : Nat) (x1 : Int32) (H : HH) (Q : HH → Prop) : Prop := vp_in ((200 * (H 30 0 11)) + (H 30 0 28)) 1200 ∧ (∀ H1 : HH, H1 = (hu H 36 0 (((200 * (H 30 0 11)) + (H 30 0 28)).toNatClampNeg) x1) → (∀ H2 : HH, H2 = (hu H1 30 0 28 ((H1 30 0 28) + 1)) → (Q H2)))
set_option maxHeartbeats 4000000 in
theorem l_Model_puts {E : XE} {d : Nat} {x1 : Int32} {H : HH} {Q : HH → Prop} (h : p_Model_puts E d x1 H Q) : c_Model_puts E d x1 H Q := by
  show g_Model_puts E d 0 (xent [vr 30 0, vi x1]) [] H (qv Q)
  refine g_drop (ls2 := [some (vr 30 0), some (vi x1)]) (And.intro rfl (And.intro rfl trivial)) ?_
  refine g_aload_n (q := 0) (i := 0) (by decide +kernel) rfl rfl ?_
  refine g_get (C := "ThreePointsModel") (T := xT_Model) (N := 39) (ci := 10) (k := 9) (v := vr 36 0) (by decide +kernel) (by decide) rfl rfl xi_Model (by decide) kw_1035 rfl ?_
  refine g_sipush (n := 200) (v := 200) (by decide +kernel) (by decide) ?_
  refine g_aload_n (q := 0) (i := 0) (by decide +kernel) rfl rfl ?_
  refine g_get (C := "ThreePointsModel") (T := xT_Model) (N := 39) (ci := 10) (k := 11) (v := vi (H 30 0 11)) (by decide +kernel) (by decide) rfl rfl xi_Model (by decide) kw_1037 rfl ?_
  refine g_imul (by decide +kernel) ?_
  refine g_aload_n (q := 0) (i := 0) (by decide +kernel) rfl rfl ?_
  refine g_get (C := "ThreePointsModel") (T := xT_Model) (N := 39) (ci := 10) (k := 28) (v := vi (H 30 0 28)) (by decide +kernel) (by decide) rfl rfl xi_Model (by decide) kw_1054 rfl ?_
  refine g_iadd (by decide +kernel) ?_
  refine g_iload_n (q := 1) (i := 1) (by decide +kernel) rfl rfl ?_
  obtain ⟨hin, h⟩ := h
  refine g_iast (by decide +kernel) (by decide) rfl hin ?_
  refine g_aload_n (q := 0) (i := 0) (by decide +kernel) rfl rfl ?_
  refine g_dup (by decide +kernel) rfl ?_
  refine g_heap (fun H1 eH1 => ?_)
  replace h := h H1 eH1
  refine g_get (C := "ThreePointsModel") (T := xT_Model) (N := 39) (ci := 10) (k := 28) (v := vi (H1 30 0 28)) (by decide +kernel) (by decide) rfl rfl xi_Model (by decide) kw_1054 rfl ?_
  refine g_iconst (n := 1) (v := 1) (by decide +kernel) (by decide) ?_
  refine g_iadd (by decide +kernel) ?_
  refine g_put (C := "ThreePointsModel") (T := xT_Model) (N := 39) (ci := 10) (k := 28) xy_Model (by decide +kernel) (by decide) rfl rfl xi_Model xy_Model_ok xn_Model (by decide) kw_1054 rfl (by decide +kernel) (fun _ => rfl) ?_
  refine g_heap (fun H2 eH2 => ?_)
  replace h := h H2 eH2
  exact g_vret (by decide +kernel) rfl h
def p_Model_rank (E : XE) (d : Nat) (x0 : Int32) (H : HH) (Q : Int32 → HH → Prop) : Prop := Q (if x0 = 0 then 0 else (if x0 = 11 then 1 else (if x0 = 12 then 2 else (if x0 = 13 then 3 else (if 15 < x0 then (if 17 < x0 then (if x0 = 18 then 6 else 7 : Int32) else 5 : Int32) else 4 : Int32) : Int32) : Int32) : Int32) : Int32) H
set_option maxHeartbeats 4000000 in
theorem l_Model_rank {E : XE} {d : Nat} {x0 : Int32} {H : HH} {Q : Int32 → HH → Prop} (h : p_Model_rank E d x0 H Q) : c_Model_rank E d x0 H Q := by
  show g_Model_rank E d 0 (xent [vi x0]) [] H (qi Q)
  refine g_drop (ls2 := [some (vi x0)]) (And.intro rfl trivial) ?_
  refine g_iload_n (q := 0) (i := 0) (by decide +kernel) rfl rfl ?_
  suffices hj7 : g_Model_rank E d 71 [some (vi x0)] [vi (if x0 = 0 then 0 else (if x0 = 11 then 1 else (if x0 = 12 then 2 else (if x0 = 13 then 3 else (if 15 < x0 then (if 17 < x0 then (if x0 = 18 then 6 else 7 : Int32) else 5 : Int32) else 4 : Int32) : Int32) : Int32) : Int32) : Int32)] H (qi Q) by
    refine g_if_ne (off := 7) (tgt := 8) (by decide +kernel) (by decide) (fun c => ?_) (fun c => ?_)
    · rw [if_neg c] at hj7
      refine g_iload_n (q := 0) (i := 0) (by decide +kernel) rfl rfl ?_
      refine g_bipush (n := 11) (v := 11) (by decide +kernel) (by decide) ?_
      suffices hj6 : g_Model_rank E d 71 [some (vi x0)] [vi (if x0 = 11 then 1 else (if x0 = 12 then 2 else (if x0 = 13 then 3 else (if 15 < x0 then (if 17 < x0 then (if x0 = 18 then 6 else 7 : Int32) else 5 : Int32) else 4 : Int32) : Int32) : Int32) : Int32)] H (qi Q) by
        refine g_icmp_ne (off := 7) (tgt := 18) (by decide +kernel) (by decide) (fun c => ?_) (fun c => ?_)
        · rw [if_neg c] at hj6
          refine g_iload_n (q := 0) (i := 0) (by decide +kernel) rfl rfl ?_
          refine g_bipush (n := 12) (v := 12) (by decide +kernel) (by decide) ?_
          suffices hj5 : g_Model_rank E d 71 [some (vi x0)] [vi (if x0 = 12 then 2 else (if x0 = 13 then 3 else (if 15 < x0 then (if 17 < x0 then (if x0 = 18 then 6 else 7 : Int32) else 5 : Int32) else 4 : Int32) : Int32) : Int32)] H (qi Q) by
            refine g_icmp_ne (off := 7) (tgt := 28) (by decide +kernel) (by decide) (fun c => ?_) (fun c => ?_)
            · rw [if_neg c] at hj5
              refine g_iload_n (q := 0) (i := 0) (by decide +kernel) rfl rfl ?_
              refine g_bipush (n := 13) (v := 13) (by decide +kernel) (by decide) ?_
              suffices hj4 : g_Model_rank E d 71 [some (vi x0)] [vi (if x0 = 13 then 3 else (if 15 < x0 then (if 17 < x0 then (if x0 = 18 then 6 else 7 : Int32) else 5 : Int32) else 4 : Int32) : Int32)] H (qi Q) by
                refine g_icmp_ne (off := 7) (tgt := 38) (by decide +kernel) (by decide) (fun c => ?_) (fun c => ?_)
                · rw [if_neg c] at hj4
                  refine g_iload_n (q := 0) (i := 0) (by decide +kernel) rfl rfl ?_
                  refine g_bipush (n := 15) (v := 15) (by decide +kernel) (by decide) ?_
                  suffices hj3 : g_Model_rank E d 71 [some (vi x0)] [vi (if 15 < x0 then (if 17 < x0 then (if x0 = 18 then 6 else 7 : Int32) else 5 : Int32) else 4 : Int32)] H (qi Q) by
                    refine g_icmp_gt (off := 7) (tgt := 48) (by decide +kernel) (by decide) (fun c => ?_) (fun c => ?_)
                    · rw [if_pos c] at hj3
                      refine g_iload_n (q := 0) (i := 0) (by decide +kernel) rfl rfl ?_
                      refine g_bipush (n := 17) (v := 17) (by decide +kernel) (by decide) ?_
                      suffices hj2 : g_Model_rank E d 71 [some (vi x0)] [vi (if 17 < x0 then (if x0 = 18 then 6 else 7 : Int32) else 5 : Int32)] H (qi Q) by
                        refine g_icmp_gt (off := 7) (tgt := 58) (by decide +kernel) (by decide) (fun c => ?_) (fun c => ?_)
                        · rw [if_pos c] at hj2
                          refine g_iload_n (q := 0) (i := 0) (by decide +kernel) rfl rfl ?_
                          refine g_bipush (n := 18) (v := 18) (by decide +kernel) (by decide) ?_
                          suffices hj1 : g_Model_rank E d 71 [some (vi x0)] [vi (if x0 = 18 then 6 else 7 : Int32)] H (qi Q) by
                            refine g_icmp_ne (off := 8) (tgt := 69) (by decide +kernel) (by decide) (fun c => ?_) (fun c => ?_)
                            · rw [if_neg c] at hj1
                              refine g_bipush (n := 7) (v := 7) (by decide +kernel) (by decide) ?_
                              exact hj1
                            · rw [if_pos c] at hj1
                              refine g_bipush (n := 6) (v := 6) (by decide +kernel) (by decide) ?_
                              refine g_goto (off := 5) (tgt := 71) (by decide +kernel) (by decide) ?_
                              exact hj1
                          exact hj2
                        · rw [if_neg c] at hj2
                          refine g_iconst (n := 5) (v := 5) (by decide +kernel) (by decide) ?_
                          refine g_goto (off := 16) (tgt := 71) (by decide +kernel) (by decide) ?_
                          exact hj2
                      exact hj3
                    · rw [if_neg c] at hj3
                      refine g_iconst (n := 4) (v := 4) (by decide +kernel) (by decide) ?_
                      refine g_goto (off := 26) (tgt := 71) (by decide +kernel) (by decide) ?_
                      exact hj3
                  exact hj4
                · rw [if_pos c] at hj4
                  refine g_iconst (n := 3) (v := 3) (by decide +kernel) (by decide) ?_
                  refine g_goto (off := 36) (tgt := 71) (by decide +kernel) (by decide) ?_
                  exact hj4
              exact hj5
            · rw [if_pos c] at hj5
              refine g_iconst (n := 2) (v := 2) (by decide +kernel) (by decide) ?_
              refine g_goto (off := 46) (tgt := 71) (by decide +kernel) (by decide) ?_
              exact hj5
          exact hj6
        · rw [if_pos c] at hj6
          refine g_iconst (n := 1) (v := 1) (by decide +kernel) (by decide) ?_
          refine g_goto (off := 56) (tgt := 71) (by decide +kernel) (by decide) ?_
          exact hj6
      exact hj7
    · rw [if_pos c] at hj7
      refine g_iconst (n := 0) (v := 0) (by decide +kernel) (by decide) ?_
      refine g_goto (off := 66) (tgt := 71) (by decide +kernel) (by decide) ?_
      exact hj7
  exact g_iret (by decide +kernel) rfl ⟨_, rfl, h⟩
def p_Model_unwinds (E : XE) (d : Nat) (x1 : Int32) (H : HH) (Q : HH → Prop) : Prop := ∃ (I1 : HH → Prop) (μ1 : HH → Nat), I1  H ∧ ∀  (H2 : HH), I1  H2 → (((H2 30 0 26) ≤ 0 → (Q H2)) ∧ (¬ (H2 30 0 26) ≤ 0 → (vp_in ((H2 30 0 26) - 1) 200 ∧ (c_Model_rank E d (H2 45 0 (((H2 30 0 26) - 1).toNatClampNeg)) H2 (fun r4 H3 => (r4 < x1 → (Q H3)) ∧ (¬ r4 < x1 → (∀ H5 : HH, H5 = (hu H3 30 0 26 ((H3 30 0 26) - 1)) → (vp_in (H5 30 0 26) 200 ∧ (∀ v6 : Int32, v6 = (H5 45 0 ((H5 30 0 26).toNatClampNeg)) → (∀ H9 : HH, H9 = (hu H5 30 0 27 ((H5 30 0 27) - (if v6 = 13 then 1 else (if v6 = 19 then 1 else 0 : Int32) : Int32))) → (c_Model_puts E d v6 H9 (fun H10 => I1  H10 ∧ μ1  H10 < μ1  H2))))))))))))
set_option maxHeartbeats 4000000 in
theorem l_Model_unwinds {E : XE} {d : Nat} {x1 : Int32} {H : HH} {Q : HH → Prop} (h : p_Model_unwinds E d x1 H Q) : c_Model_unwinds E (d + 1) x1 H Q := by
  show g_Model_unwinds E (d + 1) 0 (xent [vr 30 0, vi x1]) [] H (qv Q)
  refine g_drop (ls2 := [some (vr 30 0), some (vi x1), none]) (And.intro rfl (And.intro rfl trivial)) ?_
  refine g_drop (ls2 := [some (vr 30 0), some (vi x1), none]) (And.intro rfl (And.intro rfl trivial)) ?_
  obtain ⟨I1, μ1, h0, h⟩ := h
  refine xloop (σ := Unit) (fun s H => I1  H) (fun s H => μ1  H) (fun s H => g_Model_unwinds E (d + 1) 0 [some (vr 30 0), some (vi x1), none] [] H (qv Q)) (fun s H2 hI ih1 => ?_) () H h0
  replace h := h  H2 hI
  refine g_aload_n (q := 0) (i := 0) (by decide +kernel) rfl rfl ?_
  refine g_get (C := "ThreePointsModel") (T := xT_Model) (N := 39) (ci := 10) (k := 26) (v := vi (H2 30 0 26)) (by decide +kernel) (by decide) rfl rfl xi_Model (by decide) kw_1052 rfl ?_
  refine g_if_le (off := 75) (tgt := 79) (by decide +kernel) (by decide) (fun c => ?_) (fun c => ?_)
  · replace h := h.1 c
    exact g_vret (by decide +kernel) rfl h
  · replace h := h.2 c
    refine g_aload_n (q := 0) (i := 0) (by decide +kernel) rfl rfl ?_
    refine g_get (C := "ThreePointsModel") (T := xT_Model) (N := 39) (ci := 10) (k := 25) (v := vr 45 0) (by decide +kernel) (by decide) rfl rfl xi_Model (by decide) kw_1051 rfl ?_
    refine g_aload_n (q := 0) (i := 0) (by decide +kernel) rfl rfl ?_
    refine g_get (C := "ThreePointsModel") (T := xT_Model) (N := 39) (ci := 10) (k := 26) (v := vi (H2 30 0 26)) (by decide +kernel) (by decide) rfl rfl xi_Model (by decide) kw_1052 rfl ?_
    refine g_iconst (n := 1) (v := 1) (by decide +kernel) (by decide) ?_
    refine g_isub (by decide +kernel) ?_
    obtain ⟨hin, h⟩ := h
    refine g_iald (by decide +kernel) (by decide) rfl hin ?_
    refine g_callS (vs := [vi (H2 45 0 (((H2 30 0 26) - 1).toNatClampNeg))]) (st := []) (by decide +kernel) xm_Model_rank kw_1007 kw_1008 rfl rfl (Nat.le_of_ble_eq_true rfl) (Nat.le_of_ble_eq_true rfl) h (fun vH3 H3 hq => ?_)
    obtain ⟨r4, rfl, h⟩ := hq
    refine g_iload_n (q := 1) (i := 1) (by decide +kernel) rfl rfl ?_
    refine g_icmp_lt (off := 57) (tgt := 79) (by decide +kernel) (by decide) (fun c => ?_) (fun c => ?_)
    · replace h := h.1 c
      exact g_vret (by decide +kernel) rfl h
    · replace h := h.2 c
      refine g_aload_n (q := 0) (i := 0) (by decide +kernel) rfl rfl ?_
      refine g_dup (by decide +kernel) rfl ?_
      refine g_get (C := "ThreePointsModel") (T := xT_Model) (N := 39) (ci := 10) (k := 26) (v := vi (H3 30 0 26)) (by decide +kernel) (by decide) rfl rfl xi_Model (by decide) kw_1052 rfl ?_
      refine g_iconst (n := 1) (v := 1) (by decide +kernel) (by decide) ?_
      refine g_isub (by decide +kernel) ?_
      refine g_put (C := "ThreePointsModel") (T := xT_Model) (N := 39) (ci := 10) (k := 26) xy_Model (by decide +kernel) (by decide) rfl rfl xi_Model xy_Model_ok xn_Model (by decide) kw_1052 rfl (by decide +kernel) (fun _ => rfl) ?_
      refine g_aload_n (q := 0) (i := 0) (by decide +kernel) rfl rfl ?_
      refine g_get (C := "ThreePointsModel") (T := xT_Model) (N := 39) (ci := 10) (k := 25) (v := vr 45 0) (by decide +kernel) (by decide) rfl rfl xi_Model (by decide) kw_1051 rfl ?_
      refine g_aload_n (q := 0) (i := 0) (by decide +kernel) rfl rfl ?_
      refine g_heap (fun H5 eH5 => ?_)
      replace h := h H5 eH5
      refine g_get (C := "ThreePointsModel") (T := xT_Model) (N := 39) (ci := 10) (k := 26) (v := vi (H5 30 0 26)) (by decide +kernel) (by decide) rfl rfl xi_Model (by decide) kw_1052 rfl ?_
      obtain ⟨hin, h⟩ := h
      refine g_iald (by decide +kernel) (by decide) rfl hin ?_
      refine g_topi (fun v6 ev6 => ?_)
      replace h := h v6 ev6
      refine g_istore_n (q := 2) (i := 2) (ls2 := [some (vr 30 0), some (vi x1), some (vi v6)]) (by decide +kernel) rfl (by decide) rfl rfl ?_
      refine g_aload_n (q := 0) (i := 0) (by decide +kernel) rfl rfl ?_
      refine g_dup (by decide +kernel) rfl ?_
      refine g_get (C := "ThreePointsModel") (T := xT_Model) (N := 39) (ci := 10) (k := 27) (v := vi (H5 30 0 27)) (by decide +kernel) (by decide) rfl rfl xi_Model (by decide) kw_1053 rfl ?_
      refine g_iload_n (q := 2) (i := 2) (by decide +kernel) rfl rfl ?_
      refine g_bipush (n := 13) (v := 13) (by decide +kernel) (by decide) ?_
      suffices hj8 : g_Model_unwinds E (d + 1) 67 [some (vr 30 0), some (vi x1), some (vi v6)] [vi (if v6 = 13 then 1 else (if v6 = 19 then 1 else 0 : Int32) : Int32), vi (H5 30 0 27), vr 30 0] H5 (qv Q) by
        refine g_icmp_eq (off := 9) (tgt := 62) (by decide +kernel) (by decide) (fun c => ?_) (fun c => ?_)
        · rw [if_pos c] at hj8
          refine g_iconst (n := 1) (v := 1) (by decide +kernel) (by decide) ?_
          refine g_goto (off := 4) (tgt := 67) (by decide +kernel) (by decide) ?_
          exact hj8
        · rw [if_neg c] at hj8
          refine g_iload_n (q := 2) (i := 2) (by decide +kernel) rfl rfl ?_
          refine g_bipush (n := 19) (v := 19) (by decide +kernel) (by decide) ?_
          suffices hj7 : g_Model_unwinds E (d + 1) 67 [some (vr 30 0), some (vi x1), some (vi v6)] [vi (if v6 = 19 then 1 else 0 : Int32), vi (H5 30 0 27), vr 30 0] H5 (qv Q) by
            refine g_icmp_ne (off := 7) (tgt := 66) (by decide +kernel) (by decide) (fun c => ?_) (fun c => ?_)
            · rw [if_neg c] at hj7
              refine g_iconst (n := 0) (v := 0) (by decide +kernel) (by decide) ?_
              exact hj7
            · rw [if_pos c] at hj7
              refine g_iconst (n := 1) (v := 1) (by decide +kernel) (by decide) ?_
              refine g_goto (off := 4) (tgt := 67) (by decide +kernel) (by decide) ?_
              exact hj7
          exact hj8
      refine g_isub (by decide +kernel) ?_
      refine g_put (C := "ThreePointsModel") (T := xT_Model) (N := 39) (ci := 10) (k := 27) xy_Model (by decide +kernel) (by decide) rfl rfl xi_Model xy_Model_ok xn_Model (by decide) kw_1053 rfl (by decide +kernel) (fun _ => rfl) ?_
      refine g_aload_n (q := 0) (i := 0) (by decide +kernel) rfl rfl ?_
      refine g_iload_n (q := 2) (i := 2) (by decide +kernel) rfl rfl ?_
      refine g_heap (fun H9 eH9 => ?_)
      replace h := h H9 eH9
      refine g_callV (kd := 30) (ix := 0) (ci := 10) (N := 39) (T := xT_Model) (vs := [vi v6]) (st := []) (by decide +kernel) xm_Model_puts kw_999 kw_1001 kw_30 (by decide) rfl rfl rfl rfl (Nat.le_of_ble_eq_true rfl) (Nat.le_of_ble_eq_true rfl) h (fun vH10 H10 hq => ?_)
      replace h := hq
      refine g_goto (off := (-76)) (tgt := 0) (by decide +kernel) (by decide) ?_
      obtain ⟨hI, hlt⟩ := h
      exact g_drop (ls2 := [some (vr 30 0), some (vi x1), none]) (And.intro rfl (And.intro rfl trivial)) (ih1 () H10 hI hlt)
def p_Model_holds (E : XE) (d : Nat) (x1 : Int32) (H : HH) (Q : HH → Prop) : Prop := vp_in (H 30 0 26) 200 ∧ (∀ H1 : HH, H1 = (hu H 45 0 ((H 30 0 26).toNatClampNeg) x1) → (∀ H2 : HH, H2 = (hu H1 30 0 26 ((H1 30 0 26) + 1)) → (Q H2)))
set_option maxHeartbeats 4000000 in
theorem l_Model_holds {E : XE} {d : Nat} {x1 : Int32} {H : HH} {Q : HH → Prop} (h : p_Model_holds E d x1 H Q) : c_Model_holds E d x1 H Q := by
  show g_Model_holds E d 0 (xent [vr 30 0, vi x1]) [] H (qv Q)
  refine g_drop (ls2 := [some (vr 30 0), some (vi x1)]) (And.intro rfl (And.intro rfl trivial)) ?_
  refine g_aload_n (q := 0) (i := 0) (by decide +kernel) rfl rfl ?_
  refine g_get (C := "ThreePointsModel") (T := xT_Model) (N := 39) (ci := 10) (k := 25) (v := vr 45 0) (by decide +kernel) (by decide) rfl rfl xi_Model (by decide) kw_1051 rfl ?_
  refine g_aload_n (q := 0) (i := 0) (by decide +kernel) rfl rfl ?_
  refine g_get (C := "ThreePointsModel") (T := xT_Model) (N := 39) (ci := 10) (k := 26) (v := vi (H 30 0 26)) (by decide +kernel) (by decide) rfl rfl xi_Model (by decide) kw_1052 rfl ?_
  refine g_iload_n (q := 1) (i := 1) (by decide +kernel) rfl rfl ?_
  obtain ⟨hin, h⟩ := h
  refine g_iast (by decide +kernel) (by decide) rfl hin ?_
  refine g_aload_n (q := 0) (i := 0) (by decide +kernel) rfl rfl ?_
  refine g_dup (by decide +kernel) rfl ?_
  refine g_heap (fun H1 eH1 => ?_)
  replace h := h H1 eH1
  refine g_get (C := "ThreePointsModel") (T := xT_Model) (N := 39) (ci := 10) (k := 26) (v := vi (H1 30 0 26)) (by decide +kernel) (by decide) rfl rfl xi_Model (by decide) kw_1052 rfl ?_
  refine g_iconst (n := 1) (v := 1) (by decide +kernel) (by decide) ?_
  refine g_iadd (by decide +kernel) ?_
  refine g_put (C := "ThreePointsModel") (T := xT_Model) (N := 39) (ci := 10) (k := 26) xy_Model (by decide +kernel) (by decide) rfl rfl xi_Model xy_Model_ok xn_Model (by decide) kw_1052 rfl (by decide +kernel) (fun _ => rfl) ?_
  refine g_heap (fun H2 eH2 => ?_)
  replace h := h H2 eH2
  exact g_vret (by decide +kernel) rfl h
def p_Model_opensOne (E : XE) (d : Nat) (x1 : Int32) (H : HH) (Q : Int32 → HH → Prop) : Prop := (¬ (H 30 0 27) = 5 → (∀ H1 : HH, H1 = (hu H 30 0 27 ((H 30 0 27) + 1)) → (c_Model_holds E d x1 H1 (fun H2 => Q 1 H2)))) ∧ ((H 30 0 27) = 5 → (Q 0 H))
set_option maxHeartbeats 4000000 in
theorem l_Model_opensOne {E : XE} {d : Nat} {x1 : Int32} {H : HH} {Q : Int32 → HH → Prop} (h : p_Model_opensOne E d x1 H Q) : c_Model_opensOne E (d + 1) x1 H Q := by
  show g_Model_opensOne E (d + 1) 0 (xent [vr 30 0, vi x1]) [] H (qi Q)
  refine g_drop (ls2 := [some (vr 30 0), some (vi x1)]) (And.intro rfl (And.intro rfl trivial)) ?_
  refine g_aload_n (q := 0) (i := 0) (by decide +kernel) rfl rfl ?_
  refine g_get (C := "ThreePointsModel") (T := xT_Model) (N := 39) (ci := 10) (k := 27) (v := vi (H 30 0 27)) (by decide +kernel) (by decide) rfl rfl xi_Model (by decide) kw_1053 rfl ?_
  refine g_iconst (n := 5) (v := 5) (by decide +kernel) (by decide) ?_
  refine g_icmp_ne (off := 5) (tgt := 10) (by decide +kernel) (by decide) (fun c => ?_) (fun c => ?_)
  · replace h := h.1 c
    refine g_aload_n (q := 0) (i := 0) (by decide +kernel) rfl rfl ?_
    refine g_dup (by decide +kernel) rfl ?_
    refine g_get (C := "ThreePointsModel") (T := xT_Model) (N := 39) (ci := 10) (k := 27) (v := vi (H 30 0 27)) (by decide +kernel) (by decide) rfl rfl xi_Model (by decide) kw_1053 rfl ?_
    refine g_iconst (n := 1) (v := 1) (by decide +kernel) (by decide) ?_
    refine g_iadd (by decide +kernel) ?_
    refine g_put (C := "ThreePointsModel") (T := xT_Model) (N := 39) (ci := 10) (k := 27) xy_Model (by decide +kernel) (by decide) rfl rfl xi_Model xy_Model_ok xn_Model (by decide) kw_1053 rfl (by decide +kernel) (fun _ => rfl) ?_
    refine g_aload_n (q := 0) (i := 0) (by decide +kernel) rfl rfl ?_
    refine g_iload_n (q := 1) (i := 1) (by decide +kernel) rfl rfl ?_
    refine g_heap (fun H1 eH1 => ?_)
    replace h := h H1 eH1
    refine g_callV (kd := 30) (ix := 0) (ci := 10) (N := 39) (T := xT_Model) (vs := [vi x1]) (st := []) (by decide +kernel) xm_Model_holds kw_1014 kw_1016 kw_33 (by decide) rfl rfl rfl rfl (Nat.le_of_ble_eq_true rfl) (Nat.le_of_ble_eq_true rfl) h (fun vH2 H2 hq => ?_)
    replace h := hq
    refine g_iconst (n := 1) (v := 1) (by decide +kernel) (by decide) ?_
    exact g_zret (by decide +kernel) rfl rfl ⟨_, rfl, h⟩
  · replace h := h.2 c
    refine g_iconst (n := 0) (v := 0) (by decide +kernel) (by decide) ?_
    exact g_zret (by decide +kernel) rfl rfl ⟨_, rfl, h⟩
def p_Model_signOf (E : XE) (d : Nat)  (H : HH) (Q : Int32 → HH → Prop) : Prop := Q (if (H 30 0 22) = 4 then 11 else (if (H 30 0 22) = 5 then 12 else (if (H 30 0 22) = 60 then 14 else (if (H 30 0 22) = 61 then 15 else (if (H 30 0 22) = 43 then 16 else (if (H 30 0 22) = 45 then 17 else (if (H 30 0 22) = 42 then 18 else (-1) : Int32) : Int32) : Int32) : Int32) : Int32) : Int32) : Int32) H
set_option maxHeartbeats 4000000 in
theorem l_Model_signOf {E : XE} {d : Nat}  {H : HH} {Q : Int32 → HH → Prop} (h : p_Model_signOf E d  H Q) : c_Model_signOf E d  H Q := by
  show g_Model_signOf E d 0 (xent [vr 30 0]) [] H (qi Q)
  refine g_drop (ls2 := [some (vr 30 0)]) (And.intro rfl trivial) ?_
  refine g_aload_n (q := 0) (i := 0) (by decide +kernel) rfl rfl ?_
  refine g_get (C := "ThreePointsModel") (T := xT_Model) (N := 39) (ci := 10) (k := 22) (v := vi (H 30 0 22)) (by decide +kernel) (by decide) rfl rfl xi_Model (by decide) kw_1048 rfl ?_
  refine g_iconst (n := 4) (v := 4) (by decide +kernel) (by decide) ?_
  suffices hj7 : g_Model_signOf E d 97 [some (vr 30 0)] [vi (if (H 30 0 22) = 4 then 11 else (if (H 30 0 22) = 5 then 12 else (if (H 30 0 22) = 60 then 14 else (if (H 30 0 22) = 61 then 15 else (if (H 30 0 22) = 43 then 16 else (if (H 30 0 22) = 45 then 17 else (if (H 30 0 22) = 42 then 18 else (-1) : Int32) : Int32) : Int32) : Int32) : Int32) : Int32) : Int32)] H (qi Q) by
    refine g_icmp_ne (off := 8) (tgt := 13) (by decide +kernel) (by decide) (fun c => ?_) (fun c => ?_)
    · rw [if_neg c] at hj7
      refine g_aload_n (q := 0) (i := 0) (by decide +kernel) rfl rfl ?_
      refine g_get (C := "ThreePointsModel") (T := xT_Model) (N := 39) (ci := 10) (k := 22) (v := vi (H 30 0 22)) (by decide +kernel) (by decide) rfl rfl xi_Model (by decide) kw_1048 rfl ?_
      refine g_iconst (n := 5) (v := 5) (by decide +kernel) (by decide) ?_
      suffices hj6 : g_Model_signOf E d 97 [some (vr 30 0)] [vi (if (H 30 0 22) = 5 then 12 else (if (H 30 0 22) = 60 then 14 else (if (H 30 0 22) = 61 then 15 else (if (H 30 0 22) = 43 then 16 else (if (H 30 0 22) = 45 then 17 else (if (H 30 0 22) = 42 then 18 else (-1) : Int32) : Int32) : Int32) : Int32) : Int32) : Int32)] H (qi Q) by
        refine g_icmp_ne (off := 8) (tgt := 26) (by decide +kernel) (by decide) (fun c => ?_) (fun c => ?_)
        · rw [if_neg c] at hj6
          refine g_aload_n (q := 0) (i := 0) (by decide +kernel) rfl rfl ?_
          refine g_get (C := "ThreePointsModel") (T := xT_Model) (N := 39) (ci := 10) (k := 22) (v := vi (H 30 0 22)) (by decide +kernel) (by decide) rfl rfl xi_Model (by decide) kw_1048 rfl ?_
          refine g_bipush (n := 60) (v := 60) (by decide +kernel) (by decide) ?_
          suffices hj5 : g_Model_signOf E d 97 [some (vr 30 0)] [vi (if (H 30 0 22) = 60 then 14 else (if (H 30 0 22) = 61 then 15 else (if (H 30 0 22) = 43 then 16 else (if (H 30 0 22) = 45 then 17 else (if (H 30 0 22) = 42 then 18 else (-1) : Int32) : Int32) : Int32) : Int32) : Int32)] H (qi Q) by
            refine g_icmp_ne (off := 8) (tgt := 40) (by decide +kernel) (by decide) (fun c => ?_) (fun c => ?_)
            · rw [if_neg c] at hj5
              refine g_aload_n (q := 0) (i := 0) (by decide +kernel) rfl rfl ?_
              refine g_get (C := "ThreePointsModel") (T := xT_Model) (N := 39) (ci := 10) (k := 22) (v := vi (H 30 0 22)) (by decide +kernel) (by decide) rfl rfl xi_Model (by decide) kw_1048 rfl ?_
              refine g_bipush (n := 61) (v := 61) (by decide +kernel) (by decide) ?_
              suffices hj4 : g_Model_signOf E d 97 [some (vr 30 0)] [vi (if (H 30 0 22) = 61 then 15 else (if (H 30 0 22) = 43 then 16 else (if (H 30 0 22) = 45 then 17 else (if (H 30 0 22) = 42 then 18 else (-1) : Int32) : Int32) : Int32) : Int32)] H (qi Q) by
                refine g_icmp_ne (off := 8) (tgt := 54) (by decide +kernel) (by decide) (fun c => ?_) (fun c => ?_)
                · rw [if_neg c] at hj4
                  refine g_aload_n (q := 0) (i := 0) (by decide +kernel) rfl rfl ?_
                  refine g_get (C := "ThreePointsModel") (T := xT_Model) (N := 39) (ci := 10) (k := 22) (v := vi (H 30 0 22)) (by decide +kernel) (by decide) rfl rfl xi_Model (by decide) kw_1048 rfl ?_
                  refine g_bipush (n := 43) (v := 43) (by decide +kernel) (by decide) ?_
                  suffices hj3 : g_Model_signOf E d 97 [some (vr 30 0)] [vi (if (H 30 0 22) = 43 then 16 else (if (H 30 0 22) = 45 then 17 else (if (H 30 0 22) = 42 then 18 else (-1) : Int32) : Int32) : Int32)] H (qi Q) by
                    refine g_icmp_ne (off := 8) (tgt := 68) (by decide +kernel) (by decide) (fun c => ?_) (fun c => ?_)
                    · rw [if_neg c] at hj3
                      refine g_aload_n (q := 0) (i := 0) (by decide +kernel) rfl rfl ?_
                      refine g_get (C := "ThreePointsModel") (T := xT_Model) (N := 39) (ci := 10) (k := 22) (v := vi (H 30 0 22)) (by decide +kernel) (by decide) rfl rfl xi_Model (by decide) kw_1048 rfl ?_
                      refine g_bipush (n := 45) (v := 45) (by decide +kernel) (by decide) ?_
                      suffices hj2 : g_Model_signOf E d 97 [some (vr 30 0)] [vi (if (H 30 0 22) = 45 then 17 else (if (H 30 0 22) = 42 then 18 else (-1) : Int32) : Int32)] H (qi Q) by
                        refine g_icmp_ne (off := 8) (tgt := 82) (by decide +kernel) (by decide) (fun c => ?_) (fun c => ?_)
                        · rw [if_neg c] at hj2
                          refine g_aload_n (q := 0) (i := 0) (by decide +kernel) rfl rfl ?_
                          refine g_get (C := "ThreePointsModel") (T := xT_Model) (N := 39) (ci := 10) (k := 22) (v := vi (H 30 0 22)) (by decide +kernel) (by decide) rfl rfl xi_Model (by decide) kw_1048 rfl ?_
                          refine g_bipush (n := 42) (v := 42) (by decide +kernel) (by decide) ?_
                          suffices hj1 : g_Model_signOf E d 97 [some (vr 30 0)] [vi (if (H 30 0 22) = 42 then 18 else (-1) : Int32)] H (qi Q) by
                            refine g_icmp_ne (off := 8) (tgt := 96) (by decide +kernel) (by decide) (fun c => ?_) (fun c => ?_)
                            · rw [if_neg c] at hj1
                              refine g_iconst (n := (-1)) (v := (-1)) (by decide +kernel) (by decide) ?_
                              exact hj1
                            · rw [if_pos c] at hj1
                              refine g_bipush (n := 18) (v := 18) (by decide +kernel) (by decide) ?_
                              refine g_goto (off := 4) (tgt := 97) (by decide +kernel) (by decide) ?_
                              exact hj1
                          exact hj2
                        · rw [if_pos c] at hj2
                          refine g_bipush (n := 17) (v := 17) (by decide +kernel) (by decide) ?_
                          refine g_goto (off := 18) (tgt := 97) (by decide +kernel) (by decide) ?_
                          exact hj2
                      exact hj3
                    · rw [if_pos c] at hj3
                      refine g_bipush (n := 16) (v := 16) (by decide +kernel) (by decide) ?_
                      refine g_goto (off := 32) (tgt := 97) (by decide +kernel) (by decide) ?_
                      exact hj3
                  exact hj4
                · rw [if_pos c] at hj4
                  refine g_bipush (n := 15) (v := 15) (by decide +kernel) (by decide) ?_
                  refine g_goto (off := 46) (tgt := 97) (by decide +kernel) (by decide) ?_
                  exact hj4
              exact hj5
            · rw [if_pos c] at hj5
              refine g_bipush (n := 14) (v := 14) (by decide +kernel) (by decide) ?_
              refine g_goto (off := 60) (tgt := 97) (by decide +kernel) (by decide) ?_
              exact hj5
          exact hj6
        · rw [if_pos c] at hj6
          refine g_bipush (n := 12) (v := 12) (by decide +kernel) (by decide) ?_
          refine g_goto (off := 74) (tgt := 97) (by decide +kernel) (by decide) ?_
          exact hj6
      exact hj7
    · rw [if_pos c] at hj7
      refine g_bipush (n := 11) (v := 11) (by decide +kernel) (by decide) ?_
      refine g_goto (off := 87) (tgt := 97) (by decide +kernel) (by decide) ?_
      exact hj7
  exact g_iret (by decide +kernel) rfl ⟨_, rfl, h⟩
def p_Model_between (E : XE) (d : Nat) (x1 : Int32) (H : HH) (Q : Int32 → HH → Prop) : Prop := c_Model_rank E d x1 H (fun r2 H1 => ∃ J3 : Int32 → HH → Prop, ((¬ r2 = 4 → (c_Model_rank E d x1 H1 (fun r15 H14 => J3 r15 H14))) ∧ (r2 = 4 → (J3 5 H1))) ∧ ∀ (y4 : Int32) (H5 : HH), J3 y4 H5 → (c_Model_unwinds E d y4 H5 (fun H6 => c_Model_rank E d x1 H6 (fun r8 H7 => (¬ r8 = 4 → (c_Model_holds E d x1 H7 (fun H9 => Q 1 H9))) ∧ (r8 = 4 → (((H7 30 0 26) ≤ 0 → (c_Model_holds E d x1 H7 (fun H10 => Q 1 H10))) ∧ (¬ (H7 30 0 26) ≤ 0 → (vp_in ((H7 30 0 26) - 1) 200 ∧ (c_Model_rank E d (H7 45 0 (((H7 30 0 26) - 1).toNatClampNeg)) H7 (fun r12 H11 => (¬ r12 = 4 → (c_Model_holds E d x1 H11 (fun H13 => Q 1 H13))) ∧ (r12 = 4 → (Q 0 H11))))))))))))
set_option maxHeartbeats 4000000 in
theorem l_Model_between {E : XE} {d : Nat} {x1 : Int32} {H : HH} {Q : Int32 → HH → Prop} (h : p_Model_between E d x1 H Q) : c_Model_between E (d + 1) x1 H Q := by
  show g_Model_between E (d + 1) 0 (xent [vr 30 0, vi x1]) [] H (qi Q)
  refine g_drop (ls2 := [some (vr 30 0), some (vi x1)]) (And.intro rfl (And.intro rfl trivial)) ?_
  refine g_aload_n (q := 0) (i := 0) (by decide +kernel) rfl rfl ?_
  refine g_iload_n (q := 1) (i := 1) (by decide +kernel) rfl rfl ?_
  refine g_callS (vs := [vi x1]) (st := [vr 30 0]) (by decide +kernel) xm_Model_rank kw_1007 kw_1008 rfl rfl (Nat.le_of_ble_eq_true rfl) (Nat.le_of_ble_eq_true rfl) h (fun vH1 H1 hq => ?_)
  obtain ⟨r2, rfl, h⟩ := hq
  refine g_iconst (n := 4) (v := 4) (by decide +kernel) (by decide) ?_
  obtain ⟨J3, h, hk3⟩ := h
  have hc3 : ∀ (y4 : Int32) (H5 : HH), J3 y4 H5 → g_Model_between E (d + 1) 17 [some (vr 30 0), some (vi x1)] [vi y4, vr 30 0] H5 (qi Q) := by
    intro y4 H5 h
    replace h := hk3 y4 H5 h
    refine g_callV (kd := 30) (ix := 0) (ci := 10) (N := 39) (T := xT_Model) (vs := [vi y4]) (st := []) (by decide +kernel) xm_Model_unwinds kw_1003 kw_1005 kw_31 (by decide) rfl rfl rfl rfl (Nat.le_of_ble_eq_true rfl) (Nat.le_of_ble_eq_true rfl) h (fun vH6 H6 hq => ?_)
    replace h := hq
    refine g_iload_n (q := 1) (i := 1) (by decide +kernel) rfl rfl ?_
    refine g_callS (vs := [vi x1]) (st := []) (by decide +kernel) xm_Model_rank kw_1007 kw_1008 rfl rfl (Nat.le_of_ble_eq_true rfl) (Nat.le_of_ble_eq_true rfl) h (fun vH7 H7 hq => ?_)
    obtain ⟨r8, rfl, h⟩ := hq
    refine g_iconst (n := 4) (v := 4) (by decide +kernel) (by decide) ?_
    refine g_icmp_ne (off := 30) (tgt := 55) (by decide +kernel) (by decide) (fun c => ?_) (fun c => ?_)
    · replace h := h.1 c
      refine g_aload_n (q := 0) (i := 0) (by decide +kernel) rfl rfl ?_
      refine g_iload_n (q := 1) (i := 1) (by decide +kernel) rfl rfl ?_
      refine g_callV (kd := 30) (ix := 0) (ci := 10) (N := 39) (T := xT_Model) (vs := [vi x1]) (st := []) (by decide +kernel) xm_Model_holds kw_1014 kw_1016 kw_33 (by decide) rfl rfl rfl rfl (Nat.le_of_ble_eq_true rfl) (Nat.le_of_ble_eq_true rfl) h (fun vH9 H9 hq => ?_)
      replace h := hq
      refine g_iconst (n := 1) (v := 1) (by decide +kernel) (by decide) ?_
      exact g_zret (by decide +kernel) rfl rfl ⟨_, rfl, h⟩
    · replace h := h.2 c
      refine g_aload_n (q := 0) (i := 0) (by decide +kernel) rfl rfl ?_
      refine g_get (C := "ThreePointsModel") (T := xT_Model) (N := 39) (ci := 10) (k := 26) (v := vi (H7 30 0 26)) (by decide +kernel) (by decide) rfl rfl xi_Model (by decide) kw_1052 rfl ?_
      refine g_if_le (off := 23) (tgt := 55) (by decide +kernel) (by decide) (fun c => ?_) (fun c => ?_)
      · replace h := h.1 c
        refine g_aload_n (q := 0) (i := 0) (by decide +kernel) rfl rfl ?_
        refine g_iload_n (q := 1) (i := 1) (by decide +kernel) rfl rfl ?_
        refine g_callV (kd := 30) (ix := 0) (ci := 10) (N := 39) (T := xT_Model) (vs := [vi x1]) (st := []) (by decide +kernel) xm_Model_holds kw_1014 kw_1016 kw_33 (by decide) rfl rfl rfl rfl (Nat.le_of_ble_eq_true rfl) (Nat.le_of_ble_eq_true rfl) h (fun vH10 H10 hq => ?_)
        replace h := hq
        refine g_iconst (n := 1) (v := 1) (by decide +kernel) (by decide) ?_
        exact g_zret (by decide +kernel) rfl rfl ⟨_, rfl, h⟩
      · replace h := h.2 c
        refine g_aload_n (q := 0) (i := 0) (by decide +kernel) rfl rfl ?_
        refine g_get (C := "ThreePointsModel") (T := xT_Model) (N := 39) (ci := 10) (k := 25) (v := vr 45 0) (by decide +kernel) (by decide) rfl rfl xi_Model (by decide) kw_1051 rfl ?_
        refine g_aload_n (q := 0) (i := 0) (by decide +kernel) rfl rfl ?_
        refine g_get (C := "ThreePointsModel") (T := xT_Model) (N := 39) (ci := 10) (k := 26) (v := vi (H7 30 0 26)) (by decide +kernel) (by decide) rfl rfl xi_Model (by decide) kw_1052 rfl ?_
        refine g_iconst (n := 1) (v := 1) (by decide +kernel) (by decide) ?_
        refine g_isub (by decide +kernel) ?_
        obtain ⟨hin, h⟩ := h
        refine g_iald (by decide +kernel) (by decide) rfl hin ?_
        refine g_callS (vs := [vi (H7 45 0 (((H7 30 0 26) - 1).toNatClampNeg))]) (st := []) (by decide +kernel) xm_Model_rank kw_1007 kw_1008 rfl rfl (Nat.le_of_ble_eq_true rfl) (Nat.le_of_ble_eq_true rfl) h (fun vH11 H11 hq => ?_)
        obtain ⟨r12, rfl, h⟩ := hq
        refine g_iconst (n := 4) (v := 4) (by decide +kernel) (by decide) ?_
        refine g_icmp_ne (off := 5) (tgt := 55) (by decide +kernel) (by decide) (fun c => ?_) (fun c => ?_)
        · replace h := h.1 c
          refine g_aload_n (q := 0) (i := 0) (by decide +kernel) rfl rfl ?_
          refine g_iload_n (q := 1) (i := 1) (by decide +kernel) rfl rfl ?_
          refine g_callV (kd := 30) (ix := 0) (ci := 10) (N := 39) (T := xT_Model) (vs := [vi x1]) (st := []) (by decide +kernel) xm_Model_holds kw_1014 kw_1016 kw_33 (by decide) rfl rfl rfl rfl (Nat.le_of_ble_eq_true rfl) (Nat.le_of_ble_eq_true rfl) h (fun vH13 H13 hq => ?_)
          replace h := hq
          refine g_iconst (n := 1) (v := 1) (by decide +kernel) (by decide) ?_
          exact g_zret (by decide +kernel) rfl rfl ⟨_, rfl, h⟩
        · replace h := h.2 c
          refine g_iconst (n := 0) (v := 0) (by decide +kernel) (by decide) ?_
          exact g_zret (by decide +kernel) rfl rfl ⟨_, rfl, h⟩
  refine g_icmp_ne (off := 7) (tgt := 13) (by decide +kernel) (by decide) (fun c => ?_) (fun c => ?_)
  · replace h := h.1 c
    refine g_iload_n (q := 1) (i := 1) (by decide +kernel) rfl rfl ?_
    refine g_callS (vs := [vi x1]) (st := [vr 30 0]) (by decide +kernel) xm_Model_rank kw_1007 kw_1008 rfl rfl (Nat.le_of_ble_eq_true rfl) (Nat.le_of_ble_eq_true rfl) h (fun vH14 H14 hq => ?_)
    obtain ⟨r15, rfl, h⟩ := hq
    exact g_drop (ls2 := [some (vr 30 0), some (vi x1)]) (And.intro rfl (And.intro rfl trivial)) (hc3 r15 H14 h)
  · replace h := h.2 c
    refine g_iconst (n := 5) (v := 5) (by decide +kernel) (by decide) ?_
    refine g_goto (off := 7) (tgt := 17) (by decide +kernel) (by decide) ?_
    exact g_drop (ls2 := [some (vr 30 0), some (vi x1)]) (And.intro rfl (And.intro rfl trivial)) (hc3 5 H1 h)
def p_Model_eRead (E : XE) (d : Nat)  (H : HH) (Q : Int32 → HH → Prop) : Prop := ∀ H1 : HH, H1 = (hu (hu H 30 0 26 0) 30 0 27 0) → (∃ (I2 : Int32 → Int32 → HH → Prop) (μ2 : Int32 → Int32 → HH → Nat), I2 1 1 H1 ∧ ∀ (z3 : Int32) (z4 : Int32) (H5 : HH), I2 z3 z4 H5 → (c_Model_next E d  H5 (fun H6 => (z3 = 0 → ((¬ (H6 30 0 22) = 59 → ((¬ (H6 30 0 22) = 41 → (c_Model_signOf E d  H6 (fun r8 H7 => (r8 = (-1) → (Q 0 H7)) ∧ (¬ r8 = (-1) → (c_Model_between E d r8 H7 (fun r10 H9 => (¬ r10 = 0 → (∀ v12 : Int32, v12 = (if 12 < r8 then 0 else 1 : Int32) → (I2 1 v12 H9 ∧ μ2 1 v12 H9 < μ2 z3 z4 H5))) ∧ (r10 = 0 → (Q 0 H9)))))))) ∧ ((H6 30 0 22) = 41 → (c_Model_unwinds E d 1 H6 (fun H13 => (¬ (H13 30 0 26) = 0 → (∀ H14 : HH, H14 = (hu H13 30 0 26 ((H13 30 0 26) - 1)) → (∀ H15 : HH, H15 = (hu H14 30 0 27 ((H14 30 0 27) - 1)) → (c_Model_unwinds E d 7 H15 (fun H16 => I2 z3 z4 H16 ∧ μ2 z3 z4 H16 < μ2 z3 z4 H5))))) ∧ ((H13 30 0 26) = 0 → (Q 0 H13))))))) ∧ ((H6 30 0 22) = 59 → (c_Model_unwinds E d 1 H6 (fun H17 => ((if (H17 30 0 26) = 0 then 1 else 0 : Int32) = 0 ∨ (if (H17 30 0 26) = 0 then 1 else 0 : Int32) = 1) ∧ Q (if (H17 30 0 26) = 0 then 1 else 0 : Int32) H17))))) ∧ (¬ z3 = 0 → (((H6 30 0 22) = 1 → ((¬ (H6 30 0 22) = 1 → (c_Model_puts E d (H6 30 0 23) H6 (fun H19 => c_Model_unwinds E d 7 H19 (fun H20 => I2 0 z4 H20 ∧ μ2 0 z4 H20 < μ2 z3 z4 H5)))) ∧ ((H6 30 0 22) = 1 → (c_Model_puts E d (100000 + (H6 30 0 23)) H6 (fun H21 => c_Model_unwinds E d 7 H21 (fun H22 => I2 0 z4 H22 ∧ μ2 0 z4 H22 < μ2 z3 z4 H5)))))) ∧ (¬ (H6 30 0 22) = 1 → ((¬ (H6 30 0 22) = 2 → ((¬ (H6 30 0 22) = 6 → ((¬ (H6 30 0 22) = 45 → ((¬ (H6 30 0 22) = 40 → (Q 0 H6)) ∧ ((H6 30 0 22) = 40 → (c_Model_opensOne E d 0 H6 (fun r24 H23 => (¬ r24 = 0 → (I2 z3 1 H23 ∧ μ2 z3 1 H23 < μ2 z3 z4 H5)) ∧ (r24 = 0 → (Q 0 H23))))))) ∧ ((H6 30 0 22) = 45 → (c_Model_opensOne E d 19 H6 (fun r26 H25 => (¬ r26 = 0 → (I2 z3 0 H25 ∧ μ2 z3 0 H25 < μ2 z3 z4 H5)) ∧ (r26 = 0 → (Q 0 H25))))))) ∧ ((H6 30 0 22) = 6 → ((z4 = 0 → ((¬ (H6 30 0 22) = 45 → ((¬ (H6 30 0 22) = 40 → (Q 0 H6)) ∧ ((H6 30 0 22) = 40 → (c_Model_opensOne E d 0 H6 (fun r28 H27 => (¬ r28 = 0 → (I2 z3 1 H27 ∧ μ2 z3 1 H27 < μ2 z3 z4 H5)) ∧ (r28 = 0 → (Q 0 H27))))))) ∧ ((H6 30 0 22) = 45 → (c_Model_opensOne E d 19 H6 (fun r30 H29 => (¬ r30 = 0 → (I2 z3 0 H29 ∧ μ2 z3 0 H29 < μ2 z3 z4 H5)) ∧ (r30 = 0 → (Q 0 H29))))))) ∧ (¬ z4 = 0 → (c_Model_opensOne E d 13 H6 (fun r32 H31 => (¬ r32 = 0 → (I2 z3 z4 H31 ∧ μ2 z3 z4 H31 < μ2 z3 z4 H5)) ∧ (r32 = 0 → (Q 0 H31))))))))) ∧ ((H6 30 0 22) = 2 → ((¬ (H6 30 0 22) = 1 → (c_Model_puts E d (H6 30 0 23) H6 (fun H33 => c_Model_unwinds E d 7 H33 (fun H34 => I2 0 z4 H34 ∧ μ2 0 z4 H34 < μ2 z3 z4 H5)))) ∧ ((H6 30 0 22) = 1 → (c_Model_puts E d (100000 + (H6 30 0 23)) H6 (fun H35 => c_Model_unwinds E d 7 H35 (fun H36 => I2 0 z4 H36 ∧ μ2 0 z4 H36 < μ2 z3 z4 H5)))))))))))))
set_option maxHeartbeats 4000000 in
theorem l_Model_eRead {E : XE} {d : Nat}  {H : HH} {Q : Int32 → HH → Prop} (h : p_Model_eRead E d  H Q) : c_Model_eRead E (d + 1)  H Q := by
  show g_Model_eRead E (d + 1) 0 (xent [vr 30 0]) [] H (qi Q)
  refine g_drop (ls2 := [some (vr 30 0), none, none, none]) (And.intro rfl trivial) ?_
  refine g_aload_n (q := 0) (i := 0) (by decide +kernel) rfl rfl ?_
  refine g_iconst (n := 0) (v := 0) (by decide +kernel) (by decide) ?_
  refine g_put (C := "ThreePointsModel") (T := xT_Model) (N := 39) (ci := 10) (k := 26) xy_Model (by decide +kernel) (by decide) rfl rfl xi_Model xy_Model_ok xn_Model (by decide) kw_1052 rfl (by decide +kernel) (fun _ => rfl) ?_
  refine g_aload_n (q := 0) (i := 0) (by decide +kernel) rfl rfl ?_
  refine g_iconst (n := 0) (v := 0) (by decide +kernel) (by decide) ?_
  refine g_put (C := "ThreePointsModel") (T := xT_Model) (N := 39) (ci := 10) (k := 27) xy_Model (by decide +kernel) (by decide) rfl rfl xi_Model xy_Model_ok xn_Model (by decide) kw_1053 rfl (by decide +kernel) (fun _ => rfl) ?_
  refine g_iconst (n := 1) (v := 1) (by decide +kernel) (by decide) ?_
  refine g_istore_n (q := 1) (i := 1) (ls2 := [some (vr 30 0), some (vi 1), none, none]) (by decide +kernel) rfl (by decide) rfl rfl ?_
  refine g_iconst (n := 1) (v := 1) (by decide +kernel) (by decide) ?_
  refine g_istore_n (q := 2) (i := 2) (ls2 := [some (vr 30 0), some (vi 1), some (vi 1), none]) (by decide +kernel) rfl (by decide) rfl rfl ?_
  refine g_heap (fun H1 eH1 => ?_)
  replace h := h H1 eH1
  refine g_drop (ls2 := [some (vr 30 0), some (vi 1), some (vi 1), none]) (And.intro rfl (And.intro rfl (And.intro rfl trivial))) ?_
  obtain ⟨I2, μ2, h0, h⟩ := h
  refine xloop (σ := Int32 × Int32) (fun s H => I2 s.1 s.2 H) (fun s H => μ2 s.1 s.2 H) (fun s H => g_Model_eRead E (d + 1) 14 [some (vr 30 0), some (vi s.1), some (vi s.2), none] [] H (qi Q)) (fun s H5 hI ih2 => ?_) (1, 1) H1 h0
  obtain ⟨z3, z4⟩ := s
  replace h := h z3 z4 H5 hI
  refine g_aload_n (q := 0) (i := 0) (by decide +kernel) rfl rfl ?_
  refine g_callV (kd := 30) (ix := 0) (ci := 10) (N := 39) (T := xT_Model) (vs := []) (st := []) (by decide +kernel) xm_Model_next kw_983 kw_985 kw_27 (by decide) rfl rfl rfl rfl (Nat.le_of_ble_eq_true rfl) (Nat.le_of_ble_eq_true rfl) h (fun vH6 H6 hq => ?_)
  replace h := hq
  refine g_iload_n (q := 1) (i := 1) (by decide +kernel) rfl rfl ?_
  refine g_if_eq (off := 131) (tgt := 150) (by decide +kernel) (by decide) (fun c => ?_) (fun c => ?_)
  · replace h := h.1 c
    refine g_aload_n (q := 0) (i := 0) (by decide +kernel) rfl rfl ?_
    refine g_get (C := "ThreePointsModel") (T := xT_Model) (N := 39) (ci := 10) (k := 22) (v := vi (H6 30 0 22)) (by decide +kernel) (by decide) rfl rfl xi_Model (by decide) kw_1048 rfl ?_
    refine g_bipush (n := 59) (v := 59) (by decide +kernel) (by decide) ?_
    refine g_icmp_ne (off := 21) (tgt := 177) (by decide +kernel) (by decide) (fun c => ?_) (fun c => ?_)
    · replace h := h.1 c
      refine g_aload_n (q := 0) (i := 0) (by decide +kernel) rfl rfl ?_
      refine g_get (C := "ThreePointsModel") (T := xT_Model) (N := 39) (ci := 10) (k := 22) (v := vi (H6 30 0 22)) (by decide +kernel) (by decide) rfl rfl xi_Model (by decide) kw_1048 rfl ?_
      refine g_bipush (n := 41) (v := 41) (by decide +kernel) (by decide) ?_
      refine g_icmp_ne (off := 46) (tgt := 229) (by decide +kernel) (by decide) (fun c => ?_) (fun c => ?_)
      · replace h := h.1 c
        refine g_aload_n (q := 0) (i := 0) (by decide +kernel) rfl rfl ?_
        refine g_callV (kd := 30) (ix := 0) (ci := 10) (N := 39) (T := xT_Model) (vs := []) (st := []) (by decide +kernel) xm_Model_signOf kw_1018 kw_1020 kw_34 (by decide) rfl rfl rfl rfl (Nat.le_of_ble_eq_true rfl) (Nat.le_of_ble_eq_true rfl) h (fun vH7 H7 hq => ?_)
        obtain ⟨r8, rfl, h⟩ := hq
        refine g_istore_n (q := 3) (i := 3) (ls2 := [some (vr 30 0), some (vi z3), some (vi z4), some (vi r8)]) (by decide +kernel) rfl (by decide) rfl rfl ?_
        refine g_iload_n (q := 3) (i := 3) (by decide +kernel) rfl rfl ?_
        refine g_iconst (n := (-1)) (v := (-1)) (by decide +kernel) (by decide) ?_
        refine g_icmp_eq (off := 11) (tgt := 247) (by decide +kernel) (by decide) (fun c => ?_) (fun c => ?_)
        · replace h := h.1 c
          refine g_iconst (n := 0) (v := 0) (by decide +kernel) (by decide) ?_
          exact g_zret (by decide +kernel) rfl rfl ⟨_, rfl, h⟩
        · replace h := h.2 c
          refine g_aload_n (q := 0) (i := 0) (by decide +kernel) rfl rfl ?_
          refine g_iload_n (q := 3) (i := 3) (by decide +kernel) rfl rfl ?_
          refine g_callV (kd := 30) (ix := 0) (ci := 10) (N := 39) (T := xT_Model) (vs := [vi r8]) (st := []) (by decide +kernel) xm_Model_between kw_1022 kw_1024 kw_35 (by decide) rfl rfl rfl rfl (Nat.le_of_ble_eq_true rfl) (Nat.le_of_ble_eq_true rfl) h (fun vH9 H9 hq => ?_)
          obtain ⟨r10, rfl, h⟩ := hq
          refine g_if_ne (off := 5) (tgt := 249) (by decide +kernel) (by decide) (fun c => ?_) (fun c => ?_)
          · replace h := h.1 c
            refine g_iconst (n := 1) (v := 1) (by decide +kernel) (by decide) ?_
            refine g_istore_n (q := 1) (i := 1) (ls2 := [some (vr 30 0), some (vi 1), some (vi z4), some (vi r8)]) (by decide +kernel) rfl (by decide) rfl rfl ?_
            refine g_iload_n (q := 3) (i := 3) (by decide +kernel) rfl rfl ?_
            refine g_bipush (n := 12) (v := 12) (by decide +kernel) (by decide) ?_
            suffices hj11 : g_Model_eRead E (d + 1) 262 [some (vr 30 0), some (vi 1), some (vi z4), some (vi r8)] [vi (if 12 < r8 then 0 else 1 : Int32)] H9 (qi Q) by
              refine g_icmp_gt (off := 7) (tgt := 261) (by decide +kernel) (by decide) (fun c => ?_) (fun c => ?_)
              · rw [if_pos c] at hj11
                refine g_iconst (n := 0) (v := 0) (by decide +kernel) (by decide) ?_
                exact hj11
              · rw [if_neg c] at hj11
                refine g_iconst (n := 1) (v := 1) (by decide +kernel) (by decide) ?_
                refine g_goto (off := 4) (tgt := 262) (by decide +kernel) (by decide) ?_
                exact hj11
            refine g_topi (fun v12 ev12 => ?_)
            replace h := h v12 ev12
            refine g_istore_n (q := 2) (i := 2) (ls2 := [some (vr 30 0), some (vi 1), some (vi v12), some (vi r8)]) (by decide +kernel) rfl (by decide) rfl rfl ?_
            refine g_goto (off := (-249)) (tgt := 14) (by decide +kernel) (by decide) ?_
            obtain ⟨hI, hlt⟩ := h
            exact g_drop (ls2 := [some (vr 30 0), some (vi 1), some (vi v12), none]) (And.intro rfl (And.intro rfl (And.intro rfl trivial))) (ih2 (1, v12) H9 hI hlt)
          · replace h := h.2 c
            refine g_iconst (n := 0) (v := 0) (by decide +kernel) (by decide) ?_
            exact g_zret (by decide +kernel) rfl rfl ⟨_, rfl, h⟩
      · replace h := h.2 c
        refine g_aload_n (q := 0) (i := 0) (by decide +kernel) rfl rfl ?_
        refine g_iconst (n := 1) (v := 1) (by decide +kernel) (by decide) ?_
        refine g_callV (kd := 30) (ix := 0) (ci := 10) (N := 39) (T := xT_Model) (vs := [vi 1]) (st := []) (by decide +kernel) xm_Model_unwinds kw_1003 kw_1005 kw_31 (by decide) rfl rfl rfl rfl (Nat.le_of_ble_eq_true rfl) (Nat.le_of_ble_eq_true rfl) h (fun vH13 H13 hq => ?_)
        replace h := hq
        refine g_aload_n (q := 0) (i := 0) (by decide +kernel) rfl rfl ?_
        refine g_get (C := "ThreePointsModel") (T := xT_Model) (N := 39) (ci := 10) (k := 26) (v := vi (H13 30 0 26)) (by decide +kernel) (by decide) rfl rfl xi_Model (by decide) kw_1052 rfl ?_
        refine g_if_ne (off := 5) (tgt := 200) (by decide +kernel) (by decide) (fun c => ?_) (fun c => ?_)
        · replace h := h.1 c
          refine g_aload_n (q := 0) (i := 0) (by decide +kernel) rfl rfl ?_
          refine g_dup (by decide +kernel) rfl ?_
          refine g_get (C := "ThreePointsModel") (T := xT_Model) (N := 39) (ci := 10) (k := 26) (v := vi (H13 30 0 26)) (by decide +kernel) (by decide) rfl rfl xi_Model (by decide) kw_1052 rfl ?_
          refine g_iconst (n := 1) (v := 1) (by decide +kernel) (by decide) ?_
          refine g_isub (by decide +kernel) ?_
          refine g_put (C := "ThreePointsModel") (T := xT_Model) (N := 39) (ci := 10) (k := 26) xy_Model (by decide +kernel) (by decide) rfl rfl xi_Model xy_Model_ok xn_Model (by decide) kw_1052 rfl (by decide +kernel) (fun _ => rfl) ?_
          refine g_aload_n (q := 0) (i := 0) (by decide +kernel) rfl rfl ?_
          refine g_dup (by decide +kernel) rfl ?_
          refine g_heap (fun H14 eH14 => ?_)
          replace h := h H14 eH14
          refine g_get (C := "ThreePointsModel") (T := xT_Model) (N := 39) (ci := 10) (k := 27) (v := vi (H14 30 0 27)) (by decide +kernel) (by decide) rfl rfl xi_Model (by decide) kw_1053 rfl ?_
          refine g_iconst (n := 1) (v := 1) (by decide +kernel) (by decide) ?_
          refine g_isub (by decide +kernel) ?_
          refine g_put (C := "ThreePointsModel") (T := xT_Model) (N := 39) (ci := 10) (k := 27) xy_Model (by decide +kernel) (by decide) rfl rfl xi_Model xy_Model_ok xn_Model (by decide) kw_1053 rfl (by decide +kernel) (fun _ => rfl) ?_
          refine g_aload_n (q := 0) (i := 0) (by decide +kernel) rfl rfl ?_
          refine g_bipush (n := 7) (v := 7) (by decide +kernel) (by decide) ?_
          refine g_heap (fun H15 eH15 => ?_)
          replace h := h H15 eH15
          refine g_callV (kd := 30) (ix := 0) (ci := 10) (N := 39) (T := xT_Model) (vs := [vi 7]) (st := []) (by decide +kernel) xm_Model_unwinds kw_1003 kw_1005 kw_31 (by decide) rfl rfl rfl rfl (Nat.le_of_ble_eq_true rfl) (Nat.le_of_ble_eq_true rfl) h (fun vH16 H16 hq => ?_)
          replace h := hq
          refine g_goto (off := (-212)) (tgt := 14) (by decide +kernel) (by decide) ?_
          obtain ⟨hI, hlt⟩ := h
          exact g_drop (ls2 := [some (vr 30 0), some (vi z3), some (vi z4), none]) (And.intro rfl (And.intro rfl (And.intro rfl trivial))) (ih2 (z3, z4) H16 hI hlt)
        · replace h := h.2 c
          refine g_iconst (n := 0) (v := 0) (by decide +kernel) (by decide) ?_
          exact g_zret (by decide +kernel) rfl rfl ⟨_, rfl, h⟩
    · replace h := h.2 c
      refine g_aload_n (q := 0) (i := 0) (by decide +kernel) rfl rfl ?_
      refine g_iconst (n := 1) (v := 1) (by decide +kernel) (by decide) ?_
      refine g_callV (kd := 30) (ix := 0) (ci := 10) (N := 39) (T := xT_Model) (vs := [vi 1]) (st := []) (by decide +kernel) xm_Model_unwinds kw_1003 kw_1005 kw_31 (by decide) rfl rfl rfl rfl (Nat.le_of_ble_eq_true rfl) (Nat.le_of_ble_eq_true rfl) h (fun vH17 H17 hq => ?_)
      replace h := hq
      refine g_aload_n (q := 0) (i := 0) (by decide +kernel) rfl rfl ?_
      refine g_get (C := "ThreePointsModel") (T := xT_Model) (N := 39) (ci := 10) (k := 26) (v := vi (H17 30 0 26)) (by decide +kernel) (by decide) rfl rfl xi_Model (by decide) kw_1052 rfl ?_
      suffices hj18 : g_Model_eRead E (d + 1) 176 [some (vr 30 0), some (vi z3), some (vi z4), none] [vi (if (H17 30 0 26) = 0 then 1 else 0 : Int32)] H17 (qi Q) by
        refine g_if_ne (off := 7) (tgt := 175) (by decide +kernel) (by decide) (fun c => ?_) (fun c => ?_)
        · rw [if_neg c] at hj18
          refine g_iconst (n := 0) (v := 0) (by decide +kernel) (by decide) ?_
          exact hj18
        · rw [if_pos c] at hj18
          refine g_iconst (n := 1) (v := 1) (by decide +kernel) (by decide) ?_
          refine g_goto (off := 4) (tgt := 176) (by decide +kernel) (by decide) ?_
          exact hj18
      obtain ⟨h01, h⟩ := h
      exact g_zret (by decide +kernel) rfl (nbool h01) ⟨_, rfl, h⟩
  · replace h := h.2 c
    refine g_aload_n (q := 0) (i := 0) (by decide +kernel) rfl rfl ?_
    refine g_get (C := "ThreePointsModel") (T := xT_Model) (N := 39) (ci := 10) (k := 22) (v := vi (H6 30 0 22)) (by decide +kernel) (by decide) rfl rfl xi_Model (by decide) kw_1048 rfl ?_
    refine g_iconst (n := 1) (v := 1) (by decide +kernel) (by decide) ?_
    refine g_icmp_eq (off := 11) (tgt := 38) (by decide +kernel) (by decide) (fun c => ?_) (fun c => ?_)
    · replace h := h.1 c
      refine g_aload_n (q := 0) (i := 0) (by decide +kernel) rfl rfl ?_
      refine g_aload_n (q := 0) (i := 0) (by decide +kernel) rfl rfl ?_
      refine g_get (C := "ThreePointsModel") (T := xT_Model) (N := 39) (ci := 10) (k := 22) (v := vi (H6 30 0 22)) (by decide +kernel) (by decide) rfl rfl xi_Model (by decide) kw_1048 rfl ?_
      refine g_iconst (n := 1) (v := 1) (by decide +kernel) (by decide) ?_
      refine g_icmp_ne (off := 13) (tgt := 57) (by decide +kernel) (by decide) (fun c => ?_) (fun c => ?_)
      · replace h := h.1 c
        refine g_aload_n (q := 0) (i := 0) (by decide +kernel) rfl rfl ?_
        refine g_get (C := "ThreePointsModel") (T := xT_Model) (N := 39) (ci := 10) (k := 23) (v := vi (H6 30 0 23)) (by decide +kernel) (by decide) rfl rfl xi_Model (by decide) kw_1049 rfl ?_
        refine g_callV (kd := 30) (ix := 0) (ci := 10) (N := 39) (T := xT_Model) (vs := [vi (H6 30 0 23)]) (st := []) (by decide +kernel) xm_Model_puts kw_999 kw_1001 kw_30 (by decide) rfl rfl rfl rfl (Nat.le_of_ble_eq_true rfl) (Nat.le_of_ble_eq_true rfl) h (fun vH19 H19 hq => ?_)
        replace h := hq
        refine g_aload_n (q := 0) (i := 0) (by decide +kernel) rfl rfl ?_
        refine g_bipush (n := 7) (v := 7) (by decide +kernel) (by decide) ?_
        refine g_callV (kd := 30) (ix := 0) (ci := 10) (N := 39) (T := xT_Model) (vs := [vi 7]) (st := []) (by decide +kernel) xm_Model_unwinds kw_1003 kw_1005 kw_31 (by decide) rfl rfl rfl rfl (Nat.le_of_ble_eq_true rfl) (Nat.le_of_ble_eq_true rfl) h (fun vH20 H20 hq => ?_)
        replace h := hq
        refine g_iconst (n := 0) (v := 0) (by decide +kernel) (by decide) ?_
        refine g_istore_n (q := 1) (i := 1) (ls2 := [some (vr 30 0), some (vi 0), some (vi z4), none]) (by decide +kernel) rfl (by decide) rfl rfl ?_
        refine g_goto (off := (-58)) (tgt := 14) (by decide +kernel) (by decide) ?_
        obtain ⟨hI, hlt⟩ := h
        exact g_drop (ls2 := [some (vr 30 0), some (vi 0), some (vi z4), none]) (And.intro rfl (And.intro rfl (And.intro rfl trivial))) (ih2 (0, z4) H20 hI hlt)
      · replace h := h.2 c
        refine g_ldc (v := 100000) (by decide +kernel) kw_998 ?_
        refine g_aload_n (q := 0) (i := 0) (by decide +kernel) rfl rfl ?_
        refine g_get (C := "ThreePointsModel") (T := xT_Model) (N := 39) (ci := 10) (k := 23) (v := vi (H6 30 0 23)) (by decide +kernel) (by decide) rfl rfl xi_Model (by decide) kw_1049 rfl ?_
        refine g_iadd (by decide +kernel) ?_
        refine g_goto (off := 7) (tgt := 61) (by decide +kernel) (by decide) ?_
        refine g_callV (kd := 30) (ix := 0) (ci := 10) (N := 39) (T := xT_Model) (vs := [vi (100000 + (H6 30 0 23))]) (st := []) (by decide +kernel) xm_Model_puts kw_999 kw_1001 kw_30 (by decide) rfl rfl rfl rfl (Nat.le_of_ble_eq_true rfl) (Nat.le_of_ble_eq_true rfl) h (fun vH21 H21 hq => ?_)
        replace h := hq
        refine g_aload_n (q := 0) (i := 0) (by decide +kernel) rfl rfl ?_
        refine g_bipush (n := 7) (v := 7) (by decide +kernel) (by decide) ?_
        refine g_callV (kd := 30) (ix := 0) (ci := 10) (N := 39) (T := xT_Model) (vs := [vi 7]) (st := []) (by decide +kernel) xm_Model_unwinds kw_1003 kw_1005 kw_31 (by decide) rfl rfl rfl rfl (Nat.le_of_ble_eq_true rfl) (Nat.le_of_ble_eq_true rfl) h (fun vH22 H22 hq => ?_)
        replace h := hq
        refine g_iconst (n := 0) (v := 0) (by decide +kernel) (by decide) ?_
        refine g_istore_n (q := 1) (i := 1) (ls2 := [some (vr 30 0), some (vi 0), some (vi z4), none]) (by decide +kernel) rfl (by decide) rfl rfl ?_
        refine g_goto (off := (-58)) (tgt := 14) (by decide +kernel) (by decide) ?_
        obtain ⟨hI, hlt⟩ := h
        exact g_drop (ls2 := [some (vr 30 0), some (vi 0), some (vi z4), none]) (And.intro rfl (And.intro rfl (And.intro rfl trivial))) (ih2 (0, z4) H22 hI hlt)
    · replace h := h.2 c
      refine g_aload_n (q := 0) (i := 0) (by decide +kernel) rfl rfl ?_
      refine g_get (C := "ThreePointsModel") (T := xT_Model) (N := 39) (ci := 10) (k := 22) (v := vi (H6 30 0 22)) (by decide +kernel) (by decide) rfl rfl xi_Model (by decide) kw_1048 rfl ?_
      refine g_iconst (n := 2) (v := 2) (by decide +kernel) (by decide) ?_
      refine g_icmp_ne (off := 40) (tgt := 75) (by decide +kernel) (by decide) (fun c => ?_) (fun c => ?_)
      · replace h := h.1 c
        refine g_aload_n (q := 0) (i := 0) (by decide +kernel) rfl rfl ?_
        refine g_get (C := "ThreePointsModel") (T := xT_Model) (N := 39) (ci := 10) (k := 22) (v := vi (H6 30 0 22)) (by decide +kernel) (by decide) rfl rfl xi_Model (by decide) kw_1048 rfl ?_
        refine g_bipush (n := 6) (v := 6) (by decide +kernel) (by decide) ?_
        refine g_icmp_ne (off := 18) (tgt := 99) (by decide +kernel) (by decide) (fun c => ?_) (fun c => ?_)
        · replace h := h.1 c
          refine g_aload_n (q := 0) (i := 0) (by decide +kernel) rfl rfl ?_
          refine g_get (C := "ThreePointsModel") (T := xT_Model) (N := 39) (ci := 10) (k := 22) (v := vi (H6 30 0 22)) (by decide +kernel) (by decide) rfl rfl xi_Model (by decide) kw_1048 rfl ?_
          refine g_bipush (n := 45) (v := 45) (by decide +kernel) (by decide) ?_
          refine g_icmp_ne (off := 19) (tgt := 124) (by decide +kernel) (by decide) (fun c => ?_) (fun c => ?_)
          · replace h := h.1 c
            refine g_aload_n (q := 0) (i := 0) (by decide +kernel) rfl rfl ?_
            refine g_get (C := "ThreePointsModel") (T := xT_Model) (N := 39) (ci := 10) (k := 22) (v := vi (H6 30 0 22)) (by decide +kernel) (by decide) rfl rfl xi_Model (by decide) kw_1048 rfl ?_
            refine g_bipush (n := 40) (v := 40) (by decide +kernel) (by decide) ?_
            refine g_icmp_ne (off := 18) (tgt := 148) (by decide +kernel) (by decide) (fun c => ?_) (fun c => ?_)
            · replace h := h.1 c
              refine g_iconst (n := 0) (v := 0) (by decide +kernel) (by decide) ?_
              exact g_zret (by decide +kernel) rfl rfl ⟨_, rfl, h⟩
            · replace h := h.2 c
              refine g_aload_n (q := 0) (i := 0) (by decide +kernel) rfl rfl ?_
              refine g_iconst (n := 0) (v := 0) (by decide +kernel) (by decide) ?_
              refine g_callV (kd := 30) (ix := 0) (ci := 10) (N := 39) (T := xT_Model) (vs := [vi 0]) (st := []) (by decide +kernel) xm_Model_opensOne kw_1010 kw_1012 kw_32 (by decide) rfl rfl rfl rfl (Nat.le_of_ble_eq_true rfl) (Nat.le_of_ble_eq_true rfl) h (fun vH23 H23 hq => ?_)
              obtain ⟨r24, rfl, h⟩ := hq
              refine g_if_ne (off := 5) (tgt := 143) (by decide +kernel) (by decide) (fun c => ?_) (fun c => ?_)
              · replace h := h.1 c
                refine g_iconst (n := 1) (v := 1) (by decide +kernel) (by decide) ?_
                refine g_istore_n (q := 2) (i := 2) (ls2 := [some (vr 30 0), some (vi z3), some (vi 1), none]) (by decide +kernel) rfl (by decide) rfl rfl ?_
                refine g_goto (off := (-131)) (tgt := 14) (by decide +kernel) (by decide) ?_
                obtain ⟨hI, hlt⟩ := h
                exact g_drop (ls2 := [some (vr 30 0), some (vi z3), some (vi 1), none]) (And.intro rfl (And.intro rfl (And.intro rfl trivial))) (ih2 (z3, 1) H23 hI hlt)
              · replace h := h.2 c
                refine g_iconst (n := 0) (v := 0) (by decide +kernel) (by decide) ?_
                exact g_zret (by decide +kernel) rfl rfl ⟨_, rfl, h⟩
          · replace h := h.2 c
            refine g_aload_n (q := 0) (i := 0) (by decide +kernel) rfl rfl ?_
            refine g_bipush (n := 19) (v := 19) (by decide +kernel) (by decide) ?_
            refine g_callV (kd := 30) (ix := 0) (ci := 10) (N := 39) (T := xT_Model) (vs := [vi 19]) (st := []) (by decide +kernel) xm_Model_opensOne kw_1010 kw_1012 kw_32 (by decide) rfl rfl rfl rfl (Nat.le_of_ble_eq_true rfl) (Nat.le_of_ble_eq_true rfl) h (fun vH25 H25 hq => ?_)
            obtain ⟨r26, rfl, h⟩ := hq
            refine g_if_ne (off := 5) (tgt := 119) (by decide +kernel) (by decide) (fun c => ?_) (fun c => ?_)
            · replace h := h.1 c
              refine g_iconst (n := 0) (v := 0) (by decide +kernel) (by decide) ?_
              refine g_istore_n (q := 2) (i := 2) (ls2 := [some (vr 30 0), some (vi z3), some (vi 0), none]) (by decide +kernel) rfl (by decide) rfl rfl ?_
              refine g_goto (off := (-107)) (tgt := 14) (by decide +kernel) (by decide) ?_
              obtain ⟨hI, hlt⟩ := h
              exact g_drop (ls2 := [some (vr 30 0), some (vi z3), some (vi 0), none]) (And.intro rfl (And.intro rfl (And.intro rfl trivial))) (ih2 (z3, 0) H25 hI hlt)
            · replace h := h.2 c
              refine g_iconst (n := 0) (v := 0) (by decide +kernel) (by decide) ?_
              exact g_zret (by decide +kernel) rfl rfl ⟨_, rfl, h⟩
        · replace h := h.2 c
          refine g_iload_n (q := 2) (i := 2) (by decide +kernel) rfl rfl ?_
          refine g_if_eq (off := 14) (tgt := 99) (by decide +kernel) (by decide) (fun c => ?_) (fun c => ?_)
          · replace h := h.1 c
            refine g_aload_n (q := 0) (i := 0) (by decide +kernel) rfl rfl ?_
            refine g_get (C := "ThreePointsModel") (T := xT_Model) (N := 39) (ci := 10) (k := 22) (v := vi (H6 30 0 22)) (by decide +kernel) (by decide) rfl rfl xi_Model (by decide) kw_1048 rfl ?_
            refine g_bipush (n := 45) (v := 45) (by decide +kernel) (by decide) ?_
            refine g_icmp_ne (off := 19) (tgt := 124) (by decide +kernel) (by decide) (fun c => ?_) (fun c => ?_)
            · replace h := h.1 c
              refine g_aload_n (q := 0) (i := 0) (by decide +kernel) rfl rfl ?_
              refine g_get (C := "ThreePointsModel") (T := xT_Model) (N := 39) (ci := 10) (k := 22) (v := vi (H6 30 0 22)) (by decide +kernel) (by decide) rfl rfl xi_Model (by decide) kw_1048 rfl ?_
              refine g_bipush (n := 40) (v := 40) (by decide +kernel) (by decide) ?_
              refine g_icmp_ne (off := 18) (tgt := 148) (by decide +kernel) (by decide) (fun c => ?_) (fun c => ?_)
              · replace h := h.1 c
                refine g_iconst (n := 0) (v := 0) (by decide +kernel) (by decide) ?_
                exact g_zret (by decide +kernel) rfl rfl ⟨_, rfl, h⟩
              · replace h := h.2 c
                refine g_aload_n (q := 0) (i := 0) (by decide +kernel) rfl rfl ?_
                refine g_iconst (n := 0) (v := 0) (by decide +kernel) (by decide) ?_
                refine g_callV (kd := 30) (ix := 0) (ci := 10) (N := 39) (T := xT_Model) (vs := [vi 0]) (st := []) (by decide +kernel) xm_Model_opensOne kw_1010 kw_1012 kw_32 (by decide) rfl rfl rfl rfl (Nat.le_of_ble_eq_true rfl) (Nat.le_of_ble_eq_true rfl) h (fun vH27 H27 hq => ?_)
                obtain ⟨r28, rfl, h⟩ := hq
                refine g_if_ne (off := 5) (tgt := 143) (by decide +kernel) (by decide) (fun c => ?_) (fun c => ?_)
                · replace h := h.1 c
                  refine g_iconst (n := 1) (v := 1) (by decide +kernel) (by decide) ?_
                  refine g_istore_n (q := 2) (i := 2) (ls2 := [some (vr 30 0), some (vi z3), some (vi 1), none]) (by decide +kernel) rfl (by decide) rfl rfl ?_
                  refine g_goto (off := (-131)) (tgt := 14) (by decide +kernel) (by decide) ?_
                  obtain ⟨hI, hlt⟩ := h
                  exact g_drop (ls2 := [some (vr 30 0), some (vi z3), some (vi 1), none]) (And.intro rfl (And.intro rfl (And.intro rfl trivial))) (ih2 (z3, 1) H27 hI hlt)
                · replace h := h.2 c
                  refine g_iconst (n := 0) (v := 0) (by decide +kernel) (by decide) ?_
                  exact g_zret (by decide +kernel) rfl rfl ⟨_, rfl, h⟩
            · replace h := h.2 c
              refine g_aload_n (q := 0) (i := 0) (by decide +kernel) rfl rfl ?_
              refine g_bipush (n := 19) (v := 19) (by decide +kernel) (by decide) ?_
              refine g_callV (kd := 30) (ix := 0) (ci := 10) (N := 39) (T := xT_Model) (vs := [vi 19]) (st := []) (by decide +kernel) xm_Model_opensOne kw_1010 kw_1012 kw_32 (by decide) rfl rfl rfl rfl (Nat.le_of_ble_eq_true rfl) (Nat.le_of_ble_eq_true rfl) h (fun vH29 H29 hq => ?_)
              obtain ⟨r30, rfl, h⟩ := hq
              refine g_if_ne (off := 5) (tgt := 119) (by decide +kernel) (by decide) (fun c => ?_) (fun c => ?_)
              · replace h := h.1 c
                refine g_iconst (n := 0) (v := 0) (by decide +kernel) (by decide) ?_
                refine g_istore_n (q := 2) (i := 2) (ls2 := [some (vr 30 0), some (vi z3), some (vi 0), none]) (by decide +kernel) rfl (by decide) rfl rfl ?_
                refine g_goto (off := (-107)) (tgt := 14) (by decide +kernel) (by decide) ?_
                obtain ⟨hI, hlt⟩ := h
                exact g_drop (ls2 := [some (vr 30 0), some (vi z3), some (vi 0), none]) (And.intro rfl (And.intro rfl (And.intro rfl trivial))) (ih2 (z3, 0) H29 hI hlt)
              · replace h := h.2 c
                refine g_iconst (n := 0) (v := 0) (by decide +kernel) (by decide) ?_
                exact g_zret (by decide +kernel) rfl rfl ⟨_, rfl, h⟩
          · replace h := h.2 c
            refine g_aload_n (q := 0) (i := 0) (by decide +kernel) rfl rfl ?_
            refine g_bipush (n := 13) (v := 13) (by decide +kernel) (by decide) ?_
            refine g_callV (kd := 30) (ix := 0) (ci := 10) (N := 39) (T := xT_Model) (vs := [vi 13]) (st := []) (by decide +kernel) xm_Model_opensOne kw_1010 kw_1012 kw_32 (by decide) rfl rfl rfl rfl (Nat.le_of_ble_eq_true rfl) (Nat.le_of_ble_eq_true rfl) h (fun vH31 H31 hq => ?_)
            obtain ⟨r32, rfl, h⟩ := hq
            refine g_if_ne (off := (-80)) (tgt := 14) (by decide +kernel) (by decide) (fun c => ?_) (fun c => ?_)
            · replace h := h.1 c
              obtain ⟨hI, hlt⟩ := h
              exact g_drop (ls2 := [some (vr 30 0), some (vi z3), some (vi z4), none]) (And.intro rfl (And.intro rfl (And.intro rfl trivial))) (ih2 (z3, z4) H31 hI hlt)
            · replace h := h.2 c
              refine g_iconst (n := 0) (v := 0) (by decide +kernel) (by decide) ?_
              exact g_zret (by decide +kernel) rfl rfl ⟨_, rfl, h⟩
      · replace h := h.2 c
        refine g_aload_n (q := 0) (i := 0) (by decide +kernel) rfl rfl ?_
        refine g_aload_n (q := 0) (i := 0) (by decide +kernel) rfl rfl ?_
        refine g_get (C := "ThreePointsModel") (T := xT_Model) (N := 39) (ci := 10) (k := 22) (v := vi (H6 30 0 22)) (by decide +kernel) (by decide) rfl rfl xi_Model (by decide) kw_1048 rfl ?_
        refine g_iconst (n := 1) (v := 1) (by decide +kernel) (by decide) ?_
        refine g_icmp_ne (off := 13) (tgt := 57) (by decide +kernel) (by decide) (fun c => ?_) (fun c => ?_)
        · replace h := h.1 c
          refine g_aload_n (q := 0) (i := 0) (by decide +kernel) rfl rfl ?_
          refine g_get (C := "ThreePointsModel") (T := xT_Model) (N := 39) (ci := 10) (k := 23) (v := vi (H6 30 0 23)) (by decide +kernel) (by decide) rfl rfl xi_Model (by decide) kw_1049 rfl ?_
          refine g_callV (kd := 30) (ix := 0) (ci := 10) (N := 39) (T := xT_Model) (vs := [vi (H6 30 0 23)]) (st := []) (by decide +kernel) xm_Model_puts kw_999 kw_1001 kw_30 (by decide) rfl rfl rfl rfl (Nat.le_of_ble_eq_true rfl) (Nat.le_of_ble_eq_true rfl) h (fun vH33 H33 hq => ?_)
          replace h := hq
          refine g_aload_n (q := 0) (i := 0) (by decide +kernel) rfl rfl ?_
          refine g_bipush (n := 7) (v := 7) (by decide +kernel) (by decide) ?_
          refine g_callV (kd := 30) (ix := 0) (ci := 10) (N := 39) (T := xT_Model) (vs := [vi 7]) (st := []) (by decide +kernel) xm_Model_unwinds kw_1003 kw_1005 kw_31 (by decide) rfl rfl rfl rfl (Nat.le_of_ble_eq_true rfl) (Nat.le_of_ble_eq_true rfl) h (fun vH34 H34 hq => ?_)
          replace h := hq
          refine g_iconst (n := 0) (v := 0) (by decide +kernel) (by decide) ?_
          refine g_istore_n (q := 1) (i := 1) (ls2 := [some (vr 30 0), some (vi 0), some (vi z4), none]) (by decide +kernel) rfl (by decide) rfl rfl ?_
          refine g_goto (off := (-58)) (tgt := 14) (by decide +kernel) (by decide) ?_
          obtain ⟨hI, hlt⟩ := h
          exact g_drop (ls2 := [some (vr 30 0), some (vi 0), some (vi z4), none]) (And.intro rfl (And.intro rfl (And.intro rfl trivial))) (ih2 (0, z4) H34 hI hlt)
        · replace h := h.2 c
          refine g_ldc (v := 100000) (by decide +kernel) kw_998 ?_
          refine g_aload_n (q := 0) (i := 0) (by decide +kernel) rfl rfl ?_
          refine g_get (C := "ThreePointsModel") (T := xT_Model) (N := 39) (ci := 10) (k := 23) (v := vi (H6 30 0 23)) (by decide +kernel) (by decide) rfl rfl xi_Model (by decide) kw_1049 rfl ?_
          refine g_iadd (by decide +kernel) ?_
          refine g_goto (off := 7) (tgt := 61) (by decide +kernel) (by decide) ?_
          refine g_callV (kd := 30) (ix := 0) (ci := 10) (N := 39) (T := xT_Model) (vs := [vi (100000 + (H6 30 0 23))]) (st := []) (by decide +kernel) xm_Model_puts kw_999 kw_1001 kw_30 (by decide) rfl rfl rfl rfl (Nat.le_of_ble_eq_true rfl) (Nat.le_of_ble_eq_true rfl) h (fun vH35 H35 hq => ?_)
          replace h := hq
          refine g_aload_n (q := 0) (i := 0) (by decide +kernel) rfl rfl ?_
          refine g_bipush (n := 7) (v := 7) (by decide +kernel) (by decide) ?_
          refine g_callV (kd := 30) (ix := 0) (ci := 10) (N := 39) (T := xT_Model) (vs := [vi 7]) (st := []) (by decide +kernel) xm_Model_unwinds kw_1003 kw_1005 kw_31 (by decide) rfl rfl rfl rfl (Nat.le_of_ble_eq_true rfl) (Nat.le_of_ble_eq_true rfl) h (fun vH36 H36 hq => ?_)
          replace h := hq
          refine g_iconst (n := 0) (v := 0) (by decide +kernel) (by decide) ?_
          refine g_istore_n (q := 1) (i := 1) (ls2 := [some (vr 30 0), some (vi 0), some (vi z4), none]) (by decide +kernel) rfl (by decide) rfl rfl ?_
          refine g_goto (off := (-58)) (tgt := 14) (by decide +kernel) (by decide) ?_
          obtain ⟨hI, hlt⟩ := h
          exact g_drop (ls2 := [some (vr 30 0), some (vi 0), some (vi z4), none]) (And.intro rfl (And.intro rfl (And.intro rfl trivial))) (ih2 (0, z4) H36 hI hlt)
def p_Model_text (E : XE) (d : Nat)  (H : HH) (Q : Int32 → HH → Prop) : Prop := (¬ (H 30 0 11) = 6 → (∀ H1 : HH, H1 = (hu (hu H 30 0 20 0) 30 0 28 0) → (∃ (I2 : Int32 → Int32 → HH → Prop) (μ2 : Int32 → Int32 → HH → Nat), I2 1 0 H1 ∧ ∀ (z3 : Int32) (z4 : Int32) (H5 : HH), I2 z3 z4 H5 → (∃ J6 : Int32 → HH → Prop, ((3 ≤ z4 → (J6 z3 H5)) ∧ (¬ 3 ≤ z4 → ((z3 = 0 → (J6 z3 H5)) ∧ (¬ z3 = 0 → (c_Model_next E d  H5 (fun H17 => ∀ v20 : Int32, v20 = (if (H17 30 0 22) = 3 then (if (H17 30 0 23) = z4 then 1 else 0 : Int32) else 0 : Int32) → (vp_in ((4 * (H17 30 0 11)) + z4) 24 ∧ (∀ H21 : HH, H21 = (hu H17 37 0 (((4 * (H17 30 0 11)) + z4).toNatClampNeg) (H17 30 0 28)) → ((v20 = 0 → (I2 0 (z4 + 1) H21 ∧ μ2 0 (z4 + 1) H21 < μ2 z3 z4 H5)) ∧ (¬ v20 = 0 → (c_Model_eRead E d  H21 (fun r23 H22 => ∀ v25 : Int32, v25 = (if r23 = 0 then 0 else 1 : Int32) → (I2 v25 (z4 + 1) H22 ∧ μ2 v25 (z4 + 1) H22 < μ2 z3 z4 H5))))))))))))) ∧ ∀ (y7 : Int32) (H8 : HH), J6 y7 H8 → (∃ J9 : Int32 → HH → Prop, ((y7 = 0 → (J9 y7 H8)) ∧ (¬ y7 = 0 → (c_Model_next E d  H8 (fun H14 => ∀ v16 : Int32, v16 = (if (H14 30 0 22) = 0 then 1 else 0 : Int32) → (J9 v16 H14))))) ∧ ∀ (y10 : Int32) (H11 : HH), J9 y10 H11 → (vp_in ((4 * (H11 30 0 11)) + 3) 24 ∧ (∀ H12 : HH, H12 = (hu (hu H11 37 0 (((4 * (H11 30 0 11)) + 3).toNatClampNeg) (H11 30 0 28)) 30 0 8 0) → ((¬ y10 = 0 → (∀ H13 : HH, H13 = (hu H12 30 0 11 ((H12 30 0 11) + 1)) → (Q ((H13 30 0 11) - 1) H13))) ∧ (y10 = 0 → (Q ((-100) - (H12 30 0 21)) H12)))))))))) ∧ ((H 30 0 11) = 6 → (Q (-4) H))
set_option maxHeartbeats 4000000 in
theorem l_Model_text {E : XE} {d : Nat}  {H : HH} {Q : Int32 → HH → Prop} (h : p_Model_text E d  H Q) : c_Model_text E (d + 1)  H Q := by
  show g_Model_text E (d + 1) 0 (xent [vr 30 0]) [] H (qi Q)
  refine g_drop (ls2 := [some (vr 30 0), none, none]) (And.intro rfl trivial) ?_
  refine g_aload_n (q := 0) (i := 0) (by decide +kernel) rfl rfl ?_
  refine g_get (C := "ThreePointsModel") (T := xT_Model) (N := 39) (ci := 10) (k := 11) (v := vi (H 30 0 11)) (by decide +kernel) (by decide) rfl rfl xi_Model (by decide) kw_1037 rfl ?_
  refine g_bipush (n := 6) (v := 6) (by decide +kernel) (by decide) ?_
  refine g_icmp_ne (off := 6) (tgt := 12) (by decide +kernel) (by decide) (fun c => ?_) (fun c => ?_)
  · replace h := h.1 c
    refine g_aload_n (q := 0) (i := 0) (by decide +kernel) rfl rfl ?_
    refine g_iconst (n := 0) (v := 0) (by decide +kernel) (by decide) ?_
    refine g_put (C := "ThreePointsModel") (T := xT_Model) (N := 39) (ci := 10) (k := 20) xy_Model (by decide +kernel) (by decide) rfl rfl xi_Model xy_Model_ok xn_Model (by decide) kw_1046 rfl (by decide +kernel) (fun _ => rfl) ?_
    refine g_aload_n (q := 0) (i := 0) (by decide +kernel) rfl rfl ?_
    refine g_iconst (n := 0) (v := 0) (by decide +kernel) (by decide) ?_
    refine g_put (C := "ThreePointsModel") (T := xT_Model) (N := 39) (ci := 10) (k := 28) xy_Model (by decide +kernel) (by decide) rfl rfl xi_Model xy_Model_ok xn_Model (by decide) kw_1054 rfl (by decide +kernel) (fun _ => rfl) ?_
    refine g_iconst (n := 1) (v := 1) (by decide +kernel) (by decide) ?_
    refine g_istore_n (q := 1) (i := 1) (ls2 := [some (vr 30 0), some (vi 1), none]) (by decide +kernel) rfl (by decide) rfl rfl ?_
    refine g_iconst (n := 0) (v := 0) (by decide +kernel) (by decide) ?_
    refine g_istore_n (q := 2) (i := 2) (ls2 := [some (vr 30 0), some (vi 1), some (vi 0)]) (by decide +kernel) rfl (by decide) rfl rfl ?_
    refine g_heap (fun H1 eH1 => ?_)
    replace h := h H1 eH1
    refine g_drop (ls2 := [some (vr 30 0), some (vi 1), some (vi 0)]) (And.intro rfl (And.intro rfl (And.intro rfl trivial))) ?_
    obtain ⟨I2, μ2, h0, h⟩ := h
    refine xloop (σ := Int32 × Int32) (fun s H => I2 s.1 s.2 H) (fun s H => μ2 s.1 s.2 H) (fun s H => g_Model_text E (d + 1) 26 [some (vr 30 0), some (vi s.1), some (vi s.2)] [] H (qi Q)) (fun s H5 hI ih2 => ?_) (1, 0) H1 h0
    obtain ⟨z3, z4⟩ := s
    replace h := h z3 z4 H5 hI
    refine g_iload_n (q := 2) (i := 2) (by decide +kernel) rfl rfl ?_
    refine g_iconst (n := 3) (v := 3) (by decide +kernel) (by decide) ?_
    obtain ⟨J6, h, hk6⟩ := h
    have hc6 : ∀ (y7 : Int32) (H8 : HH), J6 y7 H8 → g_Model_text E (d + 1) 101 [some (vr 30 0), some (vi y7), none] [] H8 (qi Q) := by
      intro y7 H8 h
      replace h := hk6 y7 H8 h
      refine g_iload_n (q := 1) (i := 1) (by decide +kernel) rfl rfl ?_
      obtain ⟨J9, h, hk9⟩ := h
      have hc9 : ∀ (y10 : Int32) (H11 : HH), J9 y10 H11 → g_Model_text E (d + 1) 122 [some (vr 30 0), some (vi y10), none] [] H11 (qi Q) := by
        intro y10 H11 h
        replace h := hk9 y10 H11 h
        refine g_aload_n (q := 0) (i := 0) (by decide +kernel) rfl rfl ?_
        refine g_get (C := "ThreePointsModel") (T := xT_Model) (N := 39) (ci := 10) (k := 10) (v := vr 37 0) (by decide +kernel) (by decide) rfl rfl xi_Model (by decide) kw_1036 rfl ?_
        refine g_iconst (n := 4) (v := 4) (by decide +kernel) (by decide) ?_
        refine g_aload_n (q := 0) (i := 0) (by decide +kernel) rfl rfl ?_
        refine g_get (C := "ThreePointsModel") (T := xT_Model) (N := 39) (ci := 10) (k := 11) (v := vi (H11 30 0 11)) (by decide +kernel) (by decide) rfl rfl xi_Model (by decide) kw_1037 rfl ?_
        refine g_imul (by decide +kernel) ?_
        refine g_iconst (n := 3) (v := 3) (by decide +kernel) (by decide) ?_
        refine g_iadd (by decide +kernel) ?_
        refine g_aload_n (q := 0) (i := 0) (by decide +kernel) rfl rfl ?_
        refine g_get (C := "ThreePointsModel") (T := xT_Model) (N := 39) (ci := 10) (k := 28) (v := vi (H11 30 0 28)) (by decide +kernel) (by decide) rfl rfl xi_Model (by decide) kw_1054 rfl ?_
        obtain ⟨hin, h⟩ := h
        refine g_iast (by decide +kernel) (by decide) rfl hin ?_
        refine g_aload_n (q := 0) (i := 0) (by decide +kernel) rfl rfl ?_
        refine g_iconst (n := 0) (v := 0) (by decide +kernel) (by decide) ?_
        refine g_put (C := "ThreePointsModel") (T := xT_Model) (N := 39) (ci := 10) (k := 8) xy_Model (by decide +kernel) (by decide) rfl rfl xi_Model xy_Model_ok xn_Model (by decide) kw_1034 rfl (by decide +kernel) (fun _ => rfl) ?_
        refine g_iload_n (q := 1) (i := 1) (by decide +kernel) rfl rfl ?_
        refine g_heap (fun H12 eH12 => ?_)
        replace h := h H12 eH12
        refine g_if_ne (off := 11) (tgt := 156) (by decide +kernel) (by decide) (fun c => ?_) (fun c => ?_)
        · replace h := h.1 c
          refine g_aload_n (q := 0) (i := 0) (by decide +kernel) rfl rfl ?_
          refine g_dup (by decide +kernel) rfl ?_
          refine g_get (C := "ThreePointsModel") (T := xT_Model) (N := 39) (ci := 10) (k := 11) (v := vi (H12 30 0 11)) (by decide +kernel) (by decide) rfl rfl xi_Model (by decide) kw_1037 rfl ?_
          refine g_iconst (n := 1) (v := 1) (by decide +kernel) (by decide) ?_
          refine g_iadd (by decide +kernel) ?_
          refine g_put (C := "ThreePointsModel") (T := xT_Model) (N := 39) (ci := 10) (k := 11) xy_Model (by decide +kernel) (by decide) rfl rfl xi_Model xy_Model_ok xn_Model (by decide) kw_1037 rfl (by decide +kernel) (fun _ => rfl) ?_
          refine g_aload_n (q := 0) (i := 0) (by decide +kernel) rfl rfl ?_
          refine g_heap (fun H13 eH13 => ?_)
          replace h := h H13 eH13
          refine g_get (C := "ThreePointsModel") (T := xT_Model) (N := 39) (ci := 10) (k := 11) (v := vi (H13 30 0 11)) (by decide +kernel) (by decide) rfl rfl xi_Model (by decide) kw_1037 rfl ?_
          refine g_iconst (n := 1) (v := 1) (by decide +kernel) (by decide) ?_
          refine g_isub (by decide +kernel) ?_
          exact g_iret (by decide +kernel) rfl ⟨_, rfl, h⟩
        · replace h := h.2 c
          refine g_bipush (n := (-100)) (v := (-100)) (by decide +kernel) (by decide) ?_
          refine g_aload_n (q := 0) (i := 0) (by decide +kernel) rfl rfl ?_
          refine g_get (C := "ThreePointsModel") (T := xT_Model) (N := 39) (ci := 10) (k := 21) (v := vi (H12 30 0 21)) (by decide +kernel) (by decide) rfl rfl xi_Model (by decide) kw_1047 rfl ?_
          refine g_isub (by decide +kernel) ?_
          exact g_iret (by decide +kernel) rfl ⟨_, rfl, h⟩
      refine g_if_eq (off := 20) (tgt := 122) (by decide +kernel) (by decide) (fun c => ?_) (fun c => ?_)
      · replace h := h.1 c
        exact g_drop (ls2 := [some (vr 30 0), some (vi y7), none]) (And.intro rfl (And.intro rfl trivial)) (hc9 y7 H8 h)
      · replace h := h.2 c
        refine g_aload_n (q := 0) (i := 0) (by decide +kernel) rfl rfl ?_
        refine g_callV (kd := 30) (ix := 0) (ci := 10) (N := 39) (T := xT_Model) (vs := []) (st := []) (by decide +kernel) xm_Model_next kw_983 kw_985 kw_27 (by decide) rfl rfl rfl rfl (Nat.le_of_ble_eq_true rfl) (Nat.le_of_ble_eq_true rfl) h (fun vH14 H14 hq => ?_)
        replace h := hq
        refine g_aload_n (q := 0) (i := 0) (by decide +kernel) rfl rfl ?_
        refine g_get (C := "ThreePointsModel") (T := xT_Model) (N := 39) (ci := 10) (k := 22) (v := vi (H14 30 0 22)) (by decide +kernel) (by decide) rfl rfl xi_Model (by decide) kw_1048 rfl ?_
        suffices hj15 : g_Model_text E (d + 1) 121 [some (vr 30 0), some (vi y7), none] [vi (if (H14 30 0 22) = 0 then 1 else 0 : Int32)] H14 (qi Q) by
          refine g_if_ne (off := 7) (tgt := 120) (by decide +kernel) (by decide) (fun c => ?_) (fun c => ?_)
          · rw [if_neg c] at hj15
            refine g_iconst (n := 0) (v := 0) (by decide +kernel) (by decide) ?_
            exact hj15
          · rw [if_pos c] at hj15
            refine g_iconst (n := 1) (v := 1) (by decide +kernel) (by decide) ?_
            refine g_goto (off := 4) (tgt := 121) (by decide +kernel) (by decide) ?_
            exact hj15
        refine g_topi (fun v16 ev16 => ?_)
        replace h := h v16 ev16
        refine g_istore_n (q := 1) (i := 1) (ls2 := [some (vr 30 0), some (vi v16), none]) (by decide +kernel) rfl (by decide) rfl rfl ?_
        exact g_drop (ls2 := [some (vr 30 0), some (vi v16), none]) (And.intro rfl (And.intro rfl trivial)) (hc9 v16 H14 h)
    refine g_icmp_ge (off := 73) (tgt := 101) (by decide +kernel) (by decide) (fun c => ?_) (fun c => ?_)
    · replace h := h.1 c
      exact g_drop (ls2 := [some (vr 30 0), some (vi z3), none]) (And.intro rfl (And.intro rfl trivial)) (hc6 z3 H5 h)
    · replace h := h.2 c
      refine g_iload_n (q := 1) (i := 1) (by decide +kernel) rfl rfl ?_
      refine g_if_eq (off := 69) (tgt := 101) (by decide +kernel) (by decide) (fun c => ?_) (fun c => ?_)
      · replace h := h.1 c
        exact g_drop (ls2 := [some (vr 30 0), some (vi z3), none]) (And.intro rfl (And.intro rfl trivial)) (hc6 z3 H5 h)
      · replace h := h.2 c
        refine g_aload_n (q := 0) (i := 0) (by decide +kernel) rfl rfl ?_
        refine g_callV (kd := 30) (ix := 0) (ci := 10) (N := 39) (T := xT_Model) (vs := []) (st := []) (by decide +kernel) xm_Model_next kw_983 kw_985 kw_27 (by decide) rfl rfl rfl rfl (Nat.le_of_ble_eq_true rfl) (Nat.le_of_ble_eq_true rfl) h (fun vH17 H17 hq => ?_)
        replace h := hq
        refine g_aload_n (q := 0) (i := 0) (by decide +kernel) rfl rfl ?_
        refine g_get (C := "ThreePointsModel") (T := xT_Model) (N := 39) (ci := 10) (k := 22) (v := vi (H17 30 0 22)) (by decide +kernel) (by decide) rfl rfl xi_Model (by decide) kw_1048 rfl ?_
        refine g_iconst (n := 3) (v := 3) (by decide +kernel) (by decide) ?_
        suffices hj19 : g_Model_text E (d + 1) 60 [some (vr 30 0), some (vi z3), some (vi z4)] [vi (if (H17 30 0 22) = 3 then (if (H17 30 0 23) = z4 then 1 else 0 : Int32) else 0 : Int32)] H17 (qi Q) by
          refine g_icmp_ne (off := 15) (tgt := 59) (by decide +kernel) (by decide) (fun c => ?_) (fun c => ?_)
          · rw [if_neg c] at hj19
            refine g_iconst (n := 0) (v := 0) (by decide +kernel) (by decide) ?_
            exact hj19
          · rw [if_pos c] at hj19
            refine g_aload_n (q := 0) (i := 0) (by decide +kernel) rfl rfl ?_
            refine g_get (C := "ThreePointsModel") (T := xT_Model) (N := 39) (ci := 10) (k := 23) (v := vi (H17 30 0 23)) (by decide +kernel) (by decide) rfl rfl xi_Model (by decide) kw_1049 rfl ?_
            refine g_iload_n (q := 2) (i := 2) (by decide +kernel) rfl rfl ?_
            suffices hj18 : g_Model_text E (d + 1) 60 [some (vr 30 0), some (vi z3), some (vi z4)] [vi (if (H17 30 0 23) = z4 then 1 else 0 : Int32)] H17 (qi Q) by
              refine g_icmp_ne (off := 7) (tgt := 59) (by decide +kernel) (by decide) (fun c => ?_) (fun c => ?_)
              · rw [if_neg c] at hj18
                refine g_iconst (n := 0) (v := 0) (by decide +kernel) (by decide) ?_
                exact hj18
              · rw [if_pos c] at hj18
                refine g_iconst (n := 1) (v := 1) (by decide +kernel) (by decide) ?_
                refine g_goto (off := 4) (tgt := 60) (by decide +kernel) (by decide) ?_
                exact hj18
            exact hj19
        refine g_topi (fun v20 ev20 => ?_)
        replace h := h v20 ev20
        refine g_istore_n (q := 1) (i := 1) (ls2 := [some (vr 30 0), some (vi v20), some (vi z4)]) (by decide +kernel) rfl (by decide) rfl rfl ?_
        refine g_aload_n (q := 0) (i := 0) (by decide +kernel) rfl rfl ?_
        refine g_get (C := "ThreePointsModel") (T := xT_Model) (N := 39) (ci := 10) (k := 10) (v := vr 37 0) (by decide +kernel) (by decide) rfl rfl xi_Model (by decide) kw_1036 rfl ?_
        refine g_iconst (n := 4) (v := 4) (by decide +kernel) (by decide) ?_
        refine g_aload_n (q := 0) (i := 0) (by decide +kernel) rfl rfl ?_
        refine g_get (C := "ThreePointsModel") (T := xT_Model) (N := 39) (ci := 10) (k := 11) (v := vi (H17 30 0 11)) (by decide +kernel) (by decide) rfl rfl xi_Model (by decide) kw_1037 rfl ?_
        refine g_imul (by decide +kernel) ?_
        refine g_iload_n (q := 2) (i := 2) (by decide +kernel) rfl rfl ?_
        refine g_iadd (by decide +kernel) ?_
        refine g_aload_n (q := 0) (i := 0) (by decide +kernel) rfl rfl ?_
        refine g_get (C := "ThreePointsModel") (T := xT_Model) (N := 39) (ci := 10) (k := 28) (v := vi (H17 30 0 28)) (by decide +kernel) (by decide) rfl rfl xi_Model (by decide) kw_1054 rfl ?_
        obtain ⟨hin, h⟩ := h
        refine g_iast (by decide +kernel) (by decide) rfl hin ?_
        refine g_iload_n (q := 1) (i := 1) (by decide +kernel) rfl rfl ?_
        refine g_heap (fun H21 eH21 => ?_)
        replace h := h H21 eH21
        refine g_if_eq (off := 14) (tgt := 93) (by decide +kernel) (by decide) (fun c => ?_) (fun c => ?_)
        · replace h := h.1 c
          refine g_iconst (n := 0) (v := 0) (by decide +kernel) (by decide) ?_
          refine g_istore_n (q := 1) (i := 1) (ls2 := [some (vr 30 0), some (vi 0), some (vi z4)]) (by decide +kernel) rfl (by decide) rfl rfl ?_
          refine g_iinc (i := 2) (n := 1) (v := (z4 + 1)) (ls2 := [some (vr 30 0), some (vi 0), some (vi (z4 + 1))]) (by decide +kernel) rfl rfl (by decide) rfl rfl ?_
          refine g_goto (off := (-72)) (tgt := 26) (by decide +kernel) (by decide) ?_
          obtain ⟨hI, hlt⟩ := h
          exact g_drop (ls2 := [some (vr 30 0), some (vi 0), some (vi (z4 + 1))]) (And.intro rfl (And.intro rfl (And.intro rfl trivial))) (ih2 (0, (z4 + 1)) H21 hI hlt)
        · replace h := h.2 c
          refine g_aload_n (q := 0) (i := 0) (by decide +kernel) rfl rfl ?_
          refine g_callV (kd := 30) (ix := 0) (ci := 10) (N := 39) (T := xT_Model) (vs := []) (st := []) (by decide +kernel) xm_Model_eRead kw_994 kw_996 kw_29 (by decide) rfl rfl rfl rfl (Nat.le_of_ble_eq_true rfl) (Nat.le_of_ble_eq_true rfl) h (fun vH22 H22 hq => ?_)
          obtain ⟨r23, rfl, h⟩ := hq
          suffices hj24 : g_Model_text E (d + 1) 94 [some (vr 30 0), some (vi v20), some (vi z4)] [vi (if r23 = 0 then 0 else 1 : Int32)] H22 (qi Q) by
            refine g_if_eq (off := 7) (tgt := 93) (by decide +kernel) (by decide) (fun c => ?_) (fun c => ?_)
            · rw [if_pos c] at hj24
              refine g_iconst (n := 0) (v := 0) (by decide +kernel) (by decide) ?_
              exact hj24
            · rw [if_neg c] at hj24
              refine g_iconst (n := 1) (v := 1) (by decide +kernel) (by decide) ?_
              refine g_goto (off := 4) (tgt := 94) (by decide +kernel) (by decide) ?_
              exact hj24
          refine g_topi (fun v25 ev25 => ?_)
          replace h := h v25 ev25
          refine g_istore_n (q := 1) (i := 1) (ls2 := [some (vr 30 0), some (vi v25), some (vi z4)]) (by decide +kernel) rfl (by decide) rfl rfl ?_
          refine g_iinc (i := 2) (n := 1) (v := (z4 + 1)) (ls2 := [some (vr 30 0), some (vi v25), some (vi (z4 + 1))]) (by decide +kernel) rfl rfl (by decide) rfl rfl ?_
          refine g_goto (off := (-72)) (tgt := 26) (by decide +kernel) (by decide) ?_
          obtain ⟨hI, hlt⟩ := h
          exact g_drop (ls2 := [some (vr 30 0), some (vi v25), some (vi (z4 + 1))]) (And.intro rfl (And.intro rfl (And.intro rfl trivial))) (ih2 (v25, (z4 + 1)) H22 hI hlt)
  · replace h := h.2 c
    refine g_bipush (n := (-4)) (v := (-4)) (by decide +kernel) (by decide) ?_
    exact g_iret (by decide +kernel) rfl ⟨_, rfl, h⟩
def p_Model_count (E : XE) (d : Nat) (x1 : Int32) (H : HH) (Q : Int32 → HH → Prop) : Prop := (x1 = 0 → (Q (H 30 0 3) H)) ∧ (x1 = 1 → (Q (H 30 0 1) H)) ∧ (x1 = 2 → (Q (H 30 0 2) H)) ∧ (x1 = 3 → (Q (H 30 0 11) H)) ∧ (x1 = 4 → (Q (H 30 0 12) H)) ∧ (x1 = 5 → (Q (H 30 0 8) H)) ∧ (¬ x1 = 0 → ¬ x1 = 1 → ¬ x1 = 2 → ¬ x1 = 3 → ¬ x1 = 4 → ¬ x1 = 5 → (Q (-2) H))
set_option maxHeartbeats 4000000 in
theorem l_Model_count {E : XE} {d : Nat} {x1 : Int32} {H : HH} {Q : Int32 → HH → Prop} (h : p_Model_count E d x1 H Q) : c_Model_count E d x1 H Q := by
  show g_Model_count E d 0 (xent [vr 30 0, vi x1]) [] H (qi Q)
  refine g_drop (ls2 := [some (vr 30 0), some (vi x1)]) (And.intro rfl (And.intro rfl trivial)) ?_
  refine g_iload_n (q := 1) (i := 1) (by decide +kernel) rfl rfl ?_
  obtain ⟨hk, h⟩ := h
  by_cases e0 : x1 = 0
  · replace h := hk e0
    refine g_tableIn (dflt := 69) (lo := 0) (hi := 5) (offs := #[39, 44, 49, 54, 59, 64]) (len := 39) (tgt := 40) (by decide +kernel) (by rw [e0]; decide) (by rw [e0]; decide) (by rw [e0]; rfl) (by decide) ?_
    refine g_aload_n (q := 0) (i := 0) (by decide +kernel) rfl rfl ?_
    refine g_get (C := "ThreePointsModel") (T := xT_Model) (N := 39) (ci := 10) (k := 3) (v := vi (H 30 0 3)) (by decide +kernel) (by decide) rfl rfl xi_Model (by decide) kw_1029 rfl ?_
    exact g_iret (by decide +kernel) rfl ⟨_, rfl, h⟩
  clear hk
  obtain ⟨hk, h⟩ := h
  by_cases e1 : x1 = 1
  · replace h := hk e1
    refine g_tableIn (dflt := 69) (lo := 0) (hi := 5) (offs := #[39, 44, 49, 54, 59, 64]) (len := 39) (tgt := 45) (by decide +kernel) (by rw [e1]; decide) (by rw [e1]; decide) (by rw [e1]; rfl) (by decide) ?_
    refine g_aload_n (q := 0) (i := 0) (by decide +kernel) rfl rfl ?_
    refine g_get (C := "ThreePointsModel") (T := xT_Model) (N := 39) (ci := 10) (k := 1) (v := vi (H 30 0 1)) (by decide +kernel) (by decide) rfl rfl xi_Model (by decide) kw_1027 rfl ?_
    exact g_iret (by decide +kernel) rfl ⟨_, rfl, h⟩
  clear hk
  obtain ⟨hk, h⟩ := h
  by_cases e2 : x1 = 2
  · replace h := hk e2
    refine g_tableIn (dflt := 69) (lo := 0) (hi := 5) (offs := #[39, 44, 49, 54, 59, 64]) (len := 39) (tgt := 50) (by decide +kernel) (by rw [e2]; decide) (by rw [e2]; decide) (by rw [e2]; rfl) (by decide) ?_
    refine g_aload_n (q := 0) (i := 0) (by decide +kernel) rfl rfl ?_
    refine g_get (C := "ThreePointsModel") (T := xT_Model) (N := 39) (ci := 10) (k := 2) (v := vi (H 30 0 2)) (by decide +kernel) (by decide) rfl rfl xi_Model (by decide) kw_1028 rfl ?_
    exact g_iret (by decide +kernel) rfl ⟨_, rfl, h⟩
  clear hk
  obtain ⟨hk, h⟩ := h
  by_cases e3 : x1 = 3
  · replace h := hk e3
    refine g_tableIn (dflt := 69) (lo := 0) (hi := 5) (offs := #[39, 44, 49, 54, 59, 64]) (len := 39) (tgt := 55) (by decide +kernel) (by rw [e3]; decide) (by rw [e3]; decide) (by rw [e3]; rfl) (by decide) ?_
    refine g_aload_n (q := 0) (i := 0) (by decide +kernel) rfl rfl ?_
    refine g_get (C := "ThreePointsModel") (T := xT_Model) (N := 39) (ci := 10) (k := 11) (v := vi (H 30 0 11)) (by decide +kernel) (by decide) rfl rfl xi_Model (by decide) kw_1037 rfl ?_
    exact g_iret (by decide +kernel) rfl ⟨_, rfl, h⟩
  clear hk
  obtain ⟨hk, h⟩ := h
  by_cases e4 : x1 = 4
  · replace h := hk e4
    refine g_tableIn (dflt := 69) (lo := 0) (hi := 5) (offs := #[39, 44, 49, 54, 59, 64]) (len := 39) (tgt := 60) (by decide +kernel) (by rw [e4]; decide) (by rw [e4]; decide) (by rw [e4]; rfl) (by decide) ?_
    refine g_aload_n (q := 0) (i := 0) (by decide +kernel) rfl rfl ?_
    refine g_get (C := "ThreePointsModel") (T := xT_Model) (N := 39) (ci := 10) (k := 12) (v := vi (H 30 0 12)) (by decide +kernel) (by decide) rfl rfl xi_Model (by decide) kw_1038 rfl ?_
    exact g_iret (by decide +kernel) rfl ⟨_, rfl, h⟩
  clear hk
  obtain ⟨hk, h⟩ := h
  by_cases e5 : x1 = 5
  · replace h := hk e5
    refine g_tableIn (dflt := 69) (lo := 0) (hi := 5) (offs := #[39, 44, 49, 54, 59, 64]) (len := 39) (tgt := 65) (by decide +kernel) (by rw [e5]; decide) (by rw [e5]; decide) (by rw [e5]; rfl) (by decide) ?_
    refine g_aload_n (q := 0) (i := 0) (by decide +kernel) rfl rfl ?_
    refine g_get (C := "ThreePointsModel") (T := xT_Model) (N := 39) (ci := 10) (k := 8) (v := vi (H 30 0 8)) (by decide +kernel) (by decide) rfl rfl xi_Model (by decide) kw_1034 rfl ?_
    exact g_iret (by decide +kernel) rfl ⟨_, rfl, h⟩
  clear hk
  replace h := h e0 e1 e2 e3 e4 e5
  refine g_tableOut (dflt := 69) (lo := 0) (hi := 5) (offs := #[39, 44, 49, 54, 59, 64]) (len := 39) (tgt := 70) (by decide +kernel) (by have q0 := xsw (m := 0) (by decide) e0; have q1 := xsw (m := 1) (by decide) e1; have q2 := xsw (m := 2) (by decide) e2; have q3 := xsw (m := 3) (by decide) e3; have q4 := xsw (m := 4) (by decide) e4; have q5 := xsw (m := 5) (by decide) e5; omega) (by decide) ?_
  refine g_bipush (n := (-2)) (v := (-2)) (by decide +kernel) (by decide) ?_
  exact g_iret (by decide +kernel) rfl ⟨_, rfl, h⟩
def p_Model_isPlace (E : XE) (d : Nat) (x1 : Int32) (H : HH) (Q : Int32 → HH → Prop) : Prop := c_Model_in E d x1 0 (H 30 0 1) H (fun r2 H1 => (r2 = 0 ∨ r2 = 1) ∧ Q r2 H1)
set_option maxHeartbeats 4000000 in
theorem l_Model_isPlace {E : XE} {d : Nat} {x1 : Int32} {H : HH} {Q : Int32 → HH → Prop} (h : p_Model_isPlace E d x1 H Q) : c_Model_isPlace E (d + 1) x1 H Q := by
  show g_Model_isPlace E (d + 1) 0 (xent [vr 30 0, vi x1]) [] H (qi Q)
  refine g_drop (ls2 := [some (vr 30 0), some (vi x1)]) (And.intro rfl (And.intro rfl trivial)) ?_
  refine g_iload_n (q := 1) (i := 1) (by decide +kernel) rfl rfl ?_
  refine g_iconst (n := 0) (v := 0) (by decide +kernel) (by decide) ?_
  refine g_aload_n (q := 0) (i := 0) (by decide +kernel) rfl rfl ?_
  refine g_get (C := "ThreePointsModel") (T := xT_Model) (N := 39) (ci := 10) (k := 1) (v := vi (H 30 0 1)) (by decide +kernel) (by decide) rfl rfl xi_Model (by decide) kw_1027 rfl ?_
  refine g_callS (vs := [vi x1, vi 0, vi (H 30 0 1)]) (st := []) (by decide +kernel) xm_Model_in kw_987 kw_988 rfl rfl (Nat.le_of_ble_eq_true rfl) (Nat.le_of_ble_eq_true rfl) h (fun vH1 H1 hq => ?_)
  obtain ⟨r2, rfl, h⟩ := hq
  obtain ⟨h01, h⟩ := h
  exact g_zret (by decide +kernel) rfl (nbool h01) ⟨_, rfl, h⟩
def p_Model_frontOf (E : XE) (d : Nat) (x1 : Int32) (H : HH) (Q : Int32 → HH → Prop) : Prop := vp_in x1 4 ∧ (((H 32 0 (x1.toNatClampNeg)) = 1 → (vp_in x1 4 ∧ (Q (5 + (H 33 0 (x1.toNatClampNeg))) H))) ∧ (¬ (H 32 0 (x1.toNatClampNeg)) = 1 → (vp_in x1 4 ∧ ((¬ (H 32 0 (x1.toNatClampNeg)) = 3 → (vp_in x1 4 ∧ (Q (if (H 32 0 (x1.toNatClampNeg)) = 4 then 3 else 5 : Int32) H))) ∧ ((H 32 0 (x1.toNatClampNeg)) = 3 → (vp_in x1 4 ∧ (Q (5 + (H 33 0 (x1.toNatClampNeg))) H)))))))
set_option maxHeartbeats 4000000 in
theorem l_Model_frontOf {E : XE} {d : Nat} {x1 : Int32} {H : HH} {Q : Int32 → HH → Prop} (h : p_Model_frontOf E d x1 H Q) : c_Model_frontOf E d x1 H Q := by
  show g_Model_frontOf E d 0 (xent [vr 30 0, vi x1]) [] H (qi Q)
  refine g_drop (ls2 := [some (vr 30 0), some (vi x1)]) (And.intro rfl (And.intro rfl trivial)) ?_
  refine g_aload_n (q := 0) (i := 0) (by decide +kernel) rfl rfl ?_
  refine g_get (C := "ThreePointsModel") (T := xT_Model) (N := 39) (ci := 10) (k := 4) (v := vr 32 0) (by decide +kernel) (by decide) rfl rfl xi_Model (by decide) kw_1030 rfl ?_
  refine g_iload_n (q := 1) (i := 1) (by decide +kernel) rfl rfl ?_
  obtain ⟨hin, h⟩ := h
  refine g_iald (by decide +kernel) (by decide) rfl hin ?_
  refine g_iconst (n := 1) (v := 1) (by decide +kernel) (by decide) ?_
  refine g_icmp_eq (off := 13) (tgt := 20) (by decide +kernel) (by decide) (fun c => ?_) (fun c => ?_)
  · replace h := h.1 c
    refine g_iconst (n := 5) (v := 5) (by decide +kernel) (by decide) ?_
    refine g_aload_n (q := 0) (i := 0) (by decide +kernel) rfl rfl ?_
    refine g_get (C := "ThreePointsModel") (T := xT_Model) (N := 39) (ci := 10) (k := 5) (v := vr 33 0) (by decide +kernel) (by decide) rfl rfl xi_Model (by decide) kw_1031 rfl ?_
    refine g_iload_n (q := 1) (i := 1) (by decide +kernel) rfl rfl ?_
    obtain ⟨hin, h⟩ := h
    refine g_iald (by decide +kernel) (by decide) rfl hin ?_
    refine g_iadd (by decide +kernel) ?_
    refine g_goto (off := 18) (tgt := 46) (by decide +kernel) (by decide) ?_
    exact g_iret (by decide +kernel) rfl ⟨_, rfl, h⟩
  · replace h := h.2 c
    refine g_aload_n (q := 0) (i := 0) (by decide +kernel) rfl rfl ?_
    refine g_get (C := "ThreePointsModel") (T := xT_Model) (N := 39) (ci := 10) (k := 4) (v := vr 32 0) (by decide +kernel) (by decide) rfl rfl xi_Model (by decide) kw_1030 rfl ?_
    refine g_iload_n (q := 1) (i := 1) (by decide +kernel) rfl rfl ?_
    obtain ⟨hin, h⟩ := h
    refine g_iald (by decide +kernel) (by decide) rfl hin ?_
    refine g_iconst (n := 3) (v := 3) (by decide +kernel) (by decide) ?_
    refine g_icmp_ne (off := 14) (tgt := 31) (by decide +kernel) (by decide) (fun c => ?_) (fun c => ?_)
    · replace h := h.1 c
      refine g_aload_n (q := 0) (i := 0) (by decide +kernel) rfl rfl ?_
      refine g_get (C := "ThreePointsModel") (T := xT_Model) (N := 39) (ci := 10) (k := 4) (v := vr 32 0) (by decide +kernel) (by decide) rfl rfl xi_Model (by decide) kw_1030 rfl ?_
      refine g_iload_n (q := 1) (i := 1) (by decide +kernel) rfl rfl ?_
      obtain ⟨hin, h⟩ := h
      refine g_iald (by decide +kernel) (by decide) rfl hin ?_
      refine g_iconst (n := 4) (v := 4) (by decide +kernel) (by decide) ?_
      suffices hj1 : g_Model_frontOf E d 46 [some (vr 30 0), some (vi x1)] [vi (if (H 32 0 (x1.toNatClampNeg)) = 4 then 3 else 5 : Int32)] H (qi Q) by
        refine g_icmp_ne (off := 7) (tgt := 45) (by decide +kernel) (by decide) (fun c => ?_) (fun c => ?_)
        · rw [if_neg c] at hj1
          refine g_iconst (n := 5) (v := 5) (by decide +kernel) (by decide) ?_
          exact hj1
        · rw [if_pos c] at hj1
          refine g_iconst (n := 3) (v := 3) (by decide +kernel) (by decide) ?_
          refine g_goto (off := 4) (tgt := 46) (by decide +kernel) (by decide) ?_
          exact hj1
      exact g_iret (by decide +kernel) rfl ⟨_, rfl, h⟩
    · replace h := h.2 c
      refine g_iconst (n := 5) (v := 5) (by decide +kernel) (by decide) ?_
      refine g_aload_n (q := 0) (i := 0) (by decide +kernel) rfl rfl ?_
      refine g_get (C := "ThreePointsModel") (T := xT_Model) (N := 39) (ci := 10) (k := 5) (v := vr 33 0) (by decide +kernel) (by decide) rfl rfl xi_Model (by decide) kw_1031 rfl ?_
      refine g_iload_n (q := 1) (i := 1) (by decide +kernel) rfl rfl ?_
      obtain ⟨hin, h⟩ := h
      refine g_iald (by decide +kernel) (by decide) rfl hin ?_
      refine g_iadd (by decide +kernel) ?_
      refine g_goto (off := 18) (tgt := 46) (by decide +kernel) (by decide) ?_
      exact g_iret (by decide +kernel) rfl ⟨_, rfl, h⟩
def p_Model_backOf (E : XE) (d : Nat) (x1 : Int32) (H : HH) (Q : Int32 → HH → Prop) : Prop := vp_in x1 4 ∧ (((H 32 0 (x1.toNatClampNeg)) = 2 → (Q 2 H)) ∧ (¬ (H 32 0 (x1.toNatClampNeg)) = 2 → (vp_in x1 4 ∧ ((¬ (H 32 0 (x1.toNatClampNeg)) = 4 → (vp_in x1 4 ∧ ((¬ (H 32 0 (x1.toNatClampNeg)) = 3 → (Q 4 H)) ∧ ((H 32 0 (x1.toNatClampNeg)) = 3 → (vp_in x1 4 ∧ (Q (4 + (H 33 0 (x1.toNatClampNeg))) H)))))) ∧ ((H 32 0 (x1.toNatClampNeg)) = 4 → (Q 2 H))))))
set_option maxHeartbeats 4000000 in
theorem l_Model_backOf {E : XE} {d : Nat} {x1 : Int32} {H : HH} {Q : Int32 → HH → Prop} (h : p_Model_backOf E d x1 H Q) : c_Model_backOf E d x1 H Q := by
  show g_Model_backOf E d 0 (xent [vr 30 0, vi x1]) [] H (qi Q)
  refine g_drop (ls2 := [some (vr 30 0), some (vi x1)]) (And.intro rfl (And.intro rfl trivial)) ?_
  refine g_aload_n (q := 0) (i := 0) (by decide +kernel) rfl rfl ?_
  refine g_get (C := "ThreePointsModel") (T := xT_Model) (N := 39) (ci := 10) (k := 4) (v := vr 32 0) (by decide +kernel) (by decide) rfl rfl xi_Model (by decide) kw_1030 rfl ?_
  refine g_iload_n (q := 1) (i := 1) (by decide +kernel) rfl rfl ?_
  obtain ⟨hin, h⟩ := h
  refine g_iald (by decide +kernel) (by decide) rfl hin ?_
  refine g_iconst (n := 2) (v := 2) (by decide +kernel) (by decide) ?_
  refine g_icmp_eq (off := 13) (tgt := 20) (by decide +kernel) (by decide) (fun c => ?_) (fun c => ?_)
  · replace h := h.1 c
    refine g_iconst (n := 2) (v := 2) (by decide +kernel) (by decide) ?_
    refine g_goto (off := 25) (tgt := 46) (by decide +kernel) (by decide) ?_
    exact g_iret (by decide +kernel) rfl ⟨_, rfl, h⟩
  · replace h := h.2 c
    refine g_aload_n (q := 0) (i := 0) (by decide +kernel) rfl rfl ?_
    refine g_get (C := "ThreePointsModel") (T := xT_Model) (N := 39) (ci := 10) (k := 4) (v := vr 32 0) (by decide +kernel) (by decide) rfl rfl xi_Model (by decide) kw_1030 rfl ?_
    refine g_iload_n (q := 1) (i := 1) (by decide +kernel) rfl rfl ?_
    obtain ⟨hin, h⟩ := h
    refine g_iald (by decide +kernel) (by decide) rfl hin ?_
    refine g_iconst (n := 4) (v := 4) (by decide +kernel) (by decide) ?_
    refine g_icmp_ne (off := 7) (tgt := 24) (by decide +kernel) (by decide) (fun c => ?_) (fun c => ?_)
    · replace h := h.1 c
      refine g_aload_n (q := 0) (i := 0) (by decide +kernel) rfl rfl ?_
      refine g_get (C := "ThreePointsModel") (T := xT_Model) (N := 39) (ci := 10) (k := 4) (v := vr 32 0) (by decide +kernel) (by decide) rfl rfl xi_Model (by decide) kw_1030 rfl ?_
      refine g_iload_n (q := 1) (i := 1) (by decide +kernel) rfl rfl ?_
      obtain ⟨hin, h⟩ := h
      refine g_iald (by decide +kernel) (by decide) rfl hin ?_
      refine g_iconst (n := 3) (v := 3) (by decide +kernel) (by decide) ?_
      refine g_icmp_ne (off := 14) (tgt := 45) (by decide +kernel) (by decide) (fun c => ?_) (fun c => ?_)
      · replace h := h.1 c
        refine g_iconst (n := 4) (v := 4) (by decide +kernel) (by decide) ?_
        exact g_iret (by decide +kernel) rfl ⟨_, rfl, h⟩
      · replace h := h.2 c
        refine g_iconst (n := 4) (v := 4) (by decide +kernel) (by decide) ?_
        refine g_aload_n (q := 0) (i := 0) (by decide +kernel) rfl rfl ?_
        refine g_get (C := "ThreePointsModel") (T := xT_Model) (N := 39) (ci := 10) (k := 5) (v := vr 33 0) (by decide +kernel) (by decide) rfl rfl xi_Model (by decide) kw_1031 rfl ?_
        refine g_iload_n (q := 1) (i := 1) (by decide +kernel) rfl rfl ?_
        obtain ⟨hin, h⟩ := h
        refine g_iald (by decide +kernel) (by decide) rfl hin ?_
        refine g_iadd (by decide +kernel) ?_
        refine g_goto (off := 4) (tgt := 46) (by decide +kernel) (by decide) ?_
        exact g_iret (by decide +kernel) rfl ⟨_, rfl, h⟩
    · replace h := h.2 c
      refine g_iconst (n := 2) (v := 2) (by decide +kernel) (by decide) ?_
      refine g_goto (off := 25) (tgt := 46) (by decide +kernel) (by decide) ?_
      exact g_iret (by decide +kernel) rfl ⟨_, rfl, h⟩
def p_Model_two (E : XE) (d : Nat) (x0 : Int32) (x1 : Int32) (x2 : Int32) (H : HH) (Q : Int32 → HH → Prop) : Prop := (x0 = 11 → (Q (if x1 = 0 then (if x2 = 0 then 0 else 1 : Int32) else 1 : Int32) H)) ∧ (x0 = 12 → (Q (if x1 = 0 then 0 else (if x2 = 0 then 0 else 1 : Int32) : Int32) H)) ∧ (x0 = 14 → (Q (if x2 ≤ x1 then 0 else 1 : Int32) H)) ∧ (x0 = 15 → (Q (if x1 = x2 then 1 else 0 : Int32) H)) ∧ (x0 = 16 → (Q (x1 + x2) H)) ∧ (x0 = 17 → (Q (x1 - x2) H)) ∧ (¬ x0 = 11 → ¬ x0 = 12 → ¬ x0 = 14 → ¬ x0 = 15 → ¬ x0 = 16 → ¬ x0 = 17 → (Q (x1 * x2) H))
set_option maxHeartbeats 4000000 in
theorem l_Model_two {E : XE} {d : Nat} {x0 : Int32} {x1 : Int32} {x2 : Int32} {H : HH} {Q : Int32 → HH → Prop} (h : p_Model_two E d x0 x1 x2 H Q) : c_Model_two E d x0 x1 x2 H Q := by
  show g_Model_two E d 0 (xent [vi x0, vi x1, vi x2]) [] H (qi Q)
  refine g_drop (ls2 := [some (vi x0), some (vi x1), some (vi x2)]) (And.intro rfl (And.intro rfl (And.intro rfl trivial))) ?_
  refine g_iload_n (q := 0) (i := 0) (by decide +kernel) rfl rfl ?_
  obtain ⟨hk, h⟩ := h
  by_cases e11 : x0 = 11
  · replace h := hk e11
    refine g_tableIn (dflt := 101) (lo := 11) (hi := 17) (offs := #[43, 57, 101, 71, 82, 93, 97]) (len := 43) (tgt := 44) (by decide +kernel) (by rw [e11]; decide) (by rw [e11]; decide) (by rw [e11]; rfl) (by decide) ?_
    refine g_iload_n (q := 1) (i := 1) (by decide +kernel) rfl rfl ?_
    suffices hj2 : g_Model_two E d 57 [some (vi x0), some (vi x1), some (vi x2)] [vi (if x1 = 0 then (if x2 = 0 then 0 else 1 : Int32) else 1 : Int32)] H (qi Q) by
      refine g_if_ne (off := 7) (tgt := 52) (by decide +kernel) (by decide) (fun c => ?_) (fun c => ?_)
      · rw [if_neg c] at hj2
        refine g_iconst (n := 1) (v := 1) (by decide +kernel) (by decide) ?_
        refine g_goto (off := 4) (tgt := 57) (by decide +kernel) (by decide) ?_
        exact hj2
      · rw [if_pos c] at hj2
        refine g_iload_n (q := 2) (i := 2) (by decide +kernel) rfl rfl ?_
        suffices hj1 : g_Model_two E d 57 [some (vi x0), some (vi x1), some (vi x2)] [vi (if x2 = 0 then 0 else 1 : Int32)] H (qi Q) by
          refine g_if_eq (off := 7) (tgt := 56) (by decide +kernel) (by decide) (fun c => ?_) (fun c => ?_)
          · rw [if_pos c] at hj1
            refine g_iconst (n := 0) (v := 0) (by decide +kernel) (by decide) ?_
            exact hj1
          · rw [if_neg c] at hj1
            refine g_iconst (n := 1) (v := 1) (by decide +kernel) (by decide) ?_
            refine g_goto (off := 4) (tgt := 57) (by decide +kernel) (by decide) ?_
            exact hj1
        exact hj2
    exact g_iret (by decide +kernel) rfl ⟨_, rfl, h⟩
  clear hk
  obtain ⟨hk, h⟩ := h
  by_cases e12 : x0 = 12
  · replace h := hk e12
    refine g_tableIn (dflt := 101) (lo := 11) (hi := 17) (offs := #[43, 57, 101, 71, 82, 93, 97]) (len := 43) (tgt := 58) (by decide +kernel) (by rw [e12]; decide) (by rw [e12]; decide) (by rw [e12]; rfl) (by decide) ?_
    refine g_iload_n (q := 1) (i := 1) (by decide +kernel) rfl rfl ?_
    suffices hj4 : g_Model_two E d 71 [some (vi x0), some (vi x1), some (vi x2)] [vi (if x1 = 0 then 0 else (if x2 = 0 then 0 else 1 : Int32) : Int32)] H (qi Q) by
      refine g_if_eq (off := 11) (tgt := 70) (by decide +kernel) (by decide) (fun c => ?_) (fun c => ?_)
      · rw [if_pos c] at hj4
        refine g_iconst (n := 0) (v := 0) (by decide +kernel) (by decide) ?_
        exact hj4
      · rw [if_neg c] at hj4
        refine g_iload_n (q := 2) (i := 2) (by decide +kernel) rfl rfl ?_
        suffices hj3 : g_Model_two E d 71 [some (vi x0), some (vi x1), some (vi x2)] [vi (if x2 = 0 then 0 else 1 : Int32)] H (qi Q) by
          refine g_if_eq (off := 7) (tgt := 70) (by decide +kernel) (by decide) (fun c => ?_) (fun c => ?_)
          · rw [if_pos c] at hj3
            refine g_iconst (n := 0) (v := 0) (by decide +kernel) (by decide) ?_
            exact hj3
          · rw [if_neg c] at hj3
            refine g_iconst (n := 1) (v := 1) (by decide +kernel) (by decide) ?_
            refine g_goto (off := 4) (tgt := 71) (by decide +kernel) (by decide) ?_
            exact hj3
        exact hj4
    exact g_iret (by decide +kernel) rfl ⟨_, rfl, h⟩
  clear hk
  obtain ⟨hk, h⟩ := h
  by_cases e14 : x0 = 14
  · replace h := hk e14
    refine g_tableIn (dflt := 101) (lo := 11) (hi := 17) (offs := #[43, 57, 101, 71, 82, 93, 97]) (len := 43) (tgt := 72) (by decide +kernel) (by rw [e14]; decide) (by rw [e14]; decide) (by rw [e14]; rfl) (by decide) ?_
    refine g_iload_n (q := 1) (i := 1) (by decide +kernel) rfl rfl ?_
    refine g_iload_n (q := 2) (i := 2) (by decide +kernel) rfl rfl ?_
    suffices hj5 : g_Model_two E d 82 [some (vi x0), some (vi x1), some (vi x2)] [vi (if x2 ≤ x1 then 0 else 1 : Int32)] H (qi Q) by
      refine g_icmp_ge (off := 7) (tgt := 81) (by decide +kernel) (by decide) (fun c => ?_) (fun c => ?_)
      · rw [if_pos c] at hj5
        refine g_iconst (n := 0) (v := 0) (by decide +kernel) (by decide) ?_
        exact hj5
      · rw [if_neg c] at hj5
        refine g_iconst (n := 1) (v := 1) (by decide +kernel) (by decide) ?_
        refine g_goto (off := 4) (tgt := 82) (by decide +kernel) (by decide) ?_
        exact hj5
    exact g_iret (by decide +kernel) rfl ⟨_, rfl, h⟩
  clear hk
  obtain ⟨hk, h⟩ := h
  by_cases e15 : x0 = 15
  · replace h := hk e15
    refine g_tableIn (dflt := 101) (lo := 11) (hi := 17) (offs := #[43, 57, 101, 71, 82, 93, 97]) (len := 43) (tgt := 83) (by decide +kernel) (by rw [e15]; decide) (by rw [e15]; decide) (by rw [e15]; rfl) (by decide) ?_
    refine g_iload_n (q := 1) (i := 1) (by decide +kernel) rfl rfl ?_
    refine g_iload_n (q := 2) (i := 2) (by decide +kernel) rfl rfl ?_
    suffices hj6 : g_Model_two E d 93 [some (vi x0), some (vi x1), some (vi x2)] [vi (if x1 = x2 then 1 else 0 : Int32)] H (qi Q) by
      refine g_icmp_ne (off := 7) (tgt := 92) (by decide +kernel) (by decide) (fun c => ?_) (fun c => ?_)
      · rw [if_neg c] at hj6
        refine g_iconst (n := 0) (v := 0) (by decide +kernel) (by decide) ?_
        exact hj6
      · rw [if_pos c] at hj6
        refine g_iconst (n := 1) (v := 1) (by decide +kernel) (by decide) ?_
        refine g_goto (off := 4) (tgt := 93) (by decide +kernel) (by decide) ?_
        exact hj6
    exact g_iret (by decide +kernel) rfl ⟨_, rfl, h⟩
  clear hk
  obtain ⟨hk, h⟩ := h
  by_cases e16 : x0 = 16
  · replace h := hk e16
    refine g_tableIn (dflt := 101) (lo := 11) (hi := 17) (offs := #[43, 57, 101, 71, 82, 93, 97]) (len := 43) (tgt := 94) (by decide +kernel) (by rw [e16]; decide) (by rw [e16]; decide) (by rw [e16]; rfl) (by decide) ?_
    refine g_iload_n (q := 1) (i := 1) (by decide +kernel) rfl rfl ?_
    refine g_iload_n (q := 2) (i := 2) (by decide +kernel) rfl rfl ?_
    refine g_iadd (by decide +kernel) ?_
    exact g_iret (by decide +kernel) rfl ⟨_, rfl, h⟩
  clear hk
  obtain ⟨hk, h⟩ := h
  by_cases e17 : x0 = 17
  · replace h := hk e17
    refine g_tableIn (dflt := 101) (lo := 11) (hi := 17) (offs := #[43, 57, 101, 71, 82, 93, 97]) (len := 43) (tgt := 98) (by decide +kernel) (by rw [e17]; decide) (by rw [e17]; decide) (by rw [e17]; rfl) (by decide) ?_
    refine g_iload_n (q := 1) (i := 1) (by decide +kernel) rfl rfl ?_
    refine g_iload_n (q := 2) (i := 2) (by decide +kernel) rfl rfl ?_
    refine g_isub (by decide +kernel) ?_
    exact g_iret (by decide +kernel) rfl ⟨_, rfl, h⟩
  clear hk
  replace h := h e11 e12 e14 e15 e16 e17
  by_cases e13 : x0 = 13
  · refine g_tableIn (dflt := 101) (lo := 11) (hi := 17) (offs := #[43, 57, 101, 71, 82, 93, 97]) (len := 43) (tgt := 102) (by decide +kernel) (by rw [e13]; decide) (by rw [e13]; decide) (by rw [e13]; rfl) (by decide) ?_
    refine g_iload_n (q := 1) (i := 1) (by decide +kernel) rfl rfl ?_
    refine g_iload_n (q := 2) (i := 2) (by decide +kernel) rfl rfl ?_
    refine g_imul (by decide +kernel) ?_
    exact g_iret (by decide +kernel) rfl ⟨_, rfl, h⟩
  refine g_tableOut (dflt := 101) (lo := 11) (hi := 17) (offs := #[43, 57, 101, 71, 82, 93, 97]) (len := 43) (tgt := 102) (by decide +kernel) (by have q11 := xsw (m := 11) (by decide) e11; have q12 := xsw (m := 12) (by decide) e12; have q13 := xsw (m := 13) (by decide) e13; have q14 := xsw (m := 14) (by decide) e14; have q15 := xsw (m := 15) (by decide) e15; have q16 := xsw (m := 16) (by decide) e16; have q17 := xsw (m := 17) (by decide) e17; omega) (by decide) ?_
  refine g_iload_n (q := 1) (i := 1) (by decide +kernel) rfl rfl ?_
  refine g_iload_n (q := 2) (i := 2) (by decide +kernel) rfl rfl ?_
  refine g_imul (by decide +kernel) ?_
  exact g_iret (by decide +kernel) rfl ⟨_, rfl, h⟩
def p_Model_says (E : XE) (d : Nat) (x1 : Int32) (H : HH) (Q : Int32 → HH → Prop) : Prop := vp_in ((4 * (H 30 0 12)) + x1) 24 ∧ (∀ v1 : Int32, v1 = (H 37 0 (((4 * (H 30 0 12)) + x1).toNatClampNeg)) → (∃ (I2 : Int32 → Int32 → HH → Prop) (μ2 : Int32 → Int32 → HH → Nat), I2 0 v1 H ∧ ∀ (z3 : Int32) (z4 : Int32) (H5 : HH), I2 z3 z4 H5 → (vp_in (((4 * (H5 30 0 12)) + x1) + 1) 24 ∧ (((H5 37 0 ((((4 * (H5 30 0 12)) + x1) + 1).toNatClampNeg)) ≤ z4 → (Q (H5 46 0 0) H5)) ∧ (¬ (H5 37 0 ((((4 * (H5 30 0 12)) + x1) + 1).toNatClampNeg)) ≤ z4 → (vp_in ((200 * (H5 30 0 12)) + z4) 1200 ∧ (∀ v6 : Int32, v6 = (H5 36 0 (((200 * (H5 30 0 12)) + z4).toNatClampNeg)) → ((100000 ≤ v6 → ((11 ≤ v6 → (vp_in z3 200 ∧ (∀ H7 : HH, H7 = (hu H5 46 0 (z3.toNatClampNeg) (v6 - 100000)) → (I2 (z3 + 1) (z4 + 1) H7 ∧ μ2 (z3 + 1) (z4 + 1) H7 < μ2 z3 z4 H5)))) ∧ (¬ 11 ≤ v6 → (vp_in v6 6 ∧ (vp_in z3 200 ∧ (∀ H8 : HH, H8 = (hu H5 46 0 (z3.toNatClampNeg) (H5 47 0 (v6.toNatClampNeg))) → (I2 (z3 + 1) (z4 + 1) H8 ∧ μ2 (z3 + 1) (z4 + 1) H8 < μ2 z3 z4 H5))))))) ∧ (¬ 100000 ≤ v6 → ((11 ≤ v6 → ((¬ v6 = 13 → ((¬ v6 = 19 → (vp_in ((z3 + (-1)) - 1) 200 ∧ (vp_in (z3 + (-1)) 200 ∧ (c_Model_two E d v6 (H5 46 0 (((z3 + (-1)) - 1).toNatClampNeg)) (H5 46 0 ((z3 + (-1)).toNatClampNeg)) H5 (fun r10 H9 => vp_in ((z3 + (-1)) - 1) 200 ∧ (∀ H11 : HH, H11 = (hu H9 46 0 (((z3 + (-1)) - 1).toNatClampNeg) r10) → (I2 (z3 + (-1)) (z4 + 1) H11 ∧ μ2 (z3 + (-1)) (z4 + 1) H11 < μ2 z3 z4 H5))))))) ∧ (v6 = 19 → (vp_in (z3 - 1) 200 ∧ (vp_in (z3 - 1) 200 ∧ (∀ H12 : HH, H12 = (hu H5 46 0 ((z3 - 1).toNatClampNeg) (-(H5 46 0 ((z3 - 1).toNatClampNeg)))) → (I2 z3 (z4 + 1) H12 ∧ μ2 z3 (z4 + 1) H12 < μ2 z3 z4 H5))))))) ∧ (v6 = 13 → (vp_in (z3 - 1) 200 ∧ (vp_in (z3 - 1) 200 ∧ (∀ H14 : HH, H14 = (hu H5 46 0 ((z3 - 1).toNatClampNeg) (if (H5 46 0 ((z3 - 1).toNatClampNeg)) = 0 then 1 else 0 : Int32)) → (I2 z3 (z4 + 1) H14 ∧ μ2 z3 (z4 + 1) H14 < μ2 z3 z4 H5))))))) ∧ (¬ 11 ≤ v6 → ((11 ≤ v6 → (vp_in z3 200 ∧ (∀ H15 : HH, H15 = (hu H5 46 0 (z3.toNatClampNeg) (v6 - 100000)) → (I2 (z3 + 1) (z4 + 1) H15 ∧ μ2 (z3 + 1) (z4 + 1) H15 < μ2 z3 z4 H5)))) ∧ (¬ 11 ≤ v6 → (vp_in v6 6 ∧ (vp_in z3 200 ∧ (∀ H16 : HH, H16 = (hu H5 46 0 (z3.toNatClampNeg) (H5 47 0 (v6.toNatClampNeg))) → (I2 (z3 + 1) (z4 + 1) H16 ∧ μ2 (z3 + 1) (z4 + 1) H16 < μ2 z3 z4 H5)))))))))))))))))
set_option maxHeartbeats 4000000 in
theorem l_Model_says {E : XE} {d : Nat} {x1 : Int32} {H : HH} {Q : Int32 → HH → Prop} (h : p_Model_says E d x1 H Q) : c_Model_says E (d + 1) x1 H Q := by
  show g_Model_says E (d + 1) 0 (xent [vr 30 0, vi x1]) [] H (qi Q)
  refine g_drop (ls2 := [some (vr 30 0), some (vi x1), none, none, none]) (And.intro rfl (And.intro rfl trivial)) ?_
  refine g_iconst (n := 0) (v := 0) (by decide +kernel) (by decide) ?_
  refine g_istore_n (q := 2) (i := 2) (ls2 := [some (vr 30 0), some (vi x1), some (vi 0), none, none]) (by decide +kernel) rfl (by decide) rfl rfl ?_
  refine g_aload_n (q := 0) (i := 0) (by decide +kernel) rfl rfl ?_
  refine g_get (C := "ThreePointsModel") (T := xT_Model) (N := 39) (ci := 10) (k := 10) (v := vr 37 0) (by decide +kernel) (by decide) rfl rfl xi_Model (by decide) kw_1036 rfl ?_
  refine g_iconst (n := 4) (v := 4) (by decide +kernel) (by decide) ?_
  refine g_aload_n (q := 0) (i := 0) (by decide +kernel) rfl rfl ?_
  refine g_get (C := "ThreePointsModel") (T := xT_Model) (N := 39) (ci := 10) (k := 12) (v := vi (H 30 0 12)) (by decide +kernel) (by decide) rfl rfl xi_Model (by decide) kw_1038 rfl ?_
  refine g_imul (by decide +kernel) ?_
  refine g_iload_n (q := 1) (i := 1) (by decide +kernel) rfl rfl ?_
  refine g_iadd (by decide +kernel) ?_
  obtain ⟨hin, h⟩ := h
  refine g_iald (by decide +kernel) (by decide) rfl hin ?_
  refine g_topi (fun v1 ev1 => ?_)
  replace h := h v1 ev1
  refine g_istore_n (q := 3) (i := 3) (ls2 := [some (vr 30 0), some (vi x1), some (vi 0), some (vi v1), none]) (by decide +kernel) rfl (by decide) rfl rfl ?_
  refine g_drop (ls2 := [some (vr 30 0), some (vi x1), some (vi 0), some (vi v1), none]) (And.intro rfl (And.intro rfl (And.intro rfl (And.intro rfl trivial)))) ?_
  obtain ⟨I2, μ2, h0, h⟩ := h
  refine xloop (σ := Int32 × Int32) (fun s H => I2 s.1 s.2 H) (fun s H => μ2 s.1 s.2 H) (fun s H => g_Model_says E (d + 1) 16 [some (vr 30 0), some (vi x1), some (vi s.1), some (vi s.2), none] [] H (qi Q)) (fun s H5 hI ih2 => ?_) (0, v1) H h0
  obtain ⟨z3, z4⟩ := s
  replace h := h z3 z4 H5 hI
  refine g_iload_n (q := 3) (i := 3) (by decide +kernel) rfl rfl ?_
  refine g_aload_n (q := 0) (i := 0) (by decide +kernel) rfl rfl ?_
  refine g_get (C := "ThreePointsModel") (T := xT_Model) (N := 39) (ci := 10) (k := 10) (v := vr 37 0) (by decide +kernel) (by decide) rfl rfl xi_Model (by decide) kw_1036 rfl ?_
  refine g_iconst (n := 4) (v := 4) (by decide +kernel) (by decide) ?_
  refine g_aload_n (q := 0) (i := 0) (by decide +kernel) rfl rfl ?_
  refine g_get (C := "ThreePointsModel") (T := xT_Model) (N := 39) (ci := 10) (k := 12) (v := vi (H5 30 0 12)) (by decide +kernel) (by decide) rfl rfl xi_Model (by decide) kw_1038 rfl ?_
  refine g_imul (by decide +kernel) ?_
  refine g_iload_n (q := 1) (i := 1) (by decide +kernel) rfl rfl ?_
  refine g_iadd (by decide +kernel) ?_
  refine g_iconst (n := 1) (v := 1) (by decide +kernel) (by decide) ?_
  refine g_iadd (by decide +kernel) ?_
  obtain ⟨hin, h⟩ := h
  refine g_iald (by decide +kernel) (by decide) rfl hin ?_
  refine g_icmp_ge (off := 165) (tgt := 197) (by decide +kernel) (by decide) (fun c => ?_) (fun c => ?_)
  · replace h := h.1 c
    refine g_aload_n (q := 0) (i := 0) (by decide +kernel) rfl rfl ?_
    refine g_get (C := "ThreePointsModel") (T := xT_Model) (N := 39) (ci := 10) (k := 29) (v := vr 46 0) (by decide +kernel) (by decide) rfl rfl xi_Model (by decide) kw_1055 rfl ?_
    refine g_iconst (n := 0) (v := 0) (by decide +kernel) (by decide) ?_
    refine g_iald (by decide +kernel) (by decide) rfl (vp_lit (by decide)) ?_
    refine g_topE (y := (H5 46 0 0)) rfl ?_
    exact g_iret (by decide +kernel) rfl ⟨_, rfl, h⟩
  · replace h := h.2 c
    refine g_aload_n (q := 0) (i := 0) (by decide +kernel) rfl rfl ?_
    refine g_get (C := "ThreePointsModel") (T := xT_Model) (N := 39) (ci := 10) (k := 9) (v := vr 36 0) (by decide +kernel) (by decide) rfl rfl xi_Model (by decide) kw_1035 rfl ?_
    refine g_sipush (n := 200) (v := 200) (by decide +kernel) (by decide) ?_
    refine g_aload_n (q := 0) (i := 0) (by decide +kernel) rfl rfl ?_
    refine g_get (C := "ThreePointsModel") (T := xT_Model) (N := 39) (ci := 10) (k := 12) (v := vi (H5 30 0 12)) (by decide +kernel) (by decide) rfl rfl xi_Model (by decide) kw_1038 rfl ?_
    refine g_imul (by decide +kernel) ?_
    refine g_iload_n (q := 3) (i := 3) (by decide +kernel) rfl rfl ?_
    refine g_iadd (by decide +kernel) ?_
    obtain ⟨hin, h⟩ := h
    refine g_iald (by decide +kernel) (by decide) rfl hin ?_
    refine g_topi (fun v6 ev6 => ?_)
    replace h := h v6 ev6
    refine g_istore (i := 4) (ls2 := [some (vr 30 0), some (vi x1), some (vi z3), some (vi z4), some (vi v6)]) (by decide +kernel) (by decide) rfl rfl ?_
    refine g_iload (i := 4) (by decide +kernel) rfl ?_
    refine g_ldc (v := 100000) (by decide +kernel) kw_998 ?_
    refine g_icmp_ge (off := 10) (tgt := 66) (by decide +kernel) (by decide) (fun c => ?_) (fun c => ?_)
    · replace h := h.1 c
      refine g_aload_n (q := 0) (i := 0) (by decide +kernel) rfl rfl ?_
      refine g_get (C := "ThreePointsModel") (T := xT_Model) (N := 39) (ci := 10) (k := 29) (v := vr 46 0) (by decide +kernel) (by decide) rfl rfl xi_Model (by decide) kw_1055 rfl ?_
      refine g_iload_n (q := 2) (i := 2) (by decide +kernel) rfl rfl ?_
      refine g_iload (i := 4) (by decide +kernel) rfl ?_
      refine g_bipush (n := 11) (v := 11) (by decide +kernel) (by decide) ?_
      refine g_icmp_ge (off := 13) (tgt := 88) (by decide +kernel) (by decide) (fun c => ?_) (fun c => ?_)
      · replace h := h.1 c
        refine g_iload (i := 4) (by decide +kernel) rfl ?_
        refine g_ldc (v := 100000) (by decide +kernel) kw_998 ?_
        refine g_isub (by decide +kernel) ?_
        obtain ⟨hin, h⟩ := h
        refine g_iast (by decide +kernel) (by decide) rfl hin ?_
        refine g_iinc (i := 2) (n := 1) (v := (z3 + 1)) (ls2 := [some (vr 30 0), some (vi x1), some (vi (z3 + 1)), some (vi z4), some (vi v6)]) (by decide +kernel) rfl rfl (by decide) rfl rfl ?_
        refine g_goto (off := 94) (tgt := 191) (by decide +kernel) (by decide) ?_
        refine g_iinc (i := 3) (n := 1) (v := (z4 + 1)) (ls2 := [some (vr 30 0), some (vi x1), some (vi (z3 + 1)), some (vi (z4 + 1)), some (vi v6)]) (by decide +kernel) rfl rfl (by decide) rfl rfl ?_
        refine g_goto (off := (-178)) (tgt := 16) (by decide +kernel) (by decide) ?_
        refine g_heap (fun H7 eH7 => ?_)
        replace h := h H7 eH7
        obtain ⟨hI, hlt⟩ := h
        exact g_drop (ls2 := [some (vr 30 0), some (vi x1), some (vi (z3 + 1)), some (vi (z4 + 1)), none]) (And.intro rfl (And.intro rfl (And.intro rfl (And.intro rfl trivial)))) (ih2 ((z3 + 1), (z4 + 1)) H7 hI hlt)
      · replace h := h.2 c
        refine g_aload_n (q := 0) (i := 0) (by decide +kernel) rfl rfl ?_
        refine g_get (C := "ThreePointsModel") (T := xT_Model) (N := 39) (ci := 10) (k := 30) (v := vr 47 0) (by decide +kernel) (by decide) rfl rfl xi_Model (by decide) kw_1056 rfl ?_
        refine g_iload (i := 4) (by decide +kernel) rfl ?_
        obtain ⟨hin, h⟩ := h
        refine g_iald (by decide +kernel) (by decide) rfl hin ?_
        refine g_goto (off := 8) (tgt := 93) (by decide +kernel) (by decide) ?_
        obtain ⟨hin, h⟩ := h
        refine g_iast (by decide +kernel) (by decide) rfl hin ?_
        refine g_iinc (i := 2) (n := 1) (v := (z3 + 1)) (ls2 := [some (vr 30 0), some (vi x1), some (vi (z3 + 1)), some (vi z4), some (vi v6)]) (by decide +kernel) rfl rfl (by decide) rfl rfl ?_
        refine g_goto (off := 94) (tgt := 191) (by decide +kernel) (by decide) ?_
        refine g_iinc (i := 3) (n := 1) (v := (z4 + 1)) (ls2 := [some (vr 30 0), some (vi x1), some (vi (z3 + 1)), some (vi (z4 + 1)), some (vi v6)]) (by decide +kernel) rfl rfl (by decide) rfl rfl ?_
        refine g_goto (off := (-178)) (tgt := 16) (by decide +kernel) (by decide) ?_
        refine g_heap (fun H8 eH8 => ?_)
        replace h := h H8 eH8
        obtain ⟨hI, hlt⟩ := h
        exact g_drop (ls2 := [some (vr 30 0), some (vi x1), some (vi (z3 + 1)), some (vi (z4 + 1)), none]) (And.intro rfl (And.intro rfl (And.intro rfl (And.intro rfl trivial)))) (ih2 ((z3 + 1), (z4 + 1)) H8 hI hlt)
    · replace h := h.2 c
      refine g_iload (i := 4) (by decide +kernel) rfl ?_
      refine g_bipush (n := 11) (v := 11) (by decide +kernel) (by decide) ?_
      refine g_icmp_ge (off := 37) (tgt := 100) (by decide +kernel) (by decide) (fun c => ?_) (fun c => ?_)
      · replace h := h.1 c
        refine g_iload (i := 4) (by decide +kernel) rfl ?_
        refine g_bipush (n := 13) (v := 13) (by decide +kernel) (by decide) ?_
        refine g_icmp_ne (off := 30) (tgt := 134) (by decide +kernel) (by decide) (fun c => ?_) (fun c => ?_)
        · replace h := h.1 c
          refine g_iload (i := 4) (by decide +kernel) rfl ?_
          refine g_bipush (n := 19) (v := 19) (by decide +kernel) (by decide) ?_
          refine g_icmp_ne (off := 23) (tgt := 161) (by decide +kernel) (by decide) (fun c => ?_) (fun c => ?_)
          · replace h := h.1 c
            refine g_iinc (i := 2) (n := (-1)) (v := (z3 + (-1))) (ls2 := [some (vr 30 0), some (vi x1), some (vi (z3 + (-1))), some (vi z4), some (vi v6)]) (by decide +kernel) rfl rfl (by decide) rfl rfl ?_
            refine g_aload_n (q := 0) (i := 0) (by decide +kernel) rfl rfl ?_
            refine g_get (C := "ThreePointsModel") (T := xT_Model) (N := 39) (ci := 10) (k := 29) (v := vr 46 0) (by decide +kernel) (by decide) rfl rfl xi_Model (by decide) kw_1055 rfl ?_
            refine g_iload_n (q := 2) (i := 2) (by decide +kernel) rfl rfl ?_
            refine g_iconst (n := 1) (v := 1) (by decide +kernel) (by decide) ?_
            refine g_isub (by decide +kernel) ?_
            refine g_iload (i := 4) (by decide +kernel) rfl ?_
            refine g_aload_n (q := 0) (i := 0) (by decide +kernel) rfl rfl ?_
            refine g_get (C := "ThreePointsModel") (T := xT_Model) (N := 39) (ci := 10) (k := 29) (v := vr 46 0) (by decide +kernel) (by decide) rfl rfl xi_Model (by decide) kw_1055 rfl ?_
            refine g_iload_n (q := 2) (i := 2) (by decide +kernel) rfl rfl ?_
            refine g_iconst (n := 1) (v := 1) (by decide +kernel) (by decide) ?_
            refine g_isub (by decide +kernel) ?_
            obtain ⟨hin, h⟩ := h
            refine g_iald (by decide +kernel) (by decide) rfl hin ?_
            refine g_aload_n (q := 0) (i := 0) (by decide +kernel) rfl rfl ?_
            refine g_get (C := "ThreePointsModel") (T := xT_Model) (N := 39) (ci := 10) (k := 29) (v := vr 46 0) (by decide +kernel) (by decide) rfl rfl xi_Model (by decide) kw_1055 rfl ?_
            refine g_iload_n (q := 2) (i := 2) (by decide +kernel) rfl rfl ?_
            obtain ⟨hin, h⟩ := h
            refine g_iald (by decide +kernel) (by decide) rfl hin ?_
            refine g_callS (vs := [vi v6, vi (H5 46 0 (((z3 + (-1)) - 1).toNatClampNeg)), vi (H5 46 0 ((z3 + (-1)).toNatClampNeg))]) (st := [vi ((z3 + (-1)) - 1), vr 46 0]) (by decide +kernel) xm_Model_two kw_1180 kw_1181 rfl rfl (Nat.le_of_ble_eq_true rfl) (Nat.le_of_ble_eq_true rfl) h (fun vH9 H9 hq => ?_)
            obtain ⟨r10, rfl, h⟩ := hq
            obtain ⟨hin, h⟩ := h
            refine g_iast (by decide +kernel) (by decide) rfl hin ?_
            refine g_iinc (i := 3) (n := 1) (v := (z4 + 1)) (ls2 := [some (vr 30 0), some (vi x1), some (vi (z3 + (-1))), some (vi (z4 + 1)), some (vi v6)]) (by decide +kernel) rfl rfl (by decide) rfl rfl ?_
            refine g_goto (off := (-178)) (tgt := 16) (by decide +kernel) (by decide) ?_
            refine g_heap (fun H11 eH11 => ?_)
            replace h := h H11 eH11
            obtain ⟨hI, hlt⟩ := h
            exact g_drop (ls2 := [some (vr 30 0), some (vi x1), some (vi (z3 + (-1))), some (vi (z4 + 1)), none]) (And.intro rfl (And.intro rfl (And.intro rfl (And.intro rfl trivial)))) (ih2 ((z3 + (-1)), (z4 + 1)) H11 hI hlt)
          · replace h := h.2 c
            refine g_aload_n (q := 0) (i := 0) (by decide +kernel) rfl rfl ?_
            refine g_get (C := "ThreePointsModel") (T := xT_Model) (N := 39) (ci := 10) (k := 29) (v := vr 46 0) (by decide +kernel) (by decide) rfl rfl xi_Model (by decide) kw_1055 rfl ?_
            refine g_iload_n (q := 2) (i := 2) (by decide +kernel) rfl rfl ?_
            refine g_iconst (n := 1) (v := 1) (by decide +kernel) (by decide) ?_
            refine g_isub (by decide +kernel) ?_
            refine g_aload_n (q := 0) (i := 0) (by decide +kernel) rfl rfl ?_
            refine g_get (C := "ThreePointsModel") (T := xT_Model) (N := 39) (ci := 10) (k := 29) (v := vr 46 0) (by decide +kernel) (by decide) rfl rfl xi_Model (by decide) kw_1055 rfl ?_
            refine g_iload_n (q := 2) (i := 2) (by decide +kernel) rfl rfl ?_
            refine g_iconst (n := 1) (v := 1) (by decide +kernel) (by decide) ?_
            refine g_isub (by decide +kernel) ?_
            obtain ⟨hin, h⟩ := h
            refine g_iald (by decide +kernel) (by decide) rfl hin ?_
            refine g_ineg (by decide +kernel) ?_
            obtain ⟨hin, h⟩ := h
            refine g_iast (by decide +kernel) (by decide) rfl hin ?_
            refine g_goto (off := 33) (tgt := 191) (by decide +kernel) (by decide) ?_
            refine g_iinc (i := 3) (n := 1) (v := (z4 + 1)) (ls2 := [some (vr 30 0), some (vi x1), some (vi z3), some (vi (z4 + 1)), some (vi v6)]) (by decide +kernel) rfl rfl (by decide) rfl rfl ?_
            refine g_goto (off := (-178)) (tgt := 16) (by decide +kernel) (by decide) ?_
            refine g_heap (fun H12 eH12 => ?_)
            replace h := h H12 eH12
            obtain ⟨hI, hlt⟩ := h
            exact g_drop (ls2 := [some (vr 30 0), some (vi x1), some (vi z3), some (vi (z4 + 1)), none]) (And.intro rfl (And.intro rfl (And.intro rfl (And.intro rfl trivial)))) (ih2 (z3, (z4 + 1)) H12 hI hlt)
        · replace h := h.2 c
          refine g_aload_n (q := 0) (i := 0) (by decide +kernel) rfl rfl ?_
          refine g_get (C := "ThreePointsModel") (T := xT_Model) (N := 39) (ci := 10) (k := 29) (v := vr 46 0) (by decide +kernel) (by decide) rfl rfl xi_Model (by decide) kw_1055 rfl ?_
          refine g_iload_n (q := 2) (i := 2) (by decide +kernel) rfl rfl ?_
          refine g_iconst (n := 1) (v := 1) (by decide +kernel) (by decide) ?_
          refine g_isub (by decide +kernel) ?_
          refine g_aload_n (q := 0) (i := 0) (by decide +kernel) rfl rfl ?_
          refine g_get (C := "ThreePointsModel") (T := xT_Model) (N := 39) (ci := 10) (k := 29) (v := vr 46 0) (by decide +kernel) (by decide) rfl rfl xi_Model (by decide) kw_1055 rfl ?_
          refine g_iload_n (q := 2) (i := 2) (by decide +kernel) rfl rfl ?_
          refine g_iconst (n := 1) (v := 1) (by decide +kernel) (by decide) ?_
          refine g_isub (by decide +kernel) ?_
          obtain ⟨hin, h⟩ := h
          refine g_iald (by decide +kernel) (by decide) rfl hin ?_
          suffices hj13 : g_Model_says E (d + 1) 130 [some (vr 30 0), some (vi x1), some (vi z3), some (vi z4), some (vi v6)] [vi (if (H5 46 0 ((z3 - 1).toNatClampNeg)) = 0 then 1 else 0 : Int32), vi (z3 - 1), vr 46 0] H5 (qi Q) by
            refine g_if_ne (off := 7) (tgt := 129) (by decide +kernel) (by decide) (fun c => ?_) (fun c => ?_)
            · rw [if_neg c] at hj13
              refine g_iconst (n := 0) (v := 0) (by decide +kernel) (by decide) ?_
              exact hj13
            · rw [if_pos c] at hj13
              refine g_iconst (n := 1) (v := 1) (by decide +kernel) (by decide) ?_
              refine g_goto (off := 4) (tgt := 130) (by decide +kernel) (by decide) ?_
              exact hj13
          obtain ⟨hin, h⟩ := h
          refine g_iast (by decide +kernel) (by decide) rfl hin ?_
          refine g_goto (off := 60) (tgt := 191) (by decide +kernel) (by decide) ?_
          refine g_iinc (i := 3) (n := 1) (v := (z4 + 1)) (ls2 := [some (vr 30 0), some (vi x1), some (vi z3), some (vi (z4 + 1)), some (vi v6)]) (by decide +kernel) rfl rfl (by decide) rfl rfl ?_
          refine g_goto (off := (-178)) (tgt := 16) (by decide +kernel) (by decide) ?_
          refine g_heap (fun H14 eH14 => ?_)
          replace h := h H14 eH14
          obtain ⟨hI, hlt⟩ := h
          exact g_drop (ls2 := [some (vr 30 0), some (vi x1), some (vi z3), some (vi (z4 + 1)), none]) (And.intro rfl (And.intro rfl (And.intro rfl (And.intro rfl trivial)))) (ih2 (z3, (z4 + 1)) H14 hI hlt)
      · replace h := h.2 c
        refine g_aload_n (q := 0) (i := 0) (by decide +kernel) rfl rfl ?_
        refine g_get (C := "ThreePointsModel") (T := xT_Model) (N := 39) (ci := 10) (k := 29) (v := vr 46 0) (by decide +kernel) (by decide) rfl rfl xi_Model (by decide) kw_1055 rfl ?_
        refine g_iload_n (q := 2) (i := 2) (by decide +kernel) rfl rfl ?_
        refine g_iload (i := 4) (by decide +kernel) rfl ?_
        refine g_bipush (n := 11) (v := 11) (by decide +kernel) (by decide) ?_
        refine g_icmp_ge (off := 13) (tgt := 88) (by decide +kernel) (by decide) (fun c => ?_) (fun c => ?_)
        · replace h := h.1 c
          refine g_iload (i := 4) (by decide +kernel) rfl ?_
          refine g_ldc (v := 100000) (by decide +kernel) kw_998 ?_
          refine g_isub (by decide +kernel) ?_
          obtain ⟨hin, h⟩ := h
          refine g_iast (by decide +kernel) (by decide) rfl hin ?_
          refine g_iinc (i := 2) (n := 1) (v := (z3 + 1)) (ls2 := [some (vr 30 0), some (vi x1), some (vi (z3 + 1)), some (vi z4), some (vi v6)]) (by decide +kernel) rfl rfl (by decide) rfl rfl ?_
          refine g_goto (off := 94) (tgt := 191) (by decide +kernel) (by decide) ?_
          refine g_iinc (i := 3) (n := 1) (v := (z4 + 1)) (ls2 := [some (vr 30 0), some (vi x1), some (vi (z3 + 1)), some (vi (z4 + 1)), some (vi v6)]) (by decide +kernel) rfl rfl (by decide) rfl rfl ?_
          refine g_goto (off := (-178)) (tgt := 16) (by decide +kernel) (by decide) ?_
          refine g_heap (fun H15 eH15 => ?_)
          replace h := h H15 eH15
          obtain ⟨hI, hlt⟩ := h
          exact g_drop (ls2 := [some (vr 30 0), some (vi x1), some (vi (z3 + 1)), some (vi (z4 + 1)), none]) (And.intro rfl (And.intro rfl (And.intro rfl (And.intro rfl trivial)))) (ih2 ((z3 + 1), (z4 + 1)) H15 hI hlt)
        · replace h := h.2 c
          refine g_aload_n (q := 0) (i := 0) (by decide +kernel) rfl rfl ?_
          refine g_get (C := "ThreePointsModel") (T := xT_Model) (N := 39) (ci := 10) (k := 30) (v := vr 47 0) (by decide +kernel) (by decide) rfl rfl xi_Model (by decide) kw_1056 rfl ?_
          refine g_iload (i := 4) (by decide +kernel) rfl ?_
          obtain ⟨hin, h⟩ := h
          refine g_iald (by decide +kernel) (by decide) rfl hin ?_
          refine g_goto (off := 8) (tgt := 93) (by decide +kernel) (by decide) ?_
          obtain ⟨hin, h⟩ := h
          refine g_iast (by decide +kernel) (by decide) rfl hin ?_
          refine g_iinc (i := 2) (n := 1) (v := (z3 + 1)) (ls2 := [some (vr 30 0), some (vi x1), some (vi (z3 + 1)), some (vi z4), some (vi v6)]) (by decide +kernel) rfl rfl (by decide) rfl rfl ?_
          refine g_goto (off := 94) (tgt := 191) (by decide +kernel) (by decide) ?_
          refine g_iinc (i := 3) (n := 1) (v := (z4 + 1)) (ls2 := [some (vr 30 0), some (vi x1), some (vi (z3 + 1)), some (vi (z4 + 1)), some (vi v6)]) (by decide +kernel) rfl rfl (by decide) rfl rfl ?_
          refine g_goto (off := (-178)) (tgt := 16) (by decide +kernel) (by decide) ?_
          refine g_heap (fun H16 eH16 => ?_)
          replace h := h H16 eH16
          obtain ⟨hI, hlt⟩ := h
          exact g_drop (ls2 := [some (vr 30 0), some (vi x1), some (vi (z3 + 1)), some (vi (z4 + 1)), none]) (And.intro rfl (And.intro rfl (And.intro rfl (And.intro rfl trivial)))) (ih2 ((z3 + 1), (z4 + 1)) H16 hI hlt)
def p_Model_within (E : XE) (d : Nat) (x0 : Int32) (x1 : Int32) (x2 : Int32) (H : HH) (Q : Int32 → HH → Prop) : Prop := Q (if x1 ≤ x0 then (if x0 ≤ x2 then x0 else x2 : Int32) else x1 : Int32) H
set_option maxHeartbeats 4000000 in
theorem l_Model_within {E : XE} {d : Nat} {x0 : Int32} {x1 : Int32} {x2 : Int32} {H : HH} {Q : Int32 → HH → Prop} (h : p_Model_within E d x0 x1 x2 H Q) : c_Model_within E d x0 x1 x2 H Q := by
  show g_Model_within E d 0 (xent [vi x0, vi x1, vi x2]) [] H (qi Q)
  refine g_drop (ls2 := [some (vi x0), some (vi x1), some (vi x2)]) (And.intro rfl (And.intro rfl (And.intro rfl trivial))) ?_
  refine g_iload_n (q := 0) (i := 0) (by decide +kernel) rfl rfl ?_
  refine g_iload_n (q := 1) (i := 1) (by decide +kernel) rfl rfl ?_
  suffices hj2 : g_Model_within E d 19 [some (vi x0), some (vi x1), some (vi x2)] [vi (if x1 ≤ x0 then (if x0 ≤ x2 then x0 else x2 : Int32) else x1 : Int32)] H (qi Q) by
    refine g_icmp_ge (off := 7) (tgt := 9) (by decide +kernel) (by decide) (fun c => ?_) (fun c => ?_)
    · rw [if_pos c] at hj2
      refine g_iload_n (q := 0) (i := 0) (by decide +kernel) rfl rfl ?_
      refine g_iload_n (q := 2) (i := 2) (by decide +kernel) rfl rfl ?_
      suffices hj1 : g_Model_within E d 19 [some (vi x0), some (vi x1), some (vi x2)] [vi (if x0 ≤ x2 then x0 else x2 : Int32)] H (qi Q) by
        refine g_icmp_le (off := 7) (tgt := 18) (by decide +kernel) (by decide) (fun c => ?_) (fun c => ?_)
        · rw [if_pos c] at hj1
          refine g_iload_n (q := 0) (i := 0) (by decide +kernel) rfl rfl ?_
          exact hj1
        · rw [if_neg c] at hj1
          refine g_iload_n (q := 2) (i := 2) (by decide +kernel) rfl rfl ?_
          refine g_goto (off := 4) (tgt := 19) (by decide +kernel) (by decide) ?_
          exact hj1
      exact hj2
    · rw [if_neg c] at hj2
      refine g_iload_n (q := 1) (i := 1) (by decide +kernel) rfl rfl ?_
      refine g_goto (off := 13) (tgt := 19) (by decide +kernel) (by decide) ?_
      exact hj2
  exact g_iret (by decide +kernel) rfl ⟨_, rfl, h⟩
def p_Model_asksOf (E : XE) (d : Nat) (x1 : Int32) (x2 : Int32) (x3 : Int32) (x4 : Int32) (x5 : Int32) (x6 : Int32) (H : HH) (Q : Int32 → HH → Prop) : Prop := vp_in x2 4 ∧ (∀ H1 : HH, H1 = (hu (hu (hu (hu H 47 0 0 (H 33 0 (x2.toNatClampNeg))) 47 0 1 x5) 47 0 2 x4) 47 0 3 x3) → (∀ H2 : HH, H2 = (hu (hu H1 47 0 4 (H1 30 0 1)) 47 0 5 x6) → (c_Model_says E d x1 H2 (fun r4 H3 => c_Model_within E d r4 0 (if x1 = 0 then 9 else (if x1 = 1 then 99 else 100 : Int32) : Int32) H3 (fun r8 H7 => Q r8 H7)))))
set_option maxHeartbeats 4000000 in
theorem l_Model_asksOf {E : XE} {d : Nat} {x1 : Int32} {x2 : Int32} {x3 : Int32} {x4 : Int32} {x5 : Int32} {x6 : Int32} {H : HH} {Q : Int32 → HH → Prop} (h : p_Model_asksOf E d x1 x2 x3 x4 x5 x6 H Q) : c_Model_asksOf E (d + 1) x1 x2 x3 x4 x5 x6 H Q := by
  show g_Model_asksOf E (d + 1) 0 (xent [vr 30 0, vi x1, vi x2, vi x3, vi x4, vi x5, vi x6]) [] H (qi Q)
  refine g_drop (ls2 := [some (vr 30 0), some (vi x1), some (vi x2), some (vi x3), some (vi x4), some (vi x5), some (vi x6)]) (And.intro rfl (And.intro rfl (And.intro rfl (And.intro rfl (And.intro rfl (And.intro rfl (And.intro rfl trivial))))))) ?_
  refine g_aload_n (q := 0) (i := 0) (by decide +kernel) rfl rfl ?_
  refine g_get (C := "ThreePointsModel") (T := xT_Model) (N := 39) (ci := 10) (k := 30) (v := vr 47 0) (by decide +kernel) (by decide) rfl rfl xi_Model (by decide) kw_1056 rfl ?_
  refine g_iconst (n := 0) (v := 0) (by decide +kernel) (by decide) ?_
  refine g_aload_n (q := 0) (i := 0) (by decide +kernel) rfl rfl ?_
  refine g_get (C := "ThreePointsModel") (T := xT_Model) (N := 39) (ci := 10) (k := 5) (v := vr 33 0) (by decide +kernel) (by decide) rfl rfl xi_Model (by decide) kw_1031 rfl ?_
  refine g_iload_n (q := 2) (i := 2) (by decide +kernel) rfl rfl ?_
  obtain ⟨hin, h⟩ := h
  refine g_iald (by decide +kernel) (by decide) rfl hin ?_
  refine g_iast (by decide +kernel) (by decide) rfl (vp_lit (by decide)) ?_
  refine g_heapE (H1 := (hu H 47 0 0 (H 33 0 (x2.toNatClampNeg)))) rfl ?_
  refine g_aload_n (q := 0) (i := 0) (by decide +kernel) rfl rfl ?_
  refine g_get (C := "ThreePointsModel") (T := xT_Model) (N := 39) (ci := 10) (k := 30) (v := vr 47 0) (by decide +kernel) (by decide) rfl rfl xi_Model (by decide) kw_1056 rfl ?_
  refine g_iconst (n := 1) (v := 1) (by decide +kernel) (by decide) ?_
  refine g_iload (i := 5) (by decide +kernel) rfl ?_
  refine g_iast (by decide +kernel) (by decide) rfl (vp_lit (by decide)) ?_
  refine g_heapE (H1 := (hu (hu H 47 0 0 (H 33 0 (x2.toNatClampNeg))) 47 0 1 x5)) rfl ?_
  refine g_aload_n (q := 0) (i := 0) (by decide +kernel) rfl rfl ?_
  refine g_get (C := "ThreePointsModel") (T := xT_Model) (N := 39) (ci := 10) (k := 30) (v := vr 47 0) (by decide +kernel) (by decide) rfl rfl xi_Model (by decide) kw_1056 rfl ?_
  refine g_iconst (n := 2) (v := 2) (by decide +kernel) (by decide) ?_
  refine g_iload (i := 4) (by decide +kernel) rfl ?_
  refine g_iast (by decide +kernel) (by decide) rfl (vp_lit (by decide)) ?_
  refine g_heapE (H1 := (hu (hu (hu H 47 0 0 (H 33 0 (x2.toNatClampNeg))) 47 0 1 x5) 47 0 2 x4)) rfl ?_
  refine g_aload_n (q := 0) (i := 0) (by decide +kernel) rfl rfl ?_
  refine g_get (C := "ThreePointsModel") (T := xT_Model) (N := 39) (ci := 10) (k := 30) (v := vr 47 0) (by decide +kernel) (by decide) rfl rfl xi_Model (by decide) kw_1056 rfl ?_
  refine g_iconst (n := 3) (v := 3) (by decide +kernel) (by decide) ?_
  refine g_iload_n (q := 3) (i := 3) (by decide +kernel) rfl rfl ?_
  refine g_iast (by decide +kernel) (by decide) rfl (vp_lit (by decide)) ?_
  refine g_heapE (H1 := (hu (hu (hu (hu H 47 0 0 (H 33 0 (x2.toNatClampNeg))) 47 0 1 x5) 47 0 2 x4) 47 0 3 x3)) rfl ?_
  refine g_aload_n (q := 0) (i := 0) (by decide +kernel) rfl rfl ?_
  refine g_get (C := "ThreePointsModel") (T := xT_Model) (N := 39) (ci := 10) (k := 30) (v := vr 47 0) (by decide +kernel) (by decide) rfl rfl xi_Model (by decide) kw_1056 rfl ?_
  refine g_iconst (n := 4) (v := 4) (by decide +kernel) (by decide) ?_
  refine g_aload_n (q := 0) (i := 0) (by decide +kernel) rfl rfl ?_
  refine g_heap (fun H1 eH1 => ?_)
  replace h := h H1 eH1
  refine g_get (C := "ThreePointsModel") (T := xT_Model) (N := 39) (ci := 10) (k := 1) (v := vi (H1 30 0 1)) (by decide +kernel) (by decide) rfl rfl xi_Model (by decide) kw_1027 rfl ?_
  refine g_iast (by decide +kernel) (by decide) rfl (vp_lit (by decide)) ?_
  refine g_heapE (H1 := (hu H1 47 0 4 (H1 30 0 1))) rfl ?_
  refine g_aload_n (q := 0) (i := 0) (by decide +kernel) rfl rfl ?_
  refine g_get (C := "ThreePointsModel") (T := xT_Model) (N := 39) (ci := 10) (k := 30) (v := vr 47 0) (by decide +kernel) (by decide) rfl rfl xi_Model (by decide) kw_1056 rfl ?_
  refine g_iconst (n := 5) (v := 5) (by decide +kernel) (by decide) ?_
  refine g_iload (i := 6) (by decide +kernel) rfl ?_
  refine g_iast (by decide +kernel) (by decide) rfl (vp_lit (by decide)) ?_
  refine g_heapE (H1 := (hu (hu H1 47 0 4 (H1 30 0 1)) 47 0 5 x6)) rfl ?_
  refine g_aload_n (q := 0) (i := 0) (by decide +kernel) rfl rfl ?_
  refine g_iload_n (q := 1) (i := 1) (by decide +kernel) rfl rfl ?_
  refine g_heap (fun H2 eH2 => ?_)
  replace h := h H2 eH2
  refine g_callV (kd := 30) (ix := 0) (ci := 10) (N := 39) (T := xT_Model) (vs := [vi x1]) (st := []) (by decide +kernel) xm_Model_says kw_1176 kw_1178 kw_42 (by decide) rfl rfl rfl rfl (Nat.le_of_ble_eq_true rfl) (Nat.le_of_ble_eq_true rfl) h (fun vH3 H3 hq => ?_)
  obtain ⟨r4, rfl, h⟩ := hq
  refine g_iconst (n := 0) (v := 0) (by decide +kernel) (by decide) ?_
  refine g_iload_n (q := 1) (i := 1) (by decide +kernel) rfl rfl ?_
  suffices hj6 : g_Model_asksOf E (d + 1) 80 [some (vr 30 0), some (vi x1), some (vi x2), some (vi x3), some (vi x4), some (vi x5), some (vi x6)] [vi (if x1 = 0 then 9 else (if x1 = 1 then 99 else 100 : Int32) : Int32), vi 0, vi r4] H3 (qi Q) by
    refine g_if_ne (off := 8) (tgt := 68) (by decide +kernel) (by decide) (fun c => ?_) (fun c => ?_)
    · rw [if_neg c] at hj6
      refine g_iload_n (q := 1) (i := 1) (by decide +kernel) rfl rfl ?_
      refine g_iconst (n := 1) (v := 1) (by decide +kernel) (by decide) ?_
      suffices hj5 : g_Model_asksOf E (d + 1) 80 [some (vr 30 0), some (vi x1), some (vi x2), some (vi x3), some (vi x4), some (vi x5), some (vi x6)] [vi (if x1 = 1 then 99 else 100 : Int32), vi 0, vi r4] H3 (qi Q) by
        refine g_icmp_ne (off := 8) (tgt := 78) (by decide +kernel) (by decide) (fun c => ?_) (fun c => ?_)
        · rw [if_neg c] at hj5
          refine g_bipush (n := 100) (v := 100) (by decide +kernel) (by decide) ?_
          exact hj5
        · rw [if_pos c] at hj5
          refine g_bipush (n := 99) (v := 99) (by decide +kernel) (by decide) ?_
          refine g_goto (off := 5) (tgt := 80) (by decide +kernel) (by decide) ?_
          exact hj5
      exact hj6
    · rw [if_pos c] at hj6
      refine g_bipush (n := 9) (v := 9) (by decide +kernel) (by decide) ?_
      refine g_goto (off := 15) (tgt := 80) (by decide +kernel) (by decide) ?_
      exact hj6
  refine g_callS (vs := [vi r4, vi 0, vi (if x1 = 0 then 9 else (if x1 = 1 then 99 else 100 : Int32) : Int32)]) (st := []) (by decide +kernel) xm_Model_within kw_1183 kw_1184 rfl rfl (Nat.le_of_ble_eq_true rfl) (Nat.le_of_ble_eq_true rfl) h (fun vH7 H7 hq => ?_)
  obtain ⟨r8, rfl, h⟩ := hq
  exact g_iret (by decide +kernel) rfl ⟨_, rfl, h⟩
def p_Model_fitsAt (E : XE) (d : Nat) (x1 : Int32) (x2 : Int32) (x3 : Int32) (H : HH) (Q : Int32 → HH → Prop) : Prop := vp_in x3 16 ∧ (c_Model_frontOf E d x1 H (fun r2 H1 => ∀ v3 : Int32, v3 = (x2 + (((H 31 0 (x3.toNatClampNeg)) * r2) / 8)) → (vp_in x3 16 ∧ (c_Model_backOf E d x1 H1 (fun r5 H4 => ∀ v6 : Int32, v6 = (x2 - (((H1 31 0 (x3.toNatClampNeg)) * r5) / 8)) → (∀ v8 : Int32, v8 = (if v6 ≤ v3 then v6 else v3 : Int32) → (∀ v10 : Int32, v10 = (if v6 ≤ v3 then v3 else v6 : Int32) → (∀ v12 : Int32, v12 = (if v8 ≤ x2 then v8 else x2 : Int32) → (∀ v14 : Int32, v14 = (if x2 ≤ v10 then v10 else x2 : Int32) → (c_Model_in E d (xrem x3 8) 3 5 H4 (fun r16 H15 => ∀ v18 : Int32, v18 = (if r16 = 0 then 0 else (H15 30 0 2) : Int32) → (c_Model_asksOf E d 0 x1 x2 x3 0 0 H15 (fun r20 H19 => (v12 < r20 → (Q 0 H19)) ∧ (¬ v12 < r20 → (c_Model_asksOf E d 0 x1 x2 x3 1 0 H19 (fun r22 H21 => ((if (((H19 30 0 1) + v18) - r22) < v14 then 0 else 1 : Int32) = 0 ∨ (if (((H19 30 0 1) + v18) - r22) < v14 then 0 else 1 : Int32) = 1) ∧ Q (if (((H19 30 0 1) + v18) - r22) < v14 then 0 else 1 : Int32) H21))))))))))))))))
set_option maxHeartbeats 4000000 in
theorem l_Model_fitsAt {E : XE} {d : Nat} {x1 : Int32} {x2 : Int32} {x3 : Int32} {H : HH} {Q : Int32 → HH → Prop} (h : p_Model_fitsAt E d x1 x2 x3 H Q) : c_Model_fitsAt E (d + 1) x1 x2 x3 H Q := by
  show g_Model_fitsAt E (d + 1) 0 (xent [vr 30 0, vi x1, vi x2, vi x3]) [] H (qi Q)
  refine g_drop (ls2 := [some (vr 30 0), some (vi x1), some (vi x2), some (vi x3), none, none, none, none, none]) (And.intro rfl (And.intro rfl (And.intro rfl (And.intro rfl trivial)))) ?_
  refine g_iload_n (q := 2) (i := 2) (by decide +kernel) rfl rfl ?_
  refine g_aload_n (q := 0) (i := 0) (by decide +kernel) rfl rfl ?_
  refine g_get (C := "ThreePointsModel") (T := xT_Model) (N := 39) (ci := 10) (k := 0) (v := vr 31 0) (by decide +kernel) (by decide) rfl rfl xi_Model (by decide) kw_1026 rfl ?_
  refine g_iload_n (q := 3) (i := 3) (by decide +kernel) rfl rfl ?_
  obtain ⟨hin, h⟩ := h
  refine g_iald (by decide +kernel) (by decide) rfl hin ?_
  refine g_aload_n (q := 0) (i := 0) (by decide +kernel) rfl rfl ?_
  refine g_iload_n (q := 1) (i := 1) (by decide +kernel) rfl rfl ?_
  refine g_callV (kd := 30) (ix := 0) (ci := 10) (N := 39) (T := xT_Model) (vs := [vi x1]) (st := [vi (H 31 0 (x3.toNatClampNeg)), vi x2]) (by decide +kernel) xm_Model_frontOf kw_1164 kw_1166 kw_39 (by decide) rfl rfl rfl rfl (Nat.le_of_ble_eq_true rfl) (Nat.le_of_ble_eq_true rfl) h (fun vH1 H1 hq => ?_)
  obtain ⟨r2, rfl, h⟩ := hq
  refine g_imul (by decide +kernel) ?_
  refine g_bipush (n := 8) (v := 8) (by decide +kernel) (by decide) ?_
  refine g_idiv (by decide +kernel) (by decide) ?_
  refine g_iadd (by decide +kernel) ?_
  refine g_topi (fun v3 ev3 => ?_)
  replace h := h v3 ev3
  refine g_istore (i := 4) (ls2 := [some (vr 30 0), some (vi x1), some (vi x2), some (vi x3), some (vi v3), none, none, none, none]) (by decide +kernel) (by decide) rfl rfl ?_
  refine g_iload_n (q := 2) (i := 2) (by decide +kernel) rfl rfl ?_
  refine g_aload_n (q := 0) (i := 0) (by decide +kernel) rfl rfl ?_
  refine g_get (C := "ThreePointsModel") (T := xT_Model) (N := 39) (ci := 10) (k := 0) (v := vr 31 0) (by decide +kernel) (by decide) rfl rfl xi_Model (by decide) kw_1026 rfl ?_
  refine g_iload_n (q := 3) (i := 3) (by decide +kernel) rfl rfl ?_
  obtain ⟨hin, h⟩ := h
  refine g_iald (by decide +kernel) (by decide) rfl hin ?_
  refine g_aload_n (q := 0) (i := 0) (by decide +kernel) rfl rfl ?_
  refine g_iload_n (q := 1) (i := 1) (by decide +kernel) rfl rfl ?_
  refine g_callV (kd := 30) (ix := 0) (ci := 10) (N := 39) (T := xT_Model) (vs := [vi x1]) (st := [vi (H1 31 0 (x3.toNatClampNeg)), vi x2]) (by decide +kernel) xm_Model_backOf kw_1168 kw_1170 kw_40 (by decide) rfl rfl rfl rfl (Nat.le_of_ble_eq_true rfl) (Nat.le_of_ble_eq_true rfl) h (fun vH4 H4 hq => ?_)
  obtain ⟨r5, rfl, h⟩ := hq
  refine g_imul (by decide +kernel) ?_
  refine g_bipush (n := 8) (v := 8) (by decide +kernel) (by decide) ?_
  refine g_idiv (by decide +kernel) (by decide) ?_
  refine g_isub (by decide +kernel) ?_
  refine g_topi (fun v6 ev6 => ?_)
  replace h := h v6 ev6
  refine g_istore (i := 5) (ls2 := [some (vr 30 0), some (vi x1), some (vi x2), some (vi x3), some (vi v3), some (vi v6), none, none, none]) (by decide +kernel) (by decide) rfl rfl ?_
  refine g_iload (i := 4) (by decide +kernel) rfl ?_
  refine g_iload (i := 5) (by decide +kernel) rfl ?_
  suffices hj7 : g_Model_fitsAt E (d + 1) 52 [some (vr 30 0), some (vi x1), some (vi x2), some (vi x3), some (vi v3), some (vi v6), none, none, none] [vi (if v6 ≤ v3 then v6 else v3 : Int32)] H4 (qi Q) by
    refine g_icmp_ge (off := 8) (tgt := 50) (by decide +kernel) (by decide) (fun c => ?_) (fun c => ?_)
    · rw [if_pos c] at hj7
      refine g_iload (i := 5) (by decide +kernel) rfl ?_
      exact hj7
    · rw [if_neg c] at hj7
      refine g_iload (i := 4) (by decide +kernel) rfl ?_
      refine g_goto (off := 5) (tgt := 52) (by decide +kernel) (by decide) ?_
      exact hj7
  refine g_topi (fun v8 ev8 => ?_)
  replace h := h v8 ev8
  refine g_istore (i := 6) (ls2 := [some (vr 30 0), some (vi x1), some (vi x2), some (vi x3), some (vi v3), some (vi v6), some (vi v8), none, none]) (by decide +kernel) (by decide) rfl rfl ?_
  refine g_iload (i := 4) (by decide +kernel) rfl ?_
  refine g_iload (i := 5) (by decide +kernel) rfl ?_
  suffices hj9 : g_Model_fitsAt E (d + 1) 68 [some (vr 30 0), some (vi x1), some (vi x2), some (vi x3), some (vi v3), some (vi v6), some (vi v8), none, none] [vi (if v6 ≤ v3 then v3 else v6 : Int32)] H4 (qi Q) by
    refine g_icmp_ge (off := 8) (tgt := 66) (by decide +kernel) (by decide) (fun c => ?_) (fun c => ?_)
    · rw [if_pos c] at hj9
      refine g_iload (i := 4) (by decide +kernel) rfl ?_
      exact hj9
    · rw [if_neg c] at hj9
      refine g_iload (i := 5) (by decide +kernel) rfl ?_
      refine g_goto (off := 5) (tgt := 68) (by decide +kernel) (by decide) ?_
      exact hj9
  refine g_topi (fun v10 ev10 => ?_)
  replace h := h v10 ev10
  refine g_istore (i := 7) (ls2 := [some (vr 30 0), some (vi x1), some (vi x2), some (vi x3), some (vi v3), some (vi v6), some (vi v8), some (vi v10), none]) (by decide +kernel) (by decide) rfl rfl ?_
  refine g_iload_n (q := 2) (i := 2) (by decide +kernel) rfl rfl ?_
  refine g_iload (i := 6) (by decide +kernel) rfl ?_
  suffices hj11 : g_Model_fitsAt E (d + 1) 82 [some (vr 30 0), some (vi x1), some (vi x2), some (vi x3), some (vi v3), some (vi v6), some (vi v8), some (vi v10), none] [vi (if v8 ≤ x2 then v8 else x2 : Int32)] H4 (qi Q) by
    refine g_icmp_ge (off := 7) (tgt := 80) (by decide +kernel) (by decide) (fun c => ?_) (fun c => ?_)
    · rw [if_pos c] at hj11
      refine g_iload (i := 6) (by decide +kernel) rfl ?_
      exact hj11
    · rw [if_neg c] at hj11
      refine g_iload_n (q := 2) (i := 2) (by decide +kernel) rfl rfl ?_
      refine g_goto (off := 5) (tgt := 82) (by decide +kernel) (by decide) ?_
      exact hj11
  refine g_topi (fun v12 ev12 => ?_)
  replace h := h v12 ev12
  refine g_istore (i := 6) (ls2 := [some (vr 30 0), some (vi x1), some (vi x2), some (vi x3), some (vi v3), some (vi v6), some (vi v12), some (vi v10), none]) (by decide +kernel) (by decide) rfl rfl ?_
  refine g_iload_n (q := 2) (i := 2) (by decide +kernel) rfl rfl ?_
  refine g_iload (i := 7) (by decide +kernel) rfl ?_
  suffices hj13 : g_Model_fitsAt E (d + 1) 96 [some (vr 30 0), some (vi x1), some (vi x2), some (vi x3), some (vi v3), some (vi v6), some (vi v12), some (vi v10), none] [vi (if x2 ≤ v10 then v10 else x2 : Int32)] H4 (qi Q) by
    refine g_icmp_le (off := 7) (tgt := 94) (by decide +kernel) (by decide) (fun c => ?_) (fun c => ?_)
    · rw [if_pos c] at hj13
      refine g_iload (i := 7) (by decide +kernel) rfl ?_
      exact hj13
    · rw [if_neg c] at hj13
      refine g_iload_n (q := 2) (i := 2) (by decide +kernel) rfl rfl ?_
      refine g_goto (off := 5) (tgt := 96) (by decide +kernel) (by decide) ?_
      exact hj13
  refine g_topi (fun v14 ev14 => ?_)
  replace h := h v14 ev14
  refine g_istore (i := 7) (ls2 := [some (vr 30 0), some (vi x1), some (vi x2), some (vi x3), some (vi v3), some (vi v6), some (vi v12), some (vi v14), none]) (by decide +kernel) (by decide) rfl rfl ?_
  refine g_iload_n (q := 3) (i := 3) (by decide +kernel) rfl rfl ?_
  refine g_bipush (n := 8) (v := 8) (by decide +kernel) (by decide) ?_
  refine g_irem (by decide +kernel) (by decide) ?_
  refine g_iconst (n := 3) (v := 3) (by decide +kernel) (by decide) ?_
  refine g_iconst (n := 5) (v := 5) (by decide +kernel) (by decide) ?_
  refine g_callS (vs := [vi (xrem x3 8), vi 3, vi 5]) (st := []) (by decide +kernel) xm_Model_in kw_987 kw_988 rfl rfl (Nat.le_of_ble_eq_true rfl) (Nat.le_of_ble_eq_true rfl) h (fun vH15 H15 hq => ?_)
  obtain ⟨r16, rfl, h⟩ := hq
  suffices hj17 : g_Model_fitsAt E (d + 1) 118 [some (vr 30 0), some (vi x1), some (vi x2), some (vi x3), some (vi v3), some (vi v6), some (vi v12), some (vi v14), none] [vi (if r16 = 0 then 0 else (H15 30 0 2) : Int32)] H15 (qi Q) by
    refine g_if_eq (off := 10) (tgt := 117) (by decide +kernel) (by decide) (fun c => ?_) (fun c => ?_)
    · rw [if_pos c] at hj17
      refine g_iconst (n := 0) (v := 0) (by decide +kernel) (by decide) ?_
      exact hj17
    · rw [if_neg c] at hj17
      refine g_aload_n (q := 0) (i := 0) (by decide +kernel) rfl rfl ?_
      refine g_get (C := "ThreePointsModel") (T := xT_Model) (N := 39) (ci := 10) (k := 2) (v := vi (H15 30 0 2)) (by decide +kernel) (by decide) rfl rfl xi_Model (by decide) kw_1028 rfl ?_
      refine g_goto (off := 4) (tgt := 118) (by decide +kernel) (by decide) ?_
      exact hj17
  refine g_topi (fun v18 ev18 => ?_)
  replace h := h v18 ev18
  refine g_istore (i := 8) (ls2 := [some (vr 30 0), some (vi x1), some (vi x2), some (vi x3), some (vi v3), some (vi v6), some (vi v12), some (vi v14), some (vi v18)]) (by decide +kernel) (by decide) rfl rfl ?_
  refine g_iload (i := 6) (by decide +kernel) rfl ?_
  refine g_aload_n (q := 0) (i := 0) (by decide +kernel) rfl rfl ?_
  refine g_iconst (n := 0) (v := 0) (by decide +kernel) (by decide) ?_
  refine g_iload_n (q := 1) (i := 1) (by decide +kernel) rfl rfl ?_
  refine g_iload_n (q := 2) (i := 2) (by decide +kernel) rfl rfl ?_
  refine g_iload_n (q := 3) (i := 3) (by decide +kernel) rfl rfl ?_
  refine g_iconst (n := 0) (v := 0) (by decide +kernel) (by decide) ?_
  refine g_iconst (n := 0) (v := 0) (by decide +kernel) (by decide) ?_
  refine g_callV (kd := 30) (ix := 0) (ci := 10) (N := 39) (T := xT_Model) (vs := [vi 0, vi x1, vi x2, vi x3, vi 0, vi 0]) (st := [vi v12]) (by decide +kernel) xm_Model_asksOf kw_1172 kw_1174 kw_41 (by decide) rfl rfl rfl rfl (Nat.le_of_ble_eq_true rfl) (Nat.le_of_ble_eq_true rfl) h (fun vH19 H19 hq => ?_)
  obtain ⟨r20, rfl, h⟩ := hq
  refine g_icmp_lt (off := 30) (tgt := 162) (by decide +kernel) (by decide) (fun c => ?_) (fun c => ?_)
  · replace h := h.1 c
    refine g_iconst (n := 0) (v := 0) (by decide +kernel) (by decide) ?_
    exact g_zret (by decide +kernel) rfl rfl ⟨_, rfl, h⟩
  · replace h := h.2 c
    refine g_iload (i := 7) (by decide +kernel) rfl ?_
    refine g_aload_n (q := 0) (i := 0) (by decide +kernel) rfl rfl ?_
    refine g_get (C := "ThreePointsModel") (T := xT_Model) (N := 39) (ci := 10) (k := 1) (v := vi (H19 30 0 1)) (by decide +kernel) (by decide) rfl rfl xi_Model (by decide) kw_1027 rfl ?_
    refine g_iload (i := 8) (by decide +kernel) rfl ?_
    refine g_iadd (by decide +kernel) ?_
    refine g_aload_n (q := 0) (i := 0) (by decide +kernel) rfl rfl ?_
    refine g_iconst (n := 0) (v := 0) (by decide +kernel) (by decide) ?_
    refine g_iload_n (q := 1) (i := 1) (by decide +kernel) rfl rfl ?_
    refine g_iload_n (q := 2) (i := 2) (by decide +kernel) rfl rfl ?_
    refine g_iload_n (q := 3) (i := 3) (by decide +kernel) rfl rfl ?_
    refine g_iconst (n := 1) (v := 1) (by decide +kernel) (by decide) ?_
    refine g_iconst (n := 0) (v := 0) (by decide +kernel) (by decide) ?_
    refine g_callV (kd := 30) (ix := 0) (ci := 10) (N := 39) (T := xT_Model) (vs := [vi 0, vi x1, vi x2, vi x3, vi 1, vi 0]) (st := [vi ((H19 30 0 1) + v18), vi v14]) (by decide +kernel) xm_Model_asksOf kw_1172 kw_1174 kw_41 (by decide) rfl rfl rfl rfl (Nat.le_of_ble_eq_true rfl) (Nat.le_of_ble_eq_true rfl) h (fun vH21 H21 hq => ?_)
    obtain ⟨r22, rfl, h⟩ := hq
    refine g_isub (by decide +kernel) ?_
    suffices hj23 : g_Model_fitsAt E (d + 1) 163 [some (vr 30 0), some (vi x1), some (vi x2), some (vi x3), some (vi v3), some (vi v6), some (vi v12), some (vi v14), some (vi v18)] [vi (if (((H19 30 0 1) + v18) - r22) < v14 then 0 else 1 : Int32)] H21 (qi Q) by
      refine g_icmp_gt (off := 7) (tgt := 162) (by decide +kernel) (by decide) (fun c => ?_) (fun c => ?_)
      · rw [if_pos c] at hj23
        refine g_iconst (n := 0) (v := 0) (by decide +kernel) (by decide) ?_
        exact hj23
      · rw [if_neg c] at hj23
        refine g_iconst (n := 1) (v := 1) (by decide +kernel) (by decide) ?_
        refine g_goto (off := 4) (tgt := 163) (by decide +kernel) (by decide) ?_
        exact hj23
    obtain ⟨h01, h⟩ := h
    exact g_zret (by decide +kernel) rfl (nbool h01) ⟨_, rfl, h⟩
def p_Model_doAllFit (E : XE) (d : Nat)  (H : HH) (Q : Int32 → HH → Prop) : Prop := ∃ (I1 : Int32 → Int32 → HH → Prop) (μ1 : Int32 → Int32 → HH → Nat), I1 1 0 H ∧ ∀ (z2 : Int32) (z3 : Int32) (H4 : HH), I1 z2 z3 H4 → (((H4 30 0 3) ≤ z3 → ((z2 = 0 ∨ z2 = 1) ∧ Q z2 H4)) ∧ (¬ (H4 30 0 3) ≤ z3 → (vp_in (5 * z3) 20 ∧ (c_Model_isPlace E d (H4 34 0 ((5 * z3).toNatClampNeg)) H4 (fun r6 H5 => (r6 = 0 → (I1 (z2 &&& 0) (z3 + 1) H5 ∧ μ1 (z2 &&& 0) (z3 + 1) H5 < μ1 z2 z3 H4)) ∧ (¬ r6 = 0 → (vp_in (5 * z3) 20 ∧ (vp_in ((5 * z3) + 1) 20 ∧ (c_Model_fitsAt E d z3 (H5 34 0 ((5 * z3).toNatClampNeg)) (H5 34 0 (((5 * z3) + 1).toNatClampNeg)) H5 (fun r8 H7 => ∀ v10 : Int32, v10 = (z2 &&& (if r8 = 0 then 0 else 1 : Int32)) → (I1 v10 (z3 + 1) H7 ∧ μ1 v10 (z3 + 1) H7 < μ1 z2 z3 H4)))))))))))
set_option maxHeartbeats 4000000 in
theorem l_Model_doAllFit {E : XE} {d : Nat}  {H : HH} {Q : Int32 → HH → Prop} (h : p_Model_doAllFit E d  H Q) : c_Model_doAllFit E (d + 1)  H Q := by
  show g_Model_doAllFit E (d + 1) 0 (xent [vr 30 0]) [] H (qi Q)
  refine g_drop (ls2 := [some (vr 30 0), none, none]) (And.intro rfl trivial) ?_
  refine g_iconst (n := 1) (v := 1) (by decide +kernel) (by decide) ?_
  refine g_istore_n (q := 1) (i := 1) (ls2 := [some (vr 30 0), some (vi 1), none]) (by decide +kernel) rfl (by decide) rfl rfl ?_
  refine g_iconst (n := 0) (v := 0) (by decide +kernel) (by decide) ?_
  refine g_istore_n (q := 2) (i := 2) (ls2 := [some (vr 30 0), some (vi 1), some (vi 0)]) (by decide +kernel) rfl (by decide) rfl rfl ?_
  refine g_drop (ls2 := [some (vr 30 0), some (vi 1), some (vi 0)]) (And.intro rfl (And.intro rfl (And.intro rfl trivial))) ?_
  obtain ⟨I1, μ1, h0, h⟩ := h
  refine xloop (σ := Int32 × Int32) (fun s H => I1 s.1 s.2 H) (fun s H => μ1 s.1 s.2 H) (fun s H => g_Model_doAllFit E (d + 1) 4 [some (vr 30 0), some (vi s.1), some (vi s.2)] [] H (qi Q)) (fun s H4 hI ih1 => ?_) (1, 0) H h0
  obtain ⟨z2, z3⟩ := s
  replace h := h z2 z3 H4 hI
  refine g_iload_n (q := 2) (i := 2) (by decide +kernel) rfl rfl ?_
  refine g_aload_n (q := 0) (i := 0) (by decide +kernel) rfl rfl ?_
  refine g_get (C := "ThreePointsModel") (T := xT_Model) (N := 39) (ci := 10) (k := 3) (v := vi (H4 30 0 3)) (by decide +kernel) (by decide) rfl rfl xi_Model (by decide) kw_1029 rfl ?_
  refine g_icmp_ge (off := 58) (tgt := 67) (by decide +kernel) (by decide) (fun c => ?_) (fun c => ?_)
  · replace h := h.1 c
    refine g_iload_n (q := 1) (i := 1) (by decide +kernel) rfl rfl ?_
    obtain ⟨h01, h⟩ := h
    exact g_zret (by decide +kernel) rfl (nbool h01) ⟨_, rfl, h⟩
  · replace h := h.2 c
    refine g_iload_n (q := 1) (i := 1) (by decide +kernel) rfl rfl ?_
    refine g_aload_n (q := 0) (i := 0) (by decide +kernel) rfl rfl ?_
    refine g_aload_n (q := 0) (i := 0) (by decide +kernel) rfl rfl ?_
    refine g_get (C := "ThreePointsModel") (T := xT_Model) (N := 39) (ci := 10) (k := 6) (v := vr 34 0) (by decide +kernel) (by decide) rfl rfl xi_Model (by decide) kw_1032 rfl ?_
    refine g_iconst (n := 5) (v := 5) (by decide +kernel) (by decide) ?_
    refine g_iload_n (q := 2) (i := 2) (by decide +kernel) rfl rfl ?_
    refine g_imul (by decide +kernel) ?_
    obtain ⟨hin, h⟩ := h
    refine g_iald (by decide +kernel) (by decide) rfl hin ?_
    refine g_callV (kd := 30) (ix := 0) (ci := 10) (N := 39) (T := xT_Model) (vs := [vi (H4 34 0 ((5 * z3).toNatClampNeg))]) (st := [vi z2]) (by decide +kernel) xm_Model_isPlace kw_1156 kw_1158 kw_37 (by decide) rfl rfl rfl rfl (Nat.le_of_ble_eq_true rfl) (Nat.le_of_ble_eq_true rfl) h (fun vH5 H5 hq => ?_)
    obtain ⟨r6, rfl, h⟩ := hq
    refine g_if_eq (off := 33) (tgt := 58) (by decide +kernel) (by decide) (fun c => ?_) (fun c => ?_)
    · replace h := h.1 c
      refine g_iconst (n := 0) (v := 0) (by decide +kernel) (by decide) ?_
      refine g_iand (by decide +kernel) ?_
      refine g_istore_n (q := 1) (i := 1) (ls2 := [some (vr 30 0), some (vi (z2 &&& 0)), some (vi z3)]) (by decide +kernel) rfl (by decide) rfl rfl ?_
      refine g_iinc (i := 2) (n := 1) (v := (z3 + 1)) (ls2 := [some (vr 30 0), some (vi (z2 &&& 0)), some (vi (z3 + 1))]) (by decide +kernel) rfl rfl (by decide) rfl rfl ?_
      refine g_goto (off := (-60)) (tgt := 4) (by decide +kernel) (by decide) ?_
      obtain ⟨hI, hlt⟩ := h
      exact g_drop (ls2 := [some (vr 30 0), some (vi (z2 &&& 0)), some (vi (z3 + 1))]) (And.intro rfl (And.intro rfl (And.intro rfl trivial))) (ih1 ((z2 &&& 0), (z3 + 1)) H5 hI hlt)
    · replace h := h.2 c
      refine g_aload_n (q := 0) (i := 0) (by decide +kernel) rfl rfl ?_
      refine g_iload_n (q := 2) (i := 2) (by decide +kernel) rfl rfl ?_
      refine g_aload_n (q := 0) (i := 0) (by decide +kernel) rfl rfl ?_
      refine g_get (C := "ThreePointsModel") (T := xT_Model) (N := 39) (ci := 10) (k := 6) (v := vr 34 0) (by decide +kernel) (by decide) rfl rfl xi_Model (by decide) kw_1032 rfl ?_
      refine g_iconst (n := 5) (v := 5) (by decide +kernel) (by decide) ?_
      refine g_iload_n (q := 2) (i := 2) (by decide +kernel) rfl rfl ?_
      refine g_imul (by decide +kernel) ?_
      obtain ⟨hin, h⟩ := h
      refine g_iald (by decide +kernel) (by decide) rfl hin ?_
      refine g_aload_n (q := 0) (i := 0) (by decide +kernel) rfl rfl ?_
      refine g_get (C := "ThreePointsModel") (T := xT_Model) (N := 39) (ci := 10) (k := 6) (v := vr 34 0) (by decide +kernel) (by decide) rfl rfl xi_Model (by decide) kw_1032 rfl ?_
      refine g_iconst (n := 5) (v := 5) (by decide +kernel) (by decide) ?_
      refine g_iload_n (q := 2) (i := 2) (by decide +kernel) rfl rfl ?_
      refine g_imul (by decide +kernel) ?_
      refine g_iconst (n := 1) (v := 1) (by decide +kernel) (by decide) ?_
      refine g_iadd (by decide +kernel) ?_
      obtain ⟨hin, h⟩ := h
      refine g_iald (by decide +kernel) (by decide) rfl hin ?_
      refine g_callV (kd := 30) (ix := 0) (ci := 10) (N := 39) (T := xT_Model) (vs := [vi z3, vi (H5 34 0 ((5 * z3).toNatClampNeg)), vi (H5 34 0 (((5 * z3) + 1).toNatClampNeg))]) (st := [vi z2]) (by decide +kernel) xm_Model_fitsAt kw_1160 kw_1162 kw_38 (by decide) rfl rfl rfl rfl (Nat.le_of_ble_eq_true rfl) (Nat.le_of_ble_eq_true rfl) h (fun vH7 H7 hq => ?_)
      obtain ⟨r8, rfl, h⟩ := hq
      suffices hj9 : g_Model_doAllFit E (d + 1) 59 [some (vr 30 0), some (vi z2), some (vi z3)] [vi (if r8 = 0 then 0 else 1 : Int32), vi z2] H7 (qi Q) by
        refine g_if_eq (off := 7) (tgt := 58) (by decide +kernel) (by decide) (fun c => ?_) (fun c => ?_)
        · rw [if_pos c] at hj9
          refine g_iconst (n := 0) (v := 0) (by decide +kernel) (by decide) ?_
          exact hj9
        · rw [if_neg c] at hj9
          refine g_iconst (n := 1) (v := 1) (by decide +kernel) (by decide) ?_
          refine g_goto (off := 4) (tgt := 59) (by decide +kernel) (by decide) ?_
          exact hj9
      refine g_iand (by decide +kernel) ?_
      refine g_topi (fun v10 ev10 => ?_)
      replace h := h v10 ev10
      refine g_istore_n (q := 1) (i := 1) (ls2 := [some (vr 30 0), some (vi v10), some (vi z3)]) (by decide +kernel) rfl (by decide) rfl rfl ?_
      refine g_iinc (i := 2) (n := 1) (v := (z3 + 1)) (ls2 := [some (vr 30 0), some (vi v10), some (vi (z3 + 1))]) (by decide +kernel) rfl rfl (by decide) rfl rfl ?_
      refine g_goto (off := (-60)) (tgt := 4) (by decide +kernel) (by decide) ?_
      obtain ⟨hI, hlt⟩ := h
      exact g_drop (ls2 := [some (vr 30 0), some (vi v10), some (vi (z3 + 1))]) (And.intro rfl (And.intro rfl (And.intro rfl trivial))) (ih1 (v10, (z3 + 1)) H7 hI hlt)
def p_Model_set (E : XE) (d : Nat) (x1 : Int32) (x2 : Int32) (H : HH) (Q : Int32 → HH → Prop) : Prop := c_Model_in E d x1 0 1 H (fun r2 H1 => (¬ r2 = 0 → (c_Model_in E d x2 (if x1 = 0 then 8 else 0 : Int32) (if x1 = 0 then 60 else 20 : Int32) H1 (fun r6 H5 => (¬ r6 = 0 → (∀ H9 : HH, H9 = (hu (hu H5 30 0 1 (if x1 = 0 then x2 else (H5 30 0 1) : Int32)) 30 0 2 (if x1 = 1 then x2 else ((hu H5 30 0 1 (if x1 = 0 then x2 else (H5 30 0 1) : Int32)) 30 0 2) : Int32)) → (c_Model_doAllFit E d  H9 (fun r11 H10 => (¬ r11 = 0 → (Q (if x1 = 0 then (H5 30 0 1) else (H5 30 0 2) : Int32) H10)) ∧ (r11 = 0 → (∀ H13 : HH, H13 = (hu (hu H10 30 0 1 (H5 30 0 1)) 30 0 2 (H5 30 0 2)) → (Q (-3) H13))))))) ∧ (r6 = 0 → (Q (-7) H5))))) ∧ (r2 = 0 → (Q (-5) H1)))
set_option maxHeartbeats 4000000 in
theorem l_Model_set {E : XE} {d : Nat} {x1 : Int32} {x2 : Int32} {H : HH} {Q : Int32 → HH → Prop} (h : p_Model_set E d x1 x2 H Q) : c_Model_set E (d + 1) x1 x2 H Q := by
  show g_Model_set E (d + 1) 0 (xent [vr 30 0, vi x1, vi x2]) [] H (qi Q)
  refine g_drop (ls2 := [some (vr 30 0), some (vi x1), some (vi x2), none, none]) (And.intro rfl (And.intro rfl (And.intro rfl trivial))) ?_
  refine g_iload_n (q := 1) (i := 1) (by decide +kernel) rfl rfl ?_
  refine g_iconst (n := 0) (v := 0) (by decide +kernel) (by decide) ?_
  refine g_iconst (n := 1) (v := 1) (by decide +kernel) (by decide) ?_
  refine g_callS (vs := [vi x1, vi 0, vi 1]) (st := []) (by decide +kernel) xm_Model_in kw_987 kw_988 rfl rfl (Nat.le_of_ble_eq_true rfl) (Nat.le_of_ble_eq_true rfl) h (fun vH1 H1 hq => ?_)
  obtain ⟨r2, rfl, h⟩ := hq
  refine g_if_ne (off := 6) (tgt := 12) (by decide +kernel) (by decide) (fun c => ?_) (fun c => ?_)
  · replace h := h.1 c
    refine g_iload_n (q := 2) (i := 2) (by decide +kernel) rfl rfl ?_
    refine g_iload_n (q := 1) (i := 1) (by decide +kernel) rfl rfl ?_
    suffices hj3 : g_Model_set E (d + 1) 23 [some (vr 30 0), some (vi x1), some (vi x2), none, none] [vi (if x1 = 0 then 8 else 0 : Int32), vi x2] H1 (qi Q) by
      refine g_if_ne (off := 8) (tgt := 22) (by decide +kernel) (by decide) (fun c => ?_) (fun c => ?_)
      · rw [if_neg c] at hj3
        refine g_iconst (n := 0) (v := 0) (by decide +kernel) (by decide) ?_
        exact hj3
      · rw [if_pos c] at hj3
        refine g_bipush (n := 8) (v := 8) (by decide +kernel) (by decide) ?_
        refine g_goto (off := 4) (tgt := 23) (by decide +kernel) (by decide) ?_
        exact hj3
    refine g_iload_n (q := 1) (i := 1) (by decide +kernel) rfl rfl ?_
    suffices hj4 : g_Model_set E (d + 1) 34 [some (vr 30 0), some (vi x1), some (vi x2), none, none] [vi (if x1 = 0 then 60 else 20 : Int32), vi (if x1 = 0 then 8 else 0 : Int32), vi x2] H1 (qi Q) by
      refine g_if_ne (off := 8) (tgt := 32) (by decide +kernel) (by decide) (fun c => ?_) (fun c => ?_)
      · rw [if_neg c] at hj4
        refine g_bipush (n := 20) (v := 20) (by decide +kernel) (by decide) ?_
        exact hj4
      · rw [if_pos c] at hj4
        refine g_bipush (n := 60) (v := 60) (by decide +kernel) (by decide) ?_
        refine g_goto (off := 5) (tgt := 34) (by decide +kernel) (by decide) ?_
        exact hj4
    refine g_callS (vs := [vi x2, vi (if x1 = 0 then 8 else 0 : Int32), vi (if x1 = 0 then 60 else 20 : Int32)]) (st := []) (by decide +kernel) xm_Model_in kw_987 kw_988 rfl rfl (Nat.le_of_ble_eq_true rfl) (Nat.le_of_ble_eq_true rfl) h (fun vH5 H5 hq => ?_)
    obtain ⟨r6, rfl, h⟩ := hq
    refine g_if_ne (off := 6) (tgt := 43) (by decide +kernel) (by decide) (fun c => ?_) (fun c => ?_)
    · replace h := h.1 c
      refine g_aload_n (q := 0) (i := 0) (by decide +kernel) rfl rfl ?_
      refine g_get (C := "ThreePointsModel") (T := xT_Model) (N := 39) (ci := 10) (k := 1) (v := vi (H5 30 0 1)) (by decide +kernel) (by decide) rfl rfl xi_Model (by decide) kw_1027 rfl ?_
      refine g_istore_n (q := 3) (i := 3) (ls2 := [some (vr 30 0), some (vi x1), some (vi x2), some (vi (H5 30 0 1)), none]) (by decide +kernel) rfl (by decide) rfl rfl ?_
      refine g_aload_n (q := 0) (i := 0) (by decide +kernel) rfl rfl ?_
      refine g_get (C := "ThreePointsModel") (T := xT_Model) (N := 39) (ci := 10) (k := 2) (v := vi (H5 30 0 2)) (by decide +kernel) (by decide) rfl rfl xi_Model (by decide) kw_1028 rfl ?_
      refine g_istore (i := 4) (ls2 := [some (vr 30 0), some (vi x1), some (vi x2), some (vi (H5 30 0 1)), some (vi (H5 30 0 2))]) (by decide +kernel) (by decide) rfl rfl ?_
      refine g_aload_n (q := 0) (i := 0) (by decide +kernel) rfl rfl ?_
      refine g_iload_n (q := 1) (i := 1) (by decide +kernel) rfl rfl ?_
      suffices hj7 : g_Model_set E (d + 1) 67 [some (vr 30 0), some (vi x1), some (vi x2), some (vi (H5 30 0 1)), some (vi (H5 30 0 2))] [vi (if x1 = 0 then x2 else (H5 30 0 1) : Int32), vr 30 0] H5 (qi Q) by
        refine g_if_ne (off := 7) (tgt := 63) (by decide +kernel) (by decide) (fun c => ?_) (fun c => ?_)
        · rw [if_neg c] at hj7
          refine g_aload_n (q := 0) (i := 0) (by decide +kernel) rfl rfl ?_
          refine g_get (C := "ThreePointsModel") (T := xT_Model) (N := 39) (ci := 10) (k := 1) (v := vi (H5 30 0 1)) (by decide +kernel) (by decide) rfl rfl xi_Model (by decide) kw_1027 rfl ?_
          exact hj7
        · rw [if_pos c] at hj7
          refine g_iload_n (q := 2) (i := 2) (by decide +kernel) rfl rfl ?_
          refine g_goto (off := 7) (tgt := 67) (by decide +kernel) (by decide) ?_
          exact hj7
      refine g_put (C := "ThreePointsModel") (T := xT_Model) (N := 39) (ci := 10) (k := 1) xy_Model (by decide +kernel) (by decide) rfl rfl xi_Model xy_Model_ok xn_Model (by decide) kw_1027 rfl (by decide +kernel) (fun _ => rfl) ?_
      refine g_aload_n (q := 0) (i := 0) (by decide +kernel) rfl rfl ?_
      refine g_iload_n (q := 1) (i := 1) (by decide +kernel) rfl rfl ?_
      refine g_iconst (n := 1) (v := 1) (by decide +kernel) (by decide) ?_
      suffices hj8 : g_Model_set E (d + 1) 84 [some (vr 30 0), some (vi x1), some (vi x2), some (vi (H5 30 0 1)), some (vi (H5 30 0 2))] [vi (if x1 = 1 then x2 else ((hu H5 30 0 1 (if x1 = 0 then x2 else (H5 30 0 1) : Int32)) 30 0 2) : Int32), vr 30 0] (hu H5 30 0 1 (if x1 = 0 then x2 else (H5 30 0 1) : Int32)) (qi Q) by
        refine g_icmp_ne (off := 7) (tgt := 80) (by decide +kernel) (by decide) (fun c => ?_) (fun c => ?_)
        · rw [if_neg c] at hj8
          refine g_aload_n (q := 0) (i := 0) (by decide +kernel) rfl rfl ?_
          refine g_get (C := "ThreePointsModel") (T := xT_Model) (N := 39) (ci := 10) (k := 2) (v := vi ((hu H5 30 0 1 (if x1 = 0 then x2 else (H5 30 0 1) : Int32)) 30 0 2)) (by decide +kernel) (by decide) rfl rfl xi_Model (by decide) kw_1028 rfl ?_
          exact hj8
        · rw [if_pos c] at hj8
          refine g_iload_n (q := 2) (i := 2) (by decide +kernel) rfl rfl ?_
          refine g_goto (off := 7) (tgt := 84) (by decide +kernel) (by decide) ?_
          exact hj8
      refine g_put (C := "ThreePointsModel") (T := xT_Model) (N := 39) (ci := 10) (k := 2) xy_Model (by decide +kernel) (by decide) rfl rfl xi_Model xy_Model_ok xn_Model (by decide) kw_1028 rfl (by decide +kernel) (fun _ => rfl) ?_
      refine g_aload_n (q := 0) (i := 0) (by decide +kernel) rfl rfl ?_
      refine g_heap (fun H9 eH9 => ?_)
      replace h := h H9 eH9
      refine g_callV (kd := 30) (ix := 0) (ci := 10) (N := 39) (T := xT_Model) (vs := []) (st := []) (by decide +kernel) xm_Model_doAllFit kw_1152 kw_1154 kw_36 (by decide) rfl rfl rfl rfl (Nat.le_of_ble_eq_true rfl) (Nat.le_of_ble_eq_true rfl) h (fun vH10 H10 hq => ?_)
      obtain ⟨r11, rfl, h⟩ := hq
      refine g_if_ne (off := 17) (tgt := 108) (by decide +kernel) (by decide) (fun c => ?_) (fun c => ?_)
      · replace h := h.1 c
        refine g_iload_n (q := 1) (i := 1) (by decide +kernel) rfl rfl ?_
        suffices hj12 : g_Model_set E (d + 1) 118 [some (vr 30 0), some (vi x1), some (vi x2), some (vi (H5 30 0 1)), some (vi (H5 30 0 2))] [vi (if x1 = 0 then (H5 30 0 1) else (H5 30 0 2) : Int32)] H10 (qi Q) by
          refine g_if_ne (off := 7) (tgt := 116) (by decide +kernel) (by decide) (fun c => ?_) (fun c => ?_)
          · rw [if_neg c] at hj12
            refine g_iload (i := 4) (by decide +kernel) rfl ?_
            exact hj12
          · rw [if_pos c] at hj12
            refine g_iload_n (q := 3) (i := 3) (by decide +kernel) rfl rfl ?_
            refine g_goto (off := 5) (tgt := 118) (by decide +kernel) (by decide) ?_
            exact hj12
        exact g_iret (by decide +kernel) rfl ⟨_, rfl, h⟩
      · replace h := h.2 c
        refine g_aload_n (q := 0) (i := 0) (by decide +kernel) rfl rfl ?_
        refine g_iload_n (q := 3) (i := 3) (by decide +kernel) rfl rfl ?_
        refine g_put (C := "ThreePointsModel") (T := xT_Model) (N := 39) (ci := 10) (k := 1) xy_Model (by decide +kernel) (by decide) rfl rfl xi_Model xy_Model_ok xn_Model (by decide) kw_1027 rfl (by decide +kernel) (fun _ => rfl) ?_
        refine g_aload_n (q := 0) (i := 0) (by decide +kernel) rfl rfl ?_
        refine g_iload (i := 4) (by decide +kernel) rfl ?_
        refine g_put (C := "ThreePointsModel") (T := xT_Model) (N := 39) (ci := 10) (k := 2) xy_Model (by decide +kernel) (by decide) rfl rfl xi_Model xy_Model_ok xn_Model (by decide) kw_1028 rfl (by decide +kernel) (fun _ => rfl) ?_
        refine g_bipush (n := (-3)) (v := (-3)) (by decide +kernel) (by decide) ?_
        refine g_heap (fun H13 eH13 => ?_)
        replace h := h H13 eH13
        exact g_iret (by decide +kernel) rfl ⟨_, rfl, h⟩
    · replace h := h.2 c
      refine g_bipush (n := (-7)) (v := (-7)) (by decide +kernel) (by decide) ?_
      exact g_iret (by decide +kernel) rfl ⟨_, rfl, h⟩
  · replace h := h.2 c
    refine g_bipush (n := (-5)) (v := (-5)) (by decide +kernel) (by decide) ?_
    exact g_iret (by decide +kernel) rfl ⟨_, rfl, h⟩
def p_Model_isByte (E : XE) (d : Nat) (x0 : Int32) (H : HH) (Q : Int32 → HH → Prop) : Prop := c_Model_in E d x0 0 255 H (fun r2 H1 => (r2 = 0 ∨ r2 = 1) ∧ Q r2 H1)
set_option maxHeartbeats 4000000 in
theorem l_Model_isByte {E : XE} {d : Nat} {x0 : Int32} {H : HH} {Q : Int32 → HH → Prop} (h : p_Model_isByte E d x0 H Q) : c_Model_isByte E (d + 1) x0 H Q := by
  show g_Model_isByte E (d + 1) 0 (xent [vi x0]) [] H (qi Q)
  refine g_drop (ls2 := [some (vi x0)]) (And.intro rfl trivial) ?_
  refine g_iload_n (q := 0) (i := 0) (by decide +kernel) rfl rfl ?_
  refine g_iconst (n := 0) (v := 0) (by decide +kernel) (by decide) ?_
  refine g_sipush (n := 255) (v := 255) (by decide +kernel) (by decide) ?_
  refine g_callS (vs := [vi x0, vi 0, vi 255]) (st := []) (by decide +kernel) xm_Model_in kw_987 kw_988 rfl rfl (Nat.le_of_ble_eq_true rfl) (Nat.le_of_ble_eq_true rfl) h (fun vH1 H1 hq => ?_)
  obtain ⟨r2, rfl, h⟩ := hq
  obtain ⟨h01, h⟩ := h
  exact g_zret (by decide +kernel) rfl (nbool h01) ⟨_, rfl, h⟩
def p_Model_feed (E : XE) (d : Nat) (x1 : Int32) (x2 : Int32) (x3 : Int32) (x4 : Int32) (x5 : Int32) (x6 : Int32) (H : HH) (Q : Int32 → HH → Prop) : Prop := c_Model_in E d x1 1 5 H (fun r2 H1 => (r2 = 0 → (Q (-2) H1)) ∧ (¬ r2 = 0 → (c_Model_isByte E d x2 H1 (fun r4 H3 => (r4 = 0 → (Q (-2) H3)) ∧ (¬ r4 = 0 → (c_Model_isByte E d x3 H3 (fun r6 H5 => (r6 = 0 → (Q (-2) H5)) ∧ (¬ r6 = 0 → (c_Model_isByte E d x4 H5 (fun r8 H7 => (r8 = 0 → (Q (-2) H7)) ∧ (¬ r8 = 0 → (c_Model_isByte E d x5 H7 (fun r10 H9 => (r10 = 0 → (Q (-2) H9)) ∧ (¬ r10 = 0 → (c_Model_isByte E d x6 H9 (fun r12 H11 => (¬ r12 = 0 → ((((H11 30 0 8) + x1) ≤ 160 → (∃ (I13 : Int32 → HH → Prop) (μ13 : Int32 → HH → Nat), I13 0 H11 ∧ ∀ (z14 : Int32) (H15 : HH), I13 z14 H15 → ((x1 ≤ z14 → (Q (H15 30 0 8) H15)) ∧ (¬ x1 ≤ z14 → (vp_in (H15 30 0 8) 160 ∧ (∀ H20 : HH, H20 = (hu H15 35 0 ((H15 30 0 8).toNatClampNeg) (if z14 = 0 then x2 else (if z14 = 1 then x3 else (if z14 = 2 then x4 else (if z14 = 3 then x5 else x6 : Int32) : Int32) : Int32) : Int32)) → (∀ H21 : HH, H21 = (hu H20 30 0 8 ((H20 30 0 8) + 1)) → (I13 (z14 + 1) H21 ∧ μ13 (z14 + 1) H21 < μ13 z14 H15)))))))) ∧ (¬ ((H11 30 0 8) + x1) ≤ 160 → (Q (-4) H11)))) ∧ (r12 = 0 → (Q (-2) H11))))))))))))))))))
set_option maxHeartbeats 4000000 in
theorem l_Model_feed {E : XE} {d : Nat} {x1 : Int32} {x2 : Int32} {x3 : Int32} {x4 : Int32} {x5 : Int32} {x6 : Int32} {H : HH} {Q : Int32 → HH → Prop} (h : p_Model_feed E d x1 x2 x3 x4 x5 x6 H Q) : c_Model_feed E (d + 1) x1 x2 x3 x4 x5 x6 H Q := by
  show g_Model_feed E (d + 1) 0 (xent [vr 30 0, vi x1, vi x2, vi x3, vi x4, vi x5, vi x6]) [] H (qi Q)
  refine g_drop (ls2 := [some (vr 30 0), some (vi x1), some (vi x2), some (vi x3), some (vi x4), some (vi x5), some (vi x6), none]) (And.intro rfl (And.intro rfl (And.intro rfl (And.intro rfl (And.intro rfl (And.intro rfl (And.intro rfl trivial))))))) ?_
  refine g_iload_n (q := 1) (i := 1) (by decide +kernel) rfl rfl ?_
  refine g_iconst (n := 1) (v := 1) (by decide +kernel) (by decide) ?_
  refine g_iconst (n := 5) (v := 5) (by decide +kernel) (by decide) ?_
  refine g_callS (vs := [vi x1, vi 1, vi 5]) (st := []) (by decide +kernel) xm_Model_in kw_987 kw_988 rfl rfl (Nat.le_of_ble_eq_true rfl) (Nat.le_of_ble_eq_true rfl) h (fun vH1 H1 hq => ?_)
  obtain ⟨r2, rfl, h⟩ := hq
  refine g_if_eq (off := 41) (tgt := 47) (by decide +kernel) (by decide) (fun c => ?_) (fun c => ?_)
  · replace h := h.1 c
    refine g_bipush (n := (-2)) (v := (-2)) (by decide +kernel) (by decide) ?_
    exact g_iret (by decide +kernel) rfl ⟨_, rfl, h⟩
  · replace h := h.2 c
    refine g_iload_n (q := 2) (i := 2) (by decide +kernel) rfl rfl ?_
    refine g_callS (vs := [vi x2]) (st := []) (by decide +kernel) xm_Model_isByte kw_1190 kw_1191 rfl rfl (Nat.le_of_ble_eq_true rfl) (Nat.le_of_ble_eq_true rfl) h (fun vH3 H3 hq => ?_)
    obtain ⟨r4, rfl, h⟩ := hq
    refine g_if_eq (off := 34) (tgt := 47) (by decide +kernel) (by decide) (fun c => ?_) (fun c => ?_)
    · replace h := h.1 c
      refine g_bipush (n := (-2)) (v := (-2)) (by decide +kernel) (by decide) ?_
      exact g_iret (by decide +kernel) rfl ⟨_, rfl, h⟩
    · replace h := h.2 c
      refine g_iload_n (q := 3) (i := 3) (by decide +kernel) rfl rfl ?_
      refine g_callS (vs := [vi x3]) (st := []) (by decide +kernel) xm_Model_isByte kw_1190 kw_1191 rfl rfl (Nat.le_of_ble_eq_true rfl) (Nat.le_of_ble_eq_true rfl) h (fun vH5 H5 hq => ?_)
      obtain ⟨r6, rfl, h⟩ := hq
      refine g_if_eq (off := 27) (tgt := 47) (by decide +kernel) (by decide) (fun c => ?_) (fun c => ?_)
      · replace h := h.1 c
        refine g_bipush (n := (-2)) (v := (-2)) (by decide +kernel) (by decide) ?_
        exact g_iret (by decide +kernel) rfl ⟨_, rfl, h⟩
      · replace h := h.2 c
        refine g_iload (i := 4) (by decide +kernel) rfl ?_
        refine g_callS (vs := [vi x4]) (st := []) (by decide +kernel) xm_Model_isByte kw_1190 kw_1191 rfl rfl (Nat.le_of_ble_eq_true rfl) (Nat.le_of_ble_eq_true rfl) h (fun vH7 H7 hq => ?_)
        obtain ⟨r8, rfl, h⟩ := hq
        refine g_if_eq (off := 19) (tgt := 47) (by decide +kernel) (by decide) (fun c => ?_) (fun c => ?_)
        · replace h := h.1 c
          refine g_bipush (n := (-2)) (v := (-2)) (by decide +kernel) (by decide) ?_
          exact g_iret (by decide +kernel) rfl ⟨_, rfl, h⟩
        · replace h := h.2 c
          refine g_iload (i := 5) (by decide +kernel) rfl ?_
          refine g_callS (vs := [vi x5]) (st := []) (by decide +kernel) xm_Model_isByte kw_1190 kw_1191 rfl rfl (Nat.le_of_ble_eq_true rfl) (Nat.le_of_ble_eq_true rfl) h (fun vH9 H9 hq => ?_)
          obtain ⟨r10, rfl, h⟩ := hq
          refine g_if_eq (off := 11) (tgt := 47) (by decide +kernel) (by decide) (fun c => ?_) (fun c => ?_)
          · replace h := h.1 c
            refine g_bipush (n := (-2)) (v := (-2)) (by decide +kernel) (by decide) ?_
            exact g_iret (by decide +kernel) rfl ⟨_, rfl, h⟩
          · replace h := h.2 c
            refine g_iload (i := 6) (by decide +kernel) rfl ?_
            refine g_callS (vs := [vi x6]) (st := []) (by decide +kernel) xm_Model_isByte kw_1190 kw_1191 rfl rfl (Nat.le_of_ble_eq_true rfl) (Nat.le_of_ble_eq_true rfl) h (fun vH11 H11 hq => ?_)
            obtain ⟨r12, rfl, h⟩ := hq
            refine g_if_ne (off := 6) (tgt := 50) (by decide +kernel) (by decide) (fun c => ?_) (fun c => ?_)
            · replace h := h.1 c
              refine g_aload_n (q := 0) (i := 0) (by decide +kernel) rfl rfl ?_
              refine g_get (C := "ThreePointsModel") (T := xT_Model) (N := 39) (ci := 10) (k := 8) (v := vi (H11 30 0 8)) (by decide +kernel) (by decide) rfl rfl xi_Model (by decide) kw_1034 rfl ?_
              refine g_iload_n (q := 1) (i := 1) (by decide +kernel) rfl rfl ?_
              refine g_iadd (by decide +kernel) ?_
              refine g_sipush (n := 160) (v := 160) (by decide +kernel) (by decide) ?_
              refine g_icmp_le (off := 6) (tgt := 65) (by decide +kernel) (by decide) (fun c => ?_) (fun c => ?_)
              · replace h := h.1 c
                refine g_iconst (n := 0) (v := 0) (by decide +kernel) (by decide) ?_
                refine g_istore (i := 7) (ls2 := [some (vr 30 0), some (vi x1), some (vi x2), some (vi x3), some (vi x4), some (vi x5), some (vi x6), some (vi 0)]) (by decide +kernel) (by decide) rfl rfl ?_
                refine g_drop (ls2 := [some (vr 30 0), some (vi x1), some (vi x2), some (vi x3), some (vi x4), some (vi x5), some (vi x6), some (vi 0)]) (And.intro rfl (And.intro rfl (And.intro rfl (And.intro rfl (And.intro rfl (And.intro rfl (And.intro rfl (And.intro rfl trivial)))))))) ?_
                obtain ⟨I13, μ13, h0, h⟩ := h
                refine xloop (σ := Int32) (fun s H => I13 s H) (fun s H => μ13 s H) (fun s H => g_Model_feed E (d + 1) 68 [some (vr 30 0), some (vi x1), some (vi x2), some (vi x3), some (vi x4), some (vi x5), some (vi x6), some (vi s)] [] H (qi Q)) (fun s H15 hI ih13 => ?_) 0 H11 h0
                obtain ⟨z14, es⟩ : ∃ z, z = s := ⟨s, rfl⟩
                subst es
                replace h := h z14 H15 hI
                refine g_iload (i := 7) (by decide +kernel) rfl ?_
                refine g_iload_n (q := 1) (i := 1) (by decide +kernel) rfl rfl ?_
                refine g_icmp_ge (off := 71) (tgt := 142) (by decide +kernel) (by decide) (fun c => ?_) (fun c => ?_)
                · replace h := h.1 c
                  refine g_aload_n (q := 0) (i := 0) (by decide +kernel) rfl rfl ?_
                  refine g_get (C := "ThreePointsModel") (T := xT_Model) (N := 39) (ci := 10) (k := 8) (v := vi (H15 30 0 8)) (by decide +kernel) (by decide) rfl rfl xi_Model (by decide) kw_1034 rfl ?_
                  exact g_iret (by decide +kernel) rfl ⟨_, rfl, h⟩
                · replace h := h.2 c
                  refine g_aload_n (q := 0) (i := 0) (by decide +kernel) rfl rfl ?_
                  refine g_get (C := "ThreePointsModel") (T := xT_Model) (N := 39) (ci := 10) (k := 7) (v := vr 35 0) (by decide +kernel) (by decide) rfl rfl xi_Model (by decide) kw_1033 rfl ?_
                  refine g_aload_n (q := 0) (i := 0) (by decide +kernel) rfl rfl ?_
                  refine g_get (C := "ThreePointsModel") (T := xT_Model) (N := 39) (ci := 10) (k := 8) (v := vi (H15 30 0 8)) (by decide +kernel) (by decide) rfl rfl xi_Model (by decide) kw_1034 rfl ?_
                  refine g_iload (i := 7) (by decide +kernel) rfl ?_
                  suffices hj19 : g_Model_feed E (d + 1) 125 [some (vr 30 0), some (vi x1), some (vi x2), some (vi x3), some (vi x4), some (vi x5), some (vi x6), some (vi z14)] [vi (if z14 = 0 then x2 else (if z14 = 1 then x3 else (if z14 = 2 then x4 else (if z14 = 3 then x5 else x6 : Int32) : Int32) : Int32) : Int32), vi (H15 30 0 8), vr 35 0] H15 (qi Q) by
                    refine g_if_ne (off := 7) (tgt := 91) (by decide +kernel) (by decide) (fun c => ?_) (fun c => ?_)
                    · rw [if_neg c] at hj19
                      refine g_iload (i := 7) (by decide +kernel) rfl ?_
                      refine g_iconst (n := 1) (v := 1) (by decide +kernel) (by decide) ?_
                      suffices hj18 : g_Model_feed E (d + 1) 125 [some (vr 30 0), some (vi x1), some (vi x2), some (vi x3), some (vi x4), some (vi x5), some (vi x6), some (vi z14)] [vi (if z14 = 1 then x3 else (if z14 = 2 then x4 else (if z14 = 3 then x5 else x6 : Int32) : Int32) : Int32), vi (H15 30 0 8), vr 35 0] H15 (qi Q) by
                        refine g_icmp_ne (off := 7) (tgt := 101) (by decide +kernel) (by decide) (fun c => ?_) (fun c => ?_)
                        · rw [if_neg c] at hj18
                          refine g_iload (i := 7) (by decide +kernel) rfl ?_
                          refine g_iconst (n := 2) (v := 2) (by decide +kernel) (by decide) ?_
                          suffices hj17 : g_Model_feed E (d + 1) 125 [some (vr 30 0), some (vi x1), some (vi x2), some (vi x3), some (vi x4), some (vi x5), some (vi x6), some (vi z14)] [vi (if z14 = 2 then x4 else (if z14 = 3 then x5 else x6 : Int32) : Int32), vi (H15 30 0 8), vr 35 0] H15 (qi Q) by
                            refine g_icmp_ne (off := 8) (tgt := 112) (by decide +kernel) (by decide) (fun c => ?_) (fun c => ?_)
                            · rw [if_neg c] at hj17
                              refine g_iload (i := 7) (by decide +kernel) rfl ?_
                              refine g_iconst (n := 3) (v := 3) (by decide +kernel) (by decide) ?_
                              suffices hj16 : g_Model_feed E (d + 1) 125 [some (vr 30 0), some (vi x1), some (vi x2), some (vi x3), some (vi x4), some (vi x5), some (vi x6), some (vi z14)] [vi (if z14 = 3 then x5 else x6 : Int32), vi (H15 30 0 8), vr 35 0] H15 (qi Q) by
                                refine g_icmp_ne (off := 8) (tgt := 123) (by decide +kernel) (by decide) (fun c => ?_) (fun c => ?_)
                                · rw [if_neg c] at hj16
                                  refine g_iload (i := 6) (by decide +kernel) rfl ?_
                                  exact hj16
                                · rw [if_pos c] at hj16
                                  refine g_iload (i := 5) (by decide +kernel) rfl ?_
                                  refine g_goto (off := 5) (tgt := 125) (by decide +kernel) (by decide) ?_
                                  exact hj16
                              exact hj17
                            · rw [if_pos c] at hj17
                              refine g_iload (i := 4) (by decide +kernel) rfl ?_
                              refine g_goto (off := 16) (tgt := 125) (by decide +kernel) (by decide) ?_
                              exact hj17
                          exact hj18
                        · rw [if_pos c] at hj18
                          refine g_iload_n (q := 3) (i := 3) (by decide +kernel) rfl rfl ?_
                          refine g_goto (off := 27) (tgt := 125) (by decide +kernel) (by decide) ?_
                          exact hj18
                      exact hj19
                    · rw [if_pos c] at hj19
                      refine g_iload_n (q := 2) (i := 2) (by decide +kernel) rfl rfl ?_
                      refine g_goto (off := 37) (tgt := 125) (by decide +kernel) (by decide) ?_
                      exact hj19
                  obtain ⟨hin, h⟩ := h
                  refine g_iast (by decide +kernel) (by decide) rfl hin ?_
                  refine g_aload_n (q := 0) (i := 0) (by decide +kernel) rfl rfl ?_
                  refine g_dup (by decide +kernel) rfl ?_
                  refine g_heap (fun H20 eH20 => ?_)
                  replace h := h H20 eH20
                  refine g_get (C := "ThreePointsModel") (T := xT_Model) (N := 39) (ci := 10) (k := 8) (v := vi (H20 30 0 8)) (by decide +kernel) (by decide) rfl rfl xi_Model (by decide) kw_1034 rfl ?_
                  refine g_iconst (n := 1) (v := 1) (by decide +kernel) (by decide) ?_
                  refine g_iadd (by decide +kernel) ?_
                  refine g_put (C := "ThreePointsModel") (T := xT_Model) (N := 39) (ci := 10) (k := 8) xy_Model (by decide +kernel) (by decide) rfl rfl xi_Model xy_Model_ok xn_Model (by decide) kw_1034 rfl (by decide +kernel) (fun _ => rfl) ?_
                  refine g_iinc (i := 7) (n := 1) (v := (z14 + 1)) (ls2 := [some (vr 30 0), some (vi x1), some (vi x2), some (vi x3), some (vi x4), some (vi x5), some (vi x6), some (vi (z14 + 1))]) (by decide +kernel) rfl rfl (by decide) rfl rfl ?_
                  refine g_goto (off := (-71)) (tgt := 68) (by decide +kernel) (by decide) ?_
                  refine g_heap (fun H21 eH21 => ?_)
                  replace h := h H21 eH21
                  obtain ⟨hI, hlt⟩ := h
                  exact g_drop (ls2 := [some (vr 30 0), some (vi x1), some (vi x2), some (vi x3), some (vi x4), some (vi x5), some (vi x6), some (vi (z14 + 1))]) (And.intro rfl (And.intro rfl (And.intro rfl (And.intro rfl (And.intro rfl (And.intro rfl (And.intro rfl (And.intro rfl trivial)))))))) (ih13 (z14 + 1) H21 hI hlt)
              · replace h := h.2 c
                refine g_bipush (n := (-4)) (v := (-4)) (by decide +kernel) (by decide) ?_
                exact g_iret (by decide +kernel) rfl ⟨_, rfl, h⟩
            · replace h := h.2 c
              refine g_bipush (n := (-2)) (v := (-2)) (by decide +kernel) (by decide) ?_
              exact g_iret (by decide +kernel) rfl ⟨_, rfl, h⟩
def p_Model_force (E : XE) (d : Nat) (x1 : Int32) (H : HH) (Q : Int32 → HH → Prop) : Prop := c_Model_in E d x1 0 ((H 30 0 11) - 1) H (fun r2 H1 => (¬ r2 = 0 → (∀ H3 : HH, H3 = (hu H1 30 0 12 x1) → (Q (H1 30 0 12) H3))) ∧ (r2 = 0 → (Q (-2) H1)))
set_option maxHeartbeats 4000000 in
theorem l_Model_force {E : XE} {d : Nat} {x1 : Int32} {H : HH} {Q : Int32 → HH → Prop} (h : p_Model_force E d x1 H Q) : c_Model_force E (d + 1) x1 H Q := by
  show g_Model_force E (d + 1) 0 (xent [vr 30 0, vi x1]) [] H (qi Q)
  refine g_drop (ls2 := [some (vr 30 0), some (vi x1), none]) (And.intro rfl (And.intro rfl trivial)) ?_
  refine g_iload_n (q := 1) (i := 1) (by decide +kernel) rfl rfl ?_
  refine g_iconst (n := 0) (v := 0) (by decide +kernel) (by decide) ?_
  refine g_aload_n (q := 0) (i := 0) (by decide +kernel) rfl rfl ?_
  refine g_get (C := "ThreePointsModel") (T := xT_Model) (N := 39) (ci := 10) (k := 11) (v := vi (H 30 0 11)) (by decide +kernel) (by decide) rfl rfl xi_Model (by decide) kw_1037 rfl ?_
  refine g_iconst (n := 1) (v := 1) (by decide +kernel) (by decide) ?_
  refine g_isub (by decide +kernel) ?_
  refine g_callS (vs := [vi x1, vi 0, vi ((H 30 0 11) - 1)]) (st := []) (by decide +kernel) xm_Model_in kw_987 kw_988 rfl rfl (Nat.le_of_ble_eq_true rfl) (Nat.le_of_ble_eq_true rfl) h (fun vH1 H1 hq => ?_)
  obtain ⟨r2, rfl, h⟩ := hq
  refine g_if_ne (off := 6) (tgt := 17) (by decide +kernel) (by decide) (fun c => ?_) (fun c => ?_)
  · replace h := h.1 c
    refine g_aload_n (q := 0) (i := 0) (by decide +kernel) rfl rfl ?_
    refine g_get (C := "ThreePointsModel") (T := xT_Model) (N := 39) (ci := 10) (k := 12) (v := vi (H1 30 0 12)) (by decide +kernel) (by decide) rfl rfl xi_Model (by decide) kw_1038 rfl ?_
    refine g_istore_n (q := 2) (i := 2) (ls2 := [some (vr 30 0), some (vi x1), some (vi (H1 30 0 12))]) (by decide +kernel) rfl (by decide) rfl rfl ?_
    refine g_aload_n (q := 0) (i := 0) (by decide +kernel) rfl rfl ?_
    refine g_iload_n (q := 1) (i := 1) (by decide +kernel) rfl rfl ?_
    refine g_put (C := "ThreePointsModel") (T := xT_Model) (N := 39) (ci := 10) (k := 12) xy_Model (by decide +kernel) (by decide) rfl rfl xi_Model xy_Model_ok xn_Model (by decide) kw_1038 rfl (by decide +kernel) (fun _ => rfl) ?_
    refine g_iload_n (q := 2) (i := 2) (by decide +kernel) rfl rfl ?_
    refine g_heap (fun H3 eH3 => ?_)
    replace h := h H3 eH3
    exact g_iret (by decide +kernel) rfl ⟨_, rfl, h⟩
  · replace h := h.2 c
    refine g_bipush (n := (-2)) (v := (-2)) (by decide +kernel) (by decide) ?_
    exact g_iret (by decide +kernel) rfl ⟨_, rfl, h⟩
def p_Model_isVehicle (E : XE) (d : Nat) (x1 : Int32) (H : HH) (Q : Int32 → HH → Prop) : Prop := c_Model_in E d x1 0 ((H 30 0 3) - 1) H (fun r2 H1 => (r2 = 0 ∨ r2 = 1) ∧ Q r2 H1)
set_option maxHeartbeats 4000000 in
theorem l_Model_isVehicle {E : XE} {d : Nat} {x1 : Int32} {H : HH} {Q : Int32 → HH → Prop} (h : p_Model_isVehicle E d x1 H Q) : c_Model_isVehicle E (d + 1) x1 H Q := by
  show g_Model_isVehicle E (d + 1) 0 (xent [vr 30 0, vi x1]) [] H (qi Q)
  refine g_drop (ls2 := [some (vr 30 0), some (vi x1)]) (And.intro rfl (And.intro rfl trivial)) ?_
  refine g_iload_n (q := 1) (i := 1) (by decide +kernel) rfl rfl ?_
  refine g_iconst (n := 0) (v := 0) (by decide +kernel) (by decide) ?_
  refine g_aload_n (q := 0) (i := 0) (by decide +kernel) rfl rfl ?_
  refine g_get (C := "ThreePointsModel") (T := xT_Model) (N := 39) (ci := 10) (k := 3) (v := vi (H 30 0 3)) (by decide +kernel) (by decide) rfl rfl xi_Model (by decide) kw_1029 rfl ?_
  refine g_iconst (n := 1) (v := 1) (by decide +kernel) (by decide) ?_
  refine g_isub (by decide +kernel) ?_
  refine g_callS (vs := [vi x1, vi 0, vi ((H 30 0 3) - 1)]) (st := []) (by decide +kernel) xm_Model_in kw_987 kw_988 rfl rfl (Nat.le_of_ble_eq_true rfl) (Nat.le_of_ble_eq_true rfl) h (fun vH1 H1 hq => ?_)
  obtain ⟨r2, rfl, h⟩ := hq
  obtain ⟨h01, h⟩ := h
  exact g_zret (by decide +kernel) rfl (nbool h01) ⟨_, rfl, h⟩
def p_Model_isBoth (E : XE) (d : Nat) (x1 : Int32) (H : HH) (Q : Int32 → HH → Prop) : Prop := (x1 < 0 → (Q 0 H)) ∧ (¬ x1 < 0 → (c_Model_isPlace E d (x1 / 100) H (fun r2 H1 => (r2 = 0 → (Q 0 H1)) ∧ (¬ r2 = 0 → (((if 16 ≤ (xrem x1 100) then 0 else 1 : Int32) = 0 ∨ (if 16 ≤ (xrem x1 100) then 0 else 1 : Int32) = 1) ∧ Q (if 16 ≤ (xrem x1 100) then 0 else 1 : Int32) H1)))))
set_option maxHeartbeats 4000000 in
theorem l_Model_isBoth {E : XE} {d : Nat} {x1 : Int32} {H : HH} {Q : Int32 → HH → Prop} (h : p_Model_isBoth E d x1 H Q) : c_Model_isBoth E (d + 1) x1 H Q := by
  show g_Model_isBoth E (d + 1) 0 (xent [vr 30 0, vi x1]) [] H (qi Q)
  refine g_drop (ls2 := [some (vr 30 0), some (vi x1)]) (And.intro rfl (And.intro rfl trivial)) ?_
  refine g_iload_n (q := 1) (i := 1) (by decide +kernel) rfl rfl ?_
  refine g_if_lt (off := 27) (tgt := 28) (by decide +kernel) (by decide) (fun c => ?_) (fun c => ?_)
  · replace h := h.1 c
    refine g_iconst (n := 0) (v := 0) (by decide +kernel) (by decide) ?_
    exact g_zret (by decide +kernel) rfl rfl ⟨_, rfl, h⟩
  · replace h := h.2 c
    refine g_aload_n (q := 0) (i := 0) (by decide +kernel) rfl rfl ?_
    refine g_iload_n (q := 1) (i := 1) (by decide +kernel) rfl rfl ?_
    refine g_bipush (n := 100) (v := 100) (by decide +kernel) (by decide) ?_
    refine g_idiv (by decide +kernel) (by decide) ?_
    refine g_callV (kd := 30) (ix := 0) (ci := 10) (N := 39) (T := xT_Model) (vs := [vi (x1 / 100)]) (st := []) (by decide +kernel) xm_Model_isPlace kw_1156 kw_1158 kw_37 (by decide) rfl rfl rfl rfl (Nat.le_of_ble_eq_true rfl) (Nat.le_of_ble_eq_true rfl) h (fun vH1 H1 hq => ?_)
    obtain ⟨r2, rfl, h⟩ := hq
    refine g_if_eq (off := 16) (tgt := 28) (by decide +kernel) (by decide) (fun c => ?_) (fun c => ?_)
    · replace h := h.1 c
      refine g_iconst (n := 0) (v := 0) (by decide +kernel) (by decide) ?_
      exact g_zret (by decide +kernel) rfl rfl ⟨_, rfl, h⟩
    · replace h := h.2 c
      refine g_iload_n (q := 1) (i := 1) (by decide +kernel) rfl rfl ?_
      refine g_bipush (n := 100) (v := 100) (by decide +kernel) (by decide) ?_
      refine g_irem (by decide +kernel) (by decide) ?_
      refine g_bipush (n := 16) (v := 16) (by decide +kernel) (by decide) ?_
      suffices hj3 : g_Model_isBoth E (d + 1) 29 [some (vr 30 0), some (vi x1)] [vi (if 16 ≤ (xrem x1 100) then 0 else 1 : Int32)] H1 (qi Q) by
        refine g_icmp_ge (off := 7) (tgt := 28) (by decide +kernel) (by decide) (fun c => ?_) (fun c => ?_)
        · rw [if_pos c] at hj3
          refine g_iconst (n := 0) (v := 0) (by decide +kernel) (by decide) ?_
          exact hj3
        · rw [if_neg c] at hj3
          refine g_iconst (n := 1) (v := 1) (by decide +kernel) (by decide) ?_
          refine g_goto (off := 4) (tgt := 29) (by decide +kernel) (by decide) ?_
          exact hj3
      obtain ⟨h01, h⟩ := h
      exact g_zret (by decide +kernel) rfl (nbool h01) ⟨_, rfl, h⟩
def p_Model_asks (E : XE) (d : Nat) (x1 : Int32) (x2 : Int32) (x3 : Int32) (x4 : Int32) (H : HH) (Q : Int32 → HH → Prop) : Prop := c_Model_in E d x1 0 2 H (fun r2 H1 => ∃ J3 : Int32 → HH → Prop, ((r2 = 0 → (J3 0 H1)) ∧ (¬ r2 = 0 → (c_Model_isVehicle E d x2 H1 (fun r9 H8 => (r9 = 0 → (J3 0 H8)) ∧ (¬ r9 = 0 → (c_Model_isBoth E d x3 H8 (fun r11 H10 => (r11 = 0 → (J3 0 H10)) ∧ (¬ r11 = 0 → (c_Model_in E d x4 0 11 H10 (fun r13 H12 => (r13 = 0 → (J3 0 H12)) ∧ (¬ r13 = 0 → (J3 (if 2 ≤ (xrem x4 10) then 0 else 1 : Int32) H12)))))))))))) ∧ ∀ (y4 : Int32) (H5 : HH), J3 y4 H5 → ((y4 = 0 → (Q (-2) H5)) ∧ (¬ y4 = 0 → (c_Model_asksOf E d x1 x2 (x3 / 100) (xrem x3 100) (x4 / 10) (xrem x4 10) H5 (fun r7 H6 => Q r7 H6)))))
set_option maxHeartbeats 4000000 in
theorem l_Model_asks {E : XE} {d : Nat} {x1 : Int32} {x2 : Int32} {x3 : Int32} {x4 : Int32} {H : HH} {Q : Int32 → HH → Prop} (h : p_Model_asks E d x1 x2 x3 x4 H Q) : c_Model_asks E (d + 1) x1 x2 x3 x4 H Q := by
  show g_Model_asks E (d + 1) 0 (xent [vr 30 0, vi x1, vi x2, vi x3, vi x4]) [] H (qi Q)
  refine g_drop (ls2 := [some (vr 30 0), some (vi x1), some (vi x2), some (vi x3), some (vi x4), none]) (And.intro rfl (And.intro rfl (And.intro rfl (And.intro rfl (And.intro rfl trivial))))) ?_
  refine g_iload_n (q := 1) (i := 1) (by decide +kernel) rfl rfl ?_
  refine g_iconst (n := 0) (v := 0) (by decide +kernel) (by decide) ?_
  refine g_iconst (n := 2) (v := 2) (by decide +kernel) (by decide) ?_
  refine g_callS (vs := [vi x1, vi 0, vi 2]) (st := []) (by decide +kernel) xm_Model_in kw_987 kw_988 rfl rfl (Nat.le_of_ble_eq_true rfl) (Nat.le_of_ble_eq_true rfl) h (fun vH1 H1 hq => ?_)
  obtain ⟨r2, rfl, h⟩ := hq
  obtain ⟨J3, h, hk3⟩ := h
  have hc3 : ∀ (y4 : Int32) (H5 : HH), J3 y4 H5 → g_Model_asks E (d + 1) 50 [some (vr 30 0), some (vi x1), some (vi x2), some (vi x3), some (vi x4), none] [vi y4] H5 (qi Q) := by
    intro y4 H5 h
    replace h := hk3 y4 H5 h
    refine g_istore (i := 5) (ls2 := [some (vr 30 0), some (vi x1), some (vi x2), some (vi x3), some (vi x4), some (vi y4)]) (by decide +kernel) (by decide) rfl rfl ?_
    refine g_iload (i := 5) (by decide +kernel) rfl ?_
    refine g_if_eq (off := 30) (tgt := 84) (by decide +kernel) (by decide) (fun c => ?_) (fun c => ?_)
    · replace h := h.1 c
      refine g_bipush (n := (-2)) (v := (-2)) (by decide +kernel) (by decide) ?_
      exact g_iret (by decide +kernel) rfl ⟨_, rfl, h⟩
    · replace h := h.2 c
      refine g_aload_n (q := 0) (i := 0) (by decide +kernel) rfl rfl ?_
      refine g_iload_n (q := 1) (i := 1) (by decide +kernel) rfl rfl ?_
      refine g_iload_n (q := 2) (i := 2) (by decide +kernel) rfl rfl ?_
      refine g_iload_n (q := 3) (i := 3) (by decide +kernel) rfl rfl ?_
      refine g_bipush (n := 100) (v := 100) (by decide +kernel) (by decide) ?_
      refine g_idiv (by decide +kernel) (by decide) ?_
      refine g_iload_n (q := 3) (i := 3) (by decide +kernel) rfl rfl ?_
      refine g_bipush (n := 100) (v := 100) (by decide +kernel) (by decide) ?_
      refine g_irem (by decide +kernel) (by decide) ?_
      refine g_iload (i := 4) (by decide +kernel) rfl ?_
      refine g_bipush (n := 10) (v := 10) (by decide +kernel) (by decide) ?_
      refine g_idiv (by decide +kernel) (by decide) ?_
      refine g_iload (i := 4) (by decide +kernel) rfl ?_
      refine g_bipush (n := 10) (v := 10) (by decide +kernel) (by decide) ?_
      refine g_irem (by decide +kernel) (by decide) ?_
      refine g_callV (kd := 30) (ix := 0) (ci := 10) (N := 39) (T := xT_Model) (vs := [vi x1, vi x2, vi (x3 / 100), vi (xrem x3 100), vi (x4 / 10), vi (xrem x4 10)]) (st := []) (by decide +kernel) xm_Model_asksOf kw_1172 kw_1174 kw_41 (by decide) rfl rfl rfl rfl (Nat.le_of_ble_eq_true rfl) (Nat.le_of_ble_eq_true rfl) h (fun vH6 H6 hq => ?_)
      obtain ⟨r7, rfl, h⟩ := hq
      refine g_goto (off := 5) (tgt := 86) (by decide +kernel) (by decide) ?_
      exact g_iret (by decide +kernel) rfl ⟨_, rfl, h⟩
  refine g_if_eq (off := 43) (tgt := 49) (by decide +kernel) (by decide) (fun c => ?_) (fun c => ?_)
  · replace h := h.1 c
    refine g_iconst (n := 0) (v := 0) (by decide +kernel) (by decide) ?_
    exact g_drop (ls2 := [some (vr 30 0), some (vi x1), some (vi x2), some (vi x3), some (vi x4), none]) (And.intro rfl (And.intro rfl (And.intro rfl (And.intro rfl (And.intro rfl trivial))))) (hc3 0 H1 h)
  · replace h := h.2 c
    refine g_aload_n (q := 0) (i := 0) (by decide +kernel) rfl rfl ?_
    refine g_iload_n (q := 2) (i := 2) (by decide +kernel) rfl rfl ?_
    refine g_callV (kd := 30) (ix := 0) (ci := 10) (N := 39) (T := xT_Model) (vs := [vi x2]) (st := []) (by decide +kernel) xm_Model_isVehicle kw_1202 kw_1204 kw_43 (by decide) rfl rfl rfl rfl (Nat.le_of_ble_eq_true rfl) (Nat.le_of_ble_eq_true rfl) h (fun vH8 H8 hq => ?_)
    obtain ⟨r9, rfl, h⟩ := hq
    refine g_if_eq (off := 35) (tgt := 49) (by decide +kernel) (by decide) (fun c => ?_) (fun c => ?_)
    · replace h := h.1 c
      refine g_iconst (n := 0) (v := 0) (by decide +kernel) (by decide) ?_
      exact g_drop (ls2 := [some (vr 30 0), some (vi x1), some (vi x2), some (vi x3), some (vi x4), none]) (And.intro rfl (And.intro rfl (And.intro rfl (And.intro rfl (And.intro rfl trivial))))) (hc3 0 H8 h)
    · replace h := h.2 c
      refine g_aload_n (q := 0) (i := 0) (by decide +kernel) rfl rfl ?_
      refine g_iload_n (q := 3) (i := 3) (by decide +kernel) rfl rfl ?_
      refine g_callV (kd := 30) (ix := 0) (ci := 10) (N := 39) (T := xT_Model) (vs := [vi x3]) (st := []) (by decide +kernel) xm_Model_isBoth kw_1206 kw_1208 kw_44 (by decide) rfl rfl rfl rfl (Nat.le_of_ble_eq_true rfl) (Nat.le_of_ble_eq_true rfl) h (fun vH10 H10 hq => ?_)
      obtain ⟨r11, rfl, h⟩ := hq
      refine g_if_eq (off := 27) (tgt := 49) (by decide +kernel) (by decide) (fun c => ?_) (fun c => ?_)
      · replace h := h.1 c
        refine g_iconst (n := 0) (v := 0) (by decide +kernel) (by decide) ?_
        exact g_drop (ls2 := [some (vr 30 0), some (vi x1), some (vi x2), some (vi x3), some (vi x4), none]) (And.intro rfl (And.intro rfl (And.intro rfl (And.intro rfl (And.intro rfl trivial))))) (hc3 0 H10 h)
      · replace h := h.2 c
        refine g_iload (i := 4) (by decide +kernel) rfl ?_
        refine g_iconst (n := 0) (v := 0) (by decide +kernel) (by decide) ?_
        refine g_bipush (n := 11) (v := 11) (by decide +kernel) (by decide) ?_
        refine g_callS (vs := [vi x4, vi 0, vi 11]) (st := []) (by decide +kernel) xm_Model_in kw_987 kw_988 rfl rfl (Nat.le_of_ble_eq_true rfl) (Nat.le_of_ble_eq_true rfl) h (fun vH12 H12 hq => ?_)
        obtain ⟨r13, rfl, h⟩ := hq
        refine g_if_eq (off := 16) (tgt := 49) (by decide +kernel) (by decide) (fun c => ?_) (fun c => ?_)
        · replace h := h.1 c
          refine g_iconst (n := 0) (v := 0) (by decide +kernel) (by decide) ?_
          exact g_drop (ls2 := [some (vr 30 0), some (vi x1), some (vi x2), some (vi x3), some (vi x4), none]) (And.intro rfl (And.intro rfl (And.intro rfl (And.intro rfl (And.intro rfl trivial))))) (hc3 0 H12 h)
        · replace h := h.2 c
          refine g_iload (i := 4) (by decide +kernel) rfl ?_
          refine g_bipush (n := 10) (v := 10) (by decide +kernel) (by decide) ?_
          refine g_irem (by decide +kernel) (by decide) ?_
          refine g_iconst (n := 2) (v := 2) (by decide +kernel) (by decide) ?_
          suffices hj14 : g_Model_asks E (d + 1) 50 [some (vr 30 0), some (vi x1), some (vi x2), some (vi x3), some (vi x4), none] [vi (if 2 ≤ (xrem x4 10) then 0 else 1 : Int32)] H12 (qi Q) by
            refine g_icmp_ge (off := 7) (tgt := 49) (by decide +kernel) (by decide) (fun c => ?_) (fun c => ?_)
            · rw [if_pos c] at hj14
              refine g_iconst (n := 0) (v := 0) (by decide +kernel) (by decide) ?_
              exact hj14
            · rw [if_neg c] at hj14
              refine g_iconst (n := 1) (v := 1) (by decide +kernel) (by decide) ?_
              refine g_goto (off := 4) (tgt := 50) (by decide +kernel) (by decide) ?_
              exact hj14
          exact g_drop (ls2 := [some (vr 30 0), some (vi x1), some (vi x2), some (vi x3), some (vi x4), none]) (And.intro rfl (And.intro rfl (And.intro rfl (And.intro rfl (And.intro rfl trivial))))) (hc3 (if 2 ≤ (xrem x4 10) then 0 else 1 : Int32) H12 h)
def p_Model_placeBy (E : XE) (d : Nat) (x1 : Int32) (x2 : Int32) (x3 : Int32) (H : HH) (Q : Int32 → HH → Prop) : Prop := (¬ x3 = 0 → (vp_in x2 16 ∧ (Q (x1 - ((H 31 0 (x2.toNatClampNeg)) / 2)) H))) ∧ (x3 = 0 → (vp_in x2 16 ∧ (Q (x1 + ((H 31 0 (x2.toNatClampNeg)) / 2)) H)))
set_option maxHeartbeats 4000000 in
theorem l_Model_placeBy {E : XE} {d : Nat} {x1 : Int32} {x2 : Int32} {x3 : Int32} {H : HH} {Q : Int32 → HH → Prop} (h : p_Model_placeBy E d x1 x2 x3 H Q) : c_Model_placeBy E d x1 x2 x3 H Q := by
  show g_Model_placeBy E d 0 (xent [vr 30 0, vi x1, vi x2, vi x3]) [] H (qi Q)
  refine g_drop (ls2 := [some (vr 30 0), some (vi x1), some (vi x2), some (vi x3)]) (And.intro rfl (And.intro rfl (And.intro rfl (And.intro rfl trivial)))) ?_
  refine g_iload_n (q := 3) (i := 3) (by decide +kernel) rfl rfl ?_
  refine g_if_ne (off := 16) (tgt := 17) (by decide +kernel) (by decide) (fun c => ?_) (fun c => ?_)
  · replace h := h.1 c
    refine g_iload_n (q := 1) (i := 1) (by decide +kernel) rfl rfl ?_
    refine g_aload_n (q := 0) (i := 0) (by decide +kernel) rfl rfl ?_
    refine g_get (C := "ThreePointsModel") (T := xT_Model) (N := 39) (ci := 10) (k := 0) (v := vr 31 0) (by decide +kernel) (by decide) rfl rfl xi_Model (by decide) kw_1026 rfl ?_
    refine g_iload_n (q := 2) (i := 2) (by decide +kernel) rfl rfl ?_
    obtain ⟨hin, h⟩ := h
    refine g_iald (by decide +kernel) (by decide) rfl hin ?_
    refine g_iconst (n := 2) (v := 2) (by decide +kernel) (by decide) ?_
    refine g_idiv (by decide +kernel) (by decide) ?_
    refine g_isub (by decide +kernel) ?_
    exact g_iret (by decide +kernel) rfl ⟨_, rfl, h⟩
  · replace h := h.2 c
    refine g_iload_n (q := 1) (i := 1) (by decide +kernel) rfl rfl ?_
    refine g_aload_n (q := 0) (i := 0) (by decide +kernel) rfl rfl ?_
    refine g_get (C := "ThreePointsModel") (T := xT_Model) (N := 39) (ci := 10) (k := 0) (v := vr 31 0) (by decide +kernel) (by decide) rfl rfl xi_Model (by decide) kw_1026 rfl ?_
    refine g_iload_n (q := 2) (i := 2) (by decide +kernel) rfl rfl ?_
    obtain ⟨hin, h⟩ := h
    refine g_iald (by decide +kernel) (by decide) rfl hin ?_
    refine g_iconst (n := 2) (v := 2) (by decide +kernel) (by decide) ?_
    refine g_idiv (by decide +kernel) (by decide) ?_
    refine g_iadd (by decide +kernel) ?_
    refine g_goto (off := 13) (tgt := 27) (by decide +kernel) (by decide) ?_
    exact g_iret (by decide +kernel) rfl ⟨_, rfl, h⟩
def p_Model_turnsOf (E : XE) (d : Nat) (x1 : Int32) (x2 : Int32) (x3 : Int32) (H : HH) (Q : Int32 → HH → Prop) : Prop := ∀ v2 : Int32, v2 = (if x2 = 0 then x3 else (-x3) : Int32) → (vp_in x1 4 ∧ (((H 32 0 (x1.toNatClampNeg)) = 3 → ((¬ x2 = 0 → (vp_in x1 4 ∧ (Q (if (H 33 0 (x1.toNatClampNeg)) ≤ 4 then x3 else 0 : Int32) H))) ∧ (x2 = 0 → (Q x3 H)))) ∧ ((H 32 0 (x1.toNatClampNeg)) = 4 → (Q (2 * v2) H)) ∧ ((H 32 0 (x1.toNatClampNeg)) = 5 → (vp_in x1 4 ∧ (Q (if (if x3 ≤ 0 then 0 else 1 : Int32) = (if (xrem (H 33 0 (x1.toNatClampNeg)) 2) = 0 then 1 else 0 : Int32) then v2 else 0 : Int32) H))) ∧ (¬ (H 32 0 (x1.toNatClampNeg)) = 3 → ¬ (H 32 0 (x1.toNatClampNeg)) = 4 → ¬ (H 32 0 (x1.toNatClampNeg)) = 5 → (Q v2 H))))
set_option maxHeartbeats 4000000 in
theorem l_Model_turnsOf {E : XE} {d : Nat} {x1 : Int32} {x2 : Int32} {x3 : Int32} {H : HH} {Q : Int32 → HH → Prop} (h : p_Model_turnsOf E d x1 x2 x3 H Q) : c_Model_turnsOf E d x1 x2 x3 H Q := by
  show g_Model_turnsOf E d 0 (xent [vr 30 0, vi x1, vi x2, vi x3]) [] H (qi Q)
  refine g_drop (ls2 := [some (vr 30 0), some (vi x1), some (vi x2), some (vi x3), none]) (And.intro rfl (And.intro rfl (And.intro rfl (And.intro rfl trivial)))) ?_
  refine g_iload_n (q := 2) (i := 2) (by decide +kernel) rfl rfl ?_
  suffices hj1 : g_Model_turnsOf E d 10 [some (vr 30 0), some (vi x1), some (vi x2), some (vi x3), none] [vi (if x2 = 0 then x3 else (-x3) : Int32)] H (qi Q) by
    refine g_if_ne (off := 7) (tgt := 8) (by decide +kernel) (by decide) (fun c => ?_) (fun c => ?_)
    · rw [if_neg c] at hj1
      refine g_iload_n (q := 3) (i := 3) (by decide +kernel) rfl rfl ?_
      refine g_ineg (by decide +kernel) ?_
      exact hj1
    · rw [if_pos c] at hj1
      refine g_iload_n (q := 3) (i := 3) (by decide +kernel) rfl rfl ?_
      refine g_goto (off := 5) (tgt := 10) (by decide +kernel) (by decide) ?_
      exact hj1
  refine g_topi (fun v2 ev2 => ?_)
  replace h := h v2 ev2
  refine g_istore (i := 4) (ls2 := [some (vr 30 0), some (vi x1), some (vi x2), some (vi x3), some (vi v2)]) (by decide +kernel) (by decide) rfl rfl ?_
  refine g_aload_n (q := 0) (i := 0) (by decide +kernel) rfl rfl ?_
  refine g_get (C := "ThreePointsModel") (T := xT_Model) (N := 39) (ci := 10) (k := 4) (v := vr 32 0) (by decide +kernel) (by decide) rfl rfl xi_Model (by decide) kw_1030 rfl ?_
  refine g_iload_n (q := 1) (i := 1) (by decide +kernel) rfl rfl ?_
  obtain ⟨hin, h⟩ := h
  refine g_iald (by decide +kernel) (by decide) rfl hin ?_
  obtain ⟨hk, h⟩ := h
  by_cases e3 : (H 32 0 (x1.toNatClampNeg)) = 3
  · replace h := hk e3
    refine g_tableIn (dflt := 90) (lo := 3) (hi := 5) (offs := #[26, 50, 55]) (len := 26) (tgt := 44) (by decide +kernel) (by rw [e3]; decide) (by rw [e3]; decide) (by rw [e3]; rfl) (by decide) ?_
    refine g_iload_n (q := 2) (i := 2) (by decide +kernel) rfl rfl ?_
    refine g_if_ne (off := 7) (tgt := 52) (by decide +kernel) (by decide) (fun c => ?_) (fun c => ?_)
    · replace h := h.1 c
      refine g_aload_n (q := 0) (i := 0) (by decide +kernel) rfl rfl ?_
      refine g_get (C := "ThreePointsModel") (T := xT_Model) (N := 39) (ci := 10) (k := 5) (v := vr 33 0) (by decide +kernel) (by decide) rfl rfl xi_Model (by decide) kw_1031 rfl ?_
      refine g_iload_n (q := 1) (i := 1) (by decide +kernel) rfl rfl ?_
      obtain ⟨hin, h⟩ := h
      refine g_iald (by decide +kernel) (by decide) rfl hin ?_
      refine g_iconst (n := 4) (v := 4) (by decide +kernel) (by decide) ?_
      suffices hj3 : g_Model_turnsOf E d 67 [some (vr 30 0), some (vi x1), some (vi x2), some (vi x3), some (vi v2)] [vi (if (H 33 0 (x1.toNatClampNeg)) ≤ 4 then x3 else 0 : Int32)] H (qi Q) by
        refine g_icmp_le (off := 7) (tgt := 66) (by decide +kernel) (by decide) (fun c => ?_) (fun c => ?_)
        · rw [if_pos c] at hj3
          refine g_iload_n (q := 3) (i := 3) (by decide +kernel) rfl rfl ?_
          exact hj3
        · rw [if_neg c] at hj3
          refine g_iconst (n := 0) (v := 0) (by decide +kernel) (by decide) ?_
          refine g_goto (off := 4) (tgt := 67) (by decide +kernel) (by decide) ?_
          exact hj3
      exact g_iret (by decide +kernel) rfl ⟨_, rfl, h⟩
    · replace h := h.2 c
      refine g_iload_n (q := 3) (i := 3) (by decide +kernel) rfl rfl ?_
      refine g_goto (off := 18) (tgt := 67) (by decide +kernel) (by decide) ?_
      exact g_iret (by decide +kernel) rfl ⟨_, rfl, h⟩
  clear hk
  obtain ⟨hk, h⟩ := h
  by_cases e4 : (H 32 0 (x1.toNatClampNeg)) = 4
  · replace h := hk e4
    refine g_tableIn (dflt := 90) (lo := 3) (hi := 5) (offs := #[26, 50, 55]) (len := 26) (tgt := 68) (by decide +kernel) (by rw [e4]; decide) (by rw [e4]; decide) (by rw [e4]; rfl) (by decide) ?_
    refine g_iconst (n := 2) (v := 2) (by decide +kernel) (by decide) ?_
    refine g_iload (i := 4) (by decide +kernel) rfl ?_
    refine g_imul (by decide +kernel) ?_
    exact g_iret (by decide +kernel) rfl ⟨_, rfl, h⟩
  clear hk
  obtain ⟨hk, h⟩ := h
  by_cases e5 : (H 32 0 (x1.toNatClampNeg)) = 5
  · replace h := hk e5
    refine g_tableIn (dflt := 90) (lo := 3) (hi := 5) (offs := #[26, 50, 55]) (len := 26) (tgt := 73) (by decide +kernel) (by rw [e5]; decide) (by rw [e5]; decide) (by rw [e5]; rfl) (by decide) ?_
    refine g_iload_n (q := 3) (i := 3) (by decide +kernel) rfl rfl ?_
    suffices hj4 : g_Model_turnsOf E d 82 [some (vr 30 0), some (vi x1), some (vi x2), some (vi x3), some (vi v2)] [vi (if x3 ≤ 0 then 0 else 1 : Int32)] H (qi Q) by
      refine g_if_le (off := 7) (tgt := 81) (by decide +kernel) (by decide) (fun c => ?_) (fun c => ?_)
      · rw [if_pos c] at hj4
        refine g_iconst (n := 0) (v := 0) (by decide +kernel) (by decide) ?_
        exact hj4
      · rw [if_neg c] at hj4
        refine g_iconst (n := 1) (v := 1) (by decide +kernel) (by decide) ?_
        refine g_goto (off := 4) (tgt := 82) (by decide +kernel) (by decide) ?_
        exact hj4
    refine g_aload_n (q := 0) (i := 0) (by decide +kernel) rfl rfl ?_
    refine g_get (C := "ThreePointsModel") (T := xT_Model) (N := 39) (ci := 10) (k := 5) (v := vr 33 0) (by decide +kernel) (by decide) rfl rfl xi_Model (by decide) kw_1031 rfl ?_
    refine g_iload_n (q := 1) (i := 1) (by decide +kernel) rfl rfl ?_
    obtain ⟨hin, h⟩ := h
    refine g_iald (by decide +kernel) (by decide) rfl hin ?_
    refine g_iconst (n := 2) (v := 2) (by decide +kernel) (by decide) ?_
    refine g_irem (by decide +kernel) (by decide) ?_
    suffices hj5 : g_Model_turnsOf E d 98 [some (vr 30 0), some (vi x1), some (vi x2), some (vi x3), some (vi v2)] [vi (if (xrem (H 33 0 (x1.toNatClampNeg)) 2) = 0 then 1 else 0 : Int32), vi (if x3 ≤ 0 then 0 else 1 : Int32)] H (qi Q) by
      refine g_if_ne (off := 7) (tgt := 97) (by decide +kernel) (by decide) (fun c => ?_) (fun c => ?_)
      · rw [if_neg c] at hj5
        refine g_iconst (n := 0) (v := 0) (by decide +kernel) (by decide) ?_
        exact hj5
      · rw [if_pos c] at hj5
        refine g_iconst (n := 1) (v := 1) (by decide +kernel) (by decide) ?_
        refine g_goto (off := 4) (tgt := 98) (by decide +kernel) (by decide) ?_
        exact hj5
    suffices hj6 : g_Model_turnsOf E d 107 [some (vr 30 0), some (vi x1), some (vi x2), some (vi x3), some (vi v2)] [vi (if (if x3 ≤ 0 then 0 else 1 : Int32) = (if (xrem (H 33 0 (x1.toNatClampNeg)) 2) = 0 then 1 else 0 : Int32) then v2 else 0 : Int32)] H (qi Q) by
      refine g_icmp_ne (off := 8) (tgt := 106) (by decide +kernel) (by decide) (fun c => ?_) (fun c => ?_)
      · rw [if_neg c] at hj6
        refine g_iconst (n := 0) (v := 0) (by decide +kernel) (by decide) ?_
        exact hj6
      · rw [if_pos c] at hj6
        refine g_iload (i := 4) (by decide +kernel) rfl ?_
        refine g_goto (off := 4) (tgt := 107) (by decide +kernel) (by decide) ?_
        exact hj6
    exact g_iret (by decide +kernel) rfl ⟨_, rfl, h⟩
  clear hk
  replace h := h e3 e4 e5
  refine g_tableOut (dflt := 90) (lo := 3) (hi := 5) (offs := #[26, 50, 55]) (len := 26) (tgt := 108) (by decide +kernel) (by have q3 := xsw (m := 3) (by decide) e3; have q4 := xsw (m := 4) (by decide) e4; have q5 := xsw (m := 5) (by decide) e5; omega) (by decide) ?_
  refine g_iload (i := 4) (by decide +kernel) rfl ?_
  exact g_iret (by decide +kernel) rfl ⟨_, rfl, h⟩
def p_Model_headingBy (E : XE) (d : Nat) (x1 : Int32) (x2 : Int32) (x3 : Int32) (x4 : Int32) (H : HH) (Q : Int32 → HH → Prop) : Prop := c_Model_turnsOf E d x1 x3 x4 H (fun r2 H1 => Q (xrem ((x2 + r2) + 16) 16) H1)
set_option maxHeartbeats 4000000 in
theorem l_Model_headingBy {E : XE} {d : Nat} {x1 : Int32} {x2 : Int32} {x3 : Int32} {x4 : Int32} {H : HH} {Q : Int32 → HH → Prop} (h : p_Model_headingBy E d x1 x2 x3 x4 H Q) : c_Model_headingBy E (d + 1) x1 x2 x3 x4 H Q := by
  show g_Model_headingBy E (d + 1) 0 (xent [vr 30 0, vi x1, vi x2, vi x3, vi x4]) [] H (qi Q)
  refine g_drop (ls2 := [some (vr 30 0), some (vi x1), some (vi x2), some (vi x3), some (vi x4)]) (And.intro rfl (And.intro rfl (And.intro rfl (And.intro rfl (And.intro rfl trivial))))) ?_
  refine g_iload_n (q := 2) (i := 2) (by decide +kernel) rfl rfl ?_
  refine g_aload_n (q := 0) (i := 0) (by decide +kernel) rfl rfl ?_
  refine g_iload_n (q := 1) (i := 1) (by decide +kernel) rfl rfl ?_
  refine g_iload_n (q := 3) (i := 3) (by decide +kernel) rfl rfl ?_
  refine g_iload (i := 4) (by decide +kernel) rfl ?_
  refine g_callV (kd := 30) (ix := 0) (ci := 10) (N := 39) (T := xT_Model) (vs := [vi x1, vi x3, vi x4]) (st := [vi x2]) (by decide +kernel) xm_Model_turnsOf kw_1238 kw_1240 kw_48 (by decide) rfl rfl rfl rfl (Nat.le_of_ble_eq_true rfl) (Nat.le_of_ble_eq_true rfl) h (fun vH1 H1 hq => ?_)
  obtain ⟨r2, rfl, h⟩ := hq
  refine g_iadd (by decide +kernel) ?_
  refine g_bipush (n := 16) (v := 16) (by decide +kernel) (by decide) ?_
  refine g_iadd (by decide +kernel) ?_
  refine g_bipush (n := 16) (v := 16) (by decide +kernel) (by decide) ?_
  refine g_irem (by decide +kernel) (by decide) ?_
  exact g_iret (by decide +kernel) rfl ⟨_, rfl, h⟩
def p_Model_canGo (E : XE) (d : Nat) (x1 : Int32) (x2 : Int32) (x3 : Int32) (H : HH) (Q : Int32 → HH → Prop) : Prop := vp_in (5 * x1) 20 ∧ (vp_in ((5 * x1) + 1) 20 ∧ (c_Model_placeBy E d (H 34 0 ((5 * x1).toNatClampNeg)) (H 34 0 (((5 * x1) + 1).toNatClampNeg)) x2 H (fun r2 H1 => c_Model_isPlace E d r2 H1 (fun r4 H3 => (r4 = 0 → (Q 0 H3)) ∧ (¬ r4 = 0 → (vp_in ((5 * x1) + 1) 20 ∧ (c_Model_headingBy E d x1 (H3 34 0 (((5 * x1) + 1).toNatClampNeg)) x2 x3 H3 (fun r6 H5 => c_Model_fitsAt E d x1 r2 r6 H5 (fun r8 H7 => ((if r8 = 0 then 0 else 1 : Int32) = 0 ∨ (if r8 = 0 then 0 else 1 : Int32) = 1) ∧ Q (if r8 = 0 then 0 else 1 : Int32) H7)))))))))
set_option maxHeartbeats 4000000 in
theorem l_Model_canGo {E : XE} {d : Nat} {x1 : Int32} {x2 : Int32} {x3 : Int32} {H : HH} {Q : Int32 → HH → Prop} (h : p_Model_canGo E d x1 x2 x3 H Q) : c_Model_canGo E (d + 1) x1 x2 x3 H Q := by
  show g_Model_canGo E (d + 1) 0 (xent [vr 30 0, vi x1, vi x2, vi x3]) [] H (qi Q)
  refine g_drop (ls2 := [some (vr 30 0), some (vi x1), some (vi x2), some (vi x3), none]) (And.intro rfl (And.intro rfl (And.intro rfl (And.intro rfl trivial)))) ?_
  refine g_aload_n (q := 0) (i := 0) (by decide +kernel) rfl rfl ?_
  refine g_aload_n (q := 0) (i := 0) (by decide +kernel) rfl rfl ?_
  refine g_get (C := "ThreePointsModel") (T := xT_Model) (N := 39) (ci := 10) (k := 6) (v := vr 34 0) (by decide +kernel) (by decide) rfl rfl xi_Model (by decide) kw_1032 rfl ?_
  refine g_iconst (n := 5) (v := 5) (by decide +kernel) (by decide) ?_
  refine g_iload_n (q := 1) (i := 1) (by decide +kernel) rfl rfl ?_
  refine g_imul (by decide +kernel) ?_
  obtain ⟨hin, h⟩ := h
  refine g_iald (by decide +kernel) (by decide) rfl hin ?_
  refine g_aload_n (q := 0) (i := 0) (by decide +kernel) rfl rfl ?_
  refine g_get (C := "ThreePointsModel") (T := xT_Model) (N := 39) (ci := 10) (k := 6) (v := vr 34 0) (by decide +kernel) (by decide) rfl rfl xi_Model (by decide) kw_1032 rfl ?_
  refine g_iconst (n := 5) (v := 5) (by decide +kernel) (by decide) ?_
  refine g_iload_n (q := 1) (i := 1) (by decide +kernel) rfl rfl ?_
  refine g_imul (by decide +kernel) ?_
  refine g_iconst (n := 1) (v := 1) (by decide +kernel) (by decide) ?_
  refine g_iadd (by decide +kernel) ?_
  obtain ⟨hin, h⟩ := h
  refine g_iald (by decide +kernel) (by decide) rfl hin ?_
  refine g_iload_n (q := 2) (i := 2) (by decide +kernel) rfl rfl ?_
  refine g_callV (kd := 30) (ix := 0) (ci := 10) (N := 39) (T := xT_Model) (vs := [vi (H 34 0 ((5 * x1).toNatClampNeg)), vi (H 34 0 (((5 * x1) + 1).toNatClampNeg)), vi x2]) (st := []) (by decide +kernel) xm_Model_placeBy kw_1230 kw_1232 kw_46 (by decide) rfl rfl rfl rfl (Nat.le_of_ble_eq_true rfl) (Nat.le_of_ble_eq_true rfl) h (fun vH1 H1 hq => ?_)
  obtain ⟨r2, rfl, h⟩ := hq
  refine g_istore (i := 4) (ls2 := [some (vr 30 0), some (vi x1), some (vi x2), some (vi x3), some (vi r2)]) (by decide +kernel) (by decide) rfl rfl ?_
  refine g_aload_n (q := 0) (i := 0) (by decide +kernel) rfl rfl ?_
  refine g_iload (i := 4) (by decide +kernel) rfl ?_
  refine g_callV (kd := 30) (ix := 0) (ci := 10) (N := 39) (T := xT_Model) (vs := [vi r2]) (st := []) (by decide +kernel) xm_Model_isPlace kw_1156 kw_1158 kw_37 (by decide) rfl rfl rfl rfl (Nat.le_of_ble_eq_true rfl) (Nat.le_of_ble_eq_true rfl) h (fun vH3 H3 hq => ?_)
  obtain ⟨r4, rfl, h⟩ := hq
  refine g_if_eq (off := 34) (tgt := 65) (by decide +kernel) (by decide) (fun c => ?_) (fun c => ?_)
  · replace h := h.1 c
    refine g_iconst (n := 0) (v := 0) (by decide +kernel) (by decide) ?_
    exact g_zret (by decide +kernel) rfl rfl ⟨_, rfl, h⟩
  · replace h := h.2 c
    refine g_aload_n (q := 0) (i := 0) (by decide +kernel) rfl rfl ?_
    refine g_iload_n (q := 1) (i := 1) (by decide +kernel) rfl rfl ?_
    refine g_iload (i := 4) (by decide +kernel) rfl ?_
    refine g_aload_n (q := 0) (i := 0) (by decide +kernel) rfl rfl ?_
    refine g_iload_n (q := 1) (i := 1) (by decide +kernel) rfl rfl ?_
    refine g_aload_n (q := 0) (i := 0) (by decide +kernel) rfl rfl ?_
    refine g_get (C := "ThreePointsModel") (T := xT_Model) (N := 39) (ci := 10) (k := 6) (v := vr 34 0) (by decide +kernel) (by decide) rfl rfl xi_Model (by decide) kw_1032 rfl ?_
    refine g_iconst (n := 5) (v := 5) (by decide +kernel) (by decide) ?_
    refine g_iload_n (q := 1) (i := 1) (by decide +kernel) rfl rfl ?_
    refine g_imul (by decide +kernel) ?_
    refine g_iconst (n := 1) (v := 1) (by decide +kernel) (by decide) ?_
    refine g_iadd (by decide +kernel) ?_
    obtain ⟨hin, h⟩ := h
    refine g_iald (by decide +kernel) (by decide) rfl hin ?_
    refine g_iload_n (q := 2) (i := 2) (by decide +kernel) rfl rfl ?_
    refine g_iload_n (q := 3) (i := 3) (by decide +kernel) rfl rfl ?_
    refine g_callV (kd := 30) (ix := 0) (ci := 10) (N := 39) (T := xT_Model) (vs := [vi x1, vi (H3 34 0 (((5 * x1) + 1).toNatClampNeg)), vi x2, vi x3]) (st := [vi r2, vi x1, vr 30 0]) (by decide +kernel) xm_Model_headingBy kw_1234 kw_1236 kw_47 (by decide) rfl rfl rfl rfl (Nat.le_of_ble_eq_true rfl) (Nat.le_of_ble_eq_true rfl) h (fun vH5 H5 hq => ?_)
    obtain ⟨r6, rfl, h⟩ := hq
    refine g_callV (kd := 30) (ix := 0) (ci := 10) (N := 39) (T := xT_Model) (vs := [vi x1, vi r2, vi r6]) (st := []) (by decide +kernel) xm_Model_fitsAt kw_1160 kw_1162 kw_38 (by decide) rfl rfl rfl rfl (Nat.le_of_ble_eq_true rfl) (Nat.le_of_ble_eq_true rfl) h (fun vH7 H7 hq => ?_)
    obtain ⟨r8, rfl, h⟩ := hq
    suffices hj9 : g_Model_canGo E (d + 1) 66 [some (vr 30 0), some (vi x1), some (vi x2), some (vi x3), some (vi r2)] [vi (if r8 = 0 then 0 else 1 : Int32)] H7 (qi Q) by
      refine g_if_eq (off := 7) (tgt := 65) (by decide +kernel) (by decide) (fun c => ?_) (fun c => ?_)
      · rw [if_pos c] at hj9
        refine g_iconst (n := 0) (v := 0) (by decide +kernel) (by decide) ?_
        exact hj9
      · rw [if_neg c] at hj9
        refine g_iconst (n := 1) (v := 1) (by decide +kernel) (by decide) ?_
        refine g_goto (off := 4) (tgt := 66) (by decide +kernel) (by decide) ?_
        exact hj9
    obtain ⟨h01, h⟩ := h
    exact g_zret (by decide +kernel) rfl (nbool h01) ⟨_, rfl, h⟩
def p_Model_goes (E : XE) (d : Nat) (x1 : Int32) (x2 : Int32) (x3 : Int32) (H : HH) (Q : HH → Prop) : Prop := vp_in (5 * x1) 20 ∧ (∀ v1 : Int32, v1 = (H 34 0 ((5 * x1).toNatClampNeg)) → (vp_in ((5 * x1) + 1) 20 ∧ (∀ v2 : Int32, v2 = (H 34 0 (((5 * x1) + 1).toNatClampNeg)) → (vp_in ((5 * x1) + 3) 20 ∧ (c_Model_asksOf E d 1 x1 v1 v2 0 (if x3 = 0 then 0 else 1 : Int32) H (fun r5 H4 => c_Model_within E d ((H 34 0 (((5 * x1) + 3).toNatClampNeg)) + r5) 0 9999 H4 (fun r7 H6 => vp_in ((5 * x1) + 3) 20 ∧ (vp_in ((5 * x1) + 2) 20 ∧ (∀ H8 : HH, H8 = (hu H6 34 0 (((5 * x1) + 3).toNatClampNeg) r7) → (vp_in ((5 * x1) + 4) 20 ∧ (c_Model_within E d ((H8 34 0 (((5 * x1) + 2).toNatClampNeg)) + (if (H8 34 0 (((5 * x1) + 4).toNatClampNeg)) = x2 then 0 else 1 : Int32)) 0 9999 H8 (fun r11 H10 => vp_in ((5 * x1) + 2) 20 ∧ (∀ H12 : HH, H12 = (hu H10 34 0 (((5 * x1) + 2).toNatClampNeg) r11) → (c_Model_placeBy E d v1 v2 x2 H12 (fun r14 H13 => vp_in (5 * x1) 20 ∧ (∀ H15 : HH, H15 = (hu H13 34 0 ((5 * x1).toNatClampNeg) r14) → (c_Model_headingBy E d x1 v2 x2 x3 H15 (fun r17 H16 => vp_in ((5 * x1) + 1) 20 ∧ (vp_in ((5 * x1) + 4) 20 ∧ (∀ H18 : HH, H18 = (hu (hu H16 34 0 (((5 * x1) + 1).toNatClampNeg) r17) 34 0 (((5 * x1) + 4).toNatClampNeg) x2) → (Q H18)))))))))))))))))))))
set_option maxHeartbeats 4000000 in
theorem l_Model_goes {E : XE} {d : Nat} {x1 : Int32} {x2 : Int32} {x3 : Int32} {H : HH} {Q : HH → Prop} (h : p_Model_goes E d x1 x2 x3 H Q) : c_Model_goes E (d + 1) x1 x2 x3 H Q := by
  show g_Model_goes E (d + 1) 0 (xent [vr 30 0, vi x1, vi x2, vi x3]) [] H (qv Q)
  refine g_drop (ls2 := [some (vr 30 0), some (vi x1), some (vi x2), some (vi x3), none, none]) (And.intro rfl (And.intro rfl (And.intro rfl (And.intro rfl trivial)))) ?_
  refine g_aload_n (q := 0) (i := 0) (by decide +kernel) rfl rfl ?_
  refine g_get (C := "ThreePointsModel") (T := xT_Model) (N := 39) (ci := 10) (k := 6) (v := vr 34 0) (by decide +kernel) (by decide) rfl rfl xi_Model (by decide) kw_1032 rfl ?_
  refine g_iconst (n := 5) (v := 5) (by decide +kernel) (by decide) ?_
  refine g_iload_n (q := 1) (i := 1) (by decide +kernel) rfl rfl ?_
  refine g_imul (by decide +kernel) ?_
  obtain ⟨hin, h⟩ := h
  refine g_iald (by decide +kernel) (by decide) rfl hin ?_
  refine g_topi (fun v1 ev1 => ?_)
  replace h := h v1 ev1
  refine g_istore (i := 4) (ls2 := [some (vr 30 0), some (vi x1), some (vi x2), some (vi x3), some (vi v1), none]) (by decide +kernel) (by decide) rfl rfl ?_
  refine g_aload_n (q := 0) (i := 0) (by decide +kernel) rfl rfl ?_
  refine g_get (C := "ThreePointsModel") (T := xT_Model) (N := 39) (ci := 10) (k := 6) (v := vr 34 0) (by decide +kernel) (by decide) rfl rfl xi_Model (by decide) kw_1032 rfl ?_
  refine g_iconst (n := 5) (v := 5) (by decide +kernel) (by decide) ?_
  refine g_iload_n (q := 1) (i := 1) (by decide +kernel) rfl rfl ?_
  refine g_imul (by decide +kernel) ?_
  refine g_iconst (n := 1) (v := 1) (by decide +kernel) (by decide) ?_
  refine g_iadd (by decide +kernel) ?_
  obtain ⟨hin, h⟩ := h
  refine g_iald (by decide +kernel) (by decide) rfl hin ?_
  refine g_topi (fun v2 ev2 => ?_)
  replace h := h v2 ev2
  refine g_istore (i := 5) (ls2 := [some (vr 30 0), some (vi x1), some (vi x2), some (vi x3), some (vi v1), some (vi v2)]) (by decide +kernel) (by decide) rfl rfl ?_
  refine g_aload_n (q := 0) (i := 0) (by decide +kernel) rfl rfl ?_
  refine g_get (C := "ThreePointsModel") (T := xT_Model) (N := 39) (ci := 10) (k := 6) (v := vr 34 0) (by decide +kernel) (by decide) rfl rfl xi_Model (by decide) kw_1032 rfl ?_
  refine g_iconst (n := 5) (v := 5) (by decide +kernel) (by decide) ?_
  refine g_iload_n (q := 1) (i := 1) (by decide +kernel) rfl rfl ?_
  refine g_imul (by decide +kernel) ?_
  refine g_iconst (n := 3) (v := 3) (by decide +kernel) (by decide) ?_
  refine g_iadd (by decide +kernel) ?_
  refine g_aload_n (q := 0) (i := 0) (by decide +kernel) rfl rfl ?_
  refine g_get (C := "ThreePointsModel") (T := xT_Model) (N := 39) (ci := 10) (k := 6) (v := vr 34 0) (by decide +kernel) (by decide) rfl rfl xi_Model (by decide) kw_1032 rfl ?_
  refine g_iconst (n := 5) (v := 5) (by decide +kernel) (by decide) ?_
  refine g_iload_n (q := 1) (i := 1) (by decide +kernel) rfl rfl ?_
  refine g_imul (by decide +kernel) ?_
  refine g_iconst (n := 3) (v := 3) (by decide +kernel) (by decide) ?_
  refine g_iadd (by decide +kernel) ?_
  obtain ⟨hin, h⟩ := h
  refine g_iald (by decide +kernel) (by decide) rfl hin ?_
  refine g_aload_n (q := 0) (i := 0) (by decide +kernel) rfl rfl ?_
  refine g_iconst (n := 1) (v := 1) (by decide +kernel) (by decide) ?_
  refine g_iload_n (q := 1) (i := 1) (by decide +kernel) rfl rfl ?_
  refine g_iload (i := 4) (by decide +kernel) rfl ?_
  refine g_iload (i := 5) (by decide +kernel) rfl ?_
  refine g_iconst (n := 0) (v := 0) (by decide +kernel) (by decide) ?_
  refine g_iload_n (q := 3) (i := 3) (by decide +kernel) rfl rfl ?_
  suffices hj3 : g_Model_goes E (d + 1) 58 [some (vr 30 0), some (vi x1), some (vi x2), some (vi x3), some (vi v1), some (vi v2)] [vi (if x3 = 0 then 0 else 1 : Int32), vi 0, vi v2, vi v1, vi x1, vi 1, vr 30 0, vi (H 34 0 (((5 * x1) + 3).toNatClampNeg)), vi ((5 * x1) + 3), vr 34 0] H (qv Q) by
    refine g_if_ne (off := 7) (tgt := 57) (by decide +kernel) (by decide) (fun c => ?_) (fun c => ?_)
    · rw [if_neg c] at hj3
      refine g_iconst (n := 1) (v := 1) (by decide +kernel) (by decide) ?_
      exact hj3
    · rw [if_pos c] at hj3
      refine g_iconst (n := 0) (v := 0) (by decide +kernel) (by decide) ?_
      refine g_goto (off := 4) (tgt := 58) (by decide +kernel) (by decide) ?_
      exact hj3
  refine g_callV (kd := 30) (ix := 0) (ci := 10) (N := 39) (T := xT_Model) (vs := [vi 1, vi x1, vi v1, vi v2, vi 0, vi (if x3 = 0 then 0 else 1 : Int32)]) (st := [vi (H 34 0 (((5 * x1) + 3).toNatClampNeg)), vi ((5 * x1) + 3), vr 34 0]) (by decide +kernel) xm_Model_asksOf kw_1172 kw_1174 kw_41 (by decide) rfl rfl rfl rfl (Nat.le_of_ble_eq_true rfl) (Nat.le_of_ble_eq_true rfl) h (fun vH4 H4 hq => ?_)
  obtain ⟨r5, rfl, h⟩ := hq
  refine g_iadd (by decide +kernel) ?_
  refine g_iconst (n := 0) (v := 0) (by decide +kernel) (by decide) ?_
  refine g_sipush (n := 9999) (v := 9999) (by decide +kernel) (by decide) ?_
  refine g_callS (vs := [vi ((H 34 0 (((5 * x1) + 3).toNatClampNeg)) + r5), vi 0, vi 9999]) (st := [vi ((5 * x1) + 3), vr 34 0]) (by decide +kernel) xm_Model_within kw_1183 kw_1184 rfl rfl (Nat.le_of_ble_eq_true rfl) (Nat.le_of_ble_eq_true rfl) h (fun vH6 H6 hq => ?_)
  obtain ⟨r7, rfl, h⟩ := hq
  obtain ⟨hin, h⟩ := h
  refine g_iast (by decide +kernel) (by decide) rfl hin ?_
  refine g_aload_n (q := 0) (i := 0) (by decide +kernel) rfl rfl ?_
  refine g_get (C := "ThreePointsModel") (T := xT_Model) (N := 39) (ci := 10) (k := 6) (v := vr 34 0) (by decide +kernel) (by decide) rfl rfl xi_Model (by decide) kw_1032 rfl ?_
  refine g_iconst (n := 5) (v := 5) (by decide +kernel) (by decide) ?_
  refine g_iload_n (q := 1) (i := 1) (by decide +kernel) rfl rfl ?_
  refine g_imul (by decide +kernel) ?_
  refine g_iconst (n := 2) (v := 2) (by decide +kernel) (by decide) ?_
  refine g_iadd (by decide +kernel) ?_
  refine g_aload_n (q := 0) (i := 0) (by decide +kernel) rfl rfl ?_
  refine g_get (C := "ThreePointsModel") (T := xT_Model) (N := 39) (ci := 10) (k := 6) (v := vr 34 0) (by decide +kernel) (by decide) rfl rfl xi_Model (by decide) kw_1032 rfl ?_
  refine g_iconst (n := 5) (v := 5) (by decide +kernel) (by decide) ?_
  refine g_iload_n (q := 1) (i := 1) (by decide +kernel) rfl rfl ?_
  refine g_imul (by decide +kernel) ?_
  refine g_iconst (n := 2) (v := 2) (by decide +kernel) (by decide) ?_
  refine g_iadd (by decide +kernel) ?_
  obtain ⟨hin, h⟩ := h
  refine g_heap (fun H8 eH8 => ?_)
  replace h := h H8 eH8
  refine g_iald (by decide +kernel) (by decide) rfl hin ?_
  refine g_aload_n (q := 0) (i := 0) (by decide +kernel) rfl rfl ?_
  refine g_get (C := "ThreePointsModel") (T := xT_Model) (N := 39) (ci := 10) (k := 6) (v := vr 34 0) (by decide +kernel) (by decide) rfl rfl xi_Model (by decide) kw_1032 rfl ?_
  refine g_iconst (n := 5) (v := 5) (by decide +kernel) (by decide) ?_
  refine g_iload_n (q := 1) (i := 1) (by decide +kernel) rfl rfl ?_
  refine g_imul (by decide +kernel) ?_
  refine g_iconst (n := 4) (v := 4) (by decide +kernel) (by decide) ?_
  refine g_iadd (by decide +kernel) ?_
  obtain ⟨hin, h⟩ := h
  refine g_iald (by decide +kernel) (by decide) rfl hin ?_
  refine g_iload_n (q := 2) (i := 2) (by decide +kernel) rfl rfl ?_
  suffices hj9 : g_Model_goes E (d + 1) 108 [some (vr 30 0), some (vi x1), some (vi x2), some (vi x3), some (vi v1), some (vi v2)] [vi (if (H8 34 0 (((5 * x1) + 4).toNatClampNeg)) = x2 then 0 else 1 : Int32), vi (H8 34 0 (((5 * x1) + 2).toNatClampNeg)), vi ((5 * x1) + 2), vr 34 0] H8 (qv Q) by
    refine g_icmp_ne (off := 7) (tgt := 107) (by decide +kernel) (by decide) (fun c => ?_) (fun c => ?_)
    · rw [if_neg c] at hj9
      refine g_iconst (n := 1) (v := 1) (by decide +kernel) (by decide) ?_
      exact hj9
    · rw [if_pos c] at hj9
      refine g_iconst (n := 0) (v := 0) (by decide +kernel) (by decide) ?_
      refine g_goto (off := 4) (tgt := 108) (by decide +kernel) (by decide) ?_
      exact hj9
  refine g_iadd (by decide +kernel) ?_
  refine g_iconst (n := 0) (v := 0) (by decide +kernel) (by decide) ?_
  refine g_sipush (n := 9999) (v := 9999) (by decide +kernel) (by decide) ?_
  refine g_callS (vs := [vi ((H8 34 0 (((5 * x1) + 2).toNatClampNeg)) + (if (H8 34 0 (((5 * x1) + 4).toNatClampNeg)) = x2 then 0 else 1 : Int32)), vi 0, vi 9999]) (st := [vi ((5 * x1) + 2), vr 34 0]) (by decide +kernel) xm_Model_within kw_1183 kw_1184 rfl rfl (Nat.le_of_ble_eq_true rfl) (Nat.le_of_ble_eq_true rfl) h (fun vH10 H10 hq => ?_)
  obtain ⟨r11, rfl, h⟩ := hq
  obtain ⟨hin, h⟩ := h
  refine g_iast (by decide +kernel) (by decide) rfl hin ?_
  refine g_aload_n (q := 0) (i := 0) (by decide +kernel) rfl rfl ?_
  refine g_get (C := "ThreePointsModel") (T := xT_Model) (N := 39) (ci := 10) (k := 6) (v := vr 34 0) (by decide +kernel) (by decide) rfl rfl xi_Model (by decide) kw_1032 rfl ?_
  refine g_iconst (n := 5) (v := 5) (by decide +kernel) (by decide) ?_
  refine g_iload_n (q := 1) (i := 1) (by decide +kernel) rfl rfl ?_
  refine g_imul (by decide +kernel) ?_
  refine g_aload_n (q := 0) (i := 0) (by decide +kernel) rfl rfl ?_
  refine g_iload (i := 4) (by decide +kernel) rfl ?_
  refine g_iload (i := 5) (by decide +kernel) rfl ?_
  refine g_iload_n (q := 2) (i := 2) (by decide +kernel) rfl rfl ?_
  refine g_heap (fun H12 eH12 => ?_)
  replace h := h H12 eH12
  refine g_callV (kd := 30) (ix := 0) (ci := 10) (N := 39) (T := xT_Model) (vs := [vi v1, vi v2, vi x2]) (st := [vi (5 * x1), vr 34 0]) (by decide +kernel) xm_Model_placeBy kw_1230 kw_1232 kw_46 (by decide) rfl rfl rfl rfl (Nat.le_of_ble_eq_true rfl) (Nat.le_of_ble_eq_true rfl) h (fun vH13 H13 hq => ?_)
  obtain ⟨r14, rfl, h⟩ := hq
  obtain ⟨hin, h⟩ := h
  refine g_iast (by decide +kernel) (by decide) rfl hin ?_
  refine g_aload_n (q := 0) (i := 0) (by decide +kernel) rfl rfl ?_
  refine g_get (C := "ThreePointsModel") (T := xT_Model) (N := 39) (ci := 10) (k := 6) (v := vr 34 0) (by decide +kernel) (by decide) rfl rfl xi_Model (by decide) kw_1032 rfl ?_
  refine g_iconst (n := 5) (v := 5) (by decide +kernel) (by decide) ?_
  refine g_iload_n (q := 1) (i := 1) (by decide +kernel) rfl rfl ?_
  refine g_imul (by decide +kernel) ?_
  refine g_iconst (n := 1) (v := 1) (by decide +kernel) (by decide) ?_
  refine g_iadd (by decide +kernel) ?_
  refine g_aload_n (q := 0) (i := 0) (by decide +kernel) rfl rfl ?_
  refine g_iload_n (q := 1) (i := 1) (by decide +kernel) rfl rfl ?_
  refine g_iload (i := 5) (by decide +kernel) rfl ?_
  refine g_iload_n (q := 2) (i := 2) (by decide +kernel) rfl rfl ?_
  refine g_iload_n (q := 3) (i := 3) (by decide +kernel) rfl rfl ?_
  refine g_heap (fun H15 eH15 => ?_)
  replace h := h H15 eH15
  refine g_callV (kd := 30) (ix := 0) (ci := 10) (N := 39) (T := xT_Model) (vs := [vi x1, vi v2, vi x2, vi x3]) (st := [vi ((5 * x1) + 1), vr 34 0]) (by decide +kernel) xm_Model_headingBy kw_1234 kw_1236 kw_47 (by decide) rfl rfl rfl rfl (Nat.le_of_ble_eq_true rfl) (Nat.le_of_ble_eq_true rfl) h (fun vH16 H16 hq => ?_)
  obtain ⟨r17, rfl, h⟩ := hq
  obtain ⟨hin, h⟩ := h
  refine g_iast (by decide +kernel) (by decide) rfl hin ?_
  refine g_aload_n (q := 0) (i := 0) (by decide +kernel) rfl rfl ?_
  refine g_get (C := "ThreePointsModel") (T := xT_Model) (N := 39) (ci := 10) (k := 6) (v := vr 34 0) (by decide +kernel) (by decide) rfl rfl xi_Model (by decide) kw_1032 rfl ?_
  refine g_iconst (n := 5) (v := 5) (by decide +kernel) (by decide) ?_
  refine g_iload_n (q := 1) (i := 1) (by decide +kernel) rfl rfl ?_
  refine g_imul (by decide +kernel) ?_
  refine g_iconst (n := 4) (v := 4) (by decide +kernel) (by decide) ?_
  refine g_iadd (by decide +kernel) ?_
  refine g_iload_n (q := 2) (i := 2) (by decide +kernel) rfl rfl ?_
  obtain ⟨hin, h⟩ := h
  refine g_iast (by decide +kernel) (by decide) rfl hin ?_
  refine g_heap (fun H18 eH18 => ?_)
  replace h := h H18 eH18
  exact g_vret (by decide +kernel) rfl h
