/-! a method: its place, its formula, the walk that proves it; printed by wip/gen/emitall.py -/
abbrev g_Tape_add (E : XE) (d pc : Nat) (ls : List (Option AV)) (st : List AV) (H : HH) (Q : AV → HH → Prop) : Prop := Gp E.1 E.2.1 E.2.2.1 E.2.2.2 xTX xRF xLC d "ThreePoints$Tape" prog_7_method_3_code 2 none pc ls st H Q
def c_Tape_add (E : XE) (d : Nat) (x1 : Int32) (H : HH) (Q : HH → Prop) : Prop := g_Tape_add E d 0 (xent [vr 6 0, vi x1]) [] H (qv Q)
theorem xm_Tape_add : xM ⟨"ThreePoints$Tape", "add", "(I)V"⟩ prog_7_method_3_code 2 none 1 := ⟨kw_385, kw_70, by decide +kernel, by decide +kernel, by decide⟩
abbrev g_Tape_write (E : XE) (d pc : Nat) (ls : List (Option AV)) (st : List AV) (H : HH) (Q : AV → HH → Prop) : Prop := Gp E.1 E.2.1 E.2.2.1 E.2.2.2 xTX xRF xLC d "ThreePoints$Tape" prog_7_method_4_code 3 none pc ls st H Q
def c_Tape_write (E : XE) (d : Nat) (w : Nat) (H : HH) (Q : HH → Prop) : Prop := g_Tape_write E d 0 (xent [vr 6 0, vr 60 w]) [] H (qv Q)
theorem xm_Tape_write : xM ⟨"ThreePoints$Tape", "write", "(Ljava/lang/String;)V"⟩ prog_7_method_4_code 3 none 1 := ⟨kw_333, kw_70, by decide +kernel, by decide +kernel, by decide⟩
abbrev g_Tape_byteAt (E : XE) (d pc : Nat) (ls : List (Option AV)) (st : List AV) (H : HH) (Q : AV → HH → Prop) : Prop := Gp E.1 E.2.1 E.2.2.1 E.2.2.2 xTX xRF xLC d "ThreePoints$Tape" prog_7_method_9_code 2 (some .int) pc ls st H Q
def c_Tape_byteAt (E : XE) (d : Nat) (x1 : Int32) (H : HH) (Q : Int32 → HH → Prop) : Prop := g_Tape_byteAt E d 0 (xent [vr 6 0, vi x1]) [] H (qi Q)
theorem xm_Tape_byteAt : xM ⟨"ThreePoints$Tape", "byteAt", "(I)I"⟩ prog_7_method_9_code 2 (some .int) 1 := ⟨kw_401, kw_70, by decide +kernel, by decide +kernel, by decide⟩
abbrev g_Tape_isLetter (E : XE) (d pc : Nat) (ls : List (Option AV)) (st : List AV) (H : HH) (Q : AV → HH → Prop) : Prop := Gp E.1 E.2.1 E.2.2.1 E.2.2.2 xTX xRF xLC d "ThreePoints$Tape" prog_7_method_11_code 1 (some .boolean) pc ls st H Q
def c_Tape_isLetter (E : XE) (d : Nat) (x0 : Int32) (H : HH) (Q : Int32 → HH → Prop) : Prop := g_Tape_isLetter E d 0 (xent [vi x0]) [] H (qi Q)
theorem xm_Tape_isLetter : xM ⟨"ThreePoints$Tape", "isLetter", "(I)Z"⟩ prog_7_method_11_code 1 (some .boolean) 1 := ⟨kw_404, kw_70, by decide +kernel, by decide +kernel, by decide⟩
abbrev g_Tape_isDigit (E : XE) (d pc : Nat) (ls : List (Option AV)) (st : List AV) (H : HH) (Q : AV → HH → Prop) : Prop := Gp E.1 E.2.1 E.2.2.1 E.2.2.2 xTX xRF xLC d "ThreePoints$Tape" prog_7_method_12_code 1 (some .boolean) pc ls st H Q
def c_Tape_isDigit (E : XE) (d : Nat) (x0 : Int32) (H : HH) (Q : Int32 → HH → Prop) : Prop := g_Tape_isDigit E d 0 (xent [vi x0]) [] H (qi Q)
theorem xm_Tape_isDigit : xM ⟨"ThreePoints$Tape", "isDigit", "(I)Z"⟩ prog_7_method_12_code 1 (some .boolean) 1 := ⟨kw_407, kw_70, by decide +kernel, by decide +kernel, by decide⟩
abbrev g_Tape_endOfToken (E : XE) (d pc : Nat) (ls : List (Option AV)) (st : List AV) (H : HH) (Q : AV → HH → Prop) : Prop := Gp E.1 E.2.1 E.2.2.1 E.2.2.2 xTX xRF xLC d "ThreePoints$Tape" prog_7_method_13_code 3 (some .int) pc ls st H Q
def c_Tape_endOfToken (E : XE) (d : Nat) (x1 : Int32) (H : HH) (Q : Int32 → HH → Prop) : Prop := g_Tape_endOfToken E d 0 (xent [vr 6 0, vi x1]) [] H (qi Q)
theorem xm_Tape_endOfToken : xM ⟨"ThreePoints$Tape", "endOfToken", "(I)I"⟩ prog_7_method_13_code 3 (some .int) 1 := ⟨kw_397, kw_70, by decide +kernel, by decide +kernel, by decide⟩
abbrev g_Tape_isBlank (E : XE) (d pc : Nat) (ls : List (Option AV)) (st : List AV) (H : HH) (Q : AV → HH → Prop) : Prop := Gp E.1 E.2.1 E.2.2.1 E.2.2.2 xTX xRF xLC d "ThreePoints$Tape" prog_7_method_10_code 1 (some .boolean) pc ls st H Q
def c_Tape_isBlank (E : XE) (d : Nat) (x0 : Int32) (H : HH) (Q : Int32 → HH → Prop) : Prop := g_Tape_isBlank E d 0 (xent [vi x0]) [] H (qi Q)
theorem xm_Tape_isBlank : xM ⟨"ThreePoints$Tape", "isBlank", "(I)Z"⟩ prog_7_method_10_code 1 (some .boolean) 1 := ⟨kw_410, kw_70, by decide +kernel, by decide +kernel, by decide⟩
abbrev g_Tape_numberAt (E : XE) (d pc : Nat) (ls : List (Option AV)) (st : List AV) (H : HH) (Q : AV → HH → Prop) : Prop := Gp E.1 E.2.1 E.2.2.1 E.2.2.2 xTX xRF xLC d "ThreePoints$Tape" prog_7_method_15_code 5 (some .int) pc ls st H Q
def c_Tape_numberAt (E : XE) (d : Nat) (x1 : Int32) (x2 : Int32) (H : HH) (Q : Int32 → HH → Prop) : Prop := g_Tape_numberAt E d 0 (xent [vr 6 0, vi x1, vi x2]) [] H (qi Q)
theorem xm_Tape_numberAt : xM ⟨"ThreePoints$Tape", "numberAt", "(II)I"⟩ prog_7_method_15_code 5 (some .int) 2 := ⟨kw_414, kw_70, by decide +kernel, by decide +kernel, by decide⟩
abbrev g_Tape_spells (E : XE) (d pc : Nat) (ls : List (Option AV)) (st : List AV) (H : HH) (Q : AV → HH → Prop) : Prop := Gp E.1 E.2.1 E.2.2.1 E.2.2.2 xTX xRF xLC d "ThreePoints$Tape" prog_7_method_18_code 5 (some .boolean) pc ls st H Q
def c_Tape_spells (E : XE) (d : Nat) (x1 : Int32) (x2 : Int32) (w : Nat) (H : HH) (Q : Int32 → HH → Prop) : Prop := g_Tape_spells E d 0 (xent [vr 6 0, vi x1, vi x2, vr 60 w]) [] H (qi Q)
theorem xm_Tape_spells : xM ⟨"ThreePoints$Tape", "spells", "(IILjava/lang/String;)Z"⟩ prog_7_method_18_code 5 (some .boolean) 3 := ⟨kw_423, kw_70, by decide +kernel, by decide +kernel, by decide⟩
abbrev g_Tape_nameAt (E : XE) (d pc : Nat) (ls : List (Option AV)) (st : List AV) (H : HH) (Q : AV → HH → Prop) : Prop := Gp E.1 E.2.1 E.2.2.1 E.2.2.2 xTX xRF xLC d "ThreePoints$Tape" prog_7_method_17_code 3 (some .int) pc ls st H Q
def c_Tape_nameAt (E : XE) (d : Nat) (x1 : Int32) (x2 : Int32) (H : HH) (Q : Int32 → HH → Prop) : Prop := g_Tape_nameAt E d 0 (xent [vr 6 0, vi x1, vi x2]) [] H (qi Q)
theorem xm_Tape_nameAt : xM ⟨"ThreePoints$Tape", "nameAt", "(II)I"⟩ prog_7_method_17_code 3 (some .int) 2 := ⟨kw_418, kw_70, by decide +kernel, by decide +kernel, by decide⟩
abbrev g_Tape_wordKindAt (E : XE) (d pc : Nat) (ls : List (Option AV)) (st : List AV) (H : HH) (Q : AV → HH → Prop) : Prop := Gp E.1 E.2.1 E.2.2.1 E.2.2.2 xTX xRF xLC d "ThreePoints$Tape" prog_7_method_16_code 3 (some .int) pc ls st H Q
def c_Tape_wordKindAt (E : XE) (d : Nat) (x1 : Int32) (x2 : Int32) (H : HH) (Q : Int32 → HH → Prop) : Prop := g_Tape_wordKindAt E d 0 (xent [vr 6 0, vi x1, vi x2]) [] H (qi Q)
theorem xm_Tape_wordKindAt : xM ⟨"ThreePoints$Tape", "wordKindAt", "(II)I"⟩ prog_7_method_16_code 3 (some .int) 2 := ⟨kw_436, kw_70, by decide +kernel, by decide +kernel, by decide⟩
abbrev g_Tape_kindAt (E : XE) (d pc : Nat) (ls : List (Option AV)) (st : List AV) (H : HH) (Q : AV → HH → Prop) : Prop := Gp E.1 E.2.1 E.2.2.1 E.2.2.2 xTX xRF xLC d "ThreePoints$Tape" prog_7_method_14_code 4 (some .int) pc ls st H Q
def c_Tape_kindAt (E : XE) (d : Nat) (x1 : Int32) (x2 : Int32) (H : HH) (Q : Int32 → HH → Prop) : Prop := g_Tape_kindAt E d 0 (xent [vr 6 0, vi x1, vi x2]) [] H (qi Q)
theorem xm_Tape_kindAt : xM ⟨"ThreePoints$Tape", "kindAt", "(II)I"⟩ prog_7_method_14_code 4 (some .int) 2 := ⟨kw_432, kw_70, by decide +kernel, by decide +kernel, by decide⟩
abbrev g_Tape_split (E : XE) (d pc : Nat) (ls : List (Option AV)) (st : List AV) (H : HH) (Q : AV → HH → Prop) : Prop := Gp E.1 E.2.1 E.2.2.1 E.2.2.2 xTX xRF xLC d "ThreePoints$Tape" prog_7_method_8_code 3 none pc ls st H Q
def c_Tape_split (E : XE) (d : Nat)  (H : HH) (Q : HH → Prop) : Prop := g_Tape_split E d 0 (xent [vr 6 0]) [] H (qv Q)
theorem xm_Tape_split : xM ⟨"ThreePoints$Tape", "split", "()V"⟩ prog_7_method_8_code 3 none 0 := ⟨kw_393, kw_70, by decide +kernel, by decide +kernel, by decide⟩
abbrev g_Tape_kindOf (E : XE) (d pc : Nat) (ls : List (Option AV)) (st : List AV) (H : HH) (Q : AV → HH → Prop) : Prop := Gp E.1 E.2.1 E.2.2.1 E.2.2.2 xTX xRF xLC d "ThreePoints$Tape" prog_7_method_5_code 2 (some .int) pc ls st H Q
def c_Tape_kindOf (E : XE) (d : Nat) (x1 : Int32) (H : HH) (Q : Int32 → HH → Prop) : Prop := g_Tape_kindOf E d 0 (xent [vr 6 0, vi x1]) [] H (qi Q)
theorem xm_Tape_kindOf : xM ⟨"ThreePoints$Tape", "kindOf", "(I)I"⟩ prog_7_method_5_code 2 (some .int) 1 := ⟨kw_518, kw_70, by decide +kernel, by decide +kernel, by decide⟩
abbrev g_Reader_goTo (E : XE) (d pc : Nat) (ls : List (Option AV)) (st : List AV) (H : HH) (Q : AV → HH → Prop) : Prop := Gp E.1 E.2.1 E.2.2.1 E.2.2.2 xTX xRF xLC d "ThreePoints$Reader" prog_3_method_3_code 2 none pc ls st H Q
def c_Reader_goTo (E : XE) (d : Nat) (x1 : Int32) (H : HH) (Q : HH → Prop) : Prop := g_Reader_goTo E d 0 (xent [vr 5 0, vi x1]) [] H (qv Q)
theorem xm_Reader_goTo : xM ⟨"ThreePoints$Reader", "goTo", "(I)V"⟩ prog_3_method_3_code 2 none 1 := ⟨kw_514, kw_69, by decide +kernel, by decide +kernel, by decide⟩
abbrev g_Tape_valueOf (E : XE) (d pc : Nat) (ls : List (Option AV)) (st : List AV) (H : HH) (Q : AV → HH → Prop) : Prop := Gp E.1 E.2.1 E.2.2.1 E.2.2.2 xTX xRF xLC d "ThreePoints$Tape" prog_7_method_6_code 2 (some .int) pc ls st H Q
def c_Tape_valueOf (E : XE) (d : Nat) (x1 : Int32) (H : HH) (Q : Int32 → HH → Prop) : Prop := g_Tape_valueOf E d 0 (xent [vr 6 0, vi x1]) [] H (qi Q)
theorem xm_Tape_valueOf : xM ⟨"ThreePoints$Tape", "valueOf", "(I)I"⟩ prog_7_method_6_code 2 (some .int) 1 := ⟨kw_554, kw_70, by decide +kernel, by decide +kernel, by decide⟩
abbrev g_Reader_mayOpen (E : XE) (d pc : Nat) (ls : List (Option AV)) (st : List AV) (H : HH) (Q : AV → HH → Prop) : Prop := Gp E.1 E.2.1 E.2.2.1 E.2.2.2 xTX xRF xLC d "ThreePoints$Reader" prog_3_method_12_code 1 (some .boolean) pc ls st H Q
def c_Reader_mayOpen (E : XE) (d : Nat)  (H : HH) (Q : Int32 → HH → Prop) : Prop := g_Reader_mayOpen E d 0 (xent [vr 5 0]) [] H (qi Q)
theorem xm_Reader_mayOpen : xM ⟨"ThreePoints$Reader", "mayOpen", "()Z"⟩ prog_3_method_12_code 1 (some .boolean) 0 := ⟨kw_562, kw_69, by decide +kernel, by decide +kernel, by decide⟩
abbrev g_Reader_readOne (E : XE) (d pc : Nat) (ls : List (Option AV)) (st : List AV) (H : HH) (Q : AV → HH → Prop) : Prop := Gp E.1 E.2.1 E.2.2.1 E.2.2.2 xTX xRF xLC d "ThreePoints$Reader" prog_3_method_11_code 1 (some .boolean) pc ls st H Q
def c_Reader_readOne (E : XE) (d : Nat)  (H : HH) (Q : Int32 → HH → Prop) : Prop := g_Reader_readOne E d 0 (xent [vr 5 0]) [] H (qi Q)
theorem xm_Reader_readOne : xM ⟨"ThreePoints$Reader", "readOne", "()Z"⟩ prog_3_method_11_code 1 (some .boolean) 0 := ⟨kw_550, kw_69, by decide +kernel, by decide +kernel, by decide⟩
abbrev g_Reader_readTerm (E : XE) (d pc : Nat) (ls : List (Option AV)) (st : List AV) (H : HH) (Q : AV → HH → Prop) : Prop := Gp E.1 E.2.1 E.2.2.1 E.2.2.2 xTX xRF xLC d "ThreePoints$Reader" prog_3_method_10_code 2 (some .boolean) pc ls st H Q
def c_Reader_readTerm (E : XE) (d : Nat)  (H : HH) (Q : Int32 → HH → Prop) : Prop := g_Reader_readTerm E d 0 (xent [vr 5 0]) [] H (qi Q)
theorem xm_Reader_readTerm : xM ⟨"ThreePoints$Reader", "readTerm", "()Z"⟩ prog_3_method_10_code 2 (some .boolean) 0 := ⟨kw_546, kw_69, by decide +kernel, by decide +kernel, by decide⟩
abbrev g_Reader_readSum (E : XE) (d pc : Nat) (ls : List (Option AV)) (st : List AV) (H : HH) (Q : AV → HH → Prop) : Prop := Gp E.1 E.2.1 E.2.2.1 E.2.2.2 xTX xRF xLC d "ThreePoints$Reader" prog_3_method_9_code 3 (some .boolean) pc ls st H Q
def c_Reader_readSum (E : XE) (d : Nat)  (H : HH) (Q : Int32 → HH → Prop) : Prop := g_Reader_readSum E d 0 (xent [vr 5 0]) [] H (qi Q)
theorem xm_Reader_readSum : xM ⟨"ThreePoints$Reader", "readSum", "()Z"⟩ prog_3_method_9_code 3 (some .boolean) 0 := ⟨kw_542, kw_69, by decide +kernel, by decide +kernel, by decide⟩
abbrev g_Reader_readComparison (E : XE) (d pc : Nat) (ls : List (Option AV)) (st : List AV) (H : HH) (Q : AV → HH → Prop) : Prop := Gp E.1 E.2.1 E.2.2.1 E.2.2.2 xTX xRF xLC d "ThreePoints$Reader" prog_3_method_8_code 2 (some .boolean) pc ls st H Q
def c_Reader_readComparison (E : XE) (d : Nat)  (H : HH) (Q : Int32 → HH → Prop) : Prop := g_Reader_readComparison E d 0 (xent [vr 5 0]) [] H (qi Q)
theorem xm_Reader_readComparison : xM ⟨"ThreePoints$Reader", "readComparison", "()Z"⟩ prog_3_method_8_code 2 (some .boolean) 0 := ⟨kw_538, kw_69, by decide +kernel, by decide +kernel, by decide⟩
abbrev g_Reader_readNot (E : XE) (d pc : Nat) (ls : List (Option AV)) (st : List AV) (H : HH) (Q : AV → HH → Prop) : Prop := Gp E.1 E.2.1 E.2.2.1 E.2.2.2 xTX xRF xLC d "ThreePoints$Reader" prog_3_method_7_code 1 (some .boolean) pc ls st H Q
def c_Reader_readNot (E : XE) (d : Nat)  (H : HH) (Q : Int32 → HH → Prop) : Prop := g_Reader_readNot E d 0 (xent [vr 5 0]) [] H (qi Q)
theorem xm_Reader_readNot : xM ⟨"ThreePoints$Reader", "readNot", "()Z"⟩ prog_3_method_7_code 1 (some .boolean) 0 := ⟨kw_534, kw_69, by decide +kernel, by decide +kernel, by decide⟩
abbrev g_Reader_readAnd (E : XE) (d pc : Nat) (ls : List (Option AV)) (st : List AV) (H : HH) (Q : AV → HH → Prop) : Prop := Gp E.1 E.2.1 E.2.2.1 E.2.2.2 xTX xRF xLC d "ThreePoints$Reader" prog_3_method_6_code 2 (some .boolean) pc ls st H Q
def c_Reader_readAnd (E : XE) (d : Nat)  (H : HH) (Q : Int32 → HH → Prop) : Prop := g_Reader_readAnd E d 0 (xent [vr 5 0]) [] H (qi Q)
theorem xm_Reader_readAnd : xM ⟨"ThreePoints$Reader", "readAnd", "()Z"⟩ prog_3_method_6_code 2 (some .boolean) 0 := ⟨kw_530, kw_69, by decide +kernel, by decide +kernel, by decide⟩
abbrev g_Reader_readOr (E : XE) (d pc : Nat) (ls : List (Option AV)) (st : List AV) (H : HH) (Q : AV → HH → Prop) : Prop := Gp E.1 E.2.1 E.2.2.1 E.2.2.2 xTX xRF xLC d "ThreePoints$Reader" prog_3_method_5_code 2 (some .boolean) pc ls st H Q
def c_Reader_readOr (E : XE) (d : Nat)  (H : HH) (Q : Int32 → HH → Prop) : Prop := g_Reader_readOr E d 0 (xent [vr 5 0]) [] H (qi Q)
theorem xm_Reader_readOr : xM ⟨"ThreePoints$Reader", "readOr", "()Z"⟩ prog_3_method_5_code 2 (some .boolean) 0 := ⟨kw_526, kw_69, by decide +kernel, by decide +kernel, by decide⟩
abbrev g_Reader_readPart (E : XE) (d pc : Nat) (ls : List (Option AV)) (st : List AV) (H : HH) (Q : AV → HH → Prop) : Prop := Gp E.1 E.2.1 E.2.2.1 E.2.2.2 xTX xRF xLC d "ThreePoints$Reader" prog_3_method_4_code 3 (some .boolean) pc ls st H Q
def c_Reader_readPart (E : XE) (d : Nat) (x1 : Int32) (x2 : Int32) (H : HH) (Q : Int32 → HH → Prop) : Prop := g_Reader_readPart E d 0 (xent [vr 5 0, vi x1, vi x2]) [] H (qi Q)
theorem xm_Reader_readPart : xM ⟨"ThreePoints$Reader", "readPart", "(II)Z"⟩ prog_3_method_4_code 3 (some .boolean) 2 := ⟨kw_522, kw_69, by decide +kernel, by decide +kernel, by decide⟩
abbrev g_Tape_startOf (E : XE) (d pc : Nat) (ls : List (Option AV)) (st : List AV) (H : HH) (Q : AV → HH → Prop) : Prop := Gp E.1 E.2.1 E.2.2.1 E.2.2.2 xTX xRF xLC d "ThreePoints$Tape" prog_7_method_7_code 2 (some .int) pc ls st H Q
def c_Tape_startOf (E : XE) (d : Nat) (x1 : Int32) (H : HH) (Q : Int32 → HH → Prop) : Prop := g_Tape_startOf E d 0 (xent [vr 6 0, vi x1]) [] H (qi Q)
theorem xm_Tape_startOf : xM ⟨"ThreePoints$Tape", "startOf", "(I)I"⟩ prog_7_method_7_code 2 (some .int) 1 := ⟨kw_570, kw_70, by decide +kernel, by decide +kernel, by decide⟩
abbrev g_Reader_faultOfTape (E : XE) (d pc : Nat) (ls : List (Option AV)) (st : List AV) (H : HH) (Q : AV → HH → Prop) : Prop := Gp E.1 E.2.1 E.2.2.1 E.2.2.2 xTX xRF xLC d "ThreePoints$Reader" prog_3_method_2_code 2 (some .int) pc ls st H Q
def c_Reader_faultOfTape (E : XE) (d : Nat)  (H : HH) (Q : Int32 → HH → Prop) : Prop := g_Reader_faultOfTape E d 0 (xent [vr 5 0]) [] H (qi Q)
theorem xm_Reader_faultOfTape : xM ⟨"ThreePoints$Reader", "faultOfTape", "()I"⟩ prog_3_method_2_code 2 (some .int) 0 := ⟨kw_389, kw_69, by decide +kernel, by decide +kernel, by decide⟩
abbrev g_Tape_clear (E : XE) (d pc : Nat) (ls : List (Option AV)) (st : List AV) (H : HH) (Q : AV → HH → Prop) : Prop := Gp E.1 E.2.1 E.2.2.1 E.2.2.2 xTX xRF xLC d "ThreePoints$Tape" prog_7_method_2_code 1 none pc ls st H Q
def c_Tape_clear (E : XE) (d : Nat)  (H : HH) (Q : HH → Prop) : Prop := g_Tape_clear E d 0 (xent [vr 6 0]) [] H (qv Q)
theorem xm_Tape_clear : xM ⟨"ThreePoints$Tape", "clear", "()V"⟩ prog_7_method_2_code 1 none 0 := ⟨kw_581, kw_70, by decide +kernel, by decide +kernel, by decide⟩
def p_Tape_add (E : XE) (d : Nat) (x1 : Int32) (H : HH) (Q : HH → Prop) : Prop := ((H 6 0 1) < 160 → (vp_in (H 6 0 1) 160 ∧ (∀ H1 : HH, H1 = (hu H 7 0 ((H 6 0 1).toNatClampNeg) x1) → (∀ H2 : HH, H2 = (hu H1 6 0 1 ((H1 6 0 1) + 1)) → (Q H2))))) ∧ (¬ (H 6 0 1) < 160 → (Q H))
set_option maxHeartbeats 4000000 in
theorem l_Tape_add {E : XE} {d : Nat} {x1 : Int32} {H : HH} {Q : HH → Prop} (h : p_Tape_add E d x1 H Q) : c_Tape_add E d x1 H Q := by
  show g_Tape_add E d 0 (xent [vr 6 0, vi x1]) [] H (qv Q)
  refine g_drop (ls2 := [some (vr 6 0), some (vi x1)]) (And.intro rfl (And.intro rfl trivial)) ?_
  refine g_aload_n (q := 0) (i := 0) (by decide +kernel) rfl rfl ?_
  refine g_get (C := "ThreePoints$Tape") (T := xT_Tape) (N := 6) (ci := 5) (k := 1) (v := vi (H 6 0 1)) (by decide +kernel) (by decide) rfl rfl xi_Tape (by decide) kw_188 rfl ?_
  refine g_sipush (n := 160) (v := 160) (by decide +kernel) (by decide) ?_
  refine g_icmp_lt (off := 4) (tgt := 11) (by decide +kernel) (by decide) (fun c => ?_) (fun c => ?_)
  · replace h := h.1 c
    refine g_aload_n (q := 0) (i := 0) (by decide +kernel) rfl rfl ?_
    refine g_get (C := "ThreePoints$Tape") (T := xT_Tape) (N := 6) (ci := 5) (k := 0) (v := vr 7 0) (by decide +kernel) (by decide) rfl rfl xi_Tape (by decide) kw_187 rfl ?_
    refine g_aload_n (q := 0) (i := 0) (by decide +kernel) rfl rfl ?_
    refine g_get (C := "ThreePoints$Tape") (T := xT_Tape) (N := 6) (ci := 5) (k := 1) (v := vi (H 6 0 1)) (by decide +kernel) (by decide) rfl rfl xi_Tape (by decide) kw_188 rfl ?_
    refine g_iload_n (q := 1) (i := 1) (by decide +kernel) rfl rfl ?_
    obtain ⟨hin, h⟩ := h
    refine g_iast (by decide +kernel) (by decide) rfl hin ?_
    refine g_aload_n (q := 0) (i := 0) (by decide +kernel) rfl rfl ?_
    refine g_dup (by decide +kernel) rfl ?_
    refine g_heap (fun H1 eH1 => ?_)
    replace h := h H1 eH1
    refine g_get (C := "ThreePoints$Tape") (T := xT_Tape) (N := 6) (ci := 5) (k := 1) (v := vi (H1 6 0 1)) (by decide +kernel) (by decide) rfl rfl xi_Tape (by decide) kw_188 rfl ?_
    refine g_iconst (n := 1) (v := 1) (by decide +kernel) (by decide) ?_
    refine g_iadd (by decide +kernel) ?_
    refine g_put (C := "ThreePoints$Tape") (T := xT_Tape) (N := 6) (ci := 5) (k := 1) xy_Tape (by decide +kernel) (by decide) rfl rfl xi_Tape xy_Tape_ok xn_Tape (by decide) kw_188 rfl (by decide +kernel) (fun _ => rfl) ?_
    refine g_heap (fun H2 eH2 => ?_)
    replace h := h H2 eH2
    exact g_vret (by decide +kernel) rfl h
  · replace h := h.2 c
    exact g_vret (by decide +kernel) rfl h
def p_Tape_write (E : XE) (d : Nat) (w : Nat) (H : HH) (Q : HH → Prop) : Prop := ∃ (I1 : Int32 → HH → Prop) (μ1 : Int32 → HH → Nat), I1 0 H ∧ ∀ (z2 : Int32) (H3 : HH), I1 z2 H3 → (c_String_length E d w H3 (fun r5 H4 => (r5 ≤ z2 → (Q H4)) ∧ (¬ r5 ≤ z2 → (c_String_charAt E d w z2 H4 (fun r7 H6 => c_Tape_add E d r7 H6 (fun H8 => I1 (z2 + 1) H8 ∧ μ1 (z2 + 1) H8 < μ1 z2 H3))))))
set_option maxHeartbeats 4000000 in
theorem l_Tape_write {E : XE} {d : Nat} {w : Nat} {H : HH} {Q : HH → Prop} (h : p_Tape_write E d w H Q) : c_Tape_write E (d + 1) w H Q := by
  show g_Tape_write E (d + 1) 0 (xent [vr 6 0, vr 60 w]) [] H (qv Q)
  refine g_drop (ls2 := [some (vr 6 0), some (vr 60 w), none]) (And.intro rfl (And.intro rfl trivial)) ?_
  refine g_iconst (n := 0) (v := 0) (by decide +kernel) (by decide) ?_
  refine g_istore_n (q := 2) (i := 2) (ls2 := [some (vr 6 0), some (vr 60 w), some (vi 0)]) (by decide +kernel) rfl (by decide) rfl rfl ?_
  refine g_drop (ls2 := [some (vr 6 0), some (vr 60 w), some (vi 0)]) (And.intro rfl (And.intro rfl (And.intro rfl trivial))) ?_
  obtain ⟨I1, μ1, h0, h⟩ := h
  refine xloop (σ := Int32) (fun s H => I1 s H) (fun s H => μ1 s H) (fun s H => g_Tape_write E (d + 1) 2 [some (vr 6 0), some (vr 60 w), some (vi s)] [] H (qv Q)) (fun s H3 hI ih1 => ?_) 0 H h0
  obtain ⟨z2, es⟩ : ∃ z, z = s := ⟨s, rfl⟩
  subst es
  replace h := h z2 H3 hI
  refine g_iload_n (q := 2) (i := 2) (by decide +kernel) rfl rfl ?_
  refine g_aload_n (q := 1) (i := 1) (by decide +kernel) rfl rfl ?_
  refine g_callStr (vs := []) (st := [vi z2]) (by decide +kernel) xm_String_length kw_334 kw_335 kw_336 rfl rfl rfl (Nat.le_of_ble_eq_true rfl) (Nat.le_of_ble_eq_true rfl) h (fun vH4 H4 hq => ?_)
  obtain ⟨r5, rfl, h⟩ := hq
  refine g_icmp_ge (off := 18) (tgt := 25) (by decide +kernel) (by decide) (fun c => ?_) (fun c => ?_)
  · replace h := h.1 c
    exact g_vret (by decide +kernel) rfl h
  · replace h := h.2 c
    refine g_aload_n (q := 0) (i := 0) (by decide +kernel) rfl rfl ?_
    refine g_aload_n (q := 1) (i := 1) (by decide +kernel) rfl rfl ?_
    refine g_iload_n (q := 2) (i := 2) (by decide +kernel) rfl rfl ?_
    refine g_callStr (vs := [vi z2]) (st := [vr 6 0]) (by decide +kernel) xm_String_charAt kw_344 kw_345 kw_346 rfl rfl rfl (Nat.le_of_ble_eq_true rfl) (Nat.le_of_ble_eq_true rfl) h (fun vH6 H6 hq => ?_)
    obtain ⟨r7, rfl, h⟩ := hq
    refine g_callV (kd := 6) (ix := 0) (ci := 5) (N := 6) (T := xT_Tape) (vs := [vi r7]) (st := []) (by decide +kernel) xm_Tape_add kw_382 kw_383 kw_384 (by decide) rfl rfl rfl rfl (Nat.le_of_ble_eq_true rfl) (Nat.le_of_ble_eq_true rfl) h (fun vH8 H8 hq => ?_)
    replace h := hq
    refine g_iinc (i := 2) (n := 1) (v := (z2 + 1)) (ls2 := [some (vr 6 0), some (vr 60 w), some (vi (z2 + 1))]) (by decide +kernel) rfl rfl (by decide) rfl rfl ?_
    refine g_goto (off := (-20)) (tgt := 2) (by decide +kernel) (by decide) ?_
    obtain ⟨hI, hlt⟩ := h
    exact g_drop (ls2 := [some (vr 6 0), some (vr 60 w), some (vi (z2 + 1))]) (And.intro rfl (And.intro rfl (And.intro rfl trivial))) (ih1 (z2 + 1) H8 hI hlt)
def p_Tape_byteAt (E : XE) (d : Nat) (x1 : Int32) (H : HH) (Q : Int32 → HH → Prop) : Prop := (x1 < 0 → (Q 0 H)) ∧ (¬ x1 < 0 → (((H 6 0 1) ≤ x1 → (Q 0 H)) ∧ (¬ (H 6 0 1) ≤ x1 → ((160 ≤ x1 → (Q 0 H)) ∧ (¬ 160 ≤ x1 → (vp_in x1 160 ∧ (Q (H 7 0 (x1.toNatClampNeg)) H)))))))
set_option maxHeartbeats 4000000 in
theorem l_Tape_byteAt {E : XE} {d : Nat} {x1 : Int32} {H : HH} {Q : Int32 → HH → Prop} (h : p_Tape_byteAt E d x1 H Q) : c_Tape_byteAt E d x1 H Q := by
  show g_Tape_byteAt E d 0 (xent [vr 6 0, vi x1]) [] H (qi Q)
  refine g_drop (ls2 := [some (vr 6 0), some (vi x1)]) (And.intro rfl (And.intro rfl trivial)) ?_
  refine g_iload_n (q := 1) (i := 1) (by decide +kernel) rfl rfl ?_
  refine g_if_lt (off := 27) (tgt := 28) (by decide +kernel) (by decide) (fun c => ?_) (fun c => ?_)
  · replace h := h.1 c
    refine g_iconst (n := 0) (v := 0) (by decide +kernel) (by decide) ?_
    exact g_iret (by decide +kernel) rfl ⟨_, rfl, h⟩
  · replace h := h.2 c
    refine g_iload_n (q := 1) (i := 1) (by decide +kernel) rfl rfl ?_
    refine g_aload_n (q := 0) (i := 0) (by decide +kernel) rfl rfl ?_
    refine g_get (C := "ThreePoints$Tape") (T := xT_Tape) (N := 6) (ci := 5) (k := 1) (v := vi (H 6 0 1)) (by decide +kernel) (by decide) rfl rfl xi_Tape (by decide) kw_188 rfl ?_
    refine g_icmp_ge (off := 19) (tgt := 28) (by decide +kernel) (by decide) (fun c => ?_) (fun c => ?_)
    · replace h := h.1 c
      refine g_iconst (n := 0) (v := 0) (by decide +kernel) (by decide) ?_
      exact g_iret (by decide +kernel) rfl ⟨_, rfl, h⟩
    · replace h := h.2 c
      refine g_iload_n (q := 1) (i := 1) (by decide +kernel) rfl rfl ?_
      refine g_sipush (n := 160) (v := 160) (by decide +kernel) (by decide) ?_
      refine g_icmp_ge (off := 12) (tgt := 28) (by decide +kernel) (by decide) (fun c => ?_) (fun c => ?_)
      · replace h := h.1 c
        refine g_iconst (n := 0) (v := 0) (by decide +kernel) (by decide) ?_
        exact g_iret (by decide +kernel) rfl ⟨_, rfl, h⟩
      · replace h := h.2 c
        refine g_aload_n (q := 0) (i := 0) (by decide +kernel) rfl rfl ?_
        refine g_get (C := "ThreePoints$Tape") (T := xT_Tape) (N := 6) (ci := 5) (k := 0) (v := vr 7 0) (by decide +kernel) (by decide) rfl rfl xi_Tape (by decide) kw_187 rfl ?_
        refine g_iload_n (q := 1) (i := 1) (by decide +kernel) rfl rfl ?_
        obtain ⟨hin, h⟩ := h
        refine g_iald (by decide +kernel) (by decide) rfl hin ?_
        refine g_goto (off := 4) (tgt := 29) (by decide +kernel) (by decide) ?_
        exact g_iret (by decide +kernel) rfl ⟨_, rfl, h⟩
def p_Tape_isLetter (E : XE) (d : Nat) (x0 : Int32) (H : HH) (Q : Int32 → HH → Prop) : Prop := ((if x0 < 97 then 0 else (if 122 < x0 then 0 else 1 : Int32) : Int32) = 0 ∨ (if x0 < 97 then 0 else (if 122 < x0 then 0 else 1 : Int32) : Int32) = 1) ∧ Q (if x0 < 97 then 0 else (if 122 < x0 then 0 else 1 : Int32) : Int32) H
set_option maxHeartbeats 4000000 in
theorem l_Tape_isLetter {E : XE} {d : Nat} {x0 : Int32} {H : HH} {Q : Int32 → HH → Prop} (h : p_Tape_isLetter E d x0 H Q) : c_Tape_isLetter E d x0 H Q := by
  show g_Tape_isLetter E d 0 (xent [vi x0]) [] H (qi Q)
  refine g_drop (ls2 := [some (vi x0)]) (And.intro rfl trivial) ?_
  refine g_iload_n (q := 0) (i := 0) (by decide +kernel) rfl rfl ?_
  refine g_bipush (n := 97) (v := 97) (by decide +kernel) (by decide) ?_
  suffices hj2 : g_Tape_isLetter E d 17 [some (vi x0)] [vi (if x0 < 97 then 0 else (if 122 < x0 then 0 else 1 : Int32) : Int32)] H (qi Q) by
    refine g_icmp_lt (off := 13) (tgt := 16) (by decide +kernel) (by decide) (fun c => ?_) (fun c => ?_)
    · rw [if_pos c] at hj2
      refine g_iconst (n := 0) (v := 0) (by decide +kernel) (by decide) ?_
      exact hj2
    · rw [if_neg c] at hj2
      refine g_iload_n (q := 0) (i := 0) (by decide +kernel) rfl rfl ?_
      refine g_bipush (n := 122) (v := 122) (by decide +kernel) (by decide) ?_
      suffices hj1 : g_Tape_isLetter E d 17 [some (vi x0)] [vi (if 122 < x0 then 0 else 1 : Int32)] H (qi Q) by
        refine g_icmp_gt (off := 7) (tgt := 16) (by decide +kernel) (by decide) (fun c => ?_) (fun c => ?_)
        · rw [if_pos c] at hj1
          refine g_iconst (n := 0) (v := 0) (by decide +kernel) (by decide) ?_
          exact hj1
        · rw [if_neg c] at hj1
          refine g_iconst (n := 1) (v := 1) (by decide +kernel) (by decide) ?_
          refine g_goto (off := 4) (tgt := 17) (by decide +kernel) (by decide) ?_
          exact hj1
      exact hj2
  obtain ⟨h01, h⟩ := h
  exact g_zret (by decide +kernel) rfl (nbool h01) ⟨_, rfl, h⟩
def p_Tape_isDigit (E : XE) (d : Nat) (x0 : Int32) (H : HH) (Q : Int32 → HH → Prop) : Prop := ((if x0 < 48 then 0 else (if 57 < x0 then 0 else 1 : Int32) : Int32) = 0 ∨ (if x0 < 48 then 0 else (if 57 < x0 then 0 else 1 : Int32) : Int32) = 1) ∧ Q (if x0 < 48 then 0 else (if 57 < x0 then 0 else 1 : Int32) : Int32) H
set_option maxHeartbeats 4000000 in
theorem l_Tape_isDigit {E : XE} {d : Nat} {x0 : Int32} {H : HH} {Q : Int32 → HH → Prop} (h : p_Tape_isDigit E d x0 H Q) : c_Tape_isDigit E d x0 H Q := by
  show g_Tape_isDigit E d 0 (xent [vi x0]) [] H (qi Q)
  refine g_drop (ls2 := [some (vi x0)]) (And.intro rfl trivial) ?_
  refine g_iload_n (q := 0) (i := 0) (by decide +kernel) rfl rfl ?_
  refine g_bipush (n := 48) (v := 48) (by decide +kernel) (by decide) ?_
  suffices hj2 : g_Tape_isDigit E d 17 [some (vi x0)] [vi (if x0 < 48 then 0 else (if 57 < x0 then 0 else 1 : Int32) : Int32)] H (qi Q) by
    refine g_icmp_lt (off := 13) (tgt := 16) (by decide +kernel) (by decide) (fun c => ?_) (fun c => ?_)
    · rw [if_pos c] at hj2
      refine g_iconst (n := 0) (v := 0) (by decide +kernel) (by decide) ?_
      exact hj2
    · rw [if_neg c] at hj2
      refine g_iload_n (q := 0) (i := 0) (by decide +kernel) rfl rfl ?_
      refine g_bipush (n := 57) (v := 57) (by decide +kernel) (by decide) ?_
      suffices hj1 : g_Tape_isDigit E d 17 [some (vi x0)] [vi (if 57 < x0 then 0 else 1 : Int32)] H (qi Q) by
        refine g_icmp_gt (off := 7) (tgt := 16) (by decide +kernel) (by decide) (fun c => ?_) (fun c => ?_)
        · rw [if_pos c] at hj1
          refine g_iconst (n := 0) (v := 0) (by decide +kernel) (by decide) ?_
          exact hj1
        · rw [if_neg c] at hj1
          refine g_iconst (n := 1) (v := 1) (by decide +kernel) (by decide) ?_
          refine g_goto (off := 4) (tgt := 17) (by decide +kernel) (by decide) ?_
          exact hj1
      exact hj2
  obtain ⟨h01, h⟩ := h
  exact g_zret (by decide +kernel) rfl (nbool h01) ⟨_, rfl, h⟩
def p_Tape_endOfToken (E : XE) (d : Nat) (x1 : Int32) (H : HH) (Q : Int32 → HH → Prop) : Prop := c_Tape_byteAt E d x1 H (fun r2 H1 => c_Tape_isLetter E d r2 H1 (fun r4 H3 => (r4 = 0 → (c_Tape_byteAt E d x1 H3 (fun r6 H5 => c_Tape_isDigit E d r6 H5 (fun r8 H7 => (r8 = 0 → (Q (x1 + 1) H7)) ∧ (¬ r8 = 0 → (∃ (I9 : Int32 → HH → Prop) (μ9 : Int32 → HH → Nat), I9 (x1 + 1) H7 ∧ ∀ (z10 : Int32) (H11 : HH), I9 z10 H11 → (((H11 6 0 1) ≤ z10 → (Q z10 H11)) ∧ (¬ (H11 6 0 1) ≤ z10 → (c_Tape_byteAt E d z10 H11 (fun r13 H12 => c_Tape_isDigit E d r13 H12 (fun r15 H14 => (r15 = 0 → (Q z10 H14)) ∧ (¬ r15 = 0 → (I9 (z10 + 1) H14 ∧ μ9 (z10 + 1) H14 < μ9 z10 H11))))))))))))) ∧ (¬ r4 = 0 → (∃ (I16 : Int32 → HH → Prop) (μ16 : Int32 → HH → Nat), I16 (x1 + 1) H3 ∧ ∀ (z17 : Int32) (H18 : HH), I16 z17 H18 → (((H18 6 0 1) ≤ z17 → (Q z17 H18)) ∧ (¬ (H18 6 0 1) ≤ z17 → (c_Tape_byteAt E d z17 H18 (fun r20 H19 => c_Tape_isLetter E d r20 H19 (fun r22 H21 => (r22 = 0 → (Q z17 H21)) ∧ (¬ r22 = 0 → (I16 (z17 + 1) H21 ∧ μ16 (z17 + 1) H21 < μ16 z17 H18)))))))))))
set_option maxHeartbeats 4000000 in
theorem l_Tape_endOfToken {E : XE} {d : Nat} {x1 : Int32} {H : HH} {Q : Int32 → HH → Prop} (h : p_Tape_endOfToken E d x1 H Q) : c_Tape_endOfToken E (d + 1) x1 H Q := by
  show g_Tape_endOfToken E (d + 1) 0 (xent [vr 6 0, vi x1]) [] H (qi Q)
  refine g_drop (ls2 := [some (vr 6 0), some (vi x1), none]) (And.intro rfl (And.intro rfl trivial)) ?_
  refine g_iload_n (q := 1) (i := 1) (by decide +kernel) rfl rfl ?_
  refine g_iconst (n := 1) (v := 1) (by decide +kernel) (by decide) ?_
  refine g_iadd (by decide +kernel) ?_
  refine g_istore_n (q := 2) (i := 2) (ls2 := [some (vr 6 0), some (vi x1), some (vi (x1 + 1))]) (by decide +kernel) rfl (by decide) rfl rfl ?_
  refine g_aload_n (q := 0) (i := 0) (by decide +kernel) rfl rfl ?_
  refine g_iload_n (q := 1) (i := 1) (by decide +kernel) rfl rfl ?_
  refine g_callV (kd := 6) (ix := 0) (ci := 5) (N := 6) (T := xT_Tape) (vs := [vi x1]) (st := []) (by decide +kernel) xm_Tape_byteAt kw_398 kw_400 kw_1 (by decide) rfl rfl rfl rfl (Nat.le_of_ble_eq_true rfl) (Nat.le_of_ble_eq_true rfl) h (fun vH1 H1 hq => ?_)
  obtain ⟨r2, rfl, h⟩ := hq
  refine g_callS (vs := [vi r2]) (st := []) (by decide +kernel) xm_Tape_isLetter kw_402 kw_403 rfl rfl (Nat.le_of_ble_eq_true rfl) (Nat.le_of_ble_eq_true rfl) h (fun vH3 H3 hq => ?_)
  obtain ⟨r4, rfl, h⟩ := hq
  refine g_if_eq (off := 28) (tgt := 40) (by decide +kernel) (by decide) (fun c => ?_) (fun c => ?_)
  · replace h := h.1 c
    refine g_aload_n (q := 0) (i := 0) (by decide +kernel) rfl rfl ?_
    refine g_iload_n (q := 1) (i := 1) (by decide +kernel) rfl rfl ?_
    refine g_callV (kd := 6) (ix := 0) (ci := 5) (N := 6) (T := xT_Tape) (vs := [vi x1]) (st := []) (by decide +kernel) xm_Tape_byteAt kw_398 kw_400 kw_1 (by decide) rfl rfl rfl rfl (Nat.le_of_ble_eq_true rfl) (Nat.le_of_ble_eq_true rfl) h (fun vH5 H5 hq => ?_)
    obtain ⟨r6, rfl, h⟩ := hq
    refine g_callS (vs := [vi r6]) (st := []) (by decide +kernel) xm_Tape_isDigit kw_405 kw_406 rfl rfl (Nat.le_of_ble_eq_true rfl) (Nat.le_of_ble_eq_true rfl) h (fun vH7 H7 hq => ?_)
    obtain ⟨r8, rfl, h⟩ := hq
    refine g_if_eq (off := 28) (tgt := 76) (by decide +kernel) (by decide) (fun c => ?_) (fun c => ?_)
    · replace h := h.1 c
      refine g_iload_n (q := 2) (i := 2) (by decide +kernel) rfl rfl ?_
      exact g_iret (by decide +kernel) rfl ⟨_, rfl, h⟩
    · replace h := h.2 c
      refine g_drop (ls2 := [some (vr 6 0), none, some (vi (x1 + 1))]) (And.intro rfl (And.intro rfl trivial)) ?_
      obtain ⟨I9, μ9, h0, h⟩ := h
      refine xloop (σ := Int32) (fun s H => I9 s H) (fun s H => μ9 s H) (fun s H => g_Tape_endOfToken E (d + 1) 51 [some (vr 6 0), none, some (vi s)] [] H (qi Q)) (fun s H11 hI ih9 => ?_) (x1 + 1) H7 h0
      obtain ⟨z10, es⟩ : ∃ z, z = s := ⟨s, rfl⟩
      subst es
      replace h := h z10 H11 hI
      refine g_iload_n (q := 2) (i := 2) (by decide +kernel) rfl rfl ?_
      refine g_aload_n (q := 0) (i := 0) (by decide +kernel) rfl rfl ?_
      refine g_get (C := "ThreePoints$Tape") (T := xT_Tape) (N := 6) (ci := 5) (k := 1) (v := vi (H11 6 0 1)) (by decide +kernel) (by decide) rfl rfl xi_Tape (by decide) kw_188 rfl ?_
      refine g_icmp_ge (off := 20) (tgt := 76) (by decide +kernel) (by decide) (fun c => ?_) (fun c => ?_)
      · replace h := h.1 c
        refine g_iload_n (q := 2) (i := 2) (by decide +kernel) rfl rfl ?_
        exact g_iret (by decide +kernel) rfl ⟨_, rfl, h⟩
      · replace h := h.2 c
        refine g_aload_n (q := 0) (i := 0) (by decide +kernel) rfl rfl ?_
        refine g_iload_n (q := 2) (i := 2) (by decide +kernel) rfl rfl ?_
        refine g_callV (kd := 6) (ix := 0) (ci := 5) (N := 6) (T := xT_Tape) (vs := [vi z10]) (st := []) (by decide +kernel) xm_Tape_byteAt kw_398 kw_400 kw_1 (by decide) rfl rfl rfl rfl (Nat.le_of_ble_eq_true rfl) (Nat.le_of_ble_eq_true rfl) h (fun vH12 H12 hq => ?_)
        obtain ⟨r13, rfl, h⟩ := hq
        refine g_callS (vs := [vi r13]) (st := []) (by decide +kernel) xm_Tape_isDigit kw_405 kw_406 rfl rfl (Nat.le_of_ble_eq_true rfl) (Nat.le_of_ble_eq_true rfl) h (fun vH14 H14 hq => ?_)
        obtain ⟨r15, rfl, h⟩ := hq
        refine g_if_eq (off := 9) (tgt := 76) (by decide +kernel) (by decide) (fun c => ?_) (fun c => ?_)
        · replace h := h.1 c
          refine g_iload_n (q := 2) (i := 2) (by decide +kernel) rfl rfl ?_
          exact g_iret (by decide +kernel) rfl ⟨_, rfl, h⟩
        · replace h := h.2 c
          refine g_iinc (i := 2) (n := 1) (v := (z10 + 1)) (ls2 := [some (vr 6 0), none, some (vi (z10 + 1))]) (by decide +kernel) rfl rfl (by decide) rfl rfl ?_
          refine g_goto (off := (-22)) (tgt := 51) (by decide +kernel) (by decide) ?_
          obtain ⟨hI, hlt⟩ := h
          exact g_drop (ls2 := [some (vr 6 0), none, some (vi (z10 + 1))]) (And.intro rfl (And.intro rfl trivial)) (ih9 (z10 + 1) H14 hI hlt)
  · replace h := h.2 c
    refine g_drop (ls2 := [some (vr 6 0), none, some (vi (x1 + 1))]) (And.intro rfl (And.intro rfl trivial)) ?_
    obtain ⟨I16, μ16, h0, h⟩ := h
    refine xloop (σ := Int32) (fun s H => I16 s H) (fun s H => μ16 s H) (fun s H => g_Tape_endOfToken E (d + 1) 15 [some (vr 6 0), none, some (vi s)] [] H (qi Q)) (fun s H18 hI ih16 => ?_) (x1 + 1) H3 h0
    obtain ⟨z17, es⟩ : ∃ z, z = s := ⟨s, rfl⟩
    subst es
    replace h := h z17 H18 hI
    refine g_iload_n (q := 2) (i := 2) (by decide +kernel) rfl rfl ?_
    refine g_aload_n (q := 0) (i := 0) (by decide +kernel) rfl rfl ?_
    refine g_get (C := "ThreePoints$Tape") (T := xT_Tape) (N := 6) (ci := 5) (k := 1) (v := vi (H18 6 0 1)) (by decide +kernel) (by decide) rfl rfl xi_Tape (by decide) kw_188 rfl ?_
    refine g_icmp_ge (off := 56) (tgt := 76) (by decide +kernel) (by decide) (fun c => ?_) (fun c => ?_)
    · replace h := h.1 c
      refine g_iload_n (q := 2) (i := 2) (by decide +kernel) rfl rfl ?_
      exact g_iret (by decide +kernel) rfl ⟨_, rfl, h⟩
    · replace h := h.2 c
      refine g_aload_n (q := 0) (i := 0) (by decide +kernel) rfl rfl ?_
      refine g_iload_n (q := 2) (i := 2) (by decide +kernel) rfl rfl ?_
      refine g_callV (kd := 6) (ix := 0) (ci := 5) (N := 6) (T := xT_Tape) (vs := [vi z17]) (st := []) (by decide +kernel) xm_Tape_byteAt kw_398 kw_400 kw_1 (by decide) rfl rfl rfl rfl (Nat.le_of_ble_eq_true rfl) (Nat.le_of_ble_eq_true rfl) h (fun vH19 H19 hq => ?_)
      obtain ⟨r20, rfl, h⟩ := hq
      refine g_callS (vs := [vi r20]) (st := []) (by decide +kernel) xm_Tape_isLetter kw_402 kw_403 rfl rfl (Nat.le_of_ble_eq_true rfl) (Nat.le_of_ble_eq_true rfl) h (fun vH21 H21 hq => ?_)
      obtain ⟨r22, rfl, h⟩ := hq
      refine g_if_eq (off := 45) (tgt := 76) (by decide +kernel) (by decide) (fun c => ?_) (fun c => ?_)
      · replace h := h.1 c
        refine g_iload_n (q := 2) (i := 2) (by decide +kernel) rfl rfl ?_
        exact g_iret (by decide +kernel) rfl ⟨_, rfl, h⟩
      · replace h := h.2 c
        refine g_iinc (i := 2) (n := 1) (v := (z17 + 1)) (ls2 := [some (vr 6 0), none, some (vi (z17 + 1))]) (by decide +kernel) rfl rfl (by decide) rfl rfl ?_
        refine g_goto (off := (-22)) (tgt := 15) (by decide +kernel) (by decide) ?_
        obtain ⟨hI, hlt⟩ := h
        exact g_drop (ls2 := [some (vr 6 0), none, some (vi (z17 + 1))]) (And.intro rfl (And.intro rfl trivial)) (ih16 (z17 + 1) H21 hI hlt)
def p_Tape_isBlank (E : XE) (d : Nat) (x0 : Int32) (H : HH) (Q : Int32 → HH → Prop) : Prop := ((if x0 = 32 then 1 else (if x0 = 10 then 1 else 0 : Int32) : Int32) = 0 ∨ (if x0 = 32 then 1 else (if x0 = 10 then 1 else 0 : Int32) : Int32) = 1) ∧ Q (if x0 = 32 then 1 else (if x0 = 10 then 1 else 0 : Int32) : Int32) H
set_option maxHeartbeats 4000000 in
theorem l_Tape_isBlank {E : XE} {d : Nat} {x0 : Int32} {H : HH} {Q : Int32 → HH → Prop} (h : p_Tape_isBlank E d x0 H Q) : c_Tape_isBlank E d x0 H Q := by
  show g_Tape_isBlank E d 0 (xent [vi x0]) [] H (qi Q)
  refine g_drop (ls2 := [some (vi x0)]) (And.intro rfl trivial) ?_
  refine g_iload_n (q := 0) (i := 0) (by decide +kernel) rfl rfl ?_
  refine g_bipush (n := 32) (v := 32) (by decide +kernel) (by decide) ?_
  suffices hj2 : g_Tape_isBlank E d 17 [some (vi x0)] [vi (if x0 = 32 then 1 else (if x0 = 10 then 1 else 0 : Int32) : Int32)] H (qi Q) by
    refine g_icmp_eq (off := 9) (tgt := 12) (by decide +kernel) (by decide) (fun c => ?_) (fun c => ?_)
    · rw [if_pos c] at hj2
      refine g_iconst (n := 1) (v := 1) (by decide +kernel) (by decide) ?_
      refine g_goto (off := 4) (tgt := 17) (by decide +kernel) (by decide) ?_
      exact hj2
    · rw [if_neg c] at hj2
      refine g_iload_n (q := 0) (i := 0) (by decide +kernel) rfl rfl ?_
      refine g_bipush (n := 10) (v := 10) (by decide +kernel) (by decide) ?_
      suffices hj1 : g_Tape_isBlank E d 17 [some (vi x0)] [vi (if x0 = 10 then 1 else 0 : Int32)] H (qi Q) by
        refine g_icmp_ne (off := 7) (tgt := 16) (by decide +kernel) (by decide) (fun c => ?_) (fun c => ?_)
        · rw [if_neg c] at hj1
          refine g_iconst (n := 0) (v := 0) (by decide +kernel) (by decide) ?_
          exact hj1
        · rw [if_pos c] at hj1
          refine g_iconst (n := 1) (v := 1) (by decide +kernel) (by decide) ?_
          refine g_goto (off := 4) (tgt := 17) (by decide +kernel) (by decide) ?_
          exact hj1
      exact hj2
  obtain ⟨h01, h⟩ := h
  exact g_zret (by decide +kernel) rfl (nbool h01) ⟨_, rfl, h⟩
def p_Tape_numberAt (E : XE) (d : Nat) (x1 : Int32) (x2 : Int32) (H : HH) (Q : Int32 → HH → Prop) : Prop := ∃ (I1 : Int32 → Int32 → HH → Prop) (μ1 : Int32 → Int32 → HH → Nat), I1 0 x1 H ∧ ∀ (z2 : Int32) (z3 : Int32) (H4 : HH), I1 z2 z3 H4 → ((x2 ≤ z3 → (Q z2 H4)) ∧ (¬ x2 ≤ z3 → (c_Tape_byteAt E d z3 H4 (fun r6 H5 => ∀ v7 : Int32, v7 = (((z2 * 10) + r6) - 48) → (I1 v7 (z3 + 1) H5 ∧ μ1 v7 (z3 + 1) H5 < μ1 z2 z3 H4)))))
set_option maxHeartbeats 4000000 in
theorem l_Tape_numberAt {E : XE} {d : Nat} {x1 : Int32} {x2 : Int32} {H : HH} {Q : Int32 → HH → Prop} (h : p_Tape_numberAt E d x1 x2 H Q) : c_Tape_numberAt E (d + 1) x1 x2 H Q := by
  show g_Tape_numberAt E (d + 1) 0 (xent [vr 6 0, vi x1, vi x2]) [] H (qi Q)
  refine g_drop (ls2 := [some (vr 6 0), some (vi x1), some (vi x2), none, none]) (And.intro rfl (And.intro rfl (And.intro rfl trivial))) ?_
  refine g_iconst (n := 0) (v := 0) (by decide +kernel) (by decide) ?_
  refine g_istore_n (q := 3) (i := 3) (ls2 := [some (vr 6 0), some (vi x1), some (vi x2), some (vi 0), none]) (by decide +kernel) rfl (by decide) rfl rfl ?_
  refine g_iload_n (q := 1) (i := 1) (by decide +kernel) rfl rfl ?_
  refine g_istore (i := 4) (ls2 := [some (vr 6 0), some (vi x1), some (vi x2), some (vi 0), some (vi x1)]) (by decide +kernel) (by decide) rfl rfl ?_
  refine g_drop (ls2 := [some (vr 6 0), none, some (vi x2), some (vi 0), some (vi x1)]) (And.intro rfl (And.intro rfl (And.intro rfl (And.intro rfl trivial)))) ?_
  obtain ⟨I1, μ1, h0, h⟩ := h
  refine xloop (σ := Int32 × Int32) (fun s H => I1 s.1 s.2 H) (fun s H => μ1 s.1 s.2 H) (fun s H => g_Tape_numberAt E (d + 1) 5 [some (vr 6 0), none, some (vi x2), some (vi s.1), some (vi s.2)] [] H (qi Q)) (fun s H4 hI ih1 => ?_) (0, x1) H h0
  obtain ⟨z2, z3⟩ := s
  replace h := h z2 z3 H4 hI
  refine g_iload (i := 4) (by decide +kernel) rfl ?_
  refine g_iload_n (q := 2) (i := 2) (by decide +kernel) rfl rfl ?_
  refine g_icmp_ge (off := 24) (tgt := 32) (by decide +kernel) (by decide) (fun c => ?_) (fun c => ?_)
  · replace h := h.1 c
    refine g_iload_n (q := 3) (i := 3) (by decide +kernel) rfl rfl ?_
    exact g_iret (by decide +kernel) rfl ⟨_, rfl, h⟩
  · replace h := h.2 c
    refine g_iload_n (q := 3) (i := 3) (by decide +kernel) rfl rfl ?_
    refine g_bipush (n := 10) (v := 10) (by decide +kernel) (by decide) ?_
    refine g_imul (by decide +kernel) ?_
    refine g_aload_n (q := 0) (i := 0) (by decide +kernel) rfl rfl ?_
    refine g_iload (i := 4) (by decide +kernel) rfl ?_
    refine g_callV (kd := 6) (ix := 0) (ci := 5) (N := 6) (T := xT_Tape) (vs := [vi z3]) (st := [vi (z2 * 10)]) (by decide +kernel) xm_Tape_byteAt kw_398 kw_400 kw_1 (by decide) rfl rfl rfl rfl (Nat.le_of_ble_eq_true rfl) (Nat.le_of_ble_eq_true rfl) h (fun vH5 H5 hq => ?_)
    obtain ⟨r6, rfl, h⟩ := hq
    refine g_iadd (by decide +kernel) ?_
    refine g_bipush (n := 48) (v := 48) (by decide +kernel) (by decide) ?_
    refine g_isub (by decide +kernel) ?_
    refine g_topi (fun v7 ev7 => ?_)
    replace h := h v7 ev7
    refine g_istore_n (q := 3) (i := 3) (ls2 := [some (vr 6 0), none, some (vi x2), some (vi v7), some (vi z3)]) (by decide +kernel) rfl (by decide) rfl rfl ?_
    refine g_iinc (i := 4) (n := 1) (v := (z3 + 1)) (ls2 := [some (vr 6 0), none, some (vi x2), some (vi v7), some (vi (z3 + 1))]) (by decide +kernel) rfl rfl (by decide) rfl rfl ?_
    refine g_goto (off := (-24)) (tgt := 5) (by decide +kernel) (by decide) ?_
    obtain ⟨hI, hlt⟩ := h
    exact g_drop (ls2 := [some (vr 6 0), none, some (vi x2), some (vi v7), some (vi (z3 + 1))]) (And.intro rfl (And.intro rfl (And.intro rfl (And.intro rfl trivial)))) (ih1 (v7, (z3 + 1)) H5 hI hlt)
def p_Tape_spells (E : XE) (d : Nat) (x1 : Int32) (x2 : Int32) (w : Nat) (H : HH) (Q : Int32 → HH → Prop) : Prop := c_String_length E d w H (fun r2 H1 => ((x2 - x1) = r2 → (∃ (I3 : Int32 → HH → Prop) (μ3 : Int32 → HH → Nat), I3 0 H1 ∧ ∀ (z4 : Int32) (H5 : HH), I3 z4 H5 → (c_String_length E d w H5 (fun r7 H6 => (r7 ≤ z4 → (Q 1 H6)) ∧ (¬ r7 ≤ z4 → (c_Tape_byteAt E d (x1 + z4) H6 (fun r9 H8 => c_String_charAt E d w z4 H8 (fun r11 H10 => (r9 = r11 → (I3 (z4 + 1) H10 ∧ μ3 (z4 + 1) H10 < μ3 z4 H5)) ∧ (¬ r9 = r11 → (Q 0 H10)))))))))) ∧ (¬ (x2 - x1) = r2 → (Q 0 H1)))
set_option maxHeartbeats 4000000 in
theorem l_Tape_spells {E : XE} {d : Nat} {x1 : Int32} {x2 : Int32} {w : Nat} {H : HH} {Q : Int32 → HH → Prop} (h : p_Tape_spells E d x1 x2 w H Q) : c_Tape_spells E (d + 1) x1 x2 w H Q := by
  show g_Tape_spells E (d + 1) 0 (xent [vr 6 0, vi x1, vi x2, vr 60 w]) [] H (qi Q)
  refine g_drop (ls2 := [some (vr 6 0), some (vi x1), some (vi x2), some (vr 60 w), none]) (And.intro rfl (And.intro rfl (And.intro rfl (And.intro rfl trivial)))) ?_
  refine g_iload_n (q := 2) (i := 2) (by decide +kernel) rfl rfl ?_
  refine g_iload_n (q := 1) (i := 1) (by decide +kernel) rfl rfl ?_
  refine g_isub (by decide +kernel) ?_
  refine g_aload_n (q := 3) (i := 3) (by decide +kernel) rfl rfl ?_
  refine g_callStr (vs := []) (st := [vi (x2 - x1)]) (by decide +kernel) xm_String_length kw_334 kw_335 kw_336 rfl rfl rfl (Nat.le_of_ble_eq_true rfl) (Nat.le_of_ble_eq_true rfl) h (fun vH1 H1 hq => ?_)
  obtain ⟨r2, rfl, h⟩ := hq
  refine g_icmp_eq (off := 5) (tgt := 12) (by decide +kernel) (by decide) (fun c => ?_) (fun c => ?_)
  · replace h := h.1 c
    refine g_iconst (n := 0) (v := 0) (by decide +kernel) (by decide) ?_
    refine g_istore (i := 4) (ls2 := [some (vr 6 0), some (vi x1), some (vi x2), some (vr 60 w), some (vi 0)]) (by decide +kernel) (by decide) rfl rfl ?_
    refine g_drop (ls2 := [some (vr 6 0), some (vi x1), none, some (vr 60 w), some (vi 0)]) (And.intro rfl (And.intro rfl (And.intro rfl (And.intro rfl trivial)))) ?_
    obtain ⟨I3, μ3, h0, h⟩ := h
    refine xloop (σ := Int32) (fun s H => I3 s H) (fun s H => μ3 s H) (fun s H => g_Tape_spells E (d + 1) 15 [some (vr 6 0), some (vi x1), none, some (vr 60 w), some (vi s)] [] H (qi Q)) (fun s H5 hI ih3 => ?_) 0 H1 h0
    obtain ⟨z4, es⟩ : ∃ z, z = s := ⟨s, rfl⟩
    subst es
    replace h := h z4 H5 hI
    refine g_iload (i := 4) (by decide +kernel) rfl ?_
    refine g_aload_n (q := 3) (i := 3) (by decide +kernel) rfl rfl ?_
    refine g_callStr (vs := []) (st := [vi z4]) (by decide +kernel) xm_String_length kw_334 kw_335 kw_336 rfl rfl rfl (Nat.le_of_ble_eq_true rfl) (Nat.le_of_ble_eq_true rfl) h (fun vH6 H6 hq => ?_)
    obtain ⟨r7, rfl, h⟩ := hq
    refine g_icmp_ge (off := 28) (tgt := 49) (by decide +kernel) (by decide) (fun c => ?_) (fun c => ?_)
    · replace h := h.1 c
      refine g_iconst (n := 1) (v := 1) (by decide +kernel) (by decide) ?_
      exact g_zret (by decide +kernel) rfl rfl ⟨_, rfl, h⟩
    · replace h := h.2 c
      refine g_aload_n (q := 0) (i := 0) (by decide +kernel) rfl rfl ?_
      refine g_iload_n (q := 1) (i := 1) (by decide +kernel) rfl rfl ?_
      refine g_iload (i := 4) (by decide +kernel) rfl ?_
      refine g_iadd (by decide +kernel) ?_
      refine g_callV (kd := 6) (ix := 0) (ci := 5) (N := 6) (T := xT_Tape) (vs := [vi (x1 + z4)]) (st := []) (by decide +kernel) xm_Tape_byteAt kw_398 kw_400 kw_1 (by decide) rfl rfl rfl rfl (Nat.le_of_ble_eq_true rfl) (Nat.le_of_ble_eq_true rfl) h (fun vH8 H8 hq => ?_)
      obtain ⟨r9, rfl, h⟩ := hq
      refine g_aload_n (q := 3) (i := 3) (by decide +kernel) rfl rfl ?_
      refine g_iload (i := 4) (by decide +kernel) rfl ?_
      refine g_callStr (vs := [vi z4]) (st := [vi r9]) (by decide +kernel) xm_String_charAt kw_344 kw_345 kw_346 rfl rfl rfl (Nat.le_of_ble_eq_true rfl) (Nat.le_of_ble_eq_true rfl) h (fun vH10 H10 hq => ?_)
      obtain ⟨r11, rfl, h⟩ := hq
      refine g_icmp_eq (off := 5) (tgt := 43) (by decide +kernel) (by decide) (fun c => ?_) (fun c => ?_)
      · replace h := h.1 c
        refine g_iinc (i := 4) (n := 1) (v := (z4 + 1)) (ls2 := [some (vr 6 0), some (vi x1), none, some (vr 60 w), some (vi (z4 + 1))]) (by decide +kernel) rfl rfl (by decide) rfl rfl ?_
        refine g_goto (off := (-31)) (tgt := 15) (by decide +kernel) (by decide) ?_
        obtain ⟨hI, hlt⟩ := h
        exact g_drop (ls2 := [some (vr 6 0), some (vi x1), none, some (vr 60 w), some (vi (z4 + 1))]) (And.intro rfl (And.intro rfl (And.intro rfl (And.intro rfl trivial)))) (ih3 (z4 + 1) H10 hI hlt)
      · replace h := h.2 c
        refine g_iconst (n := 0) (v := 0) (by decide +kernel) (by decide) ?_
        exact g_zret (by decide +kernel) rfl rfl ⟨_, rfl, h⟩
  · replace h := h.2 c
    refine g_iconst (n := 0) (v := 0) (by decide +kernel) (by decide) ?_
    exact g_zret (by decide +kernel) rfl rfl ⟨_, rfl, h⟩
def p_Tape_nameAt (E : XE) (d : Nat) (x1 : Int32) (x2 : Int32) (H : HH) (Q : Int32 → HH → Prop) : Prop := c_Tape_spells E d x1 x2 1 H (fun r2 H1 => (r2 = 0 → (c_Tape_spells E d x1 x2 2 H1 (fun r4 H3 => (r4 = 0 → (c_Tape_spells E d x1 x2 3 H3 (fun r6 H5 => (r6 = 0 → (c_Tape_spells E d x1 x2 4 H5 (fun r8 H7 => (r8 = 0 → (c_Tape_spells E d x1 x2 5 H7 (fun r10 H9 => (r10 = 0 → (c_Tape_spells E d x1 x2 6 H9 (fun r12 H11 => (r12 = 0 → (Q (-1) H11)) ∧ (¬ r12 = 0 → (Q 5 H11))))) ∧ (¬ r10 = 0 → (Q 4 H9))))) ∧ (¬ r8 = 0 → (Q 3 H7))))) ∧ (¬ r6 = 0 → (Q 2 H5))))) ∧ (¬ r4 = 0 → (Q 1 H3))))) ∧ (¬ r2 = 0 → (Q 0 H1)))
set_option maxHeartbeats 4000000 in
theorem l_Tape_nameAt {E : XE} {d : Nat} {x1 : Int32} {x2 : Int32} {H : HH} {Q : Int32 → HH → Prop} (h : p_Tape_nameAt E d x1 x2 H Q) : c_Tape_nameAt E (d + 1) x1 x2 H Q := by
  show g_Tape_nameAt E (d + 1) 0 (xent [vr 6 0, vi x1, vi x2]) [] H (qi Q)
  refine g_drop (ls2 := [some (vr 6 0), some (vi x1), some (vi x2)]) (And.intro rfl (And.intro rfl (And.intro rfl trivial))) ?_
  refine g_aload_n (q := 0) (i := 0) (by decide +kernel) rfl rfl ?_
  refine g_iload_n (q := 1) (i := 1) (by decide +kernel) rfl rfl ?_
  refine g_iload_n (q := 2) (i := 2) (by decide +kernel) rfl rfl ?_
  refine g_ldcS (i := 1) (by decide +kernel) rfl (by decide) ?_
  refine g_callV (kd := 6) (ix := 0) (ci := 5) (N := 6) (T := xT_Tape) (vs := [vi x1, vi x2, vr 60 1]) (st := []) (by decide +kernel) xm_Tape_spells kw_420 kw_422 kw_4 (by decide) rfl rfl rfl rfl (Nat.le_of_ble_eq_true rfl) (Nat.le_of_ble_eq_true rfl) h (fun vH1 H1 hq => ?_)
  obtain ⟨r2, rfl, h⟩ := hq
  refine g_if_eq (off := 5) (tgt := 13) (by decide +kernel) (by decide) (fun c => ?_) (fun c => ?_)
  · replace h := h.1 c
    refine g_aload_n (q := 0) (i := 0) (by decide +kernel) rfl rfl ?_
    refine g_iload_n (q := 1) (i := 1) (by decide +kernel) rfl rfl ?_
    refine g_iload_n (q := 2) (i := 2) (by decide +kernel) rfl rfl ?_
    refine g_ldcS (i := 2) (by decide +kernel) rfl (by decide) ?_
    refine g_callV (kd := 6) (ix := 0) (ci := 5) (N := 6) (T := xT_Tape) (vs := [vi x1, vi x2, vr 60 2]) (st := []) (by decide +kernel) xm_Tape_spells kw_420 kw_422 kw_4 (by decide) rfl rfl rfl rfl (Nat.le_of_ble_eq_true rfl) (Nat.le_of_ble_eq_true rfl) h (fun vH3 H3 hq => ?_)
    obtain ⟨r4, rfl, h⟩ := hq
    refine g_if_eq (off := 5) (tgt := 26) (by decide +kernel) (by decide) (fun c => ?_) (fun c => ?_)
    · replace h := h.1 c
      refine g_aload_n (q := 0) (i := 0) (by decide +kernel) rfl rfl ?_
      refine g_iload_n (q := 1) (i := 1) (by decide +kernel) rfl rfl ?_
      refine g_iload_n (q := 2) (i := 2) (by decide +kernel) rfl rfl ?_
      refine g_ldcS (i := 3) (by decide +kernel) rfl (by decide) ?_
      refine g_callV (kd := 6) (ix := 0) (ci := 5) (N := 6) (T := xT_Tape) (vs := [vi x1, vi x2, vr 60 3]) (st := []) (by decide +kernel) xm_Tape_spells kw_420 kw_422 kw_4 (by decide) rfl rfl rfl rfl (Nat.le_of_ble_eq_true rfl) (Nat.le_of_ble_eq_true rfl) h (fun vH5 H5 hq => ?_)
      obtain ⟨r6, rfl, h⟩ := hq
      refine g_if_eq (off := 5) (tgt := 39) (by decide +kernel) (by decide) (fun c => ?_) (fun c => ?_)
      · replace h := h.1 c
        refine g_aload_n (q := 0) (i := 0) (by decide +kernel) rfl rfl ?_
        refine g_iload_n (q := 1) (i := 1) (by decide +kernel) rfl rfl ?_
        refine g_iload_n (q := 2) (i := 2) (by decide +kernel) rfl rfl ?_
        refine g_ldcS (i := 4) (by decide +kernel) rfl (by decide) ?_
        refine g_callV (kd := 6) (ix := 0) (ci := 5) (N := 6) (T := xT_Tape) (vs := [vi x1, vi x2, vr 60 4]) (st := []) (by decide +kernel) xm_Tape_spells kw_420 kw_422 kw_4 (by decide) rfl rfl rfl rfl (Nat.le_of_ble_eq_true rfl) (Nat.le_of_ble_eq_true rfl) h (fun vH7 H7 hq => ?_)
        obtain ⟨r8, rfl, h⟩ := hq
        refine g_if_eq (off := 5) (tgt := 52) (by decide +kernel) (by decide) (fun c => ?_) (fun c => ?_)
        · replace h := h.1 c
          refine g_aload_n (q := 0) (i := 0) (by decide +kernel) rfl rfl ?_
          refine g_iload_n (q := 1) (i := 1) (by decide +kernel) rfl rfl ?_
          refine g_iload_n (q := 2) (i := 2) (by decide +kernel) rfl rfl ?_
          refine g_ldcS (i := 5) (by decide +kernel) rfl (by decide) ?_
          refine g_callV (kd := 6) (ix := 0) (ci := 5) (N := 6) (T := xT_Tape) (vs := [vi x1, vi x2, vr 60 5]) (st := []) (by decide +kernel) xm_Tape_spells kw_420 kw_422 kw_4 (by decide) rfl rfl rfl rfl (Nat.le_of_ble_eq_true rfl) (Nat.le_of_ble_eq_true rfl) h (fun vH9 H9 hq => ?_)
          obtain ⟨r10, rfl, h⟩ := hq
          refine g_if_eq (off := 5) (tgt := 65) (by decide +kernel) (by decide) (fun c => ?_) (fun c => ?_)
          · replace h := h.1 c
            refine g_aload_n (q := 0) (i := 0) (by decide +kernel) rfl rfl ?_
            refine g_iload_n (q := 1) (i := 1) (by decide +kernel) rfl rfl ?_
            refine g_iload_n (q := 2) (i := 2) (by decide +kernel) rfl rfl ?_
            refine g_ldcS (i := 6) (by decide +kernel) rfl (by decide) ?_
            refine g_callV (kd := 6) (ix := 0) (ci := 5) (N := 6) (T := xT_Tape) (vs := [vi x1, vi x2, vr 60 6]) (st := []) (by decide +kernel) xm_Tape_spells kw_420 kw_422 kw_4 (by decide) rfl rfl rfl rfl (Nat.le_of_ble_eq_true rfl) (Nat.le_of_ble_eq_true rfl) h (fun vH11 H11 hq => ?_)
            obtain ⟨r12, rfl, h⟩ := hq
            refine g_if_eq (off := 5) (tgt := 78) (by decide +kernel) (by decide) (fun c => ?_) (fun c => ?_)
            · replace h := h.1 c
              refine g_iconst (n := (-1)) (v := (-1)) (by decide +kernel) (by decide) ?_
              exact g_iret (by decide +kernel) rfl ⟨_, rfl, h⟩
            · replace h := h.2 c
              refine g_iconst (n := 5) (v := 5) (by decide +kernel) (by decide) ?_
              exact g_iret (by decide +kernel) rfl ⟨_, rfl, h⟩
          · replace h := h.2 c
            refine g_iconst (n := 4) (v := 4) (by decide +kernel) (by decide) ?_
            exact g_iret (by decide +kernel) rfl ⟨_, rfl, h⟩
        · replace h := h.2 c
          refine g_iconst (n := 3) (v := 3) (by decide +kernel) (by decide) ?_
          exact g_iret (by decide +kernel) rfl ⟨_, rfl, h⟩
      · replace h := h.2 c
        refine g_iconst (n := 2) (v := 2) (by decide +kernel) (by decide) ?_
        exact g_iret (by decide +kernel) rfl ⟨_, rfl, h⟩
    · replace h := h.2 c
      refine g_iconst (n := 1) (v := 1) (by decide +kernel) (by decide) ?_
      exact g_iret (by decide +kernel) rfl ⟨_, rfl, h⟩
  · replace h := h.2 c
    refine g_iconst (n := 0) (v := 0) (by decide +kernel) (by decide) ?_
    exact g_iret (by decide +kernel) rfl ⟨_, rfl, h⟩
def p_Tape_wordKindAt (E : XE) (d : Nat) (x1 : Int32) (x2 : Int32) (H : HH) (Q : Int32 → HH → Prop) : Prop := c_Tape_spells E d x1 x2 7 H (fun r2 H1 => (r2 = 0 → (c_Tape_spells E d x1 x2 8 H1 (fun r4 H3 => (r4 = 0 → (c_Tape_spells E d x1 x2 9 H3 (fun r6 H5 => (r6 = 0 → (c_Tape_spells E d x1 x2 10 H5 (fun r8 H7 => (r8 = 0 → (c_Tape_spells E d x1 x2 11 H7 (fun r10 H9 => (r10 = 0 → (c_Tape_spells E d x1 x2 12 H9 (fun r12 H11 => (r12 = 0 → (c_Tape_nameAt E d x1 x2 H11 (fun r14 H13 => Q (if r14 = (-1) then 265 else 262 : Int32) H13))) ∧ (¬ r12 = 0 → (Q 261 H11))))) ∧ (¬ r10 = 0 → (Q 260 H9))))) ∧ (¬ r8 = 0 → (Q 259 H7))))) ∧ (¬ r6 = 0 → (Q 258 H5))))) ∧ (¬ r4 = 0 → (Q 257 H3))))) ∧ (¬ r2 = 0 → (Q 256 H1)))
set_option maxHeartbeats 4000000 in
theorem l_Tape_wordKindAt {E : XE} {d : Nat} {x1 : Int32} {x2 : Int32} {H : HH} {Q : Int32 → HH → Prop} (h : p_Tape_wordKindAt E d x1 x2 H Q) : c_Tape_wordKindAt E (d + 1) x1 x2 H Q := by
  show g_Tape_wordKindAt E (d + 1) 0 (xent [vr 6 0, vi x1, vi x2]) [] H (qi Q)
  refine g_drop (ls2 := [some (vr 6 0), some (vi x1), some (vi x2)]) (And.intro rfl (And.intro rfl (And.intro rfl trivial))) ?_
  refine g_aload_n (q := 0) (i := 0) (by decide +kernel) rfl rfl ?_
  refine g_iload_n (q := 1) (i := 1) (by decide +kernel) rfl rfl ?_
  refine g_iload_n (q := 2) (i := 2) (by decide +kernel) rfl rfl ?_
  refine g_ldcS (i := 7) (by decide +kernel) rfl (by decide) ?_
  refine g_callV (kd := 6) (ix := 0) (ci := 5) (N := 6) (T := xT_Tape) (vs := [vi x1, vi x2, vr 60 7]) (st := []) (by decide +kernel) xm_Tape_spells kw_420 kw_422 kw_4 (by decide) rfl rfl rfl rfl (Nat.le_of_ble_eq_true rfl) (Nat.le_of_ble_eq_true rfl) h (fun vH1 H1 hq => ?_)
  obtain ⟨r2, rfl, h⟩ := hq
  refine g_if_eq (off := 7) (tgt := 15) (by decide +kernel) (by decide) (fun c => ?_) (fun c => ?_)
  · replace h := h.1 c
    refine g_aload_n (q := 0) (i := 0) (by decide +kernel) rfl rfl ?_
    refine g_iload_n (q := 1) (i := 1) (by decide +kernel) rfl rfl ?_
    refine g_iload_n (q := 2) (i := 2) (by decide +kernel) rfl rfl ?_
    refine g_ldcS (i := 8) (by decide +kernel) rfl (by decide) ?_
    refine g_callV (kd := 6) (ix := 0) (ci := 5) (N := 6) (T := xT_Tape) (vs := [vi x1, vi x2, vr 60 8]) (st := []) (by decide +kernel) xm_Tape_spells kw_420 kw_422 kw_4 (by decide) rfl rfl rfl rfl (Nat.le_of_ble_eq_true rfl) (Nat.le_of_ble_eq_true rfl) h (fun vH3 H3 hq => ?_)
    obtain ⟨r4, rfl, h⟩ := hq
    refine g_if_eq (off := 7) (tgt := 30) (by decide +kernel) (by decide) (fun c => ?_) (fun c => ?_)
    · replace h := h.1 c
      refine g_aload_n (q := 0) (i := 0) (by decide +kernel) rfl rfl ?_
      refine g_iload_n (q := 1) (i := 1) (by decide +kernel) rfl rfl ?_
      refine g_iload_n (q := 2) (i := 2) (by decide +kernel) rfl rfl ?_
      refine g_ldcS (i := 9) (by decide +kernel) rfl (by decide) ?_
      refine g_callV (kd := 6) (ix := 0) (ci := 5) (N := 6) (T := xT_Tape) (vs := [vi x1, vi x2, vr 60 9]) (st := []) (by decide +kernel) xm_Tape_spells kw_420 kw_422 kw_4 (by decide) rfl rfl rfl rfl (Nat.le_of_ble_eq_true rfl) (Nat.le_of_ble_eq_true rfl) h (fun vH5 H5 hq => ?_)
      obtain ⟨r6, rfl, h⟩ := hq
      refine g_if_eq (off := 7) (tgt := 45) (by decide +kernel) (by decide) (fun c => ?_) (fun c => ?_)
      · replace h := h.1 c
        refine g_aload_n (q := 0) (i := 0) (by decide +kernel) rfl rfl ?_
        refine g_iload_n (q := 1) (i := 1) (by decide +kernel) rfl rfl ?_
        refine g_iload_n (q := 2) (i := 2) (by decide +kernel) rfl rfl ?_
        refine g_ldcS (i := 10) (by decide +kernel) rfl (by decide) ?_
        refine g_callV (kd := 6) (ix := 0) (ci := 5) (N := 6) (T := xT_Tape) (vs := [vi x1, vi x2, vr 60 10]) (st := []) (by decide +kernel) xm_Tape_spells kw_420 kw_422 kw_4 (by decide) rfl rfl rfl rfl (Nat.le_of_ble_eq_true rfl) (Nat.le_of_ble_eq_true rfl) h (fun vH7 H7 hq => ?_)
        obtain ⟨r8, rfl, h⟩ := hq
        refine g_if_eq (off := 7) (tgt := 60) (by decide +kernel) (by decide) (fun c => ?_) (fun c => ?_)
        · replace h := h.1 c
          refine g_aload_n (q := 0) (i := 0) (by decide +kernel) rfl rfl ?_
          refine g_iload_n (q := 1) (i := 1) (by decide +kernel) rfl rfl ?_
          refine g_iload_n (q := 2) (i := 2) (by decide +kernel) rfl rfl ?_
          refine g_ldcS (i := 11) (by decide +kernel) rfl (by decide) ?_
          refine g_callV (kd := 6) (ix := 0) (ci := 5) (N := 6) (T := xT_Tape) (vs := [vi x1, vi x2, vr 60 11]) (st := []) (by decide +kernel) xm_Tape_spells kw_420 kw_422 kw_4 (by decide) rfl rfl rfl rfl (Nat.le_of_ble_eq_true rfl) (Nat.le_of_ble_eq_true rfl) h (fun vH9 H9 hq => ?_)
          obtain ⟨r10, rfl, h⟩ := hq
          refine g_if_eq (off := 7) (tgt := 75) (by decide +kernel) (by decide) (fun c => ?_) (fun c => ?_)
          · replace h := h.1 c
            refine g_aload_n (q := 0) (i := 0) (by decide +kernel) rfl rfl ?_
            refine g_iload_n (q := 1) (i := 1) (by decide +kernel) rfl rfl ?_
            refine g_iload_n (q := 2) (i := 2) (by decide +kernel) rfl rfl ?_
            refine g_ldcS (i := 12) (by decide +kernel) rfl (by decide) ?_
            refine g_callV (kd := 6) (ix := 0) (ci := 5) (N := 6) (T := xT_Tape) (vs := [vi x1, vi x2, vr 60 12]) (st := []) (by decide +kernel) xm_Tape_spells kw_420 kw_422 kw_4 (by decide) rfl rfl rfl rfl (Nat.le_of_ble_eq_true rfl) (Nat.le_of_ble_eq_true rfl) h (fun vH11 H11 hq => ?_)
            obtain ⟨r12, rfl, h⟩ := hq
            refine g_if_eq (off := 7) (tgt := 90) (by decide +kernel) (by decide) (fun c => ?_) (fun c => ?_)
            · replace h := h.1 c
              refine g_aload_n (q := 0) (i := 0) (by decide +kernel) rfl rfl ?_
              refine g_iload_n (q := 1) (i := 1) (by decide +kernel) rfl rfl ?_
              refine g_iload_n (q := 2) (i := 2) (by decide +kernel) rfl rfl ?_
              refine g_callV (kd := 6) (ix := 0) (ci := 5) (N := 6) (T := xT_Tape) (vs := [vi x1, vi x2]) (st := []) (by decide +kernel) xm_Tape_nameAt kw_415 kw_417 kw_3 (by decide) rfl rfl rfl rfl (Nat.le_of_ble_eq_true rfl) (Nat.le_of_ble_eq_true rfl) h (fun vH13 H13 hq => ?_)
              obtain ⟨r14, rfl, h⟩ := hq
              refine g_iconst (n := (-1)) (v := (-1)) (by decide +kernel) (by decide) ?_
              suffices hj15 : g_Tape_wordKindAt E (d + 1) 109 [some (vr 6 0), some (vi x1), some (vi x2)] [vi (if r14 = (-1) then 265 else 262 : Int32)] H13 (qi Q) by
                refine g_icmp_ne (off := 9) (tgt := 106) (by decide +kernel) (by decide) (fun c => ?_) (fun c => ?_)
                · rw [if_neg c] at hj15
                  refine g_sipush (n := 262) (v := 262) (by decide +kernel) (by decide) ?_
                  exact hj15
                · rw [if_pos c] at hj15
                  refine g_sipush (n := 265) (v := 265) (by decide +kernel) (by decide) ?_
                  refine g_goto (off := 6) (tgt := 109) (by decide +kernel) (by decide) ?_
                  exact hj15
              exact g_iret (by decide +kernel) rfl ⟨_, rfl, h⟩
            · replace h := h.2 c
              refine g_sipush (n := 261) (v := 261) (by decide +kernel) (by decide) ?_
              exact g_iret (by decide +kernel) rfl ⟨_, rfl, h⟩
          · replace h := h.2 c
            refine g_sipush (n := 260) (v := 260) (by decide +kernel) (by decide) ?_
            exact g_iret (by decide +kernel) rfl ⟨_, rfl, h⟩
        · replace h := h.2 c
          refine g_sipush (n := 259) (v := 259) (by decide +kernel) (by decide) ?_
          exact g_iret (by decide +kernel) rfl ⟨_, rfl, h⟩
      · replace h := h.2 c
        refine g_sipush (n := 258) (v := 258) (by decide +kernel) (by decide) ?_
        exact g_iret (by decide +kernel) rfl ⟨_, rfl, h⟩
    · replace h := h.2 c
      refine g_sipush (n := 257) (v := 257) (by decide +kernel) (by decide) ?_
      exact g_iret (by decide +kernel) rfl ⟨_, rfl, h⟩
  · replace h := h.2 c
    refine g_sipush (n := 256) (v := 256) (by decide +kernel) (by decide) ?_
    exact g_iret (by decide +kernel) rfl ⟨_, rfl, h⟩
def p_Tape_kindAt (E : XE) (d : Nat) (x1 : Int32) (x2 : Int32) (H : HH) (Q : Int32 → HH → Prop) : Prop := c_Tape_byteAt E d x1 H (fun r2 H1 => c_Tape_isLetter E d r2 H1 (fun r4 H3 => (r4 = 0 → (c_Tape_isDigit E d r2 H3 (fun r6 H5 => (r6 = 0 → (c_String_indexOf_I E d 13 ((r2.toUInt32 % 65536).toInt32) H5 (fun r8 H7 => Q (if r8 < 0 then 265 else r2 : Int32) H7))) ∧ (¬ r6 = 0 → (Q (if (x2 - x1) ≤ 4 then 263 else 265 : Int32) H5))))) ∧ (¬ r4 = 0 → (c_Tape_wordKindAt E d x1 x2 H3 (fun r12 H11 => Q r12 H11)))))
set_option maxHeartbeats 4000000 in
theorem l_Tape_kindAt {E : XE} {d : Nat} {x1 : Int32} {x2 : Int32} {H : HH} {Q : Int32 → HH → Prop} (h : p_Tape_kindAt E d x1 x2 H Q) : c_Tape_kindAt E (d + 1) x1 x2 H Q := by
  show g_Tape_kindAt E (d + 1) 0 (xent [vr 6 0, vi x1, vi x2]) [] H (qi Q)
  refine g_drop (ls2 := [some (vr 6 0), some (vi x1), some (vi x2), none]) (And.intro rfl (And.intro rfl (And.intro rfl trivial))) ?_
  refine g_aload_n (q := 0) (i := 0) (by decide +kernel) rfl rfl ?_
  refine g_iload_n (q := 1) (i := 1) (by decide +kernel) rfl rfl ?_
  refine g_callV (kd := 6) (ix := 0) (ci := 5) (N := 6) (T := xT_Tape) (vs := [vi x1]) (st := []) (by decide +kernel) xm_Tape_byteAt kw_398 kw_400 kw_1 (by decide) rfl rfl rfl rfl (Nat.le_of_ble_eq_true rfl) (Nat.le_of_ble_eq_true rfl) h (fun vH1 H1 hq => ?_)
  obtain ⟨r2, rfl, h⟩ := hq
  refine g_istore_n (q := 3) (i := 3) (ls2 := [some (vr 6 0), some (vi x1), some (vi x2), some (vi r2)]) (by decide +kernel) rfl (by decide) rfl rfl ?_
  refine g_iload_n (q := 3) (i := 3) (by decide +kernel) rfl rfl ?_
  refine g_callS (vs := [vi r2]) (st := []) (by decide +kernel) xm_Tape_isLetter kw_402 kw_403 rfl rfl (Nat.le_of_ble_eq_true rfl) (Nat.le_of_ble_eq_true rfl) h (fun vH3 H3 hq => ?_)
  obtain ⟨r4, rfl, h⟩ := hq
  refine g_if_eq (off := 10) (tgt := 20) (by decide +kernel) (by decide) (fun c => ?_) (fun c => ?_)
  · replace h := h.1 c
    refine g_iload_n (q := 3) (i := 3) (by decide +kernel) rfl rfl ?_
    refine g_callS (vs := [vi r2]) (st := []) (by decide +kernel) xm_Tape_isDigit kw_405 kw_406 rfl rfl (Nat.le_of_ble_eq_true rfl) (Nat.le_of_ble_eq_true rfl) h (fun vH5 H5 hq => ?_)
    obtain ⟨r6, rfl, h⟩ := hq
    refine g_if_eq (off := 20) (tgt := 44) (by decide +kernel) (by decide) (fun c => ?_) (fun c => ?_)
    · replace h := h.1 c
      refine g_ldcS (i := 13) (by decide +kernel) rfl (by decide) ?_
      refine g_iload_n (q := 3) (i := 3) (by decide +kernel) rfl rfl ?_
      refine g_i2c (by decide +kernel) ?_
      refine g_callStr (vs := [vi ((r2.toUInt32 % 65536).toInt32)]) (st := []) (by decide +kernel) xm_String_indexOf_I kw_444 kw_445 kw_446 rfl rfl rfl (Nat.le_of_ble_eq_true rfl) (Nat.le_of_ble_eq_true rfl) h (fun vH7 H7 hq => ?_)
      obtain ⟨r8, rfl, h⟩ := hq
      suffices hj9 : g_Tape_kindAt E (d + 1) 61 [some (vr 6 0), some (vi x1), some (vi x2), some (vi r2)] [vi (if r8 < 0 then 265 else r2 : Int32)] H7 (qi Q) by
        refine g_if_lt (off := 7) (tgt := 58) (by decide +kernel) (by decide) (fun c => ?_) (fun c => ?_)
        · rw [if_pos c] at hj9
          refine g_sipush (n := 265) (v := 265) (by decide +kernel) (by decide) ?_
          exact hj9
        · rw [if_neg c] at hj9
          refine g_iload_n (q := 3) (i := 3) (by decide +kernel) rfl rfl ?_
          refine g_goto (off := 6) (tgt := 61) (by decide +kernel) (by decide) ?_
          exact hj9
      exact g_iret (by decide +kernel) rfl ⟨_, rfl, h⟩
    · replace h := h.2 c
      refine g_iload_n (q := 2) (i := 2) (by decide +kernel) rfl rfl ?_
      refine g_iload_n (q := 1) (i := 1) (by decide +kernel) rfl rfl ?_
      refine g_isub (by decide +kernel) ?_
      refine g_iconst (n := 4) (v := 4) (by decide +kernel) (by decide) ?_
      suffices hj10 : g_Tape_kindAt E (d + 1) 43 [some (vr 6 0), some (vi x1), some (vi x2), some (vi r2)] [vi (if (x2 - x1) ≤ 4 then 263 else 265 : Int32)] H5 (qi Q) by
        refine g_icmp_le (off := 9) (tgt := 40) (by decide +kernel) (by decide) (fun c => ?_) (fun c => ?_)
        · rw [if_pos c] at hj10
          refine g_sipush (n := 263) (v := 263) (by decide +kernel) (by decide) ?_
          exact hj10
        · rw [if_neg c] at hj10
          refine g_sipush (n := 265) (v := 265) (by decide +kernel) (by decide) ?_
          refine g_goto (off := 6) (tgt := 43) (by decide +kernel) (by decide) ?_
          exact hj10
      exact g_iret (by decide +kernel) rfl ⟨_, rfl, h⟩
  · replace h := h.2 c
    refine g_aload_n (q := 0) (i := 0) (by decide +kernel) rfl rfl ?_
    refine g_iload_n (q := 1) (i := 1) (by decide +kernel) rfl rfl ?_
    refine g_iload_n (q := 2) (i := 2) (by decide +kernel) rfl rfl ?_
    refine g_callV (kd := 6) (ix := 0) (ci := 5) (N := 6) (T := xT_Tape) (vs := [vi x1, vi x2]) (st := []) (by decide +kernel) xm_Tape_wordKindAt kw_433 kw_435 kw_6 (by decide) rfl rfl rfl rfl (Nat.le_of_ble_eq_true rfl) (Nat.le_of_ble_eq_true rfl) h (fun vH11 H11 hq => ?_)
    obtain ⟨r12, rfl, h⟩ := hq
    exact g_iret (by decide +kernel) rfl ⟨_, rfl, h⟩
def p_Tape_split (E : XE) (d : Nat)  (H : HH) (Q : HH → Prop) : Prop := ∀ H1 : HH, H1 = (hu H 6 0 5 0) → (∃ (I2 : Int32 → HH → Prop) (μ2 : Int32 → HH → Nat), I2 0 H1 ∧ ∀ (z3 : Int32) (H4 : HH), I2 z3 H4 → (((H4 6 0 1) ≤ z3 → (Q H4)) ∧ (¬ (H4 6 0 1) ≤ z3 → ((160 ≤ (H4 6 0 5) → (Q H4)) ∧ (¬ 160 ≤ (H4 6 0 5) → (c_Tape_endOfToken E d z3 H4 (fun r6 H5 => c_Tape_byteAt E d z3 H5 (fun r8 H7 => c_Tape_isBlank E d r8 H7 (fun r10 H9 => (¬ r10 = 0 → (∀ v11 : Int32, v11 = (xmax r6 (z3 + 1)) → (I2 v11 H9 ∧ μ2 v11 H9 < μ2 z3 H4))) ∧ (r10 = 0 → (vp_in (H9 6 0 5) 160 ∧ (∀ H12 : HH, H12 = (hu H9 9 0 ((H9 6 0 5).toNatClampNeg) z3) → (c_Tape_byteAt E d z3 H12 (fun r14 H13 => c_Tape_isDigit E d r14 H13 (fun r16 H15 => ∃ J17 : Int32 → HH → Prop, ((r16 = 0 → (c_Tape_nameAt E d z3 r6 H15 (fun r27 H26 => J17 r27 H26))) ∧ (¬ r16 = 0 → (c_Tape_numberAt E d z3 r6 H15 (fun r29 H28 => J17 r29 H28)))) ∧ ∀ (y18 : Int32) (H19 : HH), J17 y18 H19 → (vp_in (H12 6 0 5) 160 ∧ (∀ H20 : HH, H20 = (hu H19 10 0 ((H12 6 0 5).toNatClampNeg) y18) → (c_Tape_kindAt E d z3 r6 H20 (fun r22 H21 => vp_in (H20 6 0 5) 160 ∧ (∀ H23 : HH, H23 = (hu H21 8 0 ((H20 6 0 5).toNatClampNeg) r22) → (∀ H24 : HH, H24 = (hu H23 6 0 5 ((H23 6 0 5) + 1)) → (∀ v25 : Int32, v25 = (xmax r6 (z3 + 1)) → (I2 v25 H24 ∧ μ2 v25 H24 < μ2 z3 H4)))))))))))))))))))))))
set_option maxHeartbeats 4000000 in
theorem l_Tape_split {E : XE} {d : Nat}  {H : HH} {Q : HH → Prop} (h : p_Tape_split E d  H Q) : c_Tape_split E (d + 1)  H Q := by
  show g_Tape_split E (d + 1) 0 (xent [vr 6 0]) [] H (qv Q)
  refine g_drop (ls2 := [some (vr 6 0), none, none]) (And.intro rfl trivial) ?_
  refine g_aload_n (q := 0) (i := 0) (by decide +kernel) rfl rfl ?_
  refine g_iconst (n := 0) (v := 0) (by decide +kernel) (by decide) ?_
  refine g_put (C := "ThreePoints$Tape") (T := xT_Tape) (N := 6) (ci := 5) (k := 5) xy_Tape (by decide +kernel) (by decide) rfl rfl xi_Tape xy_Tape_ok xn_Tape (by decide) kw_193 rfl (by decide +kernel) (fun _ => rfl) ?_
  refine g_iconst (n := 0) (v := 0) (by decide +kernel) (by decide) ?_
  refine g_istore_n (q := 1) (i := 1) (ls2 := [some (vr 6 0), some (vi 0), none]) (by decide +kernel) rfl (by decide) rfl rfl ?_
  refine g_heap (fun H1 eH1 => ?_)
  replace h := h H1 eH1
  refine g_drop (ls2 := [some (vr 6 0), some (vi 0), none]) (And.intro rfl (And.intro rfl trivial)) ?_
  obtain ⟨I2, μ2, h0, h⟩ := h
  refine xloop (σ := Int32) (fun s H => I2 s H) (fun s H => μ2 s H) (fun s H => g_Tape_split E (d + 1) 7 [some (vr 6 0), some (vi s), none] [] H (qv Q)) (fun s H4 hI ih2 => ?_) 0 H1 h0
  obtain ⟨z3, es⟩ : ∃ z, z = s := ⟨s, rfl⟩
  subst es
  replace h := h z3 H4 hI
  refine g_iload_n (q := 1) (i := 1) (by decide +kernel) rfl rfl ?_
  refine g_aload_n (q := 0) (i := 0) (by decide +kernel) rfl rfl ?_
  refine g_get (C := "ThreePoints$Tape") (T := xT_Tape) (N := 6) (ci := 5) (k := 1) (v := vi (H4 6 0 1)) (by decide +kernel) (by decide) rfl rfl xi_Tape (by decide) kw_188 rfl ?_
  refine g_icmp_ge (off := 111) (tgt := 123) (by decide +kernel) (by decide) (fun c => ?_) (fun c => ?_)
  · replace h := h.1 c
    exact g_vret (by decide +kernel) rfl h
  · replace h := h.2 c
    refine g_aload_n (q := 0) (i := 0) (by decide +kernel) rfl rfl ?_
    refine g_get (C := "ThreePoints$Tape") (T := xT_Tape) (N := 6) (ci := 5) (k := 5) (v := vi (H4 6 0 5)) (by decide +kernel) (by decide) rfl rfl xi_Tape (by decide) kw_193 rfl ?_
    refine g_sipush (n := 160) (v := 160) (by decide +kernel) (by decide) ?_
    refine g_icmp_ge (off := 101) (tgt := 123) (by decide +kernel) (by decide) (fun c => ?_) (fun c => ?_)
    · replace h := h.1 c
      exact g_vret (by decide +kernel) rfl h
    · replace h := h.2 c
      refine g_aload_n (q := 0) (i := 0) (by decide +kernel) rfl rfl ?_
      refine g_iload_n (q := 1) (i := 1) (by decide +kernel) rfl rfl ?_
      refine g_callV (kd := 6) (ix := 0) (ci := 5) (N := 6) (T := xT_Tape) (vs := [vi z3]) (st := []) (by decide +kernel) xm_Tape_endOfToken kw_394 kw_396 kw_0 (by decide) rfl rfl rfl rfl (Nat.le_of_ble_eq_true rfl) (Nat.le_of_ble_eq_true rfl) h (fun vH5 H5 hq => ?_)
      obtain ⟨r6, rfl, h⟩ := hq
      refine g_istore_n (q := 2) (i := 2) (ls2 := [some (vr 6 0), some (vi z3), some (vi r6)]) (by decide +kernel) rfl (by decide) rfl rfl ?_
      refine g_aload_n (q := 0) (i := 0) (by decide +kernel) rfl rfl ?_
      refine g_iload_n (q := 1) (i := 1) (by decide +kernel) rfl rfl ?_
      refine g_callV (kd := 6) (ix := 0) (ci := 5) (N := 6) (T := xT_Tape) (vs := [vi z3]) (st := []) (by decide +kernel) xm_Tape_byteAt kw_398 kw_400 kw_1 (by decide) rfl rfl rfl rfl (Nat.le_of_ble_eq_true rfl) (Nat.le_of_ble_eq_true rfl) h (fun vH7 H7 hq => ?_)
      obtain ⟨r8, rfl, h⟩ := hq
      refine g_callS (vs := [vi r8]) (st := []) (by decide +kernel) xm_Tape_isBlank kw_408 kw_409 rfl rfl (Nat.le_of_ble_eq_true rfl) (Nat.le_of_ble_eq_true rfl) h (fun vH9 H9 hq => ?_)
      obtain ⟨r10, rfl, h⟩ := hq
      refine g_if_ne (off := 73) (tgt := 112) (by decide +kernel) (by decide) (fun c => ?_) (fun c => ?_)
      · replace h := h.1 c
        refine g_iload_n (q := 2) (i := 2) (by decide +kernel) rfl rfl ?_
        refine g_iload_n (q := 1) (i := 1) (by decide +kernel) rfl rfl ?_
        refine g_iconst (n := 1) (v := 1) (by decide +kernel) (by decide) ?_
        refine g_iadd (by decide +kernel) ?_
        refine g_mmax (by decide +kernel) kw_503 kw_460 kw_79 kw_461 (Nat.le_of_ble_eq_true rfl) ?_
        refine g_topi (fun v11 ev11 => ?_)
        replace h := h v11 ev11
        refine g_istore_n (q := 1) (i := 1) (ls2 := [some (vr 6 0), some (vi v11), some (vi r6)]) (by decide +kernel) rfl (by decide) rfl rfl ?_
        refine g_goto (off := (-113)) (tgt := 7) (by decide +kernel) (by decide) ?_
        obtain ⟨hI, hlt⟩ := h
        exact g_drop (ls2 := [some (vr 6 0), some (vi v11), none]) (And.intro rfl (And.intro rfl trivial)) (ih2 v11 H9 hI hlt)
      · replace h := h.2 c
        refine g_aload_n (q := 0) (i := 0) (by decide +kernel) rfl rfl ?_
        refine g_get (C := "ThreePoints$Tape") (T := xT_Tape) (N := 6) (ci := 5) (k := 3) (v := vr 9 0) (by decide +kernel) (by decide) rfl rfl xi_Tape (by decide) kw_191 rfl ?_
        refine g_aload_n (q := 0) (i := 0) (by decide +kernel) rfl rfl ?_
        refine g_get (C := "ThreePoints$Tape") (T := xT_Tape) (N := 6) (ci := 5) (k := 5) (v := vi (H9 6 0 5)) (by decide +kernel) (by decide) rfl rfl xi_Tape (by decide) kw_193 rfl ?_
        refine g_iload_n (q := 1) (i := 1) (by decide +kernel) rfl rfl ?_
        obtain ⟨hin, h⟩ := h
        refine g_iast (by decide +kernel) (by decide) rfl hin ?_
        refine g_aload_n (q := 0) (i := 0) (by decide +kernel) rfl rfl ?_
        refine g_get (C := "ThreePoints$Tape") (T := xT_Tape) (N := 6) (ci := 5) (k := 4) (v := vr 10 0) (by decide +kernel) (by decide) rfl rfl xi_Tape (by decide) kw_192 rfl ?_
        refine g_aload_n (q := 0) (i := 0) (by decide +kernel) rfl rfl ?_
        refine g_heap (fun H12 eH12 => ?_)
        replace h := h H12 eH12
        refine g_get (C := "ThreePoints$Tape") (T := xT_Tape) (N := 6) (ci := 5) (k := 5) (v := vi (H12 6 0 5)) (by decide +kernel) (by decide) rfl rfl xi_Tape (by decide) kw_193 rfl ?_
        refine g_aload_n (q := 0) (i := 0) (by decide +kernel) rfl rfl ?_
        refine g_iload_n (q := 1) (i := 1) (by decide +kernel) rfl rfl ?_
        refine g_callV (kd := 6) (ix := 0) (ci := 5) (N := 6) (T := xT_Tape) (vs := [vi z3]) (st := [vi (H12 6 0 5), vr 10 0]) (by decide +kernel) xm_Tape_byteAt kw_398 kw_400 kw_1 (by decide) rfl rfl rfl rfl (Nat.le_of_ble_eq_true rfl) (Nat.le_of_ble_eq_true rfl) h (fun vH13 H13 hq => ?_)
        obtain ⟨r14, rfl, h⟩ := hq
        refine g_callS (vs := [vi r14]) (st := [vi (H12 6 0 5), vr 10 0]) (by decide +kernel) xm_Tape_isDigit kw_405 kw_406 rfl rfl (Nat.le_of_ble_eq_true rfl) (Nat.le_of_ble_eq_true rfl) h (fun vH15 H15 hq => ?_)
        obtain ⟨r16, rfl, h⟩ := hq
        obtain ⟨J17, h, hk17⟩ := h
        have hc17 : ∀ (y18 : Int32) (H19 : HH), J17 y18 H19 → g_Tape_split E (d + 1) 86 [some (vr 6 0), some (vi z3), some (vi r6)] [vi y18, vi (H12 6 0 5), vr 10 0] H19 (qv Q) := by
          intro y18 H19 h
          replace h := hk17 y18 H19 h
          obtain ⟨hin, h⟩ := h
          refine g_iast (by decide +kernel) (by decide) rfl hin ?_
          refine g_aload_n (q := 0) (i := 0) (by decide +kernel) rfl rfl ?_
          refine g_get (C := "ThreePoints$Tape") (T := xT_Tape) (N := 6) (ci := 5) (k := 2) (v := vr 8 0) (by decide +kernel) (by decide) rfl rfl xi_Tape (by decide) kw_190 rfl ?_
          refine g_aload_n (q := 0) (i := 0) (by decide +kernel) rfl rfl ?_
          refine g_heap (fun H20 eH20 => ?_)
          replace h := h H20 eH20
          refine g_get (C := "ThreePoints$Tape") (T := xT_Tape) (N := 6) (ci := 5) (k := 5) (v := vi (H20 6 0 5)) (by decide +kernel) (by decide) rfl rfl xi_Tape (by decide) kw_193 rfl ?_
          refine g_aload_n (q := 0) (i := 0) (by decide +kernel) rfl rfl ?_
          refine g_iload_n (q := 1) (i := 1) (by decide +kernel) rfl rfl ?_
          refine g_iload_n (q := 2) (i := 2) (by decide +kernel) rfl rfl ?_
          refine g_callV (kd := 6) (ix := 0) (ci := 5) (N := 6) (T := xT_Tape) (vs := [vi z3, vi r6]) (st := [vi (H20 6 0 5), vr 8 0]) (by decide +kernel) xm_Tape_kindAt kw_429 kw_431 kw_5 (by decide) rfl rfl rfl rfl (Nat.le_of_ble_eq_true rfl) (Nat.le_of_ble_eq_true rfl) h (fun vH21 H21 hq => ?_)
          obtain ⟨r22, rfl, h⟩ := hq
          obtain ⟨hin, h⟩ := h
          refine g_iast (by decide +kernel) (by decide) rfl hin ?_
          refine g_aload_n (q := 0) (i := 0) (by decide +kernel) rfl rfl ?_
          refine g_dup (by decide +kernel) rfl ?_
          refine g_heap (fun H23 eH23 => ?_)
          replace h := h H23 eH23
          refine g_get (C := "ThreePoints$Tape") (T := xT_Tape) (N := 6) (ci := 5) (k := 5) (v := vi (H23 6 0 5)) (by decide +kernel) (by decide) rfl rfl xi_Tape (by decide) kw_193 rfl ?_
          refine g_iconst (n := 1) (v := 1) (by decide +kernel) (by decide) ?_
          refine g_iadd (by decide +kernel) ?_
          refine g_put (C := "ThreePoints$Tape") (T := xT_Tape) (N := 6) (ci := 5) (k := 5) xy_Tape (by decide +kernel) (by decide) rfl rfl xi_Tape xy_Tape_ok xn_Tape (by decide) kw_193 rfl (by decide +kernel) (fun _ => rfl) ?_
          refine g_iload_n (q := 2) (i := 2) (by decide +kernel) rfl rfl ?_
          refine g_iload_n (q := 1) (i := 1) (by decide +kernel) rfl rfl ?_
          refine g_iconst (n := 1) (v := 1) (by decide +kernel) (by decide) ?_
          refine g_iadd (by decide +kernel) ?_
          refine g_heap (fun H24 eH24 => ?_)
          replace h := h H24 eH24
          refine g_mmax (by decide +kernel) kw_503 kw_460 kw_79 kw_461 (Nat.le_of_ble_eq_true rfl) ?_
          refine g_topi (fun v25 ev25 => ?_)
          replace h := h v25 ev25
          refine g_istore_n (q := 1) (i := 1) (ls2 := [some (vr 6 0), some (vi v25), some (vi r6)]) (by decide +kernel) rfl (by decide) rfl rfl ?_
          refine g_goto (off := (-113)) (tgt := 7) (by decide +kernel) (by decide) ?_
          obtain ⟨hI, hlt⟩ := h
          exact g_drop (ls2 := [some (vr 6 0), some (vi v25), none]) (And.intro rfl (And.intro rfl trivial)) (ih2 v25 H24 hI hlt)
        refine g_if_eq (off := 12) (tgt := 80) (by decide +kernel) (by decide) (fun c => ?_) (fun c => ?_)
        · replace h := h.1 c
          refine g_aload_n (q := 0) (i := 0) (by decide +kernel) rfl rfl ?_
          refine g_iload_n (q := 1) (i := 1) (by decide +kernel) rfl rfl ?_
          refine g_iload_n (q := 2) (i := 2) (by decide +kernel) rfl rfl ?_
          refine g_callV (kd := 6) (ix := 0) (ci := 5) (N := 6) (T := xT_Tape) (vs := [vi z3, vi r6]) (st := [vi (H12 6 0 5), vr 10 0]) (by decide +kernel) xm_Tape_nameAt kw_415 kw_417 kw_3 (by decide) rfl rfl rfl rfl (Nat.le_of_ble_eq_true rfl) (Nat.le_of_ble_eq_true rfl) h (fun vH26 H26 hq => ?_)
          obtain ⟨r27, rfl, h⟩ := hq
          exact g_drop (ls2 := [some (vr 6 0), some (vi z3), some (vi r6)]) (And.intro rfl (And.intro rfl (And.intro rfl trivial))) (hc17 r27 H26 h)
        · replace h := h.2 c
          refine g_aload_n (q := 0) (i := 0) (by decide +kernel) rfl rfl ?_
          refine g_iload_n (q := 1) (i := 1) (by decide +kernel) rfl rfl ?_
          refine g_iload_n (q := 2) (i := 2) (by decide +kernel) rfl rfl ?_
          refine g_callV (kd := 6) (ix := 0) (ci := 5) (N := 6) (T := xT_Tape) (vs := [vi z3, vi r6]) (st := [vi (H12 6 0 5), vr 10 0]) (by decide +kernel) xm_Tape_numberAt kw_411 kw_413 kw_2 (by decide) rfl rfl rfl rfl (Nat.le_of_ble_eq_true rfl) (Nat.le_of_ble_eq_true rfl) h (fun vH28 H28 hq => ?_)
          obtain ⟨r29, rfl, h⟩ := hq
          refine g_goto (off := 9) (tgt := 86) (by decide +kernel) (by decide) ?_
          exact g_drop (ls2 := [some (vr 6 0), some (vi z3), some (vi r6)]) (And.intro rfl (And.intro rfl (And.intro rfl trivial))) (hc17 r29 H28 h)
def p_Tape_kindOf (E : XE) (d : Nat) (x1 : Int32) (H : HH) (Q : Int32 → HH → Prop) : Prop := (x1 < 0 → (Q 264 H)) ∧ (¬ x1 < 0 → (((H 6 0 5) ≤ x1 → (Q 264 H)) ∧ (¬ (H 6 0 5) ≤ x1 → ((160 ≤ x1 → (Q 264 H)) ∧ (¬ 160 ≤ x1 → (vp_in x1 160 ∧ (Q (H 8 0 (x1.toNatClampNeg)) H)))))))
set_option maxHeartbeats 4000000 in
theorem l_Tape_kindOf {E : XE} {d : Nat} {x1 : Int32} {H : HH} {Q : Int32 → HH → Prop} (h : p_Tape_kindOf E d x1 H Q) : c_Tape_kindOf E d x1 H Q := by
  show g_Tape_kindOf E d 0 (xent [vr 6 0, vi x1]) [] H (qi Q)
  refine g_drop (ls2 := [some (vr 6 0), some (vi x1)]) (And.intro rfl (And.intro rfl trivial)) ?_
  refine g_iload_n (q := 1) (i := 1) (by decide +kernel) rfl rfl ?_
  refine g_if_lt (off := 27) (tgt := 28) (by decide +kernel) (by decide) (fun c => ?_) (fun c => ?_)
  · replace h := h.1 c
    refine g_sipush (n := 264) (v := 264) (by decide +kernel) (by decide) ?_
    exact g_iret (by decide +kernel) rfl ⟨_, rfl, h⟩
  · replace h := h.2 c
    refine g_iload_n (q := 1) (i := 1) (by decide +kernel) rfl rfl ?_
    refine g_aload_n (q := 0) (i := 0) (by decide +kernel) rfl rfl ?_
    refine g_get (C := "ThreePoints$Tape") (T := xT_Tape) (N := 6) (ci := 5) (k := 5) (v := vi (H 6 0 5)) (by decide +kernel) (by decide) rfl rfl xi_Tape (by decide) kw_193 rfl ?_
    refine g_icmp_ge (off := 19) (tgt := 28) (by decide +kernel) (by decide) (fun c => ?_) (fun c => ?_)
    · replace h := h.1 c
      refine g_sipush (n := 264) (v := 264) (by decide +kernel) (by decide) ?_
      exact g_iret (by decide +kernel) rfl ⟨_, rfl, h⟩
    · replace h := h.2 c
      refine g_iload_n (q := 1) (i := 1) (by decide +kernel) rfl rfl ?_
      refine g_sipush (n := 160) (v := 160) (by decide +kernel) (by decide) ?_
      refine g_icmp_ge (off := 12) (tgt := 28) (by decide +kernel) (by decide) (fun c => ?_) (fun c => ?_)
      · replace h := h.1 c
        refine g_sipush (n := 264) (v := 264) (by decide +kernel) (by decide) ?_
        exact g_iret (by decide +kernel) rfl ⟨_, rfl, h⟩
      · replace h := h.2 c
        refine g_aload_n (q := 0) (i := 0) (by decide +kernel) rfl rfl ?_
        refine g_get (C := "ThreePoints$Tape") (T := xT_Tape) (N := 6) (ci := 5) (k := 2) (v := vr 8 0) (by decide +kernel) (by decide) rfl rfl xi_Tape (by decide) kw_190 rfl ?_
        refine g_iload_n (q := 1) (i := 1) (by decide +kernel) rfl rfl ?_
        obtain ⟨hin, h⟩ := h
        refine g_iald (by decide +kernel) (by decide) rfl hin ?_
        refine g_goto (off := 6) (tgt := 31) (by decide +kernel) (by decide) ?_
        exact g_iret (by decide +kernel) rfl ⟨_, rfl, h⟩
def p_Reader_goTo (E : XE) (d : Nat) (x1 : Int32) (H : HH) (Q : HH → Prop) : Prop := ∀ H1 : HH, H1 = (hu H 5 0 2 x1) → (c_Tape_kindOf E d x1 H1 (fun r3 H2 => ∀ H4 : HH, H4 = (hu H2 5 0 3 r3) → (Q H4)))
set_option maxHeartbeats 4000000 in
theorem l_Reader_goTo {E : XE} {d : Nat} {x1 : Int32} {H : HH} {Q : HH → Prop} (h : p_Reader_goTo E d x1 H Q) : c_Reader_goTo E (d + 1) x1 H Q := by
  show g_Reader_goTo E (d + 1) 0 (xent [vr 5 0, vi x1]) [] H (qv Q)
  refine g_drop (ls2 := [some (vr 5 0), some (vi x1)]) (And.intro rfl (And.intro rfl trivial)) ?_
  refine g_aload_n (q := 0) (i := 0) (by decide +kernel) rfl rfl ?_
  refine g_iload_n (q := 1) (i := 1) (by decide +kernel) rfl rfl ?_
  refine g_put (C := "ThreePoints$Reader") (T := xT_Reader) (N := 5) (ci := 4) (k := 2) xy_Reader (by decide +kernel) (by decide) rfl rfl xi_Reader xy_Reader_ok xn_Reader (by decide) kw_231 rfl (by decide +kernel) (fun _ => rfl) ?_
  refine g_aload_n (q := 0) (i := 0) (by decide +kernel) rfl rfl ?_
  refine g_aload_n (q := 0) (i := 0) (by decide +kernel) rfl rfl ?_
  refine g_get (C := "ThreePoints$Reader") (T := xT_Reader) (N := 5) (ci := 4) (k := 0) (v := vr 6 0) (by decide +kernel) (by decide) rfl rfl xi_Reader (by decide) kw_227 rfl ?_
  refine g_iload_n (q := 1) (i := 1) (by decide +kernel) rfl rfl ?_
  refine g_heap (fun H1 eH1 => ?_)
  replace h := h H1 eH1
  refine g_callV (kd := 6) (ix := 0) (ci := 5) (N := 6) (T := xT_Tape) (vs := [vi x1]) (st := [vr 5 0]) (by decide +kernel) xm_Tape_kindOf kw_515 kw_516 kw_517 (by decide) rfl rfl rfl rfl (Nat.le_of_ble_eq_true rfl) (Nat.le_of_ble_eq_true rfl) h (fun vH2 H2 hq => ?_)
  obtain ⟨r3, rfl, h⟩ := hq
  refine g_put (C := "ThreePoints$Reader") (T := xT_Reader) (N := 5) (ci := 4) (k := 3) xy_Reader (by decide +kernel) (by decide) rfl rfl xi_Reader xy_Reader_ok xn_Reader (by decide) kw_232 rfl (by decide +kernel) (fun _ => rfl) ?_
  refine g_heap (fun H4 eH4 => ?_)
  replace h := h H4 eH4
  exact g_vret (by decide +kernel) rfl h
def p_Tape_valueOf (E : XE) (d : Nat) (x1 : Int32) (H : HH) (Q : Int32 → HH → Prop) : Prop := (x1 < 0 → (Q 0 H)) ∧ (¬ x1 < 0 → (((H 6 0 5) ≤ x1 → (Q 0 H)) ∧ (¬ (H 6 0 5) ≤ x1 → ((160 ≤ x1 → (Q 0 H)) ∧ (¬ 160 ≤ x1 → (vp_in x1 160 ∧ (Q (H 10 0 (x1.toNatClampNeg)) H)))))))
set_option maxHeartbeats 4000000 in
theorem l_Tape_valueOf {E : XE} {d : Nat} {x1 : Int32} {H : HH} {Q : Int32 → HH → Prop} (h : p_Tape_valueOf E d x1 H Q) : c_Tape_valueOf E d x1 H Q := by
  show g_Tape_valueOf E d 0 (xent [vr 6 0, vi x1]) [] H (qi Q)
  refine g_drop (ls2 := [some (vr 6 0), some (vi x1)]) (And.intro rfl (And.intro rfl trivial)) ?_
  refine g_iload_n (q := 1) (i := 1) (by decide +kernel) rfl rfl ?_
  refine g_if_lt (off := 27) (tgt := 28) (by decide +kernel) (by decide) (fun c => ?_) (fun c => ?_)
  · replace h := h.1 c
    refine g_iconst (n := 0) (v := 0) (by decide +kernel) (by decide) ?_
    exact g_iret (by decide +kernel) rfl ⟨_, rfl, h⟩
  · replace h := h.2 c
    refine g_iload_n (q := 1) (i := 1) (by decide +kernel) rfl rfl ?_
    refine g_aload_n (q := 0) (i := 0) (by decide +kernel) rfl rfl ?_
    refine g_get (C := "ThreePoints$Tape") (T := xT_Tape) (N := 6) (ci := 5) (k := 5) (v := vi (H 6 0 5)) (by decide +kernel) (by decide) rfl rfl xi_Tape (by decide) kw_193 rfl ?_
    refine g_icmp_ge (off := 19) (tgt := 28) (by decide +kernel) (by decide) (fun c => ?_) (fun c => ?_)
    · replace h := h.1 c
      refine g_iconst (n := 0) (v := 0) (by decide +kernel) (by decide) ?_
      exact g_iret (by decide +kernel) rfl ⟨_, rfl, h⟩
    · replace h := h.2 c
      refine g_iload_n (q := 1) (i := 1) (by decide +kernel) rfl rfl ?_
      refine g_sipush (n := 160) (v := 160) (by decide +kernel) (by decide) ?_
      refine g_icmp_ge (off := 12) (tgt := 28) (by decide +kernel) (by decide) (fun c => ?_) (fun c => ?_)
      · replace h := h.1 c
        refine g_iconst (n := 0) (v := 0) (by decide +kernel) (by decide) ?_
        exact g_iret (by decide +kernel) rfl ⟨_, rfl, h⟩
      · replace h := h.2 c
        refine g_aload_n (q := 0) (i := 0) (by decide +kernel) rfl rfl ?_
        refine g_get (C := "ThreePoints$Tape") (T := xT_Tape) (N := 6) (ci := 5) (k := 4) (v := vr 10 0) (by decide +kernel) (by decide) rfl rfl xi_Tape (by decide) kw_192 rfl ?_
        refine g_iload_n (q := 1) (i := 1) (by decide +kernel) rfl rfl ?_
        obtain ⟨hin, h⟩ := h
        refine g_iald (by decide +kernel) (by decide) rfl hin ?_
        refine g_goto (off := 4) (tgt := 29) (by decide +kernel) (by decide) ?_
        exact g_iret (by decide +kernel) rfl ⟨_, rfl, h⟩
def p_Reader_mayOpen (E : XE) (d : Nat)  (H : HH) (Q : Int32 → HH → Prop) : Prop := ((H 5 0 4) < 5 → (∀ H1 : HH, H1 = (hu H 5 0 4 ((H 5 0 4) + 1)) → (c_Reader_goTo E d ((H1 5 0 2) + 1) H1 (fun H2 => Q 1 H2)))) ∧ (¬ (H 5 0 4) < 5 → (Q 0 H))
set_option maxHeartbeats 4000000 in
theorem l_Reader_mayOpen {E : XE} {d : Nat}  {H : HH} {Q : Int32 → HH → Prop} (h : p_Reader_mayOpen E d  H Q) : c_Reader_mayOpen E (d + 1)  H Q := by
  show g_Reader_mayOpen E (d + 1) 0 (xent [vr 5 0]) [] H (qi Q)
  refine g_drop (ls2 := [some (vr 5 0)]) (And.intro rfl trivial) ?_
  refine g_aload_n (q := 0) (i := 0) (by decide +kernel) rfl rfl ?_
  refine g_get (C := "ThreePoints$Reader") (T := xT_Reader) (N := 5) (ci := 4) (k := 4) (v := vi (H 5 0 4)) (by decide +kernel) (by decide) rfl rfl xi_Reader (by decide) kw_233 rfl ?_
  refine g_iconst (n := 5) (v := 5) (by decide +kernel) (by decide) ?_
  refine g_icmp_lt (off := 5) (tgt := 10) (by decide +kernel) (by decide) (fun c => ?_) (fun c => ?_)
  · replace h := h.1 c
    refine g_aload_n (q := 0) (i := 0) (by decide +kernel) rfl rfl ?_
    refine g_dup (by decide +kernel) rfl ?_
    refine g_get (C := "ThreePoints$Reader") (T := xT_Reader) (N := 5) (ci := 4) (k := 4) (v := vi (H 5 0 4)) (by decide +kernel) (by decide) rfl rfl xi_Reader (by decide) kw_233 rfl ?_
    refine g_iconst (n := 1) (v := 1) (by decide +kernel) (by decide) ?_
    refine g_iadd (by decide +kernel) ?_
    refine g_put (C := "ThreePoints$Reader") (T := xT_Reader) (N := 5) (ci := 4) (k := 4) xy_Reader (by decide +kernel) (by decide) rfl rfl xi_Reader xy_Reader_ok xn_Reader (by decide) kw_233 rfl (by decide +kernel) (fun _ => rfl) ?_
    refine g_aload_n (q := 0) (i := 0) (by decide +kernel) rfl rfl ?_
    refine g_aload_n (q := 0) (i := 0) (by decide +kernel) rfl rfl ?_
    refine g_heap (fun H1 eH1 => ?_)
    replace h := h H1 eH1
    refine g_get (C := "ThreePoints$Reader") (T := xT_Reader) (N := 5) (ci := 4) (k := 2) (v := vi (H1 5 0 2)) (by decide +kernel) (by decide) rfl rfl xi_Reader (by decide) kw_231 rfl ?_
    refine g_iconst (n := 1) (v := 1) (by decide +kernel) (by decide) ?_
    refine g_iadd (by decide +kernel) ?_
    refine g_callV (kd := 5) (ix := 0) (ci := 4) (N := 5) (T := xT_Reader) (vs := [vi ((H1 5 0 2) + 1)]) (st := []) (by decide +kernel) xm_Reader_goTo kw_511 kw_513 kw_7 (by decide) rfl rfl rfl rfl (Nat.le_of_ble_eq_true rfl) (Nat.le_of_ble_eq_true rfl) h (fun vH2 H2 hq => ?_)
    replace h := hq
    refine g_iconst (n := 1) (v := 1) (by decide +kernel) (by decide) ?_
    exact g_zret (by decide +kernel) rfl rfl ⟨_, rfl, h⟩
  · replace h := h.2 c
    refine g_iconst (n := 0) (v := 0) (by decide +kernel) (by decide) ?_
    exact g_zret (by decide +kernel) rfl rfl ⟨_, rfl, h⟩
def p_Reader_readOne (E : XE) (d : Nat)  (H : HH) (Q : Int32 → HH → Prop) : Prop := ((H 5 0 3) = 263 → ((¬ (H 5 0 3) = 262 → (c_Tape_valueOf E d (H 5 0 2) H (fun r2 H1 => c_Text_put E d 6 r2 H1 (fun H3 => c_Reader_goTo E d ((H3 5 0 2) + 1) H3 (fun H4 => Q 1 H4))))) ∧ ((H 5 0 3) = 262 → (c_Tape_valueOf E d (H 5 0 2) H (fun r6 H5 => c_Text_put E d 6 (10000 + r6) H5 (fun H7 => c_Reader_goTo E d ((H7 5 0 2) + 1) H7 (fun H8 => Q 1 H8))))))) ∧ (¬ (H 5 0 3) = 263 → ((¬ (H 5 0 3) = 262 → ((¬ (H 5 0 3) = 45 → ((¬ (H 5 0 3) = 40 → (Q 0 H)) ∧ ((H 5 0 3) = 40 → (c_Reader_mayOpen E d  H (fun r10 H9 => (r10 = 0 → (Q 0 H9)) ∧ (¬ r10 = 0 → (c_Reader_readOr E d  H9 (fun r12 H11 => (r12 = 0 → (Q 0 H11)) ∧ (¬ r12 = 0 → (((H11 5 0 3) = 41 → (∀ H13 : HH, H13 = (hu H11 5 0 4 ((H11 5 0 4) - 1)) → (c_Reader_goTo E d ((H13 5 0 2) + 1) H13 (fun H14 => Q 1 H14)))) ∧ (¬ (H11 5 0 3) = 41 → (Q 0 H11)))))))))))) ∧ ((H 5 0 3) = 45 → (c_Reader_mayOpen E d  H (fun r16 H15 => (r16 = 0 → (Q 0 H15)) ∧ (¬ r16 = 0 → (c_Reader_readOne E d  H15 (fun r18 H17 => (¬ r18 = 0 → (∀ H19 : HH, H19 = (hu H17 5 0 4 ((H17 5 0 4) - 1)) → (c_Text_put E d 6 20008 H19 (fun H20 => Q 1 H20)))) ∧ (r18 = 0 → (Q 0 H17)))))))))) ∧ ((H 5 0 3) = 262 → ((¬ (H 5 0 3) = 262 → (c_Tape_valueOf E d (H 5 0 2) H (fun r22 H21 => c_Text_put E d 6 r22 H21 (fun H23 => c_Reader_goTo E d ((H23 5 0 2) + 1) H23 (fun H24 => Q 1 H24))))) ∧ ((H 5 0 3) = 262 → (c_Tape_valueOf E d (H 5 0 2) H (fun r26 H25 => c_Text_put E d 6 (10000 + r26) H25 (fun H27 => c_Reader_goTo E d ((H27 5 0 2) + 1) H27 (fun H28 => Q 1 H28)))))))))
set_option maxHeartbeats 4000000 in
theorem l_Reader_readOne {E : XE} {d : Nat}  {H : HH} {Q : Int32 → HH → Prop} (h : p_Reader_readOne E d  H Q) : c_Reader_readOne E (d + 1)  H Q := by
  show g_Reader_readOne E (d + 1) 0 (xent [vr 5 0]) [] H (qi Q)
  refine g_drop (ls2 := [some (vr 5 0)]) (And.intro rfl trivial) ?_
  refine g_aload_n (q := 0) (i := 0) (by decide +kernel) rfl rfl ?_
  refine g_get (C := "ThreePoints$Reader") (T := xT_Reader) (N := 5) (ci := 4) (k := 3) (v := vi (H 5 0 3)) (by decide +kernel) (by decide) rfl rfl xi_Reader (by decide) kw_232 rfl ?_
  refine g_sipush (n := 263) (v := 263) (by decide +kernel) (by decide) ?_
  refine g_icmp_eq (off := 13) (tgt := 20) (by decide +kernel) (by decide) (fun c => ?_) (fun c => ?_)
  · replace h := h.1 c
    refine g_aload_n (q := 0) (i := 0) (by decide +kernel) rfl rfl ?_
    refine g_get (C := "ThreePoints$Reader") (T := xT_Reader) (N := 5) (ci := 4) (k := 1) (v := vr 11 6) (by decide +kernel) (by decide) rfl rfl xi_Reader (by decide) kw_229 rfl ?_
    refine g_aload_n (q := 0) (i := 0) (by decide +kernel) rfl rfl ?_
    refine g_get (C := "ThreePoints$Reader") (T := xT_Reader) (N := 5) (ci := 4) (k := 3) (v := vi (H 5 0 3)) (by decide +kernel) (by decide) rfl rfl xi_Reader (by decide) kw_232 rfl ?_
    refine g_sipush (n := 262) (v := 262) (by decide +kernel) (by decide) ?_
    refine g_icmp_ne (off := 21) (tgt := 52) (by decide +kernel) (by decide) (fun c => ?_) (fun c => ?_)
    · replace h := h.1 c
      refine g_aload_n (q := 0) (i := 0) (by decide +kernel) rfl rfl ?_
      refine g_get (C := "ThreePoints$Reader") (T := xT_Reader) (N := 5) (ci := 4) (k := 0) (v := vr 6 0) (by decide +kernel) (by decide) rfl rfl xi_Reader (by decide) kw_227 rfl ?_
      refine g_aload_n (q := 0) (i := 0) (by decide +kernel) rfl rfl ?_
      refine g_get (C := "ThreePoints$Reader") (T := xT_Reader) (N := 5) (ci := 4) (k := 2) (v := vi (H 5 0 2)) (by decide +kernel) (by decide) rfl rfl xi_Reader (by decide) kw_231 rfl ?_
      refine g_callV (kd := 6) (ix := 0) (ci := 5) (N := 6) (T := xT_Tape) (vs := [vi (H 5 0 2)]) (st := [vr 11 6]) (by decide +kernel) xm_Tape_valueOf kw_551 kw_552 kw_553 (by decide) rfl rfl rfl rfl (Nat.le_of_ble_eq_true rfl) (Nat.le_of_ble_eq_true rfl) h (fun vH1 H1 hq => ?_)
      obtain ⟨r2, rfl, h⟩ := hq
      refine g_callV (kd := 11) (ix := 6) (ci := 6) (N := 4) (T := xT_Text) (vs := [vi r2]) (st := []) (by decide +kernel) xm_Text_put kw_555 kw_556 kw_557 (by decide) rfl rfl rfl rfl (Nat.le_of_ble_eq_true rfl) (Nat.le_of_ble_eq_true rfl) h (fun vH3 H3 hq => ?_)
      replace h := hq
      refine g_aload_n (q := 0) (i := 0) (by decide +kernel) rfl rfl ?_
      refine g_aload_n (q := 0) (i := 0) (by decide +kernel) rfl rfl ?_
      refine g_get (C := "ThreePoints$Reader") (T := xT_Reader) (N := 5) (ci := 4) (k := 2) (v := vi (H3 5 0 2)) (by decide +kernel) (by decide) rfl rfl xi_Reader (by decide) kw_231 rfl ?_
      refine g_iconst (n := 1) (v := 1) (by decide +kernel) (by decide) ?_
      refine g_iadd (by decide +kernel) ?_
      refine g_callV (kd := 5) (ix := 0) (ci := 4) (N := 5) (T := xT_Reader) (vs := [vi ((H3 5 0 2) + 1)]) (st := []) (by decide +kernel) xm_Reader_goTo kw_511 kw_513 kw_7 (by decide) rfl rfl rfl rfl (Nat.le_of_ble_eq_true rfl) (Nat.le_of_ble_eq_true rfl) h (fun vH4 H4 hq => ?_)
      replace h := hq
      refine g_iconst (n := 1) (v := 1) (by decide +kernel) (by decide) ?_
      exact g_zret (by decide +kernel) rfl rfl ⟨_, rfl, h⟩
    · replace h := h.2 c
      refine g_sipush (n := 10000) (v := 10000) (by decide +kernel) (by decide) ?_
      refine g_aload_n (q := 0) (i := 0) (by decide +kernel) rfl rfl ?_
      refine g_get (C := "ThreePoints$Reader") (T := xT_Reader) (N := 5) (ci := 4) (k := 0) (v := vr 6 0) (by decide +kernel) (by decide) rfl rfl xi_Reader (by decide) kw_227 rfl ?_
      refine g_aload_n (q := 0) (i := 0) (by decide +kernel) rfl rfl ?_
      refine g_get (C := "ThreePoints$Reader") (T := xT_Reader) (N := 5) (ci := 4) (k := 2) (v := vi (H 5 0 2)) (by decide +kernel) (by decide) rfl rfl xi_Reader (by decide) kw_231 rfl ?_
      refine g_callV (kd := 6) (ix := 0) (ci := 5) (N := 6) (T := xT_Tape) (vs := [vi (H 5 0 2)]) (st := [vi 10000, vr 11 6]) (by decide +kernel) xm_Tape_valueOf kw_551 kw_552 kw_553 (by decide) rfl rfl rfl rfl (Nat.le_of_ble_eq_true rfl) (Nat.le_of_ble_eq_true rfl) h (fun vH5 H5 hq => ?_)
      obtain ⟨r6, rfl, h⟩ := hq
      refine g_iadd (by decide +kernel) ?_
      refine g_goto (off := 14) (tgt := 63) (by decide +kernel) (by decide) ?_
      refine g_callV (kd := 11) (ix := 6) (ci := 6) (N := 4) (T := xT_Text) (vs := [vi (10000 + r6)]) (st := []) (by decide +kernel) xm_Text_put kw_555 kw_556 kw_557 (by decide) rfl rfl rfl rfl (Nat.le_of_ble_eq_true rfl) (Nat.le_of_ble_eq_true rfl) h (fun vH7 H7 hq => ?_)
      replace h := hq
      refine g_aload_n (q := 0) (i := 0) (by decide +kernel) rfl rfl ?_
      refine g_aload_n (q := 0) (i := 0) (by decide +kernel) rfl rfl ?_
      refine g_get (C := "ThreePoints$Reader") (T := xT_Reader) (N := 5) (ci := 4) (k := 2) (v := vi (H7 5 0 2)) (by decide +kernel) (by decide) rfl rfl xi_Reader (by decide) kw_231 rfl ?_
      refine g_iconst (n := 1) (v := 1) (by decide +kernel) (by decide) ?_
      refine g_iadd (by decide +kernel) ?_
      refine g_callV (kd := 5) (ix := 0) (ci := 4) (N := 5) (T := xT_Reader) (vs := [vi ((H7 5 0 2) + 1)]) (st := []) (by decide +kernel) xm_Reader_goTo kw_511 kw_513 kw_7 (by decide) rfl rfl rfl rfl (Nat.le_of_ble_eq_true rfl) (Nat.le_of_ble_eq_true rfl) h (fun vH8 H8 hq => ?_)
      replace h := hq
      refine g_iconst (n := 1) (v := 1) (by decide +kernel) (by decide) ?_
      exact g_zret (by decide +kernel) rfl rfl ⟨_, rfl, h⟩
  · replace h := h.2 c
    refine g_aload_n (q := 0) (i := 0) (by decide +kernel) rfl rfl ?_
    refine g_get (C := "ThreePoints$Reader") (T := xT_Reader) (N := 5) (ci := 4) (k := 3) (v := vi (H 5 0 3)) (by decide +kernel) (by decide) rfl rfl xi_Reader (by decide) kw_232 rfl ?_
    refine g_sipush (n := 262) (v := 262) (by decide +kernel) (by decide) ?_
    refine g_icmp_ne (off := 61) (tgt := 78) (by decide +kernel) (by decide) (fun c => ?_) (fun c => ?_)
    · replace h := h.1 c
      refine g_aload_n (q := 0) (i := 0) (by decide +kernel) rfl rfl ?_
      refine g_get (C := "ThreePoints$Reader") (T := xT_Reader) (N := 5) (ci := 4) (k := 3) (v := vi (H 5 0 3)) (by decide +kernel) (by decide) rfl rfl xi_Reader (by decide) kw_232 rfl ?_
      refine g_bipush (n := 45) (v := 45) (by decide +kernel) (by decide) ?_
      refine g_icmp_ne (off := 41) (tgt := 125) (by decide +kernel) (by decide) (fun c => ?_) (fun c => ?_)
      · replace h := h.1 c
        refine g_aload_n (q := 0) (i := 0) (by decide +kernel) rfl rfl ?_
        refine g_get (C := "ThreePoints$Reader") (T := xT_Reader) (N := 5) (ci := 4) (k := 3) (v := vi (H 5 0 3)) (by decide +kernel) (by decide) rfl rfl xi_Reader (by decide) kw_232 rfl ?_
        refine g_bipush (n := 40) (v := 40) (by decide +kernel) (by decide) ?_
        refine g_icmp_ne (off := 26) (tgt := 157) (by decide +kernel) (by decide) (fun c => ?_) (fun c => ?_)
        · replace h := h.1 c
          refine g_iconst (n := 0) (v := 0) (by decide +kernel) (by decide) ?_
          exact g_zret (by decide +kernel) rfl rfl ⟨_, rfl, h⟩
        · replace h := h.2 c
          refine g_aload_n (q := 0) (i := 0) (by decide +kernel) rfl rfl ?_
          refine g_callV (kd := 5) (ix := 0) (ci := 4) (N := 5) (T := xT_Reader) (vs := []) (st := []) (by decide +kernel) xm_Reader_mayOpen kw_559 kw_561 kw_16 (by decide) rfl rfl rfl rfl (Nat.le_of_ble_eq_true rfl) (Nat.le_of_ble_eq_true rfl) h (fun vH9 H9 hq => ?_)
          obtain ⟨r10, rfl, h⟩ := hq
          refine g_if_eq (off := 19) (tgt := 157) (by decide +kernel) (by decide) (fun c => ?_) (fun c => ?_)
          · replace h := h.1 c
            refine g_iconst (n := 0) (v := 0) (by decide +kernel) (by decide) ?_
            exact g_zret (by decide +kernel) rfl rfl ⟨_, rfl, h⟩
          · replace h := h.2 c
            refine g_aload_n (q := 0) (i := 0) (by decide +kernel) rfl rfl ?_
            refine g_callV (kd := 5) (ix := 0) (ci := 4) (N := 5) (T := xT_Reader) (vs := []) (st := []) (by decide +kernel) xm_Reader_readOr kw_523 kw_525 kw_9 (by decide) rfl rfl rfl rfl (Nat.le_of_ble_eq_true rfl) (Nat.le_of_ble_eq_true rfl) h (fun vH11 H11 hq => ?_)
            obtain ⟨r12, rfl, h⟩ := hq
            refine g_if_eq (off := 12) (tgt := 157) (by decide +kernel) (by decide) (fun c => ?_) (fun c => ?_)
            · replace h := h.1 c
              refine g_iconst (n := 0) (v := 0) (by decide +kernel) (by decide) ?_
              exact g_zret (by decide +kernel) rfl rfl ⟨_, rfl, h⟩
            · replace h := h.2 c
              refine g_aload_n (q := 0) (i := 0) (by decide +kernel) rfl rfl ?_
              refine g_get (C := "ThreePoints$Reader") (T := xT_Reader) (N := 5) (ci := 4) (k := 3) (v := vi (H11 5 0 3)) (by decide +kernel) (by decide) rfl rfl xi_Reader (by decide) kw_232 rfl ?_
              refine g_bipush (n := 41) (v := 41) (by decide +kernel) (by decide) ?_
              refine g_icmp_eq (off := 5) (tgt := 159) (by decide +kernel) (by decide) (fun c => ?_) (fun c => ?_)
              · replace h := h.1 c
                refine g_aload_n (q := 0) (i := 0) (by decide +kernel) rfl rfl ?_
                refine g_dup (by decide +kernel) rfl ?_
                refine g_get (C := "ThreePoints$Reader") (T := xT_Reader) (N := 5) (ci := 4) (k := 4) (v := vi (H11 5 0 4)) (by decide +kernel) (by decide) rfl rfl xi_Reader (by decide) kw_233 rfl ?_
                refine g_iconst (n := 1) (v := 1) (by decide +kernel) (by decide) ?_
                refine g_isub (by decide +kernel) ?_
                refine g_put (C := "ThreePoints$Reader") (T := xT_Reader) (N := 5) (ci := 4) (k := 4) xy_Reader (by decide +kernel) (by decide) rfl rfl xi_Reader xy_Reader_ok xn_Reader (by decide) kw_233 rfl (by decide +kernel) (fun _ => rfl) ?_
                refine g_aload_n (q := 0) (i := 0) (by decide +kernel) rfl rfl ?_
                refine g_aload_n (q := 0) (i := 0) (by decide +kernel) rfl rfl ?_
                refine g_heap (fun H13 eH13 => ?_)
                replace h := h H13 eH13
                refine g_get (C := "ThreePoints$Reader") (T := xT_Reader) (N := 5) (ci := 4) (k := 2) (v := vi (H13 5 0 2)) (by decide +kernel) (by decide) rfl rfl xi_Reader (by decide) kw_231 rfl ?_
                refine g_iconst (n := 1) (v := 1) (by decide +kernel) (by decide) ?_
                refine g_iadd (by decide +kernel) ?_
                refine g_callV (kd := 5) (ix := 0) (ci := 4) (N := 5) (T := xT_Reader) (vs := [vi ((H13 5 0 2) + 1)]) (st := []) (by decide +kernel) xm_Reader_goTo kw_511 kw_513 kw_7 (by decide) rfl rfl rfl rfl (Nat.le_of_ble_eq_true rfl) (Nat.le_of_ble_eq_true rfl) h (fun vH14 H14 hq => ?_)
                replace h := hq
                refine g_iconst (n := 1) (v := 1) (by decide +kernel) (by decide) ?_
                exact g_zret (by decide +kernel) rfl rfl ⟨_, rfl, h⟩
              · replace h := h.2 c
                refine g_iconst (n := 0) (v := 0) (by decide +kernel) (by decide) ?_
                exact g_zret (by decide +kernel) rfl rfl ⟨_, rfl, h⟩
      · replace h := h.2 c
        refine g_aload_n (q := 0) (i := 0) (by decide +kernel) rfl rfl ?_
        refine g_callV (kd := 5) (ix := 0) (ci := 4) (N := 5) (T := xT_Reader) (vs := []) (st := []) (by decide +kernel) xm_Reader_mayOpen kw_559 kw_561 kw_16 (by decide) rfl rfl rfl rfl (Nat.le_of_ble_eq_true rfl) (Nat.le_of_ble_eq_true rfl) h (fun vH15 H15 hq => ?_)
        obtain ⟨r16, rfl, h⟩ := hq
        refine g_if_eq (off := 10) (tgt := 101) (by decide +kernel) (by decide) (fun c => ?_) (fun c => ?_)
        · replace h := h.1 c
          refine g_iconst (n := 0) (v := 0) (by decide +kernel) (by decide) ?_
          exact g_zret (by decide +kernel) rfl rfl ⟨_, rfl, h⟩
        · replace h := h.2 c
          refine g_aload_n (q := 0) (i := 0) (by decide +kernel) rfl rfl ?_
          refine g_callV (kd := 5) (ix := 0) (ci := 4) (N := 5) (T := xT_Reader) (vs := []) (st := []) (by decide +kernel) xm_Reader_readOne kw_547 kw_549 kw_15 (by decide) rfl rfl rfl rfl (Nat.le_of_ble_eq_true rfl) (Nat.le_of_ble_eq_true rfl) h (fun vH17 H17 hq => ?_)
          obtain ⟨r18, rfl, h⟩ := hq
          refine g_if_ne (off := 5) (tgt := 103) (by decide +kernel) (by decide) (fun c => ?_) (fun c => ?_)
          · replace h := h.1 c
            refine g_aload_n (q := 0) (i := 0) (by decide +kernel) rfl rfl ?_
            refine g_dup (by decide +kernel) rfl ?_
            refine g_get (C := "ThreePoints$Reader") (T := xT_Reader) (N := 5) (ci := 4) (k := 4) (v := vi (H17 5 0 4)) (by decide +kernel) (by decide) rfl rfl xi_Reader (by decide) kw_233 rfl ?_
            refine g_iconst (n := 1) (v := 1) (by decide +kernel) (by decide) ?_
            refine g_isub (by decide +kernel) ?_
            refine g_put (C := "ThreePoints$Reader") (T := xT_Reader) (N := 5) (ci := 4) (k := 4) xy_Reader (by decide +kernel) (by decide) rfl rfl xi_Reader xy_Reader_ok xn_Reader (by decide) kw_233 rfl (by decide +kernel) (fun _ => rfl) ?_
            refine g_aload_n (q := 0) (i := 0) (by decide +kernel) rfl rfl ?_
            refine g_get (C := "ThreePoints$Reader") (T := xT_Reader) (N := 5) (ci := 4) (k := 1) (v := vr 11 6) (by decide +kernel) (by decide) rfl rfl xi_Reader (by decide) kw_229 rfl ?_
            refine g_sipush (n := 20008) (v := 20008) (by decide +kernel) (by decide) ?_
            refine g_heap (fun H19 eH19 => ?_)
            replace h := h H19 eH19
            refine g_callV (kd := 11) (ix := 6) (ci := 6) (N := 4) (T := xT_Text) (vs := [vi 20008]) (st := []) (by decide +kernel) xm_Text_put kw_555 kw_556 kw_557 (by decide) rfl rfl rfl rfl (Nat.le_of_ble_eq_true rfl) (Nat.le_of_ble_eq_true rfl) h (fun vH20 H20 hq => ?_)
            replace h := hq
            refine g_iconst (n := 1) (v := 1) (by decide +kernel) (by decide) ?_
            exact g_zret (by decide +kernel) rfl rfl ⟨_, rfl, h⟩
          · replace h := h.2 c
            refine g_iconst (n := 0) (v := 0) (by decide +kernel) (by decide) ?_
            exact g_zret (by decide +kernel) rfl rfl ⟨_, rfl, h⟩
    · replace h := h.2 c
      refine g_aload_n (q := 0) (i := 0) (by decide +kernel) rfl rfl ?_
      refine g_get (C := "ThreePoints$Reader") (T := xT_Reader) (N := 5) (ci := 4) (k := 1) (v := vr 11 6) (by decide +kernel) (by decide) rfl rfl xi_Reader (by decide) kw_229 rfl ?_
      refine g_aload_n (q := 0) (i := 0) (by decide +kernel) rfl rfl ?_
      refine g_get (C := "ThreePoints$Reader") (T := xT_Reader) (N := 5) (ci := 4) (k := 3) (v := vi (H 5 0 3)) (by decide +kernel) (by decide) rfl rfl xi_Reader (by decide) kw_232 rfl ?_
      refine g_sipush (n := 262) (v := 262) (by decide +kernel) (by decide) ?_
      refine g_icmp_ne (off := 21) (tgt := 52) (by decide +kernel) (by decide) (fun c => ?_) (fun c => ?_)
      · replace h := h.1 c
        refine g_aload_n (q := 0) (i := 0) (by decide +kernel) rfl rfl ?_
        refine g_get (C := "ThreePoints$Reader") (T := xT_Reader) (N := 5) (ci := 4) (k := 0) (v := vr 6 0) (by decide +kernel) (by decide) rfl rfl xi_Reader (by decide) kw_227 rfl ?_
        refine g_aload_n (q := 0) (i := 0) (by decide +kernel) rfl rfl ?_
        refine g_get (C := "ThreePoints$Reader") (T := xT_Reader) (N := 5) (ci := 4) (k := 2) (v := vi (H 5 0 2)) (by decide +kernel) (by decide) rfl rfl xi_Reader (by decide) kw_231 rfl ?_
        refine g_callV (kd := 6) (ix := 0) (ci := 5) (N := 6) (T := xT_Tape) (vs := [vi (H 5 0 2)]) (st := [vr 11 6]) (by decide +kernel) xm_Tape_valueOf kw_551 kw_552 kw_553 (by decide) rfl rfl rfl rfl (Nat.le_of_ble_eq_true rfl) (Nat.le_of_ble_eq_true rfl) h (fun vH21 H21 hq => ?_)
        obtain ⟨r22, rfl, h⟩ := hq
        refine g_callV (kd := 11) (ix := 6) (ci := 6) (N := 4) (T := xT_Text) (vs := [vi r22]) (st := []) (by decide +kernel) xm_Text_put kw_555 kw_556 kw_557 (by decide) rfl rfl rfl rfl (Nat.le_of_ble_eq_true rfl) (Nat.le_of_ble_eq_true rfl) h (fun vH23 H23 hq => ?_)
        replace h := hq
        refine g_aload_n (q := 0) (i := 0) (by decide +kernel) rfl rfl ?_
        refine g_aload_n (q := 0) (i := 0) (by decide +kernel) rfl rfl ?_
        refine g_get (C := "ThreePoints$Reader") (T := xT_Reader) (N := 5) (ci := 4) (k := 2) (v := vi (H23 5 0 2)) (by decide +kernel) (by decide) rfl rfl xi_Reader (by decide) kw_231 rfl ?_
        refine g_iconst (n := 1) (v := 1) (by decide +kernel) (by decide) ?_
        refine g_iadd (by decide +kernel) ?_
        refine g_callV (kd := 5) (ix := 0) (ci := 4) (N := 5) (T := xT_Reader) (vs := [vi ((H23 5 0 2) + 1)]) (st := []) (by decide +kernel) xm_Reader_goTo kw_511 kw_513 kw_7 (by decide) rfl rfl rfl rfl (Nat.le_of_ble_eq_true rfl) (Nat.le_of_ble_eq_true rfl) h (fun vH24 H24 hq => ?_)
        replace h := hq
        refine g_iconst (n := 1) (v := 1) (by decide +kernel) (by decide) ?_
        exact g_zret (by decide +kernel) rfl rfl ⟨_, rfl, h⟩
      · replace h := h.2 c
        refine g_sipush (n := 10000) (v := 10000) (by decide +kernel) (by decide) ?_
        refine g_aload_n (q := 0) (i := 0) (by decide +kernel) rfl rfl ?_
        refine g_get (C := "ThreePoints$Reader") (T := xT_Reader) (N := 5) (ci := 4) (k := 0) (v := vr 6 0) (by decide +kernel) (by decide) rfl rfl xi_Reader (by decide) kw_227 rfl ?_
        refine g_aload_n (q := 0) (i := 0) (by decide +kernel) rfl rfl ?_
        refine g_get (C := "ThreePoints$Reader") (T := xT_Reader) (N := 5) (ci := 4) (k := 2) (v := vi (H 5 0 2)) (by decide +kernel) (by decide) rfl rfl xi_Reader (by decide) kw_231 rfl ?_
        refine g_callV (kd := 6) (ix := 0) (ci := 5) (N := 6) (T := xT_Tape) (vs := [vi (H 5 0 2)]) (st := [vi 10000, vr 11 6]) (by decide +kernel) xm_Tape_valueOf kw_551 kw_552 kw_553 (by decide) rfl rfl rfl rfl (Nat.le_of_ble_eq_true rfl) (Nat.le_of_ble_eq_true rfl) h (fun vH25 H25 hq => ?_)
        obtain ⟨r26, rfl, h⟩ := hq
        refine g_iadd (by decide +kernel) ?_
        refine g_goto (off := 14) (tgt := 63) (by decide +kernel) (by decide) ?_
        refine g_callV (kd := 11) (ix := 6) (ci := 6) (N := 4) (T := xT_Text) (vs := [vi (10000 + r26)]) (st := []) (by decide +kernel) xm_Text_put kw_555 kw_556 kw_557 (by decide) rfl rfl rfl rfl (Nat.le_of_ble_eq_true rfl) (Nat.le_of_ble_eq_true rfl) h (fun vH27 H27 hq => ?_)
        replace h := hq
        refine g_aload_n (q := 0) (i := 0) (by decide +kernel) rfl rfl ?_
        refine g_aload_n (q := 0) (i := 0) (by decide +kernel) rfl rfl ?_
        refine g_get (C := "ThreePoints$Reader") (T := xT_Reader) (N := 5) (ci := 4) (k := 2) (v := vi (H27 5 0 2)) (by decide +kernel) (by decide) rfl rfl xi_Reader (by decide) kw_231 rfl ?_
        refine g_iconst (n := 1) (v := 1) (by decide +kernel) (by decide) ?_
        refine g_iadd (by decide +kernel) ?_
        refine g_callV (kd := 5) (ix := 0) (ci := 4) (N := 5) (T := xT_Reader) (vs := [vi ((H27 5 0 2) + 1)]) (st := []) (by decide +kernel) xm_Reader_goTo kw_511 kw_513 kw_7 (by decide) rfl rfl rfl rfl (Nat.le_of_ble_eq_true rfl) (Nat.le_of_ble_eq_true rfl) h (fun vH28 H28 hq => ?_)
        replace h := hq
        refine g_iconst (n := 1) (v := 1) (by decide +kernel) (by decide) ?_
        exact g_zret (by decide +kernel) rfl rfl ⟨_, rfl, h⟩
def p_Reader_readTerm (E : XE) (d : Nat)  (H : HH) (Q : Int32 → HH → Prop) : Prop := c_Reader_readOne E d  H (fun r2 H1 => (¬ r2 = 0 → (∃ (I3 : Int32 → HH → Prop) (μ3 : Int32 → HH → Nat), I3 160 H1 ∧ ∀ (z4 : Int32) (H5 : HH), I3 z4 H5 → ((z4 ≤ 0 → (Q 1 H5)) ∧ (¬ z4 ≤ 0 → ((¬ (H5 5 0 3) = 42 → (Q 1 H5)) ∧ ((H5 5 0 3) = 42 → (c_Reader_goTo E d ((H5 5 0 2) + 1) H5 (fun H6 => c_Reader_readOne E d  H6 (fun r8 H7 => (¬ r8 = 0 → (c_Text_put E d 6 20007 H7 (fun H9 => I3 (z4 + (-1)) H9 ∧ μ3 (z4 + (-1)) H9 < μ3 z4 H5))) ∧ (r8 = 0 → (Q 0 H7))))))))))) ∧ (r2 = 0 → (Q 0 H1)))
set_option maxHeartbeats 4000000 in
theorem l_Reader_readTerm {E : XE} {d : Nat}  {H : HH} {Q : Int32 → HH → Prop} (h : p_Reader_readTerm E d  H Q) : c_Reader_readTerm E (d + 1)  H Q := by
  show g_Reader_readTerm E (d + 1) 0 (xent [vr 5 0]) [] H (qi Q)
  refine g_drop (ls2 := [some (vr 5 0), none]) (And.intro rfl trivial) ?_
  refine g_aload_n (q := 0) (i := 0) (by decide +kernel) rfl rfl ?_
  refine g_callV (kd := 5) (ix := 0) (ci := 4) (N := 5) (T := xT_Reader) (vs := []) (st := []) (by decide +kernel) xm_Reader_readOne kw_547 kw_549 kw_15 (by decide) rfl rfl rfl rfl (Nat.le_of_ble_eq_true rfl) (Nat.le_of_ble_eq_true rfl) h (fun vH1 H1 hq => ?_)
  obtain ⟨r2, rfl, h⟩ := hq
  refine g_if_ne (off := 5) (tgt := 9) (by decide +kernel) (by decide) (fun c => ?_) (fun c => ?_)
  · replace h := h.1 c
    refine g_sipush (n := 160) (v := 160) (by decide +kernel) (by decide) ?_
    refine g_istore_n (q := 1) (i := 1) (ls2 := [some (vr 5 0), some (vi 160)]) (by decide +kernel) rfl (by decide) rfl rfl ?_
    refine g_drop (ls2 := [some (vr 5 0), some (vi 160)]) (And.intro rfl (And.intro rfl trivial)) ?_
    obtain ⟨I3, μ3, h0, h⟩ := h
    refine xloop (σ := Int32) (fun s H => I3 s H) (fun s H => μ3 s H) (fun s H => g_Reader_readTerm E (d + 1) 13 [some (vr 5 0), some (vi s)] [] H (qi Q)) (fun s H5 hI ih3 => ?_) 160 H1 h0
    obtain ⟨z4, es⟩ : ∃ z, z = s := ⟨s, rfl⟩
    subst es
    replace h := h z4 H5 hI
    refine g_iload_n (q := 1) (i := 1) (by decide +kernel) rfl rfl ?_
    refine g_if_le (off := 47) (tgt := 61) (by decide +kernel) (by decide) (fun c => ?_) (fun c => ?_)
    · replace h := h.1 c
      refine g_iconst (n := 1) (v := 1) (by decide +kernel) (by decide) ?_
      exact g_zret (by decide +kernel) rfl rfl ⟨_, rfl, h⟩
    · replace h := h.2 c
      refine g_aload_n (q := 0) (i := 0) (by decide +kernel) rfl rfl ?_
      refine g_get (C := "ThreePoints$Reader") (T := xT_Reader) (N := 5) (ci := 4) (k := 3) (v := vi (H5 5 0 3)) (by decide +kernel) (by decide) rfl rfl xi_Reader (by decide) kw_232 rfl ?_
      refine g_bipush (n := 42) (v := 42) (by decide +kernel) (by decide) ?_
      refine g_icmp_ne (off := 38) (tgt := 61) (by decide +kernel) (by decide) (fun c => ?_) (fun c => ?_)
      · replace h := h.1 c
        refine g_iconst (n := 1) (v := 1) (by decide +kernel) (by decide) ?_
        exact g_zret (by decide +kernel) rfl rfl ⟨_, rfl, h⟩
      · replace h := h.2 c
        refine g_aload_n (q := 0) (i := 0) (by decide +kernel) rfl rfl ?_
        refine g_aload_n (q := 0) (i := 0) (by decide +kernel) rfl rfl ?_
        refine g_get (C := "ThreePoints$Reader") (T := xT_Reader) (N := 5) (ci := 4) (k := 2) (v := vi (H5 5 0 2)) (by decide +kernel) (by decide) rfl rfl xi_Reader (by decide) kw_231 rfl ?_
        refine g_iconst (n := 1) (v := 1) (by decide +kernel) (by decide) ?_
        refine g_iadd (by decide +kernel) ?_
        refine g_callV (kd := 5) (ix := 0) (ci := 4) (N := 5) (T := xT_Reader) (vs := [vi ((H5 5 0 2) + 1)]) (st := []) (by decide +kernel) xm_Reader_goTo kw_511 kw_513 kw_7 (by decide) rfl rfl rfl rfl (Nat.le_of_ble_eq_true rfl) (Nat.le_of_ble_eq_true rfl) h (fun vH6 H6 hq => ?_)
        replace h := hq
        refine g_aload_n (q := 0) (i := 0) (by decide +kernel) rfl rfl ?_
        refine g_callV (kd := 5) (ix := 0) (ci := 4) (N := 5) (T := xT_Reader) (vs := []) (st := []) (by decide +kernel) xm_Reader_readOne kw_547 kw_549 kw_15 (by decide) rfl rfl rfl rfl (Nat.le_of_ble_eq_true rfl) (Nat.le_of_ble_eq_true rfl) h (fun vH7 H7 hq => ?_)
        obtain ⟨r8, rfl, h⟩ := hq
        refine g_if_ne (off := 5) (tgt := 45) (by decide +kernel) (by decide) (fun c => ?_) (fun c => ?_)
        · replace h := h.1 c
          refine g_aload_n (q := 0) (i := 0) (by decide +kernel) rfl rfl ?_
          refine g_get (C := "ThreePoints$Reader") (T := xT_Reader) (N := 5) (ci := 4) (k := 1) (v := vr 11 6) (by decide +kernel) (by decide) rfl rfl xi_Reader (by decide) kw_229 rfl ?_
          refine g_sipush (n := 20007) (v := 20007) (by decide +kernel) (by decide) ?_
          refine g_callV (kd := 11) (ix := 6) (ci := 6) (N := 4) (T := xT_Text) (vs := [vi 20007]) (st := []) (by decide +kernel) xm_Text_put kw_555 kw_556 kw_557 (by decide) rfl rfl rfl rfl (Nat.le_of_ble_eq_true rfl) (Nat.le_of_ble_eq_true rfl) h (fun vH9 H9 hq => ?_)
          replace h := hq
          refine g_iinc (i := 1) (n := (-1)) (v := (z4 + (-1))) (ls2 := [some (vr 5 0), some (vi (z4 + (-1)))]) (by decide +kernel) rfl rfl (by decide) rfl rfl ?_
          refine g_goto (off := (-45)) (tgt := 13) (by decide +kernel) (by decide) ?_
          obtain ⟨hI, hlt⟩ := h
          exact g_drop (ls2 := [some (vr 5 0), some (vi (z4 + (-1)))]) (And.intro rfl (And.intro rfl trivial)) (ih3 (z4 + (-1)) H9 hI hlt)
        · replace h := h.2 c
          refine g_iconst (n := 0) (v := 0) (by decide +kernel) (by decide) ?_
          exact g_zret (by decide +kernel) rfl rfl ⟨_, rfl, h⟩
  · replace h := h.2 c
    refine g_iconst (n := 0) (v := 0) (by decide +kernel) (by decide) ?_
    exact g_zret (by decide +kernel) rfl rfl ⟨_, rfl, h⟩
def p_Reader_readSum (E : XE) (d : Nat)  (H : HH) (Q : Int32 → HH → Prop) : Prop := c_Reader_readTerm E d  H (fun r2 H1 => (¬ r2 = 0 → (∃ (I3 : Int32 → HH → Prop) (μ3 : Int32 → HH → Nat), I3 160 H1 ∧ ∀ (z4 : Int32) (H5 : HH), I3 z4 H5 → ((z4 ≤ 0 → (Q 1 H5)) ∧ (¬ z4 ≤ 0 → (((H5 5 0 3) = 43 → (∀ v7 : Int32, v7 = (if (H5 5 0 3) = 43 then 20005 else 20006 : Int32) → (c_Reader_goTo E d ((H5 5 0 2) + 1) H5 (fun H8 => c_Reader_readTerm E d  H8 (fun r10 H9 => (¬ r10 = 0 → (c_Text_put E d 6 v7 H9 (fun H11 => I3 (z4 + (-1)) H11 ∧ μ3 (z4 + (-1)) H11 < μ3 z4 H5))) ∧ (r10 = 0 → (Q 0 H9))))))) ∧ (¬ (H5 5 0 3) = 43 → ((¬ (H5 5 0 3) = 45 → (Q 1 H5)) ∧ ((H5 5 0 3) = 45 → (∀ v13 : Int32, v13 = (if (H5 5 0 3) = 43 then 20005 else 20006 : Int32) → (c_Reader_goTo E d ((H5 5 0 2) + 1) H5 (fun H14 => c_Reader_readTerm E d  H14 (fun r16 H15 => (¬ r16 = 0 → (c_Text_put E d 6 v13 H15 (fun H17 => I3 (z4 + (-1)) H17 ∧ μ3 (z4 + (-1)) H17 < μ3 z4 H5))) ∧ (r16 = 0 → (Q 0 H15)))))))))))))) ∧ (r2 = 0 → (Q 0 H1)))
set_option maxHeartbeats 4000000 in
theorem l_Reader_readSum {E : XE} {d : Nat}  {H : HH} {Q : Int32 → HH → Prop} (h : p_Reader_readSum E d  H Q) : c_Reader_readSum E (d + 1)  H Q := by
  show g_Reader_readSum E (d + 1) 0 (xent [vr 5 0]) [] H (qi Q)
  refine g_drop (ls2 := [some (vr 5 0), none, none]) (And.intro rfl trivial) ?_
  refine g_aload_n (q := 0) (i := 0) (by decide +kernel) rfl rfl ?_
  refine g_callV (kd := 5) (ix := 0) (ci := 4) (N := 5) (T := xT_Reader) (vs := []) (st := []) (by decide +kernel) xm_Reader_readTerm kw_543 kw_545 kw_14 (by decide) rfl rfl rfl rfl (Nat.le_of_ble_eq_true rfl) (Nat.le_of_ble_eq_true rfl) h (fun vH1 H1 hq => ?_)
  obtain ⟨r2, rfl, h⟩ := hq
  refine g_if_ne (off := 5) (tgt := 9) (by decide +kernel) (by decide) (fun c => ?_) (fun c => ?_)
  · replace h := h.1 c
    refine g_sipush (n := 160) (v := 160) (by decide +kernel) (by decide) ?_
    refine g_istore_n (q := 1) (i := 1) (ls2 := [some (vr 5 0), some (vi 160), none]) (by decide +kernel) rfl (by decide) rfl rfl ?_
    refine g_drop (ls2 := [some (vr 5 0), some (vi 160), none]) (And.intro rfl (And.intro rfl trivial)) ?_
    obtain ⟨I3, μ3, h0, h⟩ := h
    refine xloop (σ := Int32) (fun s H => I3 s H) (fun s H => μ3 s H) (fun s H => g_Reader_readSum E (d + 1) 13 [some (vr 5 0), some (vi s), none] [] H (qi Q)) (fun s H5 hI ih3 => ?_) 160 H1 h0
    obtain ⟨z4, es⟩ : ∃ z, z = s := ⟨s, rfl⟩
    subst es
    replace h := h z4 H5 hI
    refine g_iload_n (q := 1) (i := 1) (by decide +kernel) rfl rfl ?_
    refine g_if_le (off := 73) (tgt := 87) (by decide +kernel) (by decide) (fun c => ?_) (fun c => ?_)
    · replace h := h.1 c
      refine g_iconst (n := 1) (v := 1) (by decide +kernel) (by decide) ?_
      exact g_zret (by decide +kernel) rfl rfl ⟨_, rfl, h⟩
    · replace h := h.2 c
      refine g_aload_n (q := 0) (i := 0) (by decide +kernel) rfl rfl ?_
      refine g_get (C := "ThreePoints$Reader") (T := xT_Reader) (N := 5) (ci := 4) (k := 3) (v := vi (H5 5 0 3)) (by decide +kernel) (by decide) rfl rfl xi_Reader (by decide) kw_232 rfl ?_
      refine g_bipush (n := 43) (v := 43) (by decide +kernel) (by decide) ?_
      refine g_icmp_eq (off := 12) (tgt := 35) (by decide +kernel) (by decide) (fun c => ?_) (fun c => ?_)
      · replace h := h.1 c
        refine g_aload_n (q := 0) (i := 0) (by decide +kernel) rfl rfl ?_
        refine g_get (C := "ThreePoints$Reader") (T := xT_Reader) (N := 5) (ci := 4) (k := 3) (v := vi (H5 5 0 3)) (by decide +kernel) (by decide) rfl rfl xi_Reader (by decide) kw_232 rfl ?_
        refine g_bipush (n := 43) (v := 43) (by decide +kernel) (by decide) ?_
        suffices hj6 : g_Reader_readSum E (d + 1) 53 [some (vr 5 0), some (vi z4), none] [vi (if (H5 5 0 3) = 43 then 20005 else 20006 : Int32)] H5 (qi Q) by
          refine g_icmp_ne (off := 9) (tgt := 50) (by decide +kernel) (by decide) (fun c => ?_) (fun c => ?_)
          · rw [if_neg c] at hj6
            refine g_sipush (n := 20006) (v := 20006) (by decide +kernel) (by decide) ?_
            exact hj6
          · rw [if_pos c] at hj6
            refine g_sipush (n := 20005) (v := 20005) (by decide +kernel) (by decide) ?_
            refine g_goto (off := 6) (tgt := 53) (by decide +kernel) (by decide) ?_
            exact hj6
        refine g_topi (fun v7 ev7 => ?_)
        replace h := h v7 ev7
        refine g_istore_n (q := 2) (i := 2) (ls2 := [some (vr 5 0), some (vi z4), some (vi v7)]) (by decide +kernel) rfl (by decide) rfl rfl ?_
        refine g_aload_n (q := 0) (i := 0) (by decide +kernel) rfl rfl ?_
        refine g_aload_n (q := 0) (i := 0) (by decide +kernel) rfl rfl ?_
        refine g_get (C := "ThreePoints$Reader") (T := xT_Reader) (N := 5) (ci := 4) (k := 2) (v := vi (H5 5 0 2)) (by decide +kernel) (by decide) rfl rfl xi_Reader (by decide) kw_231 rfl ?_
        refine g_iconst (n := 1) (v := 1) (by decide +kernel) (by decide) ?_
        refine g_iadd (by decide +kernel) ?_
        refine g_callV (kd := 5) (ix := 0) (ci := 4) (N := 5) (T := xT_Reader) (vs := [vi ((H5 5 0 2) + 1)]) (st := []) (by decide +kernel) xm_Reader_goTo kw_511 kw_513 kw_7 (by decide) rfl rfl rfl rfl (Nat.le_of_ble_eq_true rfl) (Nat.le_of_ble_eq_true rfl) h (fun vH8 H8 hq => ?_)
        replace h := hq
        refine g_aload_n (q := 0) (i := 0) (by decide +kernel) rfl rfl ?_
        refine g_callV (kd := 5) (ix := 0) (ci := 4) (N := 5) (T := xT_Reader) (vs := []) (st := []) (by decide +kernel) xm_Reader_readTerm kw_543 kw_545 kw_14 (by decide) rfl rfl rfl rfl (Nat.le_of_ble_eq_true rfl) (Nat.le_of_ble_eq_true rfl) h (fun vH9 H9 hq => ?_)
        obtain ⟨r10, rfl, h⟩ := hq
        refine g_if_ne (off := 5) (tgt := 73) (by decide +kernel) (by decide) (fun c => ?_) (fun c => ?_)
        · replace h := h.1 c
          refine g_aload_n (q := 0) (i := 0) (by decide +kernel) rfl rfl ?_
          refine g_get (C := "ThreePoints$Reader") (T := xT_Reader) (N := 5) (ci := 4) (k := 1) (v := vr 11 6) (by decide +kernel) (by decide) rfl rfl xi_Reader (by decide) kw_229 rfl ?_
          refine g_iload_n (q := 2) (i := 2) (by decide +kernel) rfl rfl ?_
          refine g_callV (kd := 11) (ix := 6) (ci := 6) (N := 4) (T := xT_Text) (vs := [vi v7]) (st := []) (by decide +kernel) xm_Text_put kw_555 kw_556 kw_557 (by decide) rfl rfl rfl rfl (Nat.le_of_ble_eq_true rfl) (Nat.le_of_ble_eq_true rfl) h (fun vH11 H11 hq => ?_)
          replace h := hq
          refine g_iinc (i := 1) (n := (-1)) (v := (z4 + (-1))) (ls2 := [some (vr 5 0), some (vi (z4 + (-1))), some (vi v7)]) (by decide +kernel) rfl rfl (by decide) rfl rfl ?_
          refine g_goto (off := (-71)) (tgt := 13) (by decide +kernel) (by decide) ?_
          obtain ⟨hI, hlt⟩ := h
          exact g_drop (ls2 := [some (vr 5 0), some (vi (z4 + (-1))), none]) (And.intro rfl (And.intro rfl trivial)) (ih3 (z4 + (-1)) H11 hI hlt)
        · replace h := h.2 c
          refine g_iconst (n := 0) (v := 0) (by decide +kernel) (by decide) ?_
          exact g_zret (by decide +kernel) rfl rfl ⟨_, rfl, h⟩
      · replace h := h.2 c
        refine g_aload_n (q := 0) (i := 0) (by decide +kernel) rfl rfl ?_
        refine g_get (C := "ThreePoints$Reader") (T := xT_Reader) (N := 5) (ci := 4) (k := 3) (v := vi (H5 5 0 3)) (by decide +kernel) (by decide) rfl rfl xi_Reader (by decide) kw_232 rfl ?_
        refine g_bipush (n := 45) (v := 45) (by decide +kernel) (by decide) ?_
        refine g_icmp_ne (off := 55) (tgt := 87) (by decide +kernel) (by decide) (fun c => ?_) (fun c => ?_)
        · replace h := h.1 c
          refine g_iconst (n := 1) (v := 1) (by decide +kernel) (by decide) ?_
          exact g_zret (by decide +kernel) rfl rfl ⟨_, rfl, h⟩
        · replace h := h.2 c
          refine g_aload_n (q := 0) (i := 0) (by decide +kernel) rfl rfl ?_
          refine g_get (C := "ThreePoints$Reader") (T := xT_Reader) (N := 5) (ci := 4) (k := 3) (v := vi (H5 5 0 3)) (by decide +kernel) (by decide) rfl rfl xi_Reader (by decide) kw_232 rfl ?_
          refine g_bipush (n := 43) (v := 43) (by decide +kernel) (by decide) ?_
          suffices hj12 : g_Reader_readSum E (d + 1) 53 [some (vr 5 0), some (vi z4), none] [vi (if (H5 5 0 3) = 43 then 20005 else 20006 : Int32)] H5 (qi Q) by
            refine g_icmp_ne (off := 9) (tgt := 50) (by decide +kernel) (by decide) (fun c => ?_) (fun c => ?_)
            · rw [if_neg c] at hj12
              refine g_sipush (n := 20006) (v := 20006) (by decide +kernel) (by decide) ?_
              exact hj12
            · rw [if_pos c] at hj12
              refine g_sipush (n := 20005) (v := 20005) (by decide +kernel) (by decide) ?_
              refine g_goto (off := 6) (tgt := 53) (by decide +kernel) (by decide) ?_
              exact hj12
          refine g_topi (fun v13 ev13 => ?_)
          replace h := h v13 ev13
          refine g_istore_n (q := 2) (i := 2) (ls2 := [some (vr 5 0), some (vi z4), some (vi v13)]) (by decide +kernel) rfl (by decide) rfl rfl ?_
          refine g_aload_n (q := 0) (i := 0) (by decide +kernel) rfl rfl ?_
          refine g_aload_n (q := 0) (i := 0) (by decide +kernel) rfl rfl ?_
          refine g_get (C := "ThreePoints$Reader") (T := xT_Reader) (N := 5) (ci := 4) (k := 2) (v := vi (H5 5 0 2)) (by decide +kernel) (by decide) rfl rfl xi_Reader (by decide) kw_231 rfl ?_
          refine g_iconst (n := 1) (v := 1) (by decide +kernel) (by decide) ?_
          refine g_iadd (by decide +kernel) ?_
          refine g_callV (kd := 5) (ix := 0) (ci := 4) (N := 5) (T := xT_Reader) (vs := [vi ((H5 5 0 2) + 1)]) (st := []) (by decide +kernel) xm_Reader_goTo kw_511 kw_513 kw_7 (by decide) rfl rfl rfl rfl (Nat.le_of_ble_eq_true rfl) (Nat.le_of_ble_eq_true rfl) h (fun vH14 H14 hq => ?_)
          replace h := hq
          refine g_aload_n (q := 0) (i := 0) (by decide +kernel) rfl rfl ?_
          refine g_callV (kd := 5) (ix := 0) (ci := 4) (N := 5) (T := xT_Reader) (vs := []) (st := []) (by decide +kernel) xm_Reader_readTerm kw_543 kw_545 kw_14 (by decide) rfl rfl rfl rfl (Nat.le_of_ble_eq_true rfl) (Nat.le_of_ble_eq_true rfl) h (fun vH15 H15 hq => ?_)
          obtain ⟨r16, rfl, h⟩ := hq
          refine g_if_ne (off := 5) (tgt := 73) (by decide +kernel) (by decide) (fun c => ?_) (fun c => ?_)
          · replace h := h.1 c
            refine g_aload_n (q := 0) (i := 0) (by decide +kernel) rfl rfl ?_
            refine g_get (C := "ThreePoints$Reader") (T := xT_Reader) (N := 5) (ci := 4) (k := 1) (v := vr 11 6) (by decide +kernel) (by decide) rfl rfl xi_Reader (by decide) kw_229 rfl ?_
            refine g_iload_n (q := 2) (i := 2) (by decide +kernel) rfl rfl ?_
            refine g_callV (kd := 11) (ix := 6) (ci := 6) (N := 4) (T := xT_Text) (vs := [vi v13]) (st := []) (by decide +kernel) xm_Text_put kw_555 kw_556 kw_557 (by decide) rfl rfl rfl rfl (Nat.le_of_ble_eq_true rfl) (Nat.le_of_ble_eq_true rfl) h (fun vH17 H17 hq => ?_)
            replace h := hq
            refine g_iinc (i := 1) (n := (-1)) (v := (z4 + (-1))) (ls2 := [some (vr 5 0), some (vi (z4 + (-1))), some (vi v13)]) (by decide +kernel) rfl rfl (by decide) rfl rfl ?_
            refine g_goto (off := (-71)) (tgt := 13) (by decide +kernel) (by decide) ?_
            obtain ⟨hI, hlt⟩ := h
            exact g_drop (ls2 := [some (vr 5 0), some (vi (z4 + (-1))), none]) (And.intro rfl (And.intro rfl trivial)) (ih3 (z4 + (-1)) H17 hI hlt)
          · replace h := h.2 c
            refine g_iconst (n := 0) (v := 0) (by decide +kernel) (by decide) ?_
            exact g_zret (by decide +kernel) rfl rfl ⟨_, rfl, h⟩
  · replace h := h.2 c
    refine g_iconst (n := 0) (v := 0) (by decide +kernel) (by decide) ?_
    exact g_zret (by decide +kernel) rfl rfl ⟨_, rfl, h⟩
def p_Reader_readComparison (E : XE) (d : Nat)  (H : HH) (Q : Int32 → HH → Prop) : Prop := c_Reader_readSum E d  H (fun r2 H1 => (¬ r2 = 0 → (((H1 5 0 3) = 60 → (∀ v4 : Int32, v4 = (if (H1 5 0 3) = 60 then 20003 else 20004 : Int32) → (c_Reader_goTo E d ((H1 5 0 2) + 1) H1 (fun H5 => c_Reader_readSum E d  H5 (fun r7 H6 => (¬ r7 = 0 → (c_Text_put E d 6 v4 H6 (fun H8 => Q 1 H8))) ∧ (r7 = 0 → (Q 0 H6))))))) ∧ (¬ (H1 5 0 3) = 60 → (((H1 5 0 3) = 61 → (∀ v10 : Int32, v10 = (if (H1 5 0 3) = 60 then 20003 else 20004 : Int32) → (c_Reader_goTo E d ((H1 5 0 2) + 1) H1 (fun H11 => c_Reader_readSum E d  H11 (fun r13 H12 => (¬ r13 = 0 → (c_Text_put E d 6 v10 H12 (fun H14 => Q 1 H14))) ∧ (r13 = 0 → (Q 0 H12))))))) ∧ (¬ (H1 5 0 3) = 61 → (Q 1 H1)))))) ∧ (r2 = 0 → (Q 0 H1)))
set_option maxHeartbeats 4000000 in
theorem l_Reader_readComparison {E : XE} {d : Nat}  {H : HH} {Q : Int32 → HH → Prop} (h : p_Reader_readComparison E d  H Q) : c_Reader_readComparison E (d + 1)  H Q := by
  show g_Reader_readComparison E (d + 1) 0 (xent [vr 5 0]) [] H (qi Q)
  refine g_drop (ls2 := [some (vr 5 0), none]) (And.intro rfl trivial) ?_
  refine g_aload_n (q := 0) (i := 0) (by decide +kernel) rfl rfl ?_
  refine g_callV (kd := 5) (ix := 0) (ci := 4) (N := 5) (T := xT_Reader) (vs := []) (st := []) (by decide +kernel) xm_Reader_readSum kw_539 kw_541 kw_13 (by decide) rfl rfl rfl rfl (Nat.le_of_ble_eq_true rfl) (Nat.le_of_ble_eq_true rfl) h (fun vH1 H1 hq => ?_)
  obtain ⟨r2, rfl, h⟩ := hq
  refine g_if_ne (off := 5) (tgt := 9) (by decide +kernel) (by decide) (fun c => ?_) (fun c => ?_)
  · replace h := h.1 c
    refine g_aload_n (q := 0) (i := 0) (by decide +kernel) rfl rfl ?_
    refine g_get (C := "ThreePoints$Reader") (T := xT_Reader) (N := 5) (ci := 4) (k := 3) (v := vi (H1 5 0 3)) (by decide +kernel) (by decide) rfl rfl xi_Reader (by decide) kw_232 rfl ?_
    refine g_bipush (n := 60) (v := 60) (by decide +kernel) (by decide) ?_
    refine g_icmp_eq (off := 14) (tgt := 29) (by decide +kernel) (by decide) (fun c => ?_) (fun c => ?_)
    · replace h := h.1 c
      refine g_aload_n (q := 0) (i := 0) (by decide +kernel) rfl rfl ?_
      refine g_get (C := "ThreePoints$Reader") (T := xT_Reader) (N := 5) (ci := 4) (k := 3) (v := vi (H1 5 0 3)) (by decide +kernel) (by decide) rfl rfl xi_Reader (by decide) kw_232 rfl ?_
      refine g_bipush (n := 60) (v := 60) (by decide +kernel) (by decide) ?_
      suffices hj3 : g_Reader_readComparison E (d + 1) 47 [some (vr 5 0), none] [vi (if (H1 5 0 3) = 60 then 20003 else 20004 : Int32)] H1 (qi Q) by
        refine g_icmp_ne (off := 9) (tgt := 44) (by decide +kernel) (by decide) (fun c => ?_) (fun c => ?_)
        · rw [if_neg c] at hj3
          refine g_sipush (n := 20004) (v := 20004) (by decide +kernel) (by decide) ?_
          exact hj3
        · rw [if_pos c] at hj3
          refine g_sipush (n := 20003) (v := 20003) (by decide +kernel) (by decide) ?_
          refine g_goto (off := 6) (tgt := 47) (by decide +kernel) (by decide) ?_
          exact hj3
      refine g_topi (fun v4 ev4 => ?_)
      replace h := h v4 ev4
      refine g_istore_n (q := 1) (i := 1) (ls2 := [some (vr 5 0), some (vi v4)]) (by decide +kernel) rfl (by decide) rfl rfl ?_
      refine g_aload_n (q := 0) (i := 0) (by decide +kernel) rfl rfl ?_
      refine g_aload_n (q := 0) (i := 0) (by decide +kernel) rfl rfl ?_
      refine g_get (C := "ThreePoints$Reader") (T := xT_Reader) (N := 5) (ci := 4) (k := 2) (v := vi (H1 5 0 2)) (by decide +kernel) (by decide) rfl rfl xi_Reader (by decide) kw_231 rfl ?_
      refine g_iconst (n := 1) (v := 1) (by decide +kernel) (by decide) ?_
      refine g_iadd (by decide +kernel) ?_
      refine g_callV (kd := 5) (ix := 0) (ci := 4) (N := 5) (T := xT_Reader) (vs := [vi ((H1 5 0 2) + 1)]) (st := []) (by decide +kernel) xm_Reader_goTo kw_511 kw_513 kw_7 (by decide) rfl rfl rfl rfl (Nat.le_of_ble_eq_true rfl) (Nat.le_of_ble_eq_true rfl) h (fun vH5 H5 hq => ?_)
      replace h := hq
      refine g_aload_n (q := 0) (i := 0) (by decide +kernel) rfl rfl ?_
      refine g_callV (kd := 5) (ix := 0) (ci := 4) (N := 5) (T := xT_Reader) (vs := []) (st := []) (by decide +kernel) xm_Reader_readSum kw_539 kw_541 kw_13 (by decide) rfl rfl rfl rfl (Nat.le_of_ble_eq_true rfl) (Nat.le_of_ble_eq_true rfl) h (fun vH6 H6 hq => ?_)
      obtain ⟨r7, rfl, h⟩ := hq
      refine g_if_ne (off := 5) (tgt := 67) (by decide +kernel) (by decide) (fun c => ?_) (fun c => ?_)
      · replace h := h.1 c
        refine g_aload_n (q := 0) (i := 0) (by decide +kernel) rfl rfl ?_
        refine g_get (C := "ThreePoints$Reader") (T := xT_Reader) (N := 5) (ci := 4) (k := 1) (v := vr 11 6) (by decide +kernel) (by decide) rfl rfl xi_Reader (by decide) kw_229 rfl ?_
        refine g_iload_n (q := 1) (i := 1) (by decide +kernel) rfl rfl ?_
        refine g_callV (kd := 11) (ix := 6) (ci := 6) (N := 4) (T := xT_Text) (vs := [vi v4]) (st := []) (by decide +kernel) xm_Text_put kw_555 kw_556 kw_557 (by decide) rfl rfl rfl rfl (Nat.le_of_ble_eq_true rfl) (Nat.le_of_ble_eq_true rfl) h (fun vH8 H8 hq => ?_)
        replace h := hq
        refine g_iconst (n := 1) (v := 1) (by decide +kernel) (by decide) ?_
        exact g_zret (by decide +kernel) rfl rfl ⟨_, rfl, h⟩
      · replace h := h.2 c
        refine g_iconst (n := 0) (v := 0) (by decide +kernel) (by decide) ?_
        exact g_zret (by decide +kernel) rfl rfl ⟨_, rfl, h⟩
    · replace h := h.2 c
      refine g_aload_n (q := 0) (i := 0) (by decide +kernel) rfl rfl ?_
      refine g_get (C := "ThreePoints$Reader") (T := xT_Reader) (N := 5) (ci := 4) (k := 3) (v := vi (H1 5 0 3)) (by decide +kernel) (by decide) rfl rfl xi_Reader (by decide) kw_232 rfl ?_
      refine g_bipush (n := 61) (v := 61) (by decide +kernel) (by decide) ?_
      refine g_icmp_eq (off := 5) (tgt := 29) (by decide +kernel) (by decide) (fun c => ?_) (fun c => ?_)
      · replace h := h.1 c
        refine g_aload_n (q := 0) (i := 0) (by decide +kernel) rfl rfl ?_
        refine g_get (C := "ThreePoints$Reader") (T := xT_Reader) (N := 5) (ci := 4) (k := 3) (v := vi (H1 5 0 3)) (by decide +kernel) (by decide) rfl rfl xi_Reader (by decide) kw_232 rfl ?_
        refine g_bipush (n := 60) (v := 60) (by decide +kernel) (by decide) ?_
        suffices hj9 : g_Reader_readComparison E (d + 1) 47 [some (vr 5 0), none] [vi (if (H1 5 0 3) = 60 then 20003 else 20004 : Int32)] H1 (qi Q) by
          refine g_icmp_ne (off := 9) (tgt := 44) (by decide +kernel) (by decide) (fun c => ?_) (fun c => ?_)
          · rw [if_neg c] at hj9
            refine g_sipush (n := 20004) (v := 20004) (by decide +kernel) (by decide) ?_
            exact hj9
          · rw [if_pos c] at hj9
            refine g_sipush (n := 20003) (v := 20003) (by decide +kernel) (by decide) ?_
            refine g_goto (off := 6) (tgt := 47) (by decide +kernel) (by decide) ?_
            exact hj9
        refine g_topi (fun v10 ev10 => ?_)
        replace h := h v10 ev10
        refine g_istore_n (q := 1) (i := 1) (ls2 := [some (vr 5 0), some (vi v10)]) (by decide +kernel) rfl (by decide) rfl rfl ?_
        refine g_aload_n (q := 0) (i := 0) (by decide +kernel) rfl rfl ?_
        refine g_aload_n (q := 0) (i := 0) (by decide +kernel) rfl rfl ?_
        refine g_get (C := "ThreePoints$Reader") (T := xT_Reader) (N := 5) (ci := 4) (k := 2) (v := vi (H1 5 0 2)) (by decide +kernel) (by decide) rfl rfl xi_Reader (by decide) kw_231 rfl ?_
        refine g_iconst (n := 1) (v := 1) (by decide +kernel) (by decide) ?_
        refine g_iadd (by decide +kernel) ?_
        refine g_callV (kd := 5) (ix := 0) (ci := 4) (N := 5) (T := xT_Reader) (vs := [vi ((H1 5 0 2) + 1)]) (st := []) (by decide +kernel) xm_Reader_goTo kw_511 kw_513 kw_7 (by decide) rfl rfl rfl rfl (Nat.le_of_ble_eq_true rfl) (Nat.le_of_ble_eq_true rfl) h (fun vH11 H11 hq => ?_)
        replace h := hq
        refine g_aload_n (q := 0) (i := 0) (by decide +kernel) rfl rfl ?_
        refine g_callV (kd := 5) (ix := 0) (ci := 4) (N := 5) (T := xT_Reader) (vs := []) (st := []) (by decide +kernel) xm_Reader_readSum kw_539 kw_541 kw_13 (by decide) rfl rfl rfl rfl (Nat.le_of_ble_eq_true rfl) (Nat.le_of_ble_eq_true rfl) h (fun vH12 H12 hq => ?_)
        obtain ⟨r13, rfl, h⟩ := hq
        refine g_if_ne (off := 5) (tgt := 67) (by decide +kernel) (by decide) (fun c => ?_) (fun c => ?_)
        · replace h := h.1 c
          refine g_aload_n (q := 0) (i := 0) (by decide +kernel) rfl rfl ?_
          refine g_get (C := "ThreePoints$Reader") (T := xT_Reader) (N := 5) (ci := 4) (k := 1) (v := vr 11 6) (by decide +kernel) (by decide) rfl rfl xi_Reader (by decide) kw_229 rfl ?_
          refine g_iload_n (q := 1) (i := 1) (by decide +kernel) rfl rfl ?_
          refine g_callV (kd := 11) (ix := 6) (ci := 6) (N := 4) (T := xT_Text) (vs := [vi v10]) (st := []) (by decide +kernel) xm_Text_put kw_555 kw_556 kw_557 (by decide) rfl rfl rfl rfl (Nat.le_of_ble_eq_true rfl) (Nat.le_of_ble_eq_true rfl) h (fun vH14 H14 hq => ?_)
          replace h := hq
          refine g_iconst (n := 1) (v := 1) (by decide +kernel) (by decide) ?_
          exact g_zret (by decide +kernel) rfl rfl ⟨_, rfl, h⟩
        · replace h := h.2 c
          refine g_iconst (n := 0) (v := 0) (by decide +kernel) (by decide) ?_
          exact g_zret (by decide +kernel) rfl rfl ⟨_, rfl, h⟩
      · replace h := h.2 c
        refine g_iconst (n := 1) (v := 1) (by decide +kernel) (by decide) ?_
        exact g_zret (by decide +kernel) rfl rfl ⟨_, rfl, h⟩
  · replace h := h.2 c
    refine g_iconst (n := 0) (v := 0) (by decide +kernel) (by decide) ?_
    exact g_zret (by decide +kernel) rfl rfl ⟨_, rfl, h⟩
def p_Reader_readNot (E : XE) (d : Nat)  (H : HH) (Q : Int32 → HH → Prop) : Prop := ((H 5 0 3) = 261 → (c_Reader_mayOpen E d  H (fun r2 H1 => (r2 = 0 → (Q 0 H1)) ∧ (¬ r2 = 0 → (c_Reader_readNot E d  H1 (fun r4 H3 => (¬ r4 = 0 → (∀ H5 : HH, H5 = (hu H3 5 0 4 ((H3 5 0 4) - 1)) → (c_Text_put E d 6 20002 H5 (fun H6 => Q 1 H6)))) ∧ (r4 = 0 → (Q 0 H3)))))))) ∧ (¬ (H 5 0 3) = 261 → (c_Reader_readComparison E d  H (fun r8 H7 => (r8 = 0 ∨ r8 = 1) ∧ Q r8 H7)))
set_option maxHeartbeats 4000000 in
theorem l_Reader_readNot {E : XE} {d : Nat}  {H : HH} {Q : Int32 → HH → Prop} (h : p_Reader_readNot E d  H Q) : c_Reader_readNot E (d + 1)  H Q := by
  show g_Reader_readNot E (d + 1) 0 (xent [vr 5 0]) [] H (qi Q)
  refine g_drop (ls2 := [some (vr 5 0)]) (And.intro rfl trivial) ?_
  refine g_aload_n (q := 0) (i := 0) (by decide +kernel) rfl rfl ?_
  refine g_get (C := "ThreePoints$Reader") (T := xT_Reader) (N := 5) (ci := 4) (k := 3) (v := vi (H 5 0 3)) (by decide +kernel) (by decide) rfl rfl xi_Reader (by decide) kw_232 rfl ?_
  refine g_sipush (n := 261) (v := 261) (by decide +kernel) (by decide) ?_
  refine g_icmp_eq (off := 8) (tgt := 15) (by decide +kernel) (by decide) (fun c => ?_) (fun c => ?_)
  · replace h := h.1 c
    refine g_aload_n (q := 0) (i := 0) (by decide +kernel) rfl rfl ?_
    refine g_callV (kd := 5) (ix := 0) (ci := 4) (N := 5) (T := xT_Reader) (vs := []) (st := []) (by decide +kernel) xm_Reader_mayOpen kw_559 kw_561 kw_16 (by decide) rfl rfl rfl rfl (Nat.le_of_ble_eq_true rfl) (Nat.le_of_ble_eq_true rfl) h (fun vH1 H1 hq => ?_)
    obtain ⟨r2, rfl, h⟩ := hq
    refine g_if_eq (off := 10) (tgt := 29) (by decide +kernel) (by decide) (fun c => ?_) (fun c => ?_)
    · replace h := h.1 c
      refine g_iconst (n := 0) (v := 0) (by decide +kernel) (by decide) ?_
      exact g_zret (by decide +kernel) rfl rfl ⟨_, rfl, h⟩
    · replace h := h.2 c
      refine g_aload_n (q := 0) (i := 0) (by decide +kernel) rfl rfl ?_
      refine g_callV (kd := 5) (ix := 0) (ci := 4) (N := 5) (T := xT_Reader) (vs := []) (st := []) (by decide +kernel) xm_Reader_readNot kw_531 kw_533 kw_11 (by decide) rfl rfl rfl rfl (Nat.le_of_ble_eq_true rfl) (Nat.le_of_ble_eq_true rfl) h (fun vH3 H3 hq => ?_)
      obtain ⟨r4, rfl, h⟩ := hq
      refine g_if_ne (off := 5) (tgt := 31) (by decide +kernel) (by decide) (fun c => ?_) (fun c => ?_)
      · replace h := h.1 c
        refine g_aload_n (q := 0) (i := 0) (by decide +kernel) rfl rfl ?_
        refine g_dup (by decide +kernel) rfl ?_
        refine g_get (C := "ThreePoints$Reader") (T := xT_Reader) (N := 5) (ci := 4) (k := 4) (v := vi (H3 5 0 4)) (by decide +kernel) (by decide) rfl rfl xi_Reader (by decide) kw_233 rfl ?_
        refine g_iconst (n := 1) (v := 1) (by decide +kernel) (by decide) ?_
        refine g_isub (by decide +kernel) ?_
        refine g_put (C := "ThreePoints$Reader") (T := xT_Reader) (N := 5) (ci := 4) (k := 4) xy_Reader (by decide +kernel) (by decide) rfl rfl xi_Reader xy_Reader_ok xn_Reader (by decide) kw_233 rfl (by decide +kernel) (fun _ => rfl) ?_
        refine g_aload_n (q := 0) (i := 0) (by decide +kernel) rfl rfl ?_
        refine g_get (C := "ThreePoints$Reader") (T := xT_Reader) (N := 5) (ci := 4) (k := 1) (v := vr 11 6) (by decide +kernel) (by decide) rfl rfl xi_Reader (by decide) kw_229 rfl ?_
        refine g_sipush (n := 20002) (v := 20002) (by decide +kernel) (by decide) ?_
        refine g_heap (fun H5 eH5 => ?_)
        replace h := h H5 eH5
        refine g_callV (kd := 11) (ix := 6) (ci := 6) (N := 4) (T := xT_Text) (vs := [vi 20002]) (st := []) (by decide +kernel) xm_Text_put kw_555 kw_556 kw_557 (by decide) rfl rfl rfl rfl (Nat.le_of_ble_eq_true rfl) (Nat.le_of_ble_eq_true rfl) h (fun vH6 H6 hq => ?_)
        replace h := hq
        refine g_iconst (n := 1) (v := 1) (by decide +kernel) (by decide) ?_
        exact g_zret (by decide +kernel) rfl rfl ⟨_, rfl, h⟩
      · replace h := h.2 c
        refine g_iconst (n := 0) (v := 0) (by decide +kernel) (by decide) ?_
        exact g_zret (by decide +kernel) rfl rfl ⟨_, rfl, h⟩
  · replace h := h.2 c
    refine g_aload_n (q := 0) (i := 0) (by decide +kernel) rfl rfl ?_
    refine g_callV (kd := 5) (ix := 0) (ci := 4) (N := 5) (T := xT_Reader) (vs := []) (st := []) (by decide +kernel) xm_Reader_readComparison kw_535 kw_537 kw_12 (by decide) rfl rfl rfl rfl (Nat.le_of_ble_eq_true rfl) (Nat.le_of_ble_eq_true rfl) h (fun vH7 H7 hq => ?_)
    obtain ⟨r8, rfl, h⟩ := hq
    obtain ⟨h01, h⟩ := h
    exact g_zret (by decide +kernel) rfl (nbool h01) ⟨_, rfl, h⟩
def p_Reader_readAnd (E : XE) (d : Nat)  (H : HH) (Q : Int32 → HH → Prop) : Prop := c_Reader_readNot E d  H (fun r2 H1 => (¬ r2 = 0 → (∃ (I3 : Int32 → HH → Prop) (μ3 : Int32 → HH → Nat), I3 160 H1 ∧ ∀ (z4 : Int32) (H5 : HH), I3 z4 H5 → ((z4 ≤ 0 → (Q 1 H5)) ∧ (¬ z4 ≤ 0 → ((¬ (H5 5 0 3) = 260 → (Q 1 H5)) ∧ ((H5 5 0 3) = 260 → (c_Reader_goTo E d ((H5 5 0 2) + 1) H5 (fun H6 => c_Reader_readNot E d  H6 (fun r8 H7 => (¬ r8 = 0 → (c_Text_put E d 6 20001 H7 (fun H9 => I3 (z4 + (-1)) H9 ∧ μ3 (z4 + (-1)) H9 < μ3 z4 H5))) ∧ (r8 = 0 → (Q 0 H7))))))))))) ∧ (r2 = 0 → (Q 0 H1)))
set_option maxHeartbeats 4000000 in
theorem l_Reader_readAnd {E : XE} {d : Nat}  {H : HH} {Q : Int32 → HH → Prop} (h : p_Reader_readAnd E d  H Q) : c_Reader_readAnd E (d + 1)  H Q := by
  show g_Reader_readAnd E (d + 1) 0 (xent [vr 5 0]) [] H (qi Q)
  refine g_drop (ls2 := [some (vr 5 0), none]) (And.intro rfl trivial) ?_
  refine g_aload_n (q := 0) (i := 0) (by decide +kernel) rfl rfl ?_
  refine g_callV (kd := 5) (ix := 0) (ci := 4) (N := 5) (T := xT_Reader) (vs := []) (st := []) (by decide +kernel) xm_Reader_readNot kw_531 kw_533 kw_11 (by decide) rfl rfl rfl rfl (Nat.le_of_ble_eq_true rfl) (Nat.le_of_ble_eq_true rfl) h (fun vH1 H1 hq => ?_)
  obtain ⟨r2, rfl, h⟩ := hq
  refine g_if_ne (off := 5) (tgt := 9) (by decide +kernel) (by decide) (fun c => ?_) (fun c => ?_)
  · replace h := h.1 c
    refine g_sipush (n := 160) (v := 160) (by decide +kernel) (by decide) ?_
    refine g_istore_n (q := 1) (i := 1) (ls2 := [some (vr 5 0), some (vi 160)]) (by decide +kernel) rfl (by decide) rfl rfl ?_
    refine g_drop (ls2 := [some (vr 5 0), some (vi 160)]) (And.intro rfl (And.intro rfl trivial)) ?_
    obtain ⟨I3, μ3, h0, h⟩ := h
    refine xloop (σ := Int32) (fun s H => I3 s H) (fun s H => μ3 s H) (fun s H => g_Reader_readAnd E (d + 1) 13 [some (vr 5 0), some (vi s)] [] H (qi Q)) (fun s H5 hI ih3 => ?_) 160 H1 h0
    obtain ⟨z4, es⟩ : ∃ z, z = s := ⟨s, rfl⟩
    subst es
    replace h := h z4 H5 hI
    refine g_iload_n (q := 1) (i := 1) (by decide +kernel) rfl rfl ?_
    refine g_if_le (off := 48) (tgt := 62) (by decide +kernel) (by decide) (fun c => ?_) (fun c => ?_)
    · replace h := h.1 c
      refine g_iconst (n := 1) (v := 1) (by decide +kernel) (by decide) ?_
      exact g_zret (by decide +kernel) rfl rfl ⟨_, rfl, h⟩
    · replace h := h.2 c
      refine g_aload_n (q := 0) (i := 0) (by decide +kernel) rfl rfl ?_
      refine g_get (C := "ThreePoints$Reader") (T := xT_Reader) (N := 5) (ci := 4) (k := 3) (v := vi (H5 5 0 3)) (by decide +kernel) (by decide) rfl rfl xi_Reader (by decide) kw_232 rfl ?_
      refine g_sipush (n := 260) (v := 260) (by decide +kernel) (by decide) ?_
      refine g_icmp_ne (off := 38) (tgt := 62) (by decide +kernel) (by decide) (fun c => ?_) (fun c => ?_)
      · replace h := h.1 c
        refine g_iconst (n := 1) (v := 1) (by decide +kernel) (by decide) ?_
        exact g_zret (by decide +kernel) rfl rfl ⟨_, rfl, h⟩
      · replace h := h.2 c
        refine g_aload_n (q := 0) (i := 0) (by decide +kernel) rfl rfl ?_
        refine g_aload_n (q := 0) (i := 0) (by decide +kernel) rfl rfl ?_
        refine g_get (C := "ThreePoints$Reader") (T := xT_Reader) (N := 5) (ci := 4) (k := 2) (v := vi (H5 5 0 2)) (by decide +kernel) (by decide) rfl rfl xi_Reader (by decide) kw_231 rfl ?_
        refine g_iconst (n := 1) (v := 1) (by decide +kernel) (by decide) ?_
        refine g_iadd (by decide +kernel) ?_
        refine g_callV (kd := 5) (ix := 0) (ci := 4) (N := 5) (T := xT_Reader) (vs := [vi ((H5 5 0 2) + 1)]) (st := []) (by decide +kernel) xm_Reader_goTo kw_511 kw_513 kw_7 (by decide) rfl rfl rfl rfl (Nat.le_of_ble_eq_true rfl) (Nat.le_of_ble_eq_true rfl) h (fun vH6 H6 hq => ?_)
        replace h := hq
        refine g_aload_n (q := 0) (i := 0) (by decide +kernel) rfl rfl ?_
        refine g_callV (kd := 5) (ix := 0) (ci := 4) (N := 5) (T := xT_Reader) (vs := []) (st := []) (by decide +kernel) xm_Reader_readNot kw_531 kw_533 kw_11 (by decide) rfl rfl rfl rfl (Nat.le_of_ble_eq_true rfl) (Nat.le_of_ble_eq_true rfl) h (fun vH7 H7 hq => ?_)
        obtain ⟨r8, rfl, h⟩ := hq
        refine g_if_ne (off := 5) (tgt := 46) (by decide +kernel) (by decide) (fun c => ?_) (fun c => ?_)
        · replace h := h.1 c
          refine g_aload_n (q := 0) (i := 0) (by decide +kernel) rfl rfl ?_
          refine g_get (C := "ThreePoints$Reader") (T := xT_Reader) (N := 5) (ci := 4) (k := 1) (v := vr 11 6) (by decide +kernel) (by decide) rfl rfl xi_Reader (by decide) kw_229 rfl ?_
          refine g_sipush (n := 20001) (v := 20001) (by decide +kernel) (by decide) ?_
          refine g_callV (kd := 11) (ix := 6) (ci := 6) (N := 4) (T := xT_Text) (vs := [vi 20001]) (st := []) (by decide +kernel) xm_Text_put kw_555 kw_556 kw_557 (by decide) rfl rfl rfl rfl (Nat.le_of_ble_eq_true rfl) (Nat.le_of_ble_eq_true rfl) h (fun vH9 H9 hq => ?_)
          replace h := hq
          refine g_iinc (i := 1) (n := (-1)) (v := (z4 + (-1))) (ls2 := [some (vr 5 0), some (vi (z4 + (-1)))]) (by decide +kernel) rfl rfl (by decide) rfl rfl ?_
          refine g_goto (off := (-46)) (tgt := 13) (by decide +kernel) (by decide) ?_
          obtain ⟨hI, hlt⟩ := h
          exact g_drop (ls2 := [some (vr 5 0), some (vi (z4 + (-1)))]) (And.intro rfl (And.intro rfl trivial)) (ih3 (z4 + (-1)) H9 hI hlt)
        · replace h := h.2 c
          refine g_iconst (n := 0) (v := 0) (by decide +kernel) (by decide) ?_
          exact g_zret (by decide +kernel) rfl rfl ⟨_, rfl, h⟩
  · replace h := h.2 c
    refine g_iconst (n := 0) (v := 0) (by decide +kernel) (by decide) ?_
    exact g_zret (by decide +kernel) rfl rfl ⟨_, rfl, h⟩
def p_Reader_readOr (E : XE) (d : Nat)  (H : HH) (Q : Int32 → HH → Prop) : Prop := c_Reader_readAnd E d  H (fun r2 H1 => (¬ r2 = 0 → (∃ (I3 : Int32 → HH → Prop) (μ3 : Int32 → HH → Nat), I3 160 H1 ∧ ∀ (z4 : Int32) (H5 : HH), I3 z4 H5 → ((z4 ≤ 0 → (Q 1 H5)) ∧ (¬ z4 ≤ 0 → ((¬ (H5 5 0 3) = 259 → (Q 1 H5)) ∧ ((H5 5 0 3) = 259 → (c_Reader_goTo E d ((H5 5 0 2) + 1) H5 (fun H6 => c_Reader_readAnd E d  H6 (fun r8 H7 => (¬ r8 = 0 → (c_Text_put E d 6 20000 H7 (fun H9 => I3 (z4 + (-1)) H9 ∧ μ3 (z4 + (-1)) H9 < μ3 z4 H5))) ∧ (r8 = 0 → (Q 0 H7))))))))))) ∧ (r2 = 0 → (Q 0 H1)))
set_option maxHeartbeats 4000000 in
theorem l_Reader_readOr {E : XE} {d : Nat}  {H : HH} {Q : Int32 → HH → Prop} (h : p_Reader_readOr E d  H Q) : c_Reader_readOr E (d + 1)  H Q := by
  show g_Reader_readOr E (d + 1) 0 (xent [vr 5 0]) [] H (qi Q)
  refine g_drop (ls2 := [some (vr 5 0), none]) (And.intro rfl trivial) ?_
  refine g_aload_n (q := 0) (i := 0) (by decide +kernel) rfl rfl ?_
  refine g_callV (kd := 5) (ix := 0) (ci := 4) (N := 5) (T := xT_Reader) (vs := []) (st := []) (by decide +kernel) xm_Reader_readAnd kw_527 kw_529 kw_10 (by decide) rfl rfl rfl rfl (Nat.le_of_ble_eq_true rfl) (Nat.le_of_ble_eq_true rfl) h (fun vH1 H1 hq => ?_)
  obtain ⟨r2, rfl, h⟩ := hq
  refine g_if_ne (off := 5) (tgt := 9) (by decide +kernel) (by decide) (fun c => ?_) (fun c => ?_)
  · replace h := h.1 c
    refine g_sipush (n := 160) (v := 160) (by decide +kernel) (by decide) ?_
    refine g_istore_n (q := 1) (i := 1) (ls2 := [some (vr 5 0), some (vi 160)]) (by decide +kernel) rfl (by decide) rfl rfl ?_
    refine g_drop (ls2 := [some (vr 5 0), some (vi 160)]) (And.intro rfl (And.intro rfl trivial)) ?_
    obtain ⟨I3, μ3, h0, h⟩ := h
    refine xloop (σ := Int32) (fun s H => I3 s H) (fun s H => μ3 s H) (fun s H => g_Reader_readOr E (d + 1) 13 [some (vr 5 0), some (vi s)] [] H (qi Q)) (fun s H5 hI ih3 => ?_) 160 H1 h0
    obtain ⟨z4, es⟩ : ∃ z, z = s := ⟨s, rfl⟩
    subst es
    replace h := h z4 H5 hI
    refine g_iload_n (q := 1) (i := 1) (by decide +kernel) rfl rfl ?_
    refine g_if_le (off := 48) (tgt := 62) (by decide +kernel) (by decide) (fun c => ?_) (fun c => ?_)
    · replace h := h.1 c
      refine g_iconst (n := 1) (v := 1) (by decide +kernel) (by decide) ?_
      exact g_zret (by decide +kernel) rfl rfl ⟨_, rfl, h⟩
    · replace h := h.2 c
      refine g_aload_n (q := 0) (i := 0) (by decide +kernel) rfl rfl ?_
      refine g_get (C := "ThreePoints$Reader") (T := xT_Reader) (N := 5) (ci := 4) (k := 3) (v := vi (H5 5 0 3)) (by decide +kernel) (by decide) rfl rfl xi_Reader (by decide) kw_232 rfl ?_
      refine g_sipush (n := 259) (v := 259) (by decide +kernel) (by decide) ?_
      refine g_icmp_ne (off := 38) (tgt := 62) (by decide +kernel) (by decide) (fun c => ?_) (fun c => ?_)
      · replace h := h.1 c
        refine g_iconst (n := 1) (v := 1) (by decide +kernel) (by decide) ?_
        exact g_zret (by decide +kernel) rfl rfl ⟨_, rfl, h⟩
      · replace h := h.2 c
        refine g_aload_n (q := 0) (i := 0) (by decide +kernel) rfl rfl ?_
        refine g_aload_n (q := 0) (i := 0) (by decide +kernel) rfl rfl ?_
        refine g_get (C := "ThreePoints$Reader") (T := xT_Reader) (N := 5) (ci := 4) (k := 2) (v := vi (H5 5 0 2)) (by decide +kernel) (by decide) rfl rfl xi_Reader (by decide) kw_231 rfl ?_
        refine g_iconst (n := 1) (v := 1) (by decide +kernel) (by decide) ?_
        refine g_iadd (by decide +kernel) ?_
        refine g_callV (kd := 5) (ix := 0) (ci := 4) (N := 5) (T := xT_Reader) (vs := [vi ((H5 5 0 2) + 1)]) (st := []) (by decide +kernel) xm_Reader_goTo kw_511 kw_513 kw_7 (by decide) rfl rfl rfl rfl (Nat.le_of_ble_eq_true rfl) (Nat.le_of_ble_eq_true rfl) h (fun vH6 H6 hq => ?_)
        replace h := hq
        refine g_aload_n (q := 0) (i := 0) (by decide +kernel) rfl rfl ?_
        refine g_callV (kd := 5) (ix := 0) (ci := 4) (N := 5) (T := xT_Reader) (vs := []) (st := []) (by decide +kernel) xm_Reader_readAnd kw_527 kw_529 kw_10 (by decide) rfl rfl rfl rfl (Nat.le_of_ble_eq_true rfl) (Nat.le_of_ble_eq_true rfl) h (fun vH7 H7 hq => ?_)
        obtain ⟨r8, rfl, h⟩ := hq
        refine g_if_ne (off := 5) (tgt := 46) (by decide +kernel) (by decide) (fun c => ?_) (fun c => ?_)
        · replace h := h.1 c
          refine g_aload_n (q := 0) (i := 0) (by decide +kernel) rfl rfl ?_
          refine g_get (C := "ThreePoints$Reader") (T := xT_Reader) (N := 5) (ci := 4) (k := 1) (v := vr 11 6) (by decide +kernel) (by decide) rfl rfl xi_Reader (by decide) kw_229 rfl ?_
          refine g_sipush (n := 20000) (v := 20000) (by decide +kernel) (by decide) ?_
          refine g_callV (kd := 11) (ix := 6) (ci := 6) (N := 4) (T := xT_Text) (vs := [vi 20000]) (st := []) (by decide +kernel) xm_Text_put kw_555 kw_556 kw_557 (by decide) rfl rfl rfl rfl (Nat.le_of_ble_eq_true rfl) (Nat.le_of_ble_eq_true rfl) h (fun vH9 H9 hq => ?_)
          replace h := hq
          refine g_iinc (i := 1) (n := (-1)) (v := (z4 + (-1))) (ls2 := [some (vr 5 0), some (vi (z4 + (-1)))]) (by decide +kernel) rfl rfl (by decide) rfl rfl ?_
          refine g_goto (off := (-46)) (tgt := 13) (by decide +kernel) (by decide) ?_
          obtain ⟨hI, hlt⟩ := h
          exact g_drop (ls2 := [some (vr 5 0), some (vi (z4 + (-1)))]) (And.intro rfl (And.intro rfl trivial)) (ih3 (z4 + (-1)) H9 hI hlt)
        · replace h := h.2 c
          refine g_iconst (n := 0) (v := 0) (by decide +kernel) (by decide) ?_
          exact g_zret (by decide +kernel) rfl rfl ⟨_, rfl, h⟩
  · replace h := h.2 c
    refine g_iconst (n := 0) (v := 0) (by decide +kernel) (by decide) ?_
    exact g_zret (by decide +kernel) rfl rfl ⟨_, rfl, h⟩
def p_Reader_readPart (E : XE) (d : Nat) (x1 : Int32) (x2 : Int32) (H : HH) (Q : Int32 → HH → Prop) : Prop := ((H 5 0 3) = x1 → (c_Reader_goTo E d ((H 5 0 2) + 1) H (fun H1 => c_Reader_readOr E d  H1 (fun r3 H2 => (¬ r3 = 0 → (c_Text_endPart E d 6 x2 H2 (fun H4 => ((H4 5 0 3) = 59 → (c_Reader_goTo E d ((H4 5 0 2) + 1) H4 (fun H5 => Q 1 H5))) ∧ (¬ (H4 5 0 3) = 59 → (Q 0 H4))))) ∧ (r3 = 0 → (Q 0 H2)))))) ∧ (¬ (H 5 0 3) = x1 → (Q 0 H))
set_option maxHeartbeats 4000000 in
theorem l_Reader_readPart {E : XE} {d : Nat} {x1 : Int32} {x2 : Int32} {H : HH} {Q : Int32 → HH → Prop} (h : p_Reader_readPart E d x1 x2 H Q) : c_Reader_readPart E (d + 1) x1 x2 H Q := by
  show g_Reader_readPart E (d + 1) 0 (xent [vr 5 0, vi x1, vi x2]) [] H (qi Q)
  refine g_drop (ls2 := [some (vr 5 0), some (vi x1), some (vi x2)]) (And.intro rfl (And.intro rfl (And.intro rfl trivial))) ?_
  refine g_aload_n (q := 0) (i := 0) (by decide +kernel) rfl rfl ?_
  refine g_get (C := "ThreePoints$Reader") (T := xT_Reader) (N := 5) (ci := 4) (k := 3) (v := vi (H 5 0 3)) (by decide +kernel) (by decide) rfl rfl xi_Reader (by decide) kw_232 rfl ?_
  refine g_iload_n (q := 1) (i := 1) (by decide +kernel) rfl rfl ?_
  refine g_icmp_eq (off := 5) (tgt := 10) (by decide +kernel) (by decide) (fun c => ?_) (fun c => ?_)
  · replace h := h.1 c
    refine g_aload_n (q := 0) (i := 0) (by decide +kernel) rfl rfl ?_
    refine g_aload_n (q := 0) (i := 0) (by decide +kernel) rfl rfl ?_
    refine g_get (C := "ThreePoints$Reader") (T := xT_Reader) (N := 5) (ci := 4) (k := 2) (v := vi (H 5 0 2)) (by decide +kernel) (by decide) rfl rfl xi_Reader (by decide) kw_231 rfl ?_
    refine g_iconst (n := 1) (v := 1) (by decide +kernel) (by decide) ?_
    refine g_iadd (by decide +kernel) ?_
    refine g_callV (kd := 5) (ix := 0) (ci := 4) (N := 5) (T := xT_Reader) (vs := [vi ((H 5 0 2) + 1)]) (st := []) (by decide +kernel) xm_Reader_goTo kw_511 kw_513 kw_7 (by decide) rfl rfl rfl rfl (Nat.le_of_ble_eq_true rfl) (Nat.le_of_ble_eq_true rfl) h (fun vH1 H1 hq => ?_)
    replace h := hq
    refine g_aload_n (q := 0) (i := 0) (by decide +kernel) rfl rfl ?_
    refine g_callV (kd := 5) (ix := 0) (ci := 4) (N := 5) (T := xT_Reader) (vs := []) (st := []) (by decide +kernel) xm_Reader_readOr kw_523 kw_525 kw_9 (by decide) rfl rfl rfl rfl (Nat.le_of_ble_eq_true rfl) (Nat.le_of_ble_eq_true rfl) h (fun vH2 H2 hq => ?_)
    obtain ⟨r3, rfl, h⟩ := hq
    refine g_if_ne (off := 5) (tgt := 29) (by decide +kernel) (by decide) (fun c => ?_) (fun c => ?_)
    · replace h := h.1 c
      refine g_aload_n (q := 0) (i := 0) (by decide +kernel) rfl rfl ?_
      refine g_get (C := "ThreePoints$Reader") (T := xT_Reader) (N := 5) (ci := 4) (k := 1) (v := vr 11 6) (by decide +kernel) (by decide) rfl rfl xi_Reader (by decide) kw_229 rfl ?_
      refine g_iload_n (q := 2) (i := 2) (by decide +kernel) rfl rfl ?_
      refine g_callV (kd := 11) (ix := 6) (ci := 6) (N := 4) (T := xT_Text) (vs := [vi x2]) (st := []) (by decide +kernel) xm_Text_endPart kw_563 kw_564 kw_565 (by decide) rfl rfl rfl rfl (Nat.le_of_ble_eq_true rfl) (Nat.le_of_ble_eq_true rfl) h (fun vH4 H4 hq => ?_)
      replace h := hq
      refine g_aload_n (q := 0) (i := 0) (by decide +kernel) rfl rfl ?_
      refine g_get (C := "ThreePoints$Reader") (T := xT_Reader) (N := 5) (ci := 4) (k := 3) (v := vi (H4 5 0 3)) (by decide +kernel) (by decide) rfl rfl xi_Reader (by decide) kw_232 rfl ?_
      refine g_bipush (n := 59) (v := 59) (by decide +kernel) (by decide) ?_
      refine g_icmp_eq (off := 5) (tgt := 48) (by decide +kernel) (by decide) (fun c => ?_) (fun c => ?_)
      · replace h := h.1 c
        refine g_aload_n (q := 0) (i := 0) (by decide +kernel) rfl rfl ?_
        refine g_aload_n (q := 0) (i := 0) (by decide +kernel) rfl rfl ?_
        refine g_get (C := "ThreePoints$Reader") (T := xT_Reader) (N := 5) (ci := 4) (k := 2) (v := vi (H4 5 0 2)) (by decide +kernel) (by decide) rfl rfl xi_Reader (by decide) kw_231 rfl ?_
        refine g_iconst (n := 1) (v := 1) (by decide +kernel) (by decide) ?_
        refine g_iadd (by decide +kernel) ?_
        refine g_callV (kd := 5) (ix := 0) (ci := 4) (N := 5) (T := xT_Reader) (vs := [vi ((H4 5 0 2) + 1)]) (st := []) (by decide +kernel) xm_Reader_goTo kw_511 kw_513 kw_7 (by decide) rfl rfl rfl rfl (Nat.le_of_ble_eq_true rfl) (Nat.le_of_ble_eq_true rfl) h (fun vH5 H5 hq => ?_)
        replace h := hq
        refine g_iconst (n := 1) (v := 1) (by decide +kernel) (by decide) ?_
        exact g_zret (by decide +kernel) rfl rfl ⟨_, rfl, h⟩
      · replace h := h.2 c
        refine g_iconst (n := 0) (v := 0) (by decide +kernel) (by decide) ?_
        exact g_zret (by decide +kernel) rfl rfl ⟨_, rfl, h⟩
    · replace h := h.2 c
      refine g_iconst (n := 0) (v := 0) (by decide +kernel) (by decide) ?_
      exact g_zret (by decide +kernel) rfl rfl ⟨_, rfl, h⟩
  · replace h := h.2 c
    refine g_iconst (n := 0) (v := 0) (by decide +kernel) (by decide) ?_
    exact g_zret (by decide +kernel) rfl rfl ⟨_, rfl, h⟩
def p_Tape_startOf (E : XE) (d : Nat) (x1 : Int32) (H : HH) (Q : Int32 → HH → Prop) : Prop := (x1 < 0 → (Q (H 6 0 1) H)) ∧ (¬ x1 < 0 → (((H 6 0 5) ≤ x1 → (Q (H 6 0 1) H)) ∧ (¬ (H 6 0 5) ≤ x1 → ((160 ≤ x1 → (Q (H 6 0 1) H)) ∧ (¬ 160 ≤ x1 → (vp_in x1 160 ∧ (Q (H 9 0 (x1.toNatClampNeg)) H)))))))
set_option maxHeartbeats 4000000 in
theorem l_Tape_startOf {E : XE} {d : Nat} {x1 : Int32} {H : HH} {Q : Int32 → HH → Prop} (h : p_Tape_startOf E d x1 H Q) : c_Tape_startOf E d x1 H Q := by
  show g_Tape_startOf E d 0 (xent [vr 6 0, vi x1]) [] H (qi Q)
  refine g_drop (ls2 := [some (vr 6 0), some (vi x1)]) (And.intro rfl (And.intro rfl trivial)) ?_
  refine g_iload_n (q := 1) (i := 1) (by decide +kernel) rfl rfl ?_
  refine g_if_lt (off := 27) (tgt := 28) (by decide +kernel) (by decide) (fun c => ?_) (fun c => ?_)
  · replace h := h.1 c
    refine g_aload_n (q := 0) (i := 0) (by decide +kernel) rfl rfl ?_
    refine g_get (C := "ThreePoints$Tape") (T := xT_Tape) (N := 6) (ci := 5) (k := 1) (v := vi (H 6 0 1)) (by decide +kernel) (by decide) rfl rfl xi_Tape (by decide) kw_188 rfl ?_
    exact g_iret (by decide +kernel) rfl ⟨_, rfl, h⟩
  · replace h := h.2 c
    refine g_iload_n (q := 1) (i := 1) (by decide +kernel) rfl rfl ?_
    refine g_aload_n (q := 0) (i := 0) (by decide +kernel) rfl rfl ?_
    refine g_get (C := "ThreePoints$Tape") (T := xT_Tape) (N := 6) (ci := 5) (k := 5) (v := vi (H 6 0 5)) (by decide +kernel) (by decide) rfl rfl xi_Tape (by decide) kw_193 rfl ?_
    refine g_icmp_ge (off := 19) (tgt := 28) (by decide +kernel) (by decide) (fun c => ?_) (fun c => ?_)
    · replace h := h.1 c
      refine g_aload_n (q := 0) (i := 0) (by decide +kernel) rfl rfl ?_
      refine g_get (C := "ThreePoints$Tape") (T := xT_Tape) (N := 6) (ci := 5) (k := 1) (v := vi (H 6 0 1)) (by decide +kernel) (by decide) rfl rfl xi_Tape (by decide) kw_188 rfl ?_
      exact g_iret (by decide +kernel) rfl ⟨_, rfl, h⟩
    · replace h := h.2 c
      refine g_iload_n (q := 1) (i := 1) (by decide +kernel) rfl rfl ?_
      refine g_sipush (n := 160) (v := 160) (by decide +kernel) (by decide) ?_
      refine g_icmp_ge (off := 12) (tgt := 28) (by decide +kernel) (by decide) (fun c => ?_) (fun c => ?_)
      · replace h := h.1 c
        refine g_aload_n (q := 0) (i := 0) (by decide +kernel) rfl rfl ?_
        refine g_get (C := "ThreePoints$Tape") (T := xT_Tape) (N := 6) (ci := 5) (k := 1) (v := vi (H 6 0 1)) (by decide +kernel) (by decide) rfl rfl xi_Tape (by decide) kw_188 rfl ?_
        exact g_iret (by decide +kernel) rfl ⟨_, rfl, h⟩
      · replace h := h.2 c
        refine g_aload_n (q := 0) (i := 0) (by decide +kernel) rfl rfl ?_
        refine g_get (C := "ThreePoints$Tape") (T := xT_Tape) (N := 6) (ci := 5) (k := 3) (v := vr 9 0) (by decide +kernel) (by decide) rfl rfl xi_Tape (by decide) kw_191 rfl ?_
        refine g_iload_n (q := 1) (i := 1) (by decide +kernel) rfl rfl ?_
        obtain ⟨hin, h⟩ := h
        refine g_iald (by decide +kernel) (by decide) rfl hin ?_
        refine g_goto (off := 7) (tgt := 32) (by decide +kernel) (by decide) ?_
        exact g_iret (by decide +kernel) rfl ⟨_, rfl, h⟩
def p_Reader_faultOfTape (E : XE) (d : Nat)  (H : HH) (Q : Int32 → HH → Prop) : Prop := c_Tape_split E d  H (fun H1 => c_Text_clear E d 6 H1 (fun H2 => ∀ H3 : HH, H3 = (hu H2 5 0 4 0) → (c_Reader_goTo E d 0 H3 (fun H4 => c_Reader_readPart E d 256 0 H4 (fun r6 H5 => (r6 = 0 → (c_Tape_startOf E d (H5 5 0 2) H5 (fun r8 H7 => Q r8 H7))) ∧ (¬ r6 = 0 → (c_Reader_readPart E d 257 1 H5 (fun r10 H9 => (r10 = 0 → (c_Tape_startOf E d (H9 5 0 2) H9 (fun r12 H11 => Q r12 H11))) ∧ (¬ r10 = 0 → (c_Reader_readPart E d 258 2 H9 (fun r14 H13 => ∀ v17 : Int32, v17 = (if r14 = 0 then 0 else (if (H13 5 0 3) = 264 then 1 else 0 : Int32) : Int32) → ((v17 = 0 → (c_Tape_startOf E d (H13 5 0 2) H13 (fun r19 H18 => Q r19 H18))) ∧ (¬ v17 = 0 → (Q (-1) H13))))))))))))))
set_option maxHeartbeats 4000000 in
theorem l_Reader_faultOfTape {E : XE} {d : Nat}  {H : HH} {Q : Int32 → HH → Prop} (h : p_Reader_faultOfTape E d  H Q) : c_Reader_faultOfTape E (d + 1)  H Q := by
  show g_Reader_faultOfTape E (d + 1) 0 (xent [vr 5 0]) [] H (qi Q)
  refine g_drop (ls2 := [some (vr 5 0), none]) (And.intro rfl trivial) ?_
  refine g_aload_n (q := 0) (i := 0) (by decide +kernel) rfl rfl ?_
  refine g_get (C := "ThreePoints$Reader") (T := xT_Reader) (N := 5) (ci := 4) (k := 0) (v := vr 6 0) (by decide +kernel) (by decide) rfl rfl xi_Reader (by decide) kw_227 rfl ?_
  refine g_callV (kd := 6) (ix := 0) (ci := 5) (N := 6) (T := xT_Tape) (vs := []) (st := []) (by decide +kernel) xm_Tape_split kw_390 kw_391 kw_392 (by decide) rfl rfl rfl rfl (Nat.le_of_ble_eq_true rfl) (Nat.le_of_ble_eq_true rfl) h (fun vH1 H1 hq => ?_)
  replace h := hq
  refine g_aload_n (q := 0) (i := 0) (by decide +kernel) rfl rfl ?_
  refine g_get (C := "ThreePoints$Reader") (T := xT_Reader) (N := 5) (ci := 4) (k := 1) (v := vr 11 6) (by decide +kernel) (by decide) rfl rfl xi_Reader (by decide) kw_229 rfl ?_
  refine g_callV (kd := 11) (ix := 6) (ci := 6) (N := 4) (T := xT_Text) (vs := []) (st := []) (by decide +kernel) xm_Text_clear kw_504 kw_505 kw_506 (by decide) rfl rfl rfl rfl (Nat.le_of_ble_eq_true rfl) (Nat.le_of_ble_eq_true rfl) h (fun vH2 H2 hq => ?_)
  replace h := hq
  refine g_aload_n (q := 0) (i := 0) (by decide +kernel) rfl rfl ?_
  refine g_iconst (n := 0) (v := 0) (by decide +kernel) (by decide) ?_
  refine g_put (C := "ThreePoints$Reader") (T := xT_Reader) (N := 5) (ci := 4) (k := 4) xy_Reader (by decide +kernel) (by decide) rfl rfl xi_Reader xy_Reader_ok xn_Reader (by decide) kw_233 rfl (by decide +kernel) (fun _ => rfl) ?_
  refine g_aload_n (q := 0) (i := 0) (by decide +kernel) rfl rfl ?_
  refine g_iconst (n := 0) (v := 0) (by decide +kernel) (by decide) ?_
  refine g_heap (fun H3 eH3 => ?_)
  replace h := h H3 eH3
  refine g_callV (kd := 5) (ix := 0) (ci := 4) (N := 5) (T := xT_Reader) (vs := [vi 0]) (st := []) (by decide +kernel) xm_Reader_goTo kw_511 kw_513 kw_7 (by decide) rfl rfl rfl rfl (Nat.le_of_ble_eq_true rfl) (Nat.le_of_ble_eq_true rfl) h (fun vH4 H4 hq => ?_)
  replace h := hq
  refine g_aload_n (q := 0) (i := 0) (by decide +kernel) rfl rfl ?_
  refine g_sipush (n := 256) (v := 256) (by decide +kernel) (by decide) ?_
  refine g_iconst (n := 0) (v := 0) (by decide +kernel) (by decide) ?_
  refine g_callV (kd := 5) (ix := 0) (ci := 4) (N := 5) (T := xT_Reader) (vs := [vi 256, vi 0]) (st := []) (by decide +kernel) xm_Reader_readPart kw_519 kw_521 kw_8 (by decide) rfl rfl rfl rfl (Nat.le_of_ble_eq_true rfl) (Nat.le_of_ble_eq_true rfl) h (fun vH5 H5 hq => ?_)
  obtain ⟨r6, rfl, h⟩ := hq
  refine g_if_eq (off := 39) (tgt := 71) (by decide +kernel) (by decide) (fun c => ?_) (fun c => ?_)
  · replace h := h.1 c
    refine g_iconst (n := 0) (v := 0) (by decide +kernel) (by decide) ?_
    refine g_istore_n (q := 1) (i := 1) (ls2 := [some (vr 5 0), some (vi 0)]) (by decide +kernel) rfl (by decide) rfl rfl ?_
    refine g_iload_n (q := 1) (i := 1) (by decide +kernel) rfl rfl ?_
    refine g_if_eq (off := 7) (tgt := 81) (by decide +kernel) (by decide) (fun c => ?_) (fun c => absurd c (by decide))
    refine g_aload_n (q := 0) (i := 0) (by decide +kernel) rfl rfl ?_
    refine g_get (C := "ThreePoints$Reader") (T := xT_Reader) (N := 5) (ci := 4) (k := 0) (v := vr 6 0) (by decide +kernel) (by decide) rfl rfl xi_Reader (by decide) kw_227 rfl ?_
    refine g_aload_n (q := 0) (i := 0) (by decide +kernel) rfl rfl ?_
    refine g_get (C := "ThreePoints$Reader") (T := xT_Reader) (N := 5) (ci := 4) (k := 2) (v := vi (H5 5 0 2)) (by decide +kernel) (by decide) rfl rfl xi_Reader (by decide) kw_231 rfl ?_
    refine g_callV (kd := 6) (ix := 0) (ci := 5) (N := 6) (T := xT_Tape) (vs := [vi (H5 5 0 2)]) (st := []) (by decide +kernel) xm_Tape_startOf kw_567 kw_568 kw_569 (by decide) rfl rfl rfl rfl (Nat.le_of_ble_eq_true rfl) (Nat.le_of_ble_eq_true rfl) h (fun vH7 H7 hq => ?_)
    obtain ⟨r8, rfl, h⟩ := hq
    exact g_iret (by decide +kernel) rfl ⟨_, rfl, h⟩
  · replace h := h.2 c
    refine g_aload_n (q := 0) (i := 0) (by decide +kernel) rfl rfl ?_
    refine g_sipush (n := 257) (v := 257) (by decide +kernel) (by decide) ?_
    refine g_iconst (n := 1) (v := 1) (by decide +kernel) (by decide) ?_
    refine g_callV (kd := 5) (ix := 0) (ci := 4) (N := 5) (T := xT_Reader) (vs := [vi 257, vi 1]) (st := []) (by decide +kernel) xm_Reader_readPart kw_519 kw_521 kw_8 (by decide) rfl rfl rfl rfl (Nat.le_of_ble_eq_true rfl) (Nat.le_of_ble_eq_true rfl) h (fun vH9 H9 hq => ?_)
    obtain ⟨r10, rfl, h⟩ := hq
    refine g_if_eq (off := 28) (tgt := 71) (by decide +kernel) (by decide) (fun c => ?_) (fun c => ?_)
    · replace h := h.1 c
      refine g_iconst (n := 0) (v := 0) (by decide +kernel) (by decide) ?_
      refine g_istore_n (q := 1) (i := 1) (ls2 := [some (vr 5 0), some (vi 0)]) (by decide +kernel) rfl (by decide) rfl rfl ?_
      refine g_iload_n (q := 1) (i := 1) (by decide +kernel) rfl rfl ?_
      refine g_if_eq (off := 7) (tgt := 81) (by decide +kernel) (by decide) (fun c => ?_) (fun c => absurd c (by decide))
      refine g_aload_n (q := 0) (i := 0) (by decide +kernel) rfl rfl ?_
      refine g_get (C := "ThreePoints$Reader") (T := xT_Reader) (N := 5) (ci := 4) (k := 0) (v := vr 6 0) (by decide +kernel) (by decide) rfl rfl xi_Reader (by decide) kw_227 rfl ?_
      refine g_aload_n (q := 0) (i := 0) (by decide +kernel) rfl rfl ?_
      refine g_get (C := "ThreePoints$Reader") (T := xT_Reader) (N := 5) (ci := 4) (k := 2) (v := vi (H9 5 0 2)) (by decide +kernel) (by decide) rfl rfl xi_Reader (by decide) kw_231 rfl ?_
      refine g_callV (kd := 6) (ix := 0) (ci := 5) (N := 6) (T := xT_Tape) (vs := [vi (H9 5 0 2)]) (st := []) (by decide +kernel) xm_Tape_startOf kw_567 kw_568 kw_569 (by decide) rfl rfl rfl rfl (Nat.le_of_ble_eq_true rfl) (Nat.le_of_ble_eq_true rfl) h (fun vH11 H11 hq => ?_)
      obtain ⟨r12, rfl, h⟩ := hq
      exact g_iret (by decide +kernel) rfl ⟨_, rfl, h⟩
    · replace h := h.2 c
      refine g_aload_n (q := 0) (i := 0) (by decide +kernel) rfl rfl ?_
      refine g_sipush (n := 258) (v := 258) (by decide +kernel) (by decide) ?_
      refine g_iconst (n := 2) (v := 2) (by decide +kernel) (by decide) ?_
      refine g_callV (kd := 5) (ix := 0) (ci := 4) (N := 5) (T := xT_Reader) (vs := [vi 258, vi 2]) (st := []) (by decide +kernel) xm_Reader_readPart kw_519 kw_521 kw_8 (by decide) rfl rfl rfl rfl (Nat.le_of_ble_eq_true rfl) (Nat.le_of_ble_eq_true rfl) h (fun vH13 H13 hq => ?_)
      obtain ⟨r14, rfl, h⟩ := hq
      suffices hj16 : g_Reader_faultOfTape E (d + 1) 72 [some (vr 5 0), none] [vi (if r14 = 0 then 0 else (if (H13 5 0 3) = 264 then 1 else 0 : Int32) : Int32)] H13 (qi Q) by
        refine g_if_eq (off := 17) (tgt := 71) (by decide +kernel) (by decide) (fun c => ?_) (fun c => ?_)
        · rw [if_pos c] at hj16
          refine g_iconst (n := 0) (v := 0) (by decide +kernel) (by decide) ?_
          exact hj16
        · rw [if_neg c] at hj16
          refine g_aload_n (q := 0) (i := 0) (by decide +kernel) rfl rfl ?_
          refine g_get (C := "ThreePoints$Reader") (T := xT_Reader) (N := 5) (ci := 4) (k := 3) (v := vi (H13 5 0 3)) (by decide +kernel) (by decide) rfl rfl xi_Reader (by decide) kw_232 rfl ?_
          refine g_sipush (n := 264) (v := 264) (by decide +kernel) (by decide) ?_
          suffices hj15 : g_Reader_faultOfTape E (d + 1) 72 [some (vr 5 0), none] [vi (if (H13 5 0 3) = 264 then 1 else 0 : Int32)] H13 (qi Q) by
            refine g_icmp_ne (off := 7) (tgt := 71) (by decide +kernel) (by decide) (fun c => ?_) (fun c => ?_)
            · rw [if_neg c] at hj15
              refine g_iconst (n := 0) (v := 0) (by decide +kernel) (by decide) ?_
              exact hj15
            · rw [if_pos c] at hj15
              refine g_iconst (n := 1) (v := 1) (by decide +kernel) (by decide) ?_
              refine g_goto (off := 4) (tgt := 72) (by decide +kernel) (by decide) ?_
              exact hj15
          exact hj16
      refine g_topi (fun v17 ev17 => ?_)
      replace h := h v17 ev17
      refine g_istore_n (q := 1) (i := 1) (ls2 := [some (vr 5 0), some (vi v17)]) (by decide +kernel) rfl (by decide) rfl rfl ?_
      refine g_iload_n (q := 1) (i := 1) (by decide +kernel) rfl rfl ?_
      refine g_if_eq (off := 7) (tgt := 81) (by decide +kernel) (by decide) (fun c => ?_) (fun c => ?_)
      · replace h := h.1 c
        refine g_aload_n (q := 0) (i := 0) (by decide +kernel) rfl rfl ?_
        refine g_get (C := "ThreePoints$Reader") (T := xT_Reader) (N := 5) (ci := 4) (k := 0) (v := vr 6 0) (by decide +kernel) (by decide) rfl rfl xi_Reader (by decide) kw_227 rfl ?_
        refine g_aload_n (q := 0) (i := 0) (by decide +kernel) rfl rfl ?_
        refine g_get (C := "ThreePoints$Reader") (T := xT_Reader) (N := 5) (ci := 4) (k := 2) (v := vi (H13 5 0 2)) (by decide +kernel) (by decide) rfl rfl xi_Reader (by decide) kw_231 rfl ?_
        refine g_callV (kd := 6) (ix := 0) (ci := 5) (N := 6) (T := xT_Tape) (vs := [vi (H13 5 0 2)]) (st := []) (by decide +kernel) xm_Tape_startOf kw_567 kw_568 kw_569 (by decide) rfl rfl rfl rfl (Nat.le_of_ble_eq_true rfl) (Nat.le_of_ble_eq_true rfl) h (fun vH18 H18 hq => ?_)
        obtain ⟨r19, rfl, h⟩ := hq
        exact g_iret (by decide +kernel) rfl ⟨_, rfl, h⟩
      · replace h := h.2 c
        refine g_iconst (n := (-1)) (v := (-1)) (by decide +kernel) (by decide) ?_
        refine g_goto (off := 14) (tgt := 92) (by decide +kernel) (by decide) ?_
        exact g_iret (by decide +kernel) rfl ⟨_, rfl, h⟩
def p_Tape_clear (E : XE) (d : Nat)  (H : HH) (Q : HH → Prop) : Prop := ∀ H1 : HH, H1 = (hu H 6 0 1 0) → (Q H1)
set_option maxHeartbeats 4000000 in
theorem l_Tape_clear {E : XE} {d : Nat}  {H : HH} {Q : HH → Prop} (h : p_Tape_clear E d  H Q) : c_Tape_clear E d  H Q := by
  show g_Tape_clear E d 0 (xent [vr 6 0]) [] H (qv Q)
  refine g_drop (ls2 := [some (vr 6 0)]) (And.intro rfl trivial) ?_
  refine g_aload_n (q := 0) (i := 0) (by decide +kernel) rfl rfl ?_
  refine g_iconst (n := 0) (v := 0) (by decide +kernel) (by decide) ?_
  refine g_put (C := "ThreePoints$Tape") (T := xT_Tape) (N := 6) (ci := 5) (k := 1) xy_Tape (by decide +kernel) (by decide) rfl rfl xi_Tape xy_Tape_ok xn_Tape (by decide) kw_188 rfl (by decide +kernel) (fun _ => rfl) ?_
  refine g_heap (fun H1 eH1 => ?_)
  replace h := h H1 eH1
  exact g_vret (by decide +kernel) rfl h
