/-! Arrays.fill over a row of ints -/
abbrev g_fill (E : XE) (d pc : Nat) (ls : List (Option AV)) (st : List AV) (H : HH) (Q : AV → HH → Prop) : Prop := Gp E.1 E.2.1 E.2.2.1 E.2.2.2 xTX xRF xLC d "java/util/Arrays" prog_19_method_103_code 4 none pc ls st H Q
def c_fill (E : XE) (d kd _N ix : Nat) (v : Int32) (H : HH) (Q : HH → Prop) : Prop := g_fill E d 0 (xent [vr kd ix, vi v]) [] H (qv Q)
set_option maxRecDepth 20000 in
theorem xm_fill : xM ⟨"java/util/Arrays", "fill", "([II)V"⟩ prog_19_method_103_code 4 none 2 := ⟨xtbl_at 510 rfl rfl, xtbl_at 81 rfl (by decide +kernel), by decide +kernel, by decide +kernel, by decide⟩
