/-! a method: its place, its formula, the walk that proves it; printed by wip/gen/emitall.py -/
abbrev g_Ride_says (E : XE) (d pc : Nat) (ls : List (Option AV)) (st : List AV) (H : HH) (Q : AV → HH → Prop) : Prop := Gp E.1 E.2.1 E.2.2.1 E.2.2.2 xTX xRF xLC d "ThreePoints$Ride" prog_4_method_2_code 6 (some .int) pc ls st H Q
def c_Ride_says (E : XE) (d : Nat) (x1 : Int32) (x2 : Int32) (x3 : Int32) (x4 : Int32) (x5 : Int32) (H : HH) (Q : Int32 → HH → Prop) : Prop := g_Ride_says E d 0 (xent [vr 19 0, vi x1, vi x2, vi x3, vi x4, vi x5]) [] H (qi Q)
theorem xm_Ride_says : xM ⟨"ThreePoints$Ride", "says", "(IIIII)I"⟩ prog_4_method_2_code 6 (some .int) 5 := ⟨kw_663, kw_72, by decide +kernel, by decide +kernel, by decide⟩
abbrev g_Ride_isAtOpening (E : XE) (d pc : Nat) (ls : List (Option AV)) (st : List AV) (H : HH) (Q : AV → HH → Prop) : Prop := Gp E.1 E.2.1 E.2.2.1 E.2.2.2 xTX xRF xLC d "ThreePoints$Ride" prog_4_method_6_code 2 (some .boolean) pc ls st H Q
def c_Ride_isAtOpening (E : XE) (d : Nat) (x0 : Int32) (H : HH) (Q : Int32 → HH → Prop) : Prop := g_Ride_isAtOpening E d 0 (xent [vi x0]) [] H (qi Q)
theorem xm_Ride_isAtOpening : xM ⟨"ThreePoints$Ride", "isAtOpening", "(I)Z"⟩ prog_4_method_6_code 2 (some .boolean) 1 := ⟨kw_681, kw_72, by decide +kernel, by decide +kernel, by decide⟩
abbrev g_Ride_fits (E : XE) (d pc : Nat) (ls : List (Option AV)) (st : List AV) (H : HH) (Q : AV → HH → Prop) : Prop := Gp E.1 E.2.1 E.2.2.1 E.2.2.2 xTX xRF xLC d "ThreePoints$Ride" prog_4_method_4_code 8 (some .boolean) pc ls st H Q
def c_Ride_fits (E : XE) (d : Nat) (x1 : Int32) (x2 : Int32) (H : HH) (Q : Int32 → HH → Prop) : Prop := g_Ride_fits E d 0 (xent [vr 19 0, vi x1, vi x2]) [] H (qi Q)
theorem xm_Ride_fits : xM ⟨"ThreePoints$Ride", "fits", "(II)Z"⟩ prog_4_method_4_code 8 (some .boolean) 2 := ⟨kw_645, kw_72, by decide +kernel, by decide +kernel, by decide⟩
abbrev g_Ride_fitsNow (E : XE) (d pc : Nat) (ls : List (Option AV)) (st : List AV) (H : HH) (Q : AV → HH → Prop) : Prop := Gp E.1 E.2.1 E.2.2.1 E.2.2.2 xTX xRF xLC d "ThreePoints$Ride" prog_4_method_5_code 1 (some .boolean) pc ls st H Q
def c_Ride_fitsNow (E : XE) (d : Nat)  (H : HH) (Q : Int32 → HH → Prop) : Prop := g_Ride_fitsNow E d 0 (xent [vr 19 0]) [] H (qi Q)
theorem xm_Ride_fitsNow : xM ⟨"ThreePoints$Ride", "fitsNow", "()Z"⟩ prog_4_method_5_code 1 (some .boolean) 0 := ⟨kw_641, kw_72, by decide +kernel, by decide +kernel, by decide⟩
abbrev g_Ride_shift (E : XE) (d pc : Nat) (ls : List (Option AV)) (st : List AV) (H : HH) (Q : AV → HH → Prop) : Prop := Gp E.1 E.2.1 E.2.2.1 E.2.2.2 xTX xRF xLC d "ThreePoints$Ride" prog_4_method_7_code 3 (some .int) pc ls st H Q
def c_Ride_shift (E : XE) (d : Nat) (x0 : Int32) (x1 : Int32) (H : HH) (Q : Int32 → HH → Prop) : Prop := g_Ride_shift E d 0 (xent [vi x0, vi x1]) [] H (qi Q)
theorem xm_Ride_shift : xM ⟨"ThreePoints$Ride", "shift", "(II)I"⟩ prog_4_method_7_code 3 (some .int) 2 := ⟨kw_747, kw_72, by decide +kernel, by decide +kernel, by decide⟩
abbrev g_Ride_turnedBy (E : XE) (d pc : Nat) (ls : List (Option AV)) (st : List AV) (H : HH) (Q : AV → HH → Prop) : Prop := Gp E.1 E.2.1 E.2.2.1 E.2.2.2 xTX xRF xLC d "ThreePoints$Ride" prog_4_method_8_code 4 (some .int) pc ls st H Q
def c_Ride_turnedBy (E : XE) (d : Nat) (x1 : Int32) (x2 : Int32) (x3 : Int32) (H : HH) (Q : Int32 → HH → Prop) : Prop := g_Ride_turnedBy E d 0 (xent [vr 19 0, vi x1, vi x2, vi x3]) [] H (qi Q)
theorem xm_Ride_turnedBy : xM ⟨"ThreePoints$Ride", "turnedBy", "(III)I"⟩ prog_4_method_8_code 4 (some .int) 3 := ⟨kw_751, kw_72, by decide +kernel, by decide +kernel, by decide⟩
abbrev g_Ride_wears (E : XE) (d pc : Nat) (ls : List (Option AV)) (st : List AV) (H : HH) (Q : AV → HH → Prop) : Prop := Gp E.1 E.2.1 E.2.2.1 E.2.2.2 xTX xRF xLC d "ThreePoints$Ride" prog_4_method_3_code 4 (some .int) pc ls st H Q
def c_Ride_wears (E : XE) (d : Nat) (x1 : Int32) (x2 : Int32) (x3 : Int32) (H : HH) (Q : Int32 → HH → Prop) : Prop := g_Ride_wears E d 0 (xent [vr 19 0, vi x1, vi x2, vi x3]) [] H (qi Q)
theorem xm_Ride_wears : xM ⟨"ThreePoints$Ride", "wears", "(III)I"⟩ prog_4_method_3_code 4 (some .int) 3 := ⟨kw_759, kw_72, by decide +kernel, by decide +kernel, by decide⟩
abbrev g_Ride_go (E : XE) (d pc : Nat) (ls : List (Option AV)) (st : List AV) (H : HH) (Q : AV → HH → Prop) : Prop := Gp E.1 E.2.1 E.2.2.1 E.2.2.2 xTX xRF xLC d "ThreePoints$Ride" prog_4_method_9_code 5 (some .boolean) pc ls st H Q
def c_Ride_go (E : XE) (d : Nat) (x1 : Int32) (x2 : Int32) (H : HH) (Q : Int32 → HH → Prop) : Prop := g_Ride_go E d 0 (xent [vr 19 0, vi x1, vi x2]) [] H (qi Q)
theorem xm_Ride_go : xM ⟨"ThreePoints$Ride", "go", "(II)Z"⟩ prog_4_method_9_code 5 (some .boolean) 2 := ⟨kw_744, kw_72, by decide +kernel, by decide +kernel, by decide⟩
abbrev g_Search_state (E : XE) (d pc : Nat) (ls : List (Option AV)) (st : List AV) (H : HH) (Q : AV → HH → Prop) : Prop := Gp E.1 E.2.1 E.2.2.1 E.2.2.2 xTX xRF xLC d "ThreePoints$Search" prog_5_method_2_code 4 (some .int) pc ls st H Q
def c_Search_state (E : XE) (d : Nat) (x0 : Int32) (x1 : Int32) (x2 : Int32) (H : HH) (Q : Int32 → HH → Prop) : Prop := g_Search_state E d 0 (xent [vi x0, vi x1, vi x2]) [] H (qi Q)
theorem xm_Search_state : xM ⟨"ThreePoints$Search", "state", "(III)I"⟩ prog_5_method_2_code 4 (some .int) 3 := ⟨kw_785, kw_73, by decide +kernel, by decide +kernel, by decide⟩
abbrev g_Search_unlink (E : XE) (d pc : Nat) (ls : List (Option AV)) (st : List AV) (H : HH) (Q : AV → HH → Prop) : Prop := Gp E.1 E.2.1 E.2.2.1 E.2.2.2 xTX xRF xLC d "ThreePoints$Search" prog_5_method_6_code 4 none pc ls st H Q
def c_Search_unlink (E : XE) (d : Nat) (x1 : Int32) (H : HH) (Q : HH → Prop) : Prop := g_Search_unlink E d 0 (xent [vr 21 0, vi x1]) [] H (qv Q)
theorem xm_Search_unlink : xM ⟨"ThreePoints$Search", "unlink", "(I)V"⟩ prog_5_method_6_code 4 none 1 := ⟨kw_795, kw_73, by decide +kernel, by decide +kernel, by decide⟩
abbrev g_Search_lower (E : XE) (d pc : Nat) (ls : List (Option AV)) (st : List AV) (H : HH) (Q : AV → HH → Prop) : Prop := Gp E.1 E.2.1 E.2.2.1 E.2.2.2 xTX xRF xLC d "ThreePoints$Search" prog_5_method_5_code 4 none pc ls st H Q
def c_Search_lower (E : XE) (d : Nat) (x1 : Int32) (x2 : Int32) (H : HH) (Q : HH → Prop) : Prop := g_Search_lower E d 0 (xent [vr 21 0, vi x1, vi x2]) [] H (qv Q)
theorem xm_Search_lower : xM ⟨"ThreePoints$Search", "lower", "(II)V"⟩ prog_5_method_5_code 4 none 2 := ⟨kw_791, kw_73, by decide +kernel, by decide +kernel, by decide⟩
abbrev g_Search_lowerAhead (E : XE) (d pc : Nat) (ls : List (Option AV)) (st : List AV) (H : HH) (Q : AV → HH → Prop) : Prop := Gp E.1 E.2.1 E.2.2.1 E.2.2.2 xTX xRF xLC d "ThreePoints$Search" prog_5_method_4_code 11 none pc ls st H Q
def c_Search_lowerAhead (E : XE) (d : Nat) (x2 : Int32) (x3 : Int32) (H : HH) (Q : HH → Prop) : Prop := g_Search_lowerAhead E d 0 (xent [vr 21 0, vr 19 0, vi x2, vi x3]) [] H (qv Q)
theorem xm_Search_lowerAhead : xM ⟨"ThreePoints$Search", "lowerAhead", "(LThreePoints$Ride;II)V"⟩ prog_5_method_4_code 11 none 3 := ⟨kw_800, kw_73, by decide +kernel, by decide +kernel, by decide⟩
abbrev g_Search_toHeading (E : XE) (d pc : Nat) (ls : List (Option AV)) (st : List AV) (H : HH) (Q : AV → HH → Prop) : Prop := Gp E.1 E.2.1 E.2.2.1 E.2.2.2 xTX xRF xLC d "ThreePoints$Search" prog_5_method_3_code 7 none pc ls st H Q
def c_Search_toHeading (E : XE) (d : Nat) (x2 : Int32) (x3 : Int32) (H : HH) (Q : HH → Prop) : Prop := g_Search_toHeading E d 0 (xent [vr 21 0, vr 19 0, vi x2, vi x3]) [] H (qv Q)
theorem xm_Search_toHeading : xM ⟨"ThreePoints$Search", "toHeading", "(LThreePoints$Ride;II)V"⟩ prog_5_method_3_code 7 none 3 := ⟨kw_779, kw_73, by decide +kernel, by decide +kernel, by decide⟩
abbrev g_Search_least (E : XE) (d pc : Nat) (ls : List (Option AV)) (st : List AV) (H : HH) (Q : AV → HH → Prop) : Prop := Gp E.1 E.2.1 E.2.2.1 E.2.2.2 xTX xRF xLC d "ThreePoints$Search" prog_5_method_7_code 12 (some .int) pc ls st H Q
def c_Search_least (E : XE) (d : Nat) (x2 : Int32) (x3 : Int32) (x4 : Int32) (H : HH) (Q : Int32 → HH → Prop) : Prop := g_Search_least E d 0 (xent [vr 21 0, vr 19 0, vi x2, vi x3, vi x4]) [] H (qi Q)
theorem xm_Search_least : xM ⟨"ThreePoints$Search", "least", "(LThreePoints$Ride;III)I"⟩ prog_5_method_7_code 12 (some .int) 4 := ⟨kw_811, kw_73, by decide +kernel, by decide +kernel, by decide⟩
abbrev g_Search_leastFromNow (E : XE) (d pc : Nat) (ls : List (Option AV)) (st : List AV) (H : HH) (Q : AV → HH → Prop) : Prop := Gp E.1 E.2.1 E.2.2.1 E.2.2.2 xTX xRF xLC d "ThreePoints$Search" prog_5_method_8_code 2 (some .int) pc ls st H Q
def c_Search_leastFromNow (E : XE) (d : Nat)  (H : HH) (Q : Int32 → HH → Prop) : Prop := g_Search_leastFromNow E d 0 (xent [vr 21 0, vr 19 0]) [] H (qi Q)
theorem xm_Search_leastFromNow : xM ⟨"ThreePoints$Search", "leastFromNow", "(LThreePoints$Ride;)I"⟩ prog_5_method_8_code 2 (some .int) 1 := ⟨kw_807, kw_73, by decide +kernel, by decide +kernel, by decide⟩
abbrev g_Search_addBehind (E : XE) (d pc : Nat) (ls : List (Option AV)) (st : List AV) (H : HH) (Q : AV → HH → Prop) : Prop := Gp E.1 E.2.1 E.2.2.1 E.2.2.2 xTX xRF xLC d "ThreePoints$Search" prog_5_method_10_code 11 (some .int) pc ls st H Q
def c_Search_addBehind (E : XE) (d : Nat) (x2 : Int32) (x3 : Int32) (x4 : Int32) (H : HH) (Q : Int32 → HH → Prop) : Prop := g_Search_addBehind E d 0 (xent [vr 21 0, vr 19 0, vi x2, vi x3, vi x4]) [] H (qi Q)
theorem xm_Search_addBehind : xM ⟨"ThreePoints$Search", "addBehind", "(LThreePoints$Ride;III)I"⟩ prog_5_method_10_code 11 (some .int) 4 := ⟨kw_837, kw_73, by decide +kernel, by decide +kernel, by decide⟩
abbrev g_Search_headingsReached (E : XE) (d pc : Nat) (ls : List (Option AV)) (st : List AV) (H : HH) (Q : AV → HH → Prop) : Prop := Gp E.1 E.2.1 E.2.2.1 E.2.2.2 xTX xRF xLC d "ThreePoints$Search" prog_5_method_9_code 7 (some .int) pc ls st H Q
def c_Search_headingsReached (E : XE) (d : Nat)  (H : HH) (Q : Int32 → HH → Prop) : Prop := g_Search_headingsReached E d 0 (xent [vr 21 0, vr 19 0]) [] H (qi Q)
theorem xm_Search_headingsReached : xM ⟨"ThreePoints$Search", "headingsReached", "(LThreePoints$Ride;)I"⟩ prog_5_method_9_code 7 (some .int) 1 := ⟨kw_833, kw_73, by decide +kernel, by decide +kernel, by decide⟩
abbrev g_Ride_through (E : XE) (d pc : Nat) (ls : List (Option AV)) (st : List AV) (H : HH) (Q : AV → HH → Prop) : Prop := Gp E.1 E.2.1 E.2.2.1 E.2.2.2 xTX xRF xLC d "ThreePoints$Ride" prog_4_method_10_code 5 (some .int) pc ls st H Q
def c_Ride_through (E : XE) (d : Nat) (u : Nat) (H : HH) (Q : Int32 → HH → Prop) : Prop := g_Ride_through E d 0 (xent [vr 19 0, vr 16 u]) [] H (qi Q)
theorem xm_Ride_through : xM ⟨"ThreePoints$Ride", "through", "(LThreePoints$Sheet;)I"⟩ prog_4_method_10_code 5 (some .int) 1 := ⟨kw_865, kw_72, by decide +kernel, by decide +kernel, by decide⟩
abbrev g_Ride_byLots (E : XE) (d pc : Nat) (ls : List (Option AV)) (st : List AV) (H : HH) (Q : AV → HH → Prop) : Prop := Gp E.1 E.2.1 E.2.2.1 E.2.2.2 xTX xRF xLC d "ThreePoints$Ride" prog_4_method_11_code 9 (some .int) pc ls st H Q
def c_Ride_byLots (E : XE) (d : Nat) (x1 : Int32) (x2 : Int32) (H : HH) (Q : Int32 → HH → Prop) : Prop := g_Ride_byLots E d 0 (xent [vr 19 0, vi x1, vi x2]) [] H (qi Q)
theorem xm_Ride_byLots : xM ⟨"ThreePoints$Ride", "byLots", "(II)I"⟩ prog_4_method_11_code 9 (some .int) 2 := ⟨kw_899, kw_72, by decide +kernel, by decide +kernel, by decide⟩
def p_Ride_says (E : XE) (d : Nat) (x1 : Int32) (x2 : Int32) (x3 : Int32) (x4 : Int32) (x5 : Int32) (H : HH) (Q : Int32 → HH → Prop) : Prop := (¬ (0 < (H 19 0 2) ∧ (H 19 0 2) < 8) → (Q 0 H)) ∧ (∀ t : Nat, t < 7 → (H 19 0 2) = nI (t + 1) → (∀ H1 : HH, H1 = (hu (hu (hu (hu H 20 0 0 (H 3 8 1)) 20 0 1 x4) 20 0 2 x3) 20 0 3 x2) → (∀ H2 : HH, H2 = (hu (hu H1 20 0 4 (H1 2 2 0)) 20 0 5 x5) → (c_Text_says E d t x1 H2 (fun r4 H3 => Q r4 H3)))))
set_option maxHeartbeats 4000000 in
theorem l_Ride_says {E : XE} {d : Nat} {x1 : Int32} {x2 : Int32} {x3 : Int32} {x4 : Int32} {x5 : Int32} {H : HH} {Q : Int32 → HH → Prop} (h : p_Ride_says E d x1 x2 x3 x4 x5 H Q) : c_Ride_says E (d + 1) x1 x2 x3 x4 x5 H Q := by
  show g_Ride_says E (d + 1) 0 (xent [vr 19 0, vi x1, vi x2, vi x3, vi x4, vi x5]) [] H (qi Q)
  refine g_drop (ls2 := [some (vr 19 0), some (vi x1), some (vi x2), some (vi x3), some (vi x4), some (vi x5)]) (And.intro rfl (And.intro rfl (And.intro rfl (And.intro rfl (And.intro rfl (And.intro rfl trivial)))))) ?_
  refine g_aload_n (q := 0) (i := 0) (by decide +kernel) rfl rfl ?_
  rcases xlaw 0 (H 19 0 2) with ⟨hx, hl⟩ | ⟨t, ht, hx, hl⟩
  · replace h := h.1 hx
    refine g_get (C := "ThreePoints$Ride") (T := xT_Ride) (N := 4) (ci := 8) (k := 2) (v := vn) (by decide +kernel) (by decide) rfl rfl xi_Ride (by decide) kw_265 hl ?_
    refine g_nonnullN (off := 5) (by decide +kernel) ?_
    refine g_iconst (n := 0) (v := 0) (by decide +kernel) (by decide) ?_
    exact g_iret (by decide +kernel) rfl ⟨_, rfl, h⟩
  · replace h := h.2 t ht hx
    refine g_get (C := "ThreePoints$Ride") (T := xT_Ride) (N := 4) (ci := 8) (k := 2) (v := vr 11 t) (by decide +kernel) (by decide) rfl rfl xi_Ride (by decide) kw_265 hl ?_
    refine g_nonnullR (off := 5) (tgt := 9) (by decide +kernel) (by decide) ?_
    refine g_aload_n (q := 0) (i := 0) (by decide +kernel) rfl rfl ?_
    refine g_get (C := "ThreePoints$Ride") (T := xT_Ride) (N := 4) (ci := 8) (k := 3) (v := vr 20 0) (by decide +kernel) (by decide) rfl rfl xi_Ride (by decide) kw_267 rfl ?_
    refine g_iconst (n := 0) (v := 0) (by decide +kernel) (by decide) ?_
    refine g_aload_n (q := 0) (i := 0) (by decide +kernel) rfl rfl ?_
    refine g_get (C := "ThreePoints$Ride") (T := xT_Ride) (N := 4) (ci := 8) (k := 1) (v := vr 3 8) (by decide +kernel) (by decide) rfl rfl xi_Ride (by decide) kw_262 rfl ?_
    refine g_get (C := "ThreePoints$Vehicle") (T := xT_Vehicle) (N := 7) (ci := 3) (k := 1) (v := vi (H 3 8 1)) (by decide +kernel) (by decide) rfl rfl xi_Vehicle (by decide) kw_130 rfl ?_
    refine g_iast (by decide +kernel) (by decide) rfl (vp_lit (by decide)) ?_
    refine g_heapE (H1 := (hu H 20 0 0 (H 3 8 1))) rfl ?_
    refine g_aload_n (q := 0) (i := 0) (by decide +kernel) rfl rfl ?_
    refine g_get (C := "ThreePoints$Ride") (T := xT_Ride) (N := 4) (ci := 8) (k := 3) (v := vr 20 0) (by decide +kernel) (by decide) rfl rfl xi_Ride (by decide) kw_267 rfl ?_
    refine g_iconst (n := 1) (v := 1) (by decide +kernel) (by decide) ?_
    refine g_iload (i := 4) (by decide +kernel) rfl ?_
    refine g_iast (by decide +kernel) (by decide) rfl (vp_lit (by decide)) ?_
    refine g_heapE (H1 := (hu (hu H 20 0 0 (H 3 8 1)) 20 0 1 x4)) rfl ?_
    refine g_aload_n (q := 0) (i := 0) (by decide +kernel) rfl rfl ?_
    refine g_get (C := "ThreePoints$Ride") (T := xT_Ride) (N := 4) (ci := 8) (k := 3) (v := vr 20 0) (by decide +kernel) (by decide) rfl rfl xi_Ride (by decide) kw_267 rfl ?_
    refine g_iconst (n := 2) (v := 2) (by decide +kernel) (by decide) ?_
    refine g_iload_n (q := 3) (i := 3) (by decide +kernel) rfl rfl ?_
    refine g_iast (by decide +kernel) (by decide) rfl (vp_lit (by decide)) ?_
    refine g_heapE (H1 := (hu (hu (hu H 20 0 0 (H 3 8 1)) 20 0 1 x4) 20 0 2 x3)) rfl ?_
    refine g_aload_n (q := 0) (i := 0) (by decide +kernel) rfl rfl ?_
    refine g_get (C := "ThreePoints$Ride") (T := xT_Ride) (N := 4) (ci := 8) (k := 3) (v := vr 20 0) (by decide +kernel) (by decide) rfl rfl xi_Ride (by decide) kw_267 rfl ?_
    refine g_iconst (n := 3) (v := 3) (by decide +kernel) (by decide) ?_
    refine g_iload_n (q := 2) (i := 2) (by decide +kernel) rfl rfl ?_
    refine g_iast (by decide +kernel) (by decide) rfl (vp_lit (by decide)) ?_
    refine g_heapE (H1 := (hu (hu (hu (hu H 20 0 0 (H 3 8 1)) 20 0 1 x4) 20 0 2 x3) 20 0 3 x2)) rfl ?_
    refine g_aload_n (q := 0) (i := 0) (by decide +kernel) rfl rfl ?_
    refine g_get (C := "ThreePoints$Ride") (T := xT_Ride) (N := 4) (ci := 8) (k := 3) (v := vr 20 0) (by decide +kernel) (by decide) rfl rfl xi_Ride (by decide) kw_267 rfl ?_
    refine g_iconst (n := 4) (v := 4) (by decide +kernel) (by decide) ?_
    refine g_aload_n (q := 0) (i := 0) (by decide +kernel) rfl rfl ?_
    refine g_get (C := "ThreePoints$Ride") (T := xT_Ride) (N := 4) (ci := 8) (k := 0) (v := vr 2 2) (by decide +kernel) (by decide) rfl rfl xi_Ride (by decide) kw_259 rfl ?_
    refine g_heap (fun H1 eH1 => ?_)
    replace h := h H1 eH1
    refine g_get (C := "ThreePoints$Lane") (T := xT_Lane) (N := 3) (ci := 2) (k := 0) (v := vi (H1 2 2 0)) (by decide +kernel) (by decide) rfl rfl xi_Lane (by decide) kw_105 rfl ?_
    refine g_iast (by decide +kernel) (by decide) rfl (vp_lit (by decide)) ?_
    refine g_heapE (H1 := (hu H1 20 0 4 (H1 2 2 0))) rfl ?_
    refine g_aload_n (q := 0) (i := 0) (by decide +kernel) rfl rfl ?_
    refine g_get (C := "ThreePoints$Ride") (T := xT_Ride) (N := 4) (ci := 8) (k := 3) (v := vr 20 0) (by decide +kernel) (by decide) rfl rfl xi_Ride (by decide) kw_267 rfl ?_
    refine g_iconst (n := 5) (v := 5) (by decide +kernel) (by decide) ?_
    refine g_iload (i := 5) (by decide +kernel) rfl ?_
    refine g_iast (by decide +kernel) (by decide) rfl (vp_lit (by decide)) ?_
    refine g_heapE (H1 := (hu (hu H1 20 0 4 (H1 2 2 0)) 20 0 5 x5)) rfl ?_
    refine g_aload_n (q := 0) (i := 0) (by decide +kernel) rfl rfl ?_
    refine g_heap (fun H2 eH2 => ?_)
    replace h := h H2 eH2
    refine g_get (C := "ThreePoints$Ride") (T := xT_Ride) (N := 4) (ci := 8) (k := 2) (v := vr 11 t) (by decide +kernel) (by decide) rfl rfl xi_Ride (by decide) kw_265 (by subst eH2; subst eH1; exact hl) ?_
    refine g_iload_n (q := 1) (i := 1) (by decide +kernel) rfl rfl ?_
    refine g_aload_n (q := 0) (i := 0) (by decide +kernel) rfl rfl ?_
    refine g_get (C := "ThreePoints$Ride") (T := xT_Ride) (N := 4) (ci := 8) (k := 3) (v := vr 20 0) (by decide +kernel) (by decide) rfl rfl xi_Ride (by decide) kw_267 rfl ?_
    refine g_callV (kd := 11) (ix := t) (ci := 6) (N := 4) (T := xT_Text) (vs := [vi x1, vr 20 0]) (st := []) (by decide +kernel) xm_Text_says kw_664 kw_665 kw_666 (by decide) rfl rfl rfl rfl (Nat.le_of_ble_eq_true rfl) (Nat.le_of_ble_eq_true rfl) h (fun vH3 H3 hq => ?_)
    obtain ⟨r4, rfl, h⟩ := hq
    exact g_iret (by decide +kernel) rfl ⟨_, rfl, h⟩
def p_Ride_isAtOpening (E : XE) (d : Nat) (x0 : Int32) (H : HH) (Q : Int32 → HH → Prop) : Prop := ((if (x0 &&& 7) < 3 then 0 else (if 5 < (x0 &&& 7) then 0 else 1 : Int32) : Int32) = 0 ∨ (if (x0 &&& 7) < 3 then 0 else (if 5 < (x0 &&& 7) then 0 else 1 : Int32) : Int32) = 1) ∧ Q (if (x0 &&& 7) < 3 then 0 else (if 5 < (x0 &&& 7) then 0 else 1 : Int32) : Int32) H
set_option maxHeartbeats 4000000 in
theorem l_Ride_isAtOpening {E : XE} {d : Nat} {x0 : Int32} {H : HH} {Q : Int32 → HH → Prop} (h : p_Ride_isAtOpening E d x0 H Q) : c_Ride_isAtOpening E d x0 H Q := by
  show g_Ride_isAtOpening E d 0 (xent [vi x0]) [] H (qi Q)
  refine g_drop (ls2 := [some (vi x0), none]) (And.intro rfl trivial) ?_
  refine g_iload_n (q := 0) (i := 0) (by decide +kernel) rfl rfl ?_
  refine g_bipush (n := 7) (v := 7) (by decide +kernel) (by decide) ?_
  refine g_iand (by decide +kernel) ?_
  refine g_istore_n (q := 1) (i := 1) (ls2 := [some (vi x0), some (vi (x0 &&& 7))]) (by decide +kernel) rfl (by decide) rfl rfl ?_
  refine g_iload_n (q := 1) (i := 1) (by decide +kernel) rfl rfl ?_
  refine g_iconst (n := 3) (v := 3) (by decide +kernel) (by decide) ?_
  suffices hj2 : g_Ride_isAtOpening E d 20 [some (vi x0), some (vi (x0 &&& 7))] [vi (if (x0 &&& 7) < 3 then 0 else (if 5 < (x0 &&& 7) then 0 else 1 : Int32) : Int32)] H (qi Q) by
    refine g_icmp_lt (off := 12) (tgt := 19) (by decide +kernel) (by decide) (fun c => ?_) (fun c => ?_)
    · rw [if_pos c] at hj2
      refine g_iconst (n := 0) (v := 0) (by decide +kernel) (by decide) ?_
      exact hj2
    · rw [if_neg c] at hj2
      refine g_iload_n (q := 1) (i := 1) (by decide +kernel) rfl rfl ?_
      refine g_iconst (n := 5) (v := 5) (by decide +kernel) (by decide) ?_
      suffices hj1 : g_Ride_isAtOpening E d 20 [some (vi x0), some (vi (x0 &&& 7))] [vi (if 5 < (x0 &&& 7) then 0 else 1 : Int32)] H (qi Q) by
        refine g_icmp_gt (off := 7) (tgt := 19) (by decide +kernel) (by decide) (fun c => ?_) (fun c => ?_)
        · rw [if_pos c] at hj1
          refine g_iconst (n := 0) (v := 0) (by decide +kernel) (by decide) ?_
          exact hj1
        · rw [if_neg c] at hj1
          refine g_iconst (n := 1) (v := 1) (by decide +kernel) (by decide) ?_
          refine g_goto (off := 4) (tgt := 20) (by decide +kernel) (by decide) ?_
          exact hj1
      exact hj2
  obtain ⟨h01, h⟩ := h
  exact g_zret (by decide +kernel) rfl (nbool h01) ⟨_, rfl, h⟩
def p_Ride_fits (E : XE) (d : Nat) (x1 : Int32) (x2 : Int32) (H : HH) (Q : Int32 → HH → Prop) : Prop := (x1 < 0 → (Q 0 H)) ∧ (¬ x1 < 0 → ((x1 ≤ (H 2 2 0) → (c_Main_across E d x2 H (fun r2 H1 => c_Vehicle_front E d 8 H1 (fun r4 H3 => ∀ v5 : Int32, v5 = (x1 + ((r2 * r4) / 8)) → (c_Main_across E d x2 H3 (fun r7 H6 => c_Vehicle_behind E d 8 H6 (fun r9 H8 => ∀ v10 : Int32, v10 = (x1 - ((r7 * r9) / 8)) → (∀ v11 : Int32, v11 = (xmin x1 (xmin v5 v10)) → (c_Ride_says E d 0 x1 x2 0 0 H8 (fun r13 H12 => (r13 ≤ v11 → (∀ v14 : Int32, v14 = (xmax x1 (xmax v5 v10)) → (c_Ride_isAtOpening E d x2 H12 (fun r16 H15 => ∀ v18 : Int32, v18 = (if r16 = 0 then (H15 2 2 0) else ((H15 2 2 0) + (H15 2 2 1)) : Int32) → (c_Ride_says E d 0 x1 x2 1 0 H15 (fun r20 H19 => ((if (v18 - r20) < v14 then 0 else 1 : Int32) = 0 ∨ (if (v18 - r20) < v14 then 0 else 1 : Int32) = 1) ∧ Q (if (v18 - r20) < v14 then 0 else 1 : Int32) H19)))))) ∧ (¬ r13 ≤ v11 → (Q 0 H12)))))))))))) ∧ (¬ x1 ≤ (H 2 2 0) → (Q 0 H))))
set_option maxHeartbeats 4000000 in
theorem l_Ride_fits {E : XE} {d : Nat} {x1 : Int32} {x2 : Int32} {H : HH} {Q : Int32 → HH → Prop} (h : p_Ride_fits E d x1 x2 H Q) : c_Ride_fits E (d + 1) x1 x2 H Q := by
  show g_Ride_fits E (d + 1) 0 (xent [vr 19 0, vi x1, vi x2]) [] H (qi Q)
  refine g_drop (ls2 := [some (vr 19 0), some (vi x1), some (vi x2), none, none, none, none, none]) (And.intro rfl (And.intro rfl (And.intro rfl trivial))) ?_
  refine g_iload_n (q := 1) (i := 1) (by decide +kernel) rfl rfl ?_
  refine g_if_lt (off := 14) (tgt := 15) (by decide +kernel) (by decide) (fun c => ?_) (fun c => ?_)
  · replace h := h.1 c
    refine g_iconst (n := 0) (v := 0) (by decide +kernel) (by decide) ?_
    exact g_zret (by decide +kernel) rfl rfl ⟨_, rfl, h⟩
  · replace h := h.2 c
    refine g_iload_n (q := 1) (i := 1) (by decide +kernel) rfl rfl ?_
    refine g_aload_n (q := 0) (i := 0) (by decide +kernel) rfl rfl ?_
    refine g_get (C := "ThreePoints$Ride") (T := xT_Ride) (N := 4) (ci := 8) (k := 0) (v := vr 2 2) (by decide +kernel) (by decide) rfl rfl xi_Ride (by decide) kw_259 rfl ?_
    refine g_get (C := "ThreePoints$Lane") (T := xT_Lane) (N := 3) (ci := 2) (k := 0) (v := vi (H 2 2 0)) (by decide +kernel) (by decide) rfl rfl xi_Lane (by decide) kw_105 rfl ?_
    refine g_icmp_le (off := 5) (tgt := 17) (by decide +kernel) (by decide) (fun c => ?_) (fun c => ?_)
    · replace h := h.1 c
      refine g_iload_n (q := 1) (i := 1) (by decide +kernel) rfl rfl ?_
      refine g_iload_n (q := 2) (i := 2) (by decide +kernel) rfl rfl ?_
      refine g_callSN (index := 49) (host := "ThreePoints") (vs := [vi x2]) (st := [vi x1]) (by decide +kernel) xm_Main_across (by decide +kernel) kw_647 rfl rfl (Nat.le_of_ble_eq_true rfl) (Nat.le_of_ble_eq_true rfl) h (fun vH1 H1 hq => ?_)
      obtain ⟨r2, rfl, h⟩ := hq
      refine g_aload_n (q := 0) (i := 0) (by decide +kernel) rfl rfl ?_
      refine g_get (C := "ThreePoints$Ride") (T := xT_Ride) (N := 4) (ci := 8) (k := 1) (v := vr 3 8) (by decide +kernel) (by decide) rfl rfl xi_Ride (by decide) kw_262 rfl ?_
      refine g_callV (kd := 3) (ix := 8) (ci := 3) (N := 7) (T := xT_Vehicle) (vs := []) (st := [vi r2, vi x1]) (by decide +kernel) xm_Vehicle_front kw_651 kw_652 kw_653 (by decide) rfl rfl rfl rfl (Nat.le_of_ble_eq_true rfl) (Nat.le_of_ble_eq_true rfl) h (fun vH3 H3 hq => ?_)
      obtain ⟨r4, rfl, h⟩ := hq
      refine g_imul (by decide +kernel) ?_
      refine g_bipush (n := 8) (v := 8) (by decide +kernel) (by decide) ?_
      refine g_idiv (by decide +kernel) (by decide) ?_
      refine g_iadd (by decide +kernel) ?_
      refine g_topi (fun v5 ev5 => ?_)
      replace h := h v5 ev5
      refine g_istore_n (q := 3) (i := 3) (ls2 := [some (vr 19 0), some (vi x1), some (vi x2), some (vi v5), none, none, none, none]) (by decide +kernel) rfl (by decide) rfl rfl ?_
      refine g_iload_n (q := 1) (i := 1) (by decide +kernel) rfl rfl ?_
      refine g_iload_n (q := 2) (i := 2) (by decide +kernel) rfl rfl ?_
      refine g_callSN (index := 49) (host := "ThreePoints") (vs := [vi x2]) (st := [vi x1]) (by decide +kernel) xm_Main_across (by decide +kernel) kw_647 rfl rfl (Nat.le_of_ble_eq_true rfl) (Nat.le_of_ble_eq_true rfl) h (fun vH6 H6 hq => ?_)
      obtain ⟨r7, rfl, h⟩ := hq
      refine g_aload_n (q := 0) (i := 0) (by decide +kernel) rfl rfl ?_
      refine g_get (C := "ThreePoints$Ride") (T := xT_Ride) (N := 4) (ci := 8) (k := 1) (v := vr 3 8) (by decide +kernel) (by decide) rfl rfl xi_Ride (by decide) kw_262 rfl ?_
      refine g_callV (kd := 3) (ix := 8) (ci := 3) (N := 7) (T := xT_Vehicle) (vs := []) (st := [vi r7, vi x1]) (by decide +kernel) xm_Vehicle_behind kw_655 kw_656 kw_657 (by decide) rfl rfl rfl rfl (Nat.le_of_ble_eq_true rfl) (Nat.le_of_ble_eq_true rfl) h (fun vH8 H8 hq => ?_)
      obtain ⟨r9, rfl, h⟩ := hq
      refine g_imul (by decide +kernel) ?_
      refine g_bipush (n := 8) (v := 8) (by decide +kernel) (by decide) ?_
      refine g_idiv (by decide +kernel) (by decide) ?_
      refine g_isub (by decide +kernel) ?_
      refine g_topi (fun v10 ev10 => ?_)
      replace h := h v10 ev10
      refine g_istore (i := 4) (ls2 := [some (vr 19 0), some (vi x1), some (vi x2), some (vi v5), some (vi v10), none, none, none]) (by decide +kernel) (by decide) rfl rfl ?_
      refine g_iload_n (q := 1) (i := 1) (by decide +kernel) rfl rfl ?_
      refine g_iload_n (q := 3) (i := 3) (by decide +kernel) rfl rfl ?_
      refine g_iload (i := 4) (by decide +kernel) rfl ?_
      refine g_mmin (by decide +kernel) kw_659 kw_463 kw_79 kw_464 (Nat.le_of_ble_eq_true rfl) ?_
      refine g_mmin (by decide +kernel) kw_659 kw_463 kw_79 kw_464 (Nat.le_of_ble_eq_true rfl) ?_
      refine g_topi (fun v11 ev11 => ?_)
      replace h := h v11 ev11
      refine g_istore (i := 5) (ls2 := [some (vr 19 0), some (vi x1), some (vi x2), some (vi v5), some (vi v10), some (vi v11), none, none]) (by decide +kernel) (by decide) rfl rfl ?_
      refine g_iload (i := 5) (by decide +kernel) rfl ?_
      refine g_aload_n (q := 0) (i := 0) (by decide +kernel) rfl rfl ?_
      refine g_iconst (n := 0) (v := 0) (by decide +kernel) (by decide) ?_
      refine g_iload_n (q := 1) (i := 1) (by decide +kernel) rfl rfl ?_
      refine g_iload_n (q := 2) (i := 2) (by decide +kernel) rfl rfl ?_
      refine g_iconst (n := 0) (v := 0) (by decide +kernel) (by decide) ?_
      refine g_iconst (n := 0) (v := 0) (by decide +kernel) (by decide) ?_
      refine g_callV (kd := 19) (ix := 0) (ci := 8) (N := 4) (T := xT_Ride) (vs := [vi 0, vi x1, vi x2, vi 0, vi 0]) (st := [vi v11]) (by decide +kernel) xm_Ride_says kw_660 kw_661 kw_662 (by decide) rfl rfl rfl rfl (Nat.le_of_ble_eq_true rfl) (Nat.le_of_ble_eq_true rfl) h (fun vH12 H12 hq => ?_)
      obtain ⟨r13, rfl, h⟩ := hq
      refine g_icmp_ge (off := 5) (tgt := 82) (by decide +kernel) (by decide) (fun c => ?_) (fun c => ?_)
      · replace h := h.1 c
        refine g_iload_n (q := 1) (i := 1) (by decide +kernel) rfl rfl ?_
        refine g_iload_n (q := 3) (i := 3) (by decide +kernel) rfl rfl ?_
        refine g_iload (i := 4) (by decide +kernel) rfl ?_
        refine g_mmax (by decide +kernel) kw_678 kw_460 kw_79 kw_461 (Nat.le_of_ble_eq_true rfl) ?_
        refine g_mmax (by decide +kernel) kw_678 kw_460 kw_79 kw_461 (Nat.le_of_ble_eq_true rfl) ?_
        refine g_topi (fun v14 ev14 => ?_)
        replace h := h v14 ev14
        refine g_istore (i := 6) (ls2 := [some (vr 19 0), some (vi x1), some (vi x2), some (vi v5), some (vi v10), some (vi v11), some (vi v14), none]) (by decide +kernel) (by decide) rfl rfl ?_
        refine g_iload_n (q := 2) (i := 2) (by decide +kernel) rfl rfl ?_
        refine g_callS (vs := [vi x2]) (st := []) (by decide +kernel) xm_Ride_isAtOpening kw_679 kw_680 rfl rfl (Nat.le_of_ble_eq_true rfl) (Nat.le_of_ble_eq_true rfl) h (fun vH15 H15 hq => ?_)
        obtain ⟨r16, rfl, h⟩ := hq
        suffices hj17 : g_Ride_fits E (d + 1) 126 [some (vr 19 0), some (vi x1), some (vi x2), some (vi v5), some (vi v10), some (vi v11), some (vi v14), none] [vi (if r16 = 0 then (H15 2 2 0) else ((H15 2 2 0) + (H15 2 2 1)) : Int32)] H15 (qi Q) by
          refine g_if_eq (off := 21) (tgt := 119) (by decide +kernel) (by decide) (fun c => ?_) (fun c => ?_)
          · rw [if_pos c] at hj17
            refine g_aload_n (q := 0) (i := 0) (by decide +kernel) rfl rfl ?_
            refine g_get (C := "ThreePoints$Ride") (T := xT_Ride) (N := 4) (ci := 8) (k := 0) (v := vr 2 2) (by decide +kernel) (by decide) rfl rfl xi_Ride (by decide) kw_259 rfl ?_
            refine g_get (C := "ThreePoints$Lane") (T := xT_Lane) (N := 3) (ci := 2) (k := 0) (v := vi (H15 2 2 0)) (by decide +kernel) (by decide) rfl rfl xi_Lane (by decide) kw_105 rfl ?_
            exact hj17
          · rw [if_neg c] at hj17
            refine g_aload_n (q := 0) (i := 0) (by decide +kernel) rfl rfl ?_
            refine g_get (C := "ThreePoints$Ride") (T := xT_Ride) (N := 4) (ci := 8) (k := 0) (v := vr 2 2) (by decide +kernel) (by decide) rfl rfl xi_Ride (by decide) kw_259 rfl ?_
            refine g_get (C := "ThreePoints$Lane") (T := xT_Lane) (N := 3) (ci := 2) (k := 0) (v := vi (H15 2 2 0)) (by decide +kernel) (by decide) rfl rfl xi_Lane (by decide) kw_105 rfl ?_
            refine g_aload_n (q := 0) (i := 0) (by decide +kernel) rfl rfl ?_
            refine g_get (C := "ThreePoints$Ride") (T := xT_Ride) (N := 4) (ci := 8) (k := 0) (v := vr 2 2) (by decide +kernel) (by decide) rfl rfl xi_Ride (by decide) kw_259 rfl ?_
            refine g_get (C := "ThreePoints$Lane") (T := xT_Lane) (N := 3) (ci := 2) (k := 1) (v := vi (H15 2 2 1)) (by decide +kernel) (by decide) rfl rfl xi_Lane (by decide) kw_110 rfl ?_
            refine g_iadd (by decide +kernel) ?_
            refine g_goto (off := 10) (tgt := 126) (by decide +kernel) (by decide) ?_
            exact hj17
        refine g_topi (fun v18 ev18 => ?_)
        replace h := h v18 ev18
        refine g_istore (i := 7) (ls2 := [some (vr 19 0), some (vi x1), some (vi x2), some (vi v5), some (vi v10), some (vi v11), some (vi v14), some (vi v18)]) (by decide +kernel) (by decide) rfl rfl ?_
        refine g_iload (i := 6) (by decide +kernel) rfl ?_
        refine g_iload (i := 7) (by decide +kernel) rfl ?_
        refine g_aload_n (q := 0) (i := 0) (by decide +kernel) rfl rfl ?_
        refine g_iconst (n := 0) (v := 0) (by decide +kernel) (by decide) ?_
        refine g_iload_n (q := 1) (i := 1) (by decide +kernel) rfl rfl ?_
        refine g_iload_n (q := 2) (i := 2) (by decide +kernel) rfl rfl ?_
        refine g_iconst (n := 1) (v := 1) (by decide +kernel) (by decide) ?_
        refine g_iconst (n := 0) (v := 0) (by decide +kernel) (by decide) ?_
        refine g_callV (kd := 19) (ix := 0) (ci := 8) (N := 4) (T := xT_Ride) (vs := [vi 0, vi x1, vi x2, vi 1, vi 0]) (st := [vi v18, vi v14]) (by decide +kernel) xm_Ride_says kw_660 kw_661 kw_662 (by decide) rfl rfl rfl rfl (Nat.le_of_ble_eq_true rfl) (Nat.le_of_ble_eq_true rfl) h (fun vH19 H19 hq => ?_)
        obtain ⟨r20, rfl, h⟩ := hq
        refine g_isub (by decide +kernel) ?_
        suffices hj21 : g_Ride_fits E (d + 1) 150 [some (vr 19 0), some (vi x1), some (vi x2), some (vi v5), some (vi v10), some (vi v11), some (vi v14), some (vi v18)] [vi (if (v18 - r20) < v14 then 0 else 1 : Int32)] H19 (qi Q) by
          refine g_icmp_gt (off := 7) (tgt := 149) (by decide +kernel) (by decide) (fun c => ?_) (fun c => ?_)
          · rw [if_pos c] at hj21
            refine g_iconst (n := 0) (v := 0) (by decide +kernel) (by decide) ?_
            exact hj21
          · rw [if_neg c] at hj21
            refine g_iconst (n := 1) (v := 1) (by decide +kernel) (by decide) ?_
            refine g_goto (off := 4) (tgt := 150) (by decide +kernel) (by decide) ?_
            exact hj21
        obtain ⟨h01, h⟩ := h
        exact g_zret (by decide +kernel) rfl (nbool h01) ⟨_, rfl, h⟩
      · replace h := h.2 c
        refine g_iconst (n := 0) (v := 0) (by decide +kernel) (by decide) ?_
        exact g_zret (by decide +kernel) rfl rfl ⟨_, rfl, h⟩
    · replace h := h.2 c
      refine g_iconst (n := 0) (v := 0) (by decide +kernel) (by decide) ?_
      exact g_zret (by decide +kernel) rfl rfl ⟨_, rfl, h⟩
def p_Ride_fitsNow (E : XE) (d : Nat)  (H : HH) (Q : Int32 → HH → Prop) : Prop := c_Ride_fits E d (H 3 8 2) (H 3 8 3) H (fun r2 H1 => (r2 = 0 ∨ r2 = 1) ∧ Q r2 H1)
set_option maxHeartbeats 4000000 in
theorem l_Ride_fitsNow {E : XE} {d : Nat}  {H : HH} {Q : Int32 → HH → Prop} (h : p_Ride_fitsNow E d  H Q) : c_Ride_fitsNow E (d + 1)  H Q := by
  show g_Ride_fitsNow E (d + 1) 0 (xent [vr 19 0]) [] H (qi Q)
  refine g_drop (ls2 := [some (vr 19 0)]) (And.intro rfl trivial) ?_
  refine g_aload_n (q := 0) (i := 0) (by decide +kernel) rfl rfl ?_
  refine g_aload_n (q := 0) (i := 0) (by decide +kernel) rfl rfl ?_
  refine g_get (C := "ThreePoints$Ride") (T := xT_Ride) (N := 4) (ci := 8) (k := 1) (v := vr 3 8) (by decide +kernel) (by decide) rfl rfl xi_Ride (by decide) kw_262 rfl ?_
  refine g_get (C := "ThreePoints$Vehicle") (T := xT_Vehicle) (N := 7) (ci := 3) (k := 2) (v := vi (H 3 8 2)) (by decide +kernel) (by decide) rfl rfl xi_Vehicle (by decide) kw_133 rfl ?_
  refine g_aload_n (q := 0) (i := 0) (by decide +kernel) rfl rfl ?_
  refine g_get (C := "ThreePoints$Ride") (T := xT_Ride) (N := 4) (ci := 8) (k := 1) (v := vr 3 8) (by decide +kernel) (by decide) rfl rfl xi_Ride (by decide) kw_262 rfl ?_
  refine g_get (C := "ThreePoints$Vehicle") (T := xT_Vehicle) (N := 7) (ci := 3) (k := 3) (v := vi (H 3 8 3)) (by decide +kernel) (by decide) rfl rfl xi_Vehicle (by decide) kw_137 rfl ?_
  refine g_callV (kd := 19) (ix := 0) (ci := 8) (N := 4) (T := xT_Ride) (vs := [vi (H 3 8 2), vi (H 3 8 3)]) (st := []) (by decide +kernel) xm_Ride_fits kw_642 kw_643 kw_644 (by decide) rfl rfl rfl rfl (Nat.le_of_ble_eq_true rfl) (Nat.le_of_ble_eq_true rfl) h (fun vH1 H1 hq => ?_)
  obtain ⟨r2, rfl, h⟩ := hq
  obtain ⟨h01, h⟩ := h
  exact g_zret (by decide +kernel) rfl (nbool h01) ⟨_, rfl, h⟩
def p_Ride_shift (E : XE) (d : Nat) (x0 : Int32) (x1 : Int32) (H : HH) (Q : Int32 → HH → Prop) : Prop := c_Main_across E d x0 H (fun r2 H1 => Q (if x1 = 0 then (r2 / 2) else (-(r2 / 2)) : Int32) H1)
set_option maxHeartbeats 4000000 in
theorem l_Ride_shift {E : XE} {d : Nat} {x0 : Int32} {x1 : Int32} {H : HH} {Q : Int32 → HH → Prop} (h : p_Ride_shift E d x0 x1 H Q) : c_Ride_shift E (d + 1) x0 x1 H Q := by
  show g_Ride_shift E (d + 1) 0 (xent [vi x0, vi x1]) [] H (qi Q)
  refine g_drop (ls2 := [some (vi x0), some (vi x1), none]) (And.intro rfl (And.intro rfl trivial)) ?_
  refine g_iload_n (q := 0) (i := 0) (by decide +kernel) rfl rfl ?_
  refine g_callSN (index := 49) (host := "ThreePoints") (vs := [vi x0]) (st := []) (by decide +kernel) xm_Main_across (by decide +kernel) kw_647 rfl rfl (Nat.le_of_ble_eq_true rfl) (Nat.le_of_ble_eq_true rfl) h (fun vH1 H1 hq => ?_)
  obtain ⟨r2, rfl, h⟩ := hq
  refine g_iconst (n := 2) (v := 2) (by decide +kernel) (by decide) ?_
  refine g_idiv (by decide +kernel) (by decide) ?_
  refine g_istore_n (q := 2) (i := 2) (ls2 := [some (vi x0), some (vi x1), some (vi (r2 / 2))]) (by decide +kernel) rfl (by decide) rfl rfl ?_
  refine g_iload_n (q := 1) (i := 1) (by decide +kernel) rfl rfl ?_
  suffices hj3 : g_Ride_shift E (d + 1) 17 [some (vi x0), some (vi x1), some (vi (r2 / 2))] [vi (if x1 = 0 then (r2 / 2) else (-(r2 / 2)) : Int32)] H1 (qi Q) by
    refine g_if_ne (off := 7) (tgt := 15) (by decide +kernel) (by decide) (fun c => ?_) (fun c => ?_)
    · rw [if_neg c] at hj3
      refine g_iload_n (q := 2) (i := 2) (by decide +kernel) rfl rfl ?_
      refine g_ineg (by decide +kernel) ?_
      exact hj3
    · rw [if_pos c] at hj3
      refine g_iload_n (q := 2) (i := 2) (by decide +kernel) rfl rfl ?_
      refine g_goto (off := 5) (tgt := 17) (by decide +kernel) (by decide) ?_
      exact hj3
  exact g_iret (by decide +kernel) rfl ⟨_, rfl, h⟩
def p_Ride_turnedBy (E : XE) (d : Nat) (x1 : Int32) (x2 : Int32) (x3 : Int32) (H : HH) (Q : Int32 → HH → Prop) : Prop := c_Vehicle_turns E d 8 x2 x3 H (fun r2 H1 => Q ((x1 + r2) &&& 15) H1)
set_option maxHeartbeats 4000000 in
theorem l_Ride_turnedBy {E : XE} {d : Nat} {x1 : Int32} {x2 : Int32} {x3 : Int32} {H : HH} {Q : Int32 → HH → Prop} (h : p_Ride_turnedBy E d x1 x2 x3 H Q) : c_Ride_turnedBy E (d + 1) x1 x2 x3 H Q := by
  show g_Ride_turnedBy E (d + 1) 0 (xent [vr 19 0, vi x1, vi x2, vi x3]) [] H (qi Q)
  refine g_drop (ls2 := [some (vr 19 0), some (vi x1), some (vi x2), some (vi x3)]) (And.intro rfl (And.intro rfl (And.intro rfl (And.intro rfl trivial)))) ?_
  refine g_iload_n (q := 1) (i := 1) (by decide +kernel) rfl rfl ?_
  refine g_aload_n (q := 0) (i := 0) (by decide +kernel) rfl rfl ?_
  refine g_get (C := "ThreePoints$Ride") (T := xT_Ride) (N := 4) (ci := 8) (k := 1) (v := vr 3 8) (by decide +kernel) (by decide) rfl rfl xi_Ride (by decide) kw_262 rfl ?_
  refine g_iload_n (q := 2) (i := 2) (by decide +kernel) rfl rfl ?_
  refine g_iload_n (q := 3) (i := 3) (by decide +kernel) rfl rfl ?_
  refine g_callV (kd := 3) (ix := 8) (ci := 3) (N := 7) (T := xT_Vehicle) (vs := [vi x2, vi x3]) (st := [vi x1]) (by decide +kernel) xm_Vehicle_turns kw_752 kw_753 kw_754 (by decide) rfl rfl rfl rfl (Nat.le_of_ble_eq_true rfl) (Nat.le_of_ble_eq_true rfl) h (fun vH1 H1 hq => ?_)
  obtain ⟨r2, rfl, h⟩ := hq
  refine g_iadd (by decide +kernel) ?_
  refine g_bipush (n := 15) (v := 15) (by decide +kernel) (by decide) ?_
  refine g_iand (by decide +kernel) ?_
  exact g_iret (by decide +kernel) rfl ⟨_, rfl, h⟩
def p_Ride_wears (E : XE) (d : Nat) (x1 : Int32) (x2 : Int32) (x3 : Int32) (H : HH) (Q : Int32 → HH → Prop) : Prop := c_Ride_says E d 1 x1 x2 0 (if x3 = 0 then 0 else 1 : Int32) H (fun r3 H2 => Q r3 H2)
set_option maxHeartbeats 4000000 in
theorem l_Ride_wears {E : XE} {d : Nat} {x1 : Int32} {x2 : Int32} {x3 : Int32} {H : HH} {Q : Int32 → HH → Prop} (h : p_Ride_wears E d x1 x2 x3 H Q) : c_Ride_wears E (d + 1) x1 x2 x3 H Q := by
  show g_Ride_wears E (d + 1) 0 (xent [vr 19 0, vi x1, vi x2, vi x3]) [] H (qi Q)
  refine g_drop (ls2 := [some (vr 19 0), some (vi x1), some (vi x2), some (vi x3)]) (And.intro rfl (And.intro rfl (And.intro rfl (And.intro rfl trivial)))) ?_
  refine g_aload_n (q := 0) (i := 0) (by decide +kernel) rfl rfl ?_
  refine g_iconst (n := 1) (v := 1) (by decide +kernel) (by decide) ?_
  refine g_iload_n (q := 1) (i := 1) (by decide +kernel) rfl rfl ?_
  refine g_iload_n (q := 2) (i := 2) (by decide +kernel) rfl rfl ?_
  refine g_iconst (n := 0) (v := 0) (by decide +kernel) (by decide) ?_
  refine g_iload_n (q := 3) (i := 3) (by decide +kernel) rfl rfl ?_
  suffices hj1 : g_Ride_wears E (d + 1) 14 [some (vr 19 0), some (vi x1), some (vi x2), some (vi x3)] [vi (if x3 = 0 then 0 else 1 : Int32), vi 0, vi x2, vi x1, vi 1, vr 19 0] H (qi Q) by
    refine g_if_ne (off := 7) (tgt := 13) (by decide +kernel) (by decide) (fun c => ?_) (fun c => ?_)
    · rw [if_neg c] at hj1
      refine g_iconst (n := 1) (v := 1) (by decide +kernel) (by decide) ?_
      exact hj1
    · rw [if_pos c] at hj1
      refine g_iconst (n := 0) (v := 0) (by decide +kernel) (by decide) ?_
      refine g_goto (off := 4) (tgt := 14) (by decide +kernel) (by decide) ?_
      exact hj1
  refine g_callV (kd := 19) (ix := 0) (ci := 8) (N := 4) (T := xT_Ride) (vs := [vi 1, vi x1, vi x2, vi 0, vi (if x3 = 0 then 0 else 1 : Int32)]) (st := []) (by decide +kernel) xm_Ride_says kw_660 kw_661 kw_662 (by decide) rfl rfl rfl rfl (Nat.le_of_ble_eq_true rfl) (Nat.le_of_ble_eq_true rfl) h (fun vH2 H2 hq => ?_)
  obtain ⟨r3, rfl, h⟩ := hq
  exact g_iret (by decide +kernel) rfl ⟨_, rfl, h⟩
def p_Ride_go (E : XE) (d : Nat) (x1 : Int32) (x2 : Int32) (H : HH) (Q : Int32 → HH → Prop) : Prop := c_Ride_shift E d (H 3 8 3) x1 H (fun r2 H1 => ∀ v3 : Int32, v3 = ((H 3 8 2) + r2) → (c_Ride_turnedBy E d (H1 3 8 3) x1 x2 H1 (fun r5 H4 => c_Ride_fits E d v3 r5 H4 (fun r7 H6 => (¬ r7 = 0 → (c_Ride_wears E d (H6 3 8 2) (H6 3 8 3) x2 H6 (fun r9 H8 => c_Vehicle_stepTo E d 8 v3 r5 x1 r9 H8 (fun H10 => Q 1 H10)))) ∧ (r7 = 0 → (Q 0 H6))))))
set_option maxHeartbeats 4000000 in
theorem l_Ride_go {E : XE} {d : Nat} {x1 : Int32} {x2 : Int32} {H : HH} {Q : Int32 → HH → Prop} (h : p_Ride_go E d x1 x2 H Q) : c_Ride_go E (d + 1) x1 x2 H Q := by
  show g_Ride_go E (d + 1) 0 (xent [vr 19 0, vi x1, vi x2]) [] H (qi Q)
  refine g_drop (ls2 := [some (vr 19 0), some (vi x1), some (vi x2), none, none]) (And.intro rfl (And.intro rfl (And.intro rfl trivial))) ?_
  refine g_aload_n (q := 0) (i := 0) (by decide +kernel) rfl rfl ?_
  refine g_get (C := "ThreePoints$Ride") (T := xT_Ride) (N := 4) (ci := 8) (k := 1) (v := vr 3 8) (by decide +kernel) (by decide) rfl rfl xi_Ride (by decide) kw_262 rfl ?_
  refine g_get (C := "ThreePoints$Vehicle") (T := xT_Vehicle) (N := 7) (ci := 3) (k := 2) (v := vi (H 3 8 2)) (by decide +kernel) (by decide) rfl rfl xi_Vehicle (by decide) kw_133 rfl ?_
  refine g_aload_n (q := 0) (i := 0) (by decide +kernel) rfl rfl ?_
  refine g_get (C := "ThreePoints$Ride") (T := xT_Ride) (N := 4) (ci := 8) (k := 1) (v := vr 3 8) (by decide +kernel) (by decide) rfl rfl xi_Ride (by decide) kw_262 rfl ?_
  refine g_get (C := "ThreePoints$Vehicle") (T := xT_Vehicle) (N := 7) (ci := 3) (k := 3) (v := vi (H 3 8 3)) (by decide +kernel) (by decide) rfl rfl xi_Vehicle (by decide) kw_137 rfl ?_
  refine g_iload_n (q := 1) (i := 1) (by decide +kernel) rfl rfl ?_
  refine g_callS (vs := [vi (H 3 8 3), vi x1]) (st := [vi (H 3 8 2)]) (by decide +kernel) xm_Ride_shift kw_745 kw_746 rfl rfl (Nat.le_of_ble_eq_true rfl) (Nat.le_of_ble_eq_true rfl) h (fun vH1 H1 hq => ?_)
  obtain ⟨r2, rfl, h⟩ := hq
  refine g_iadd (by decide +kernel) ?_
  refine g_topi (fun v3 ev3 => ?_)
  replace h := h v3 ev3
  refine g_istore_n (q := 3) (i := 3) (ls2 := [some (vr 19 0), some (vi x1), some (vi x2), some (vi v3), none]) (by decide +kernel) rfl (by decide) rfl rfl ?_
  refine g_aload_n (q := 0) (i := 0) (by decide +kernel) rfl rfl ?_
  refine g_aload_n (q := 0) (i := 0) (by decide +kernel) rfl rfl ?_
  refine g_get (C := "ThreePoints$Ride") (T := xT_Ride) (N := 4) (ci := 8) (k := 1) (v := vr 3 8) (by decide +kernel) (by decide) rfl rfl xi_Ride (by decide) kw_262 rfl ?_
  refine g_get (C := "ThreePoints$Vehicle") (T := xT_Vehicle) (N := 7) (ci := 3) (k := 3) (v := vi (H1 3 8 3)) (by decide +kernel) (by decide) rfl rfl xi_Vehicle (by decide) kw_137 rfl ?_
  refine g_iload_n (q := 1) (i := 1) (by decide +kernel) rfl rfl ?_
  refine g_iload_n (q := 2) (i := 2) (by decide +kernel) rfl rfl ?_
  refine g_callV (kd := 19) (ix := 0) (ci := 8) (N := 4) (T := xT_Ride) (vs := [vi (H1 3 8 3), vi x1, vi x2]) (st := []) (by decide +kernel) xm_Ride_turnedBy kw_748 kw_749 kw_750 (by decide) rfl rfl rfl rfl (Nat.le_of_ble_eq_true rfl) (Nat.le_of_ble_eq_true rfl) h (fun vH4 H4 hq => ?_)
  obtain ⟨r5, rfl, h⟩ := hq
  refine g_istore (i := 4) (ls2 := [some (vr 19 0), some (vi x1), some (vi x2), some (vi v3), some (vi r5)]) (by decide +kernel) (by decide) rfl rfl ?_
  refine g_aload_n (q := 0) (i := 0) (by decide +kernel) rfl rfl ?_
  refine g_iload_n (q := 3) (i := 3) (by decide +kernel) rfl rfl ?_
  refine g_iload (i := 4) (by decide +kernel) rfl ?_
  refine g_callV (kd := 19) (ix := 0) (ci := 8) (N := 4) (T := xT_Ride) (vs := [vi v3, vi r5]) (st := []) (by decide +kernel) xm_Ride_fits kw_642 kw_643 kw_644 (by decide) rfl rfl rfl rfl (Nat.le_of_ble_eq_true rfl) (Nat.le_of_ble_eq_true rfl) h (fun vH6 H6 hq => ?_)
  obtain ⟨r7, rfl, h⟩ := hq
  refine g_if_ne (off := 5) (tgt := 47) (by decide +kernel) (by decide) (fun c => ?_) (fun c => ?_)
  · replace h := h.1 c
    refine g_aload_n (q := 0) (i := 0) (by decide +kernel) rfl rfl ?_
    refine g_get (C := "ThreePoints$Ride") (T := xT_Ride) (N := 4) (ci := 8) (k := 1) (v := vr 3 8) (by decide +kernel) (by decide) rfl rfl xi_Ride (by decide) kw_262 rfl ?_
    refine g_iload_n (q := 3) (i := 3) (by decide +kernel) rfl rfl ?_
    refine g_iload (i := 4) (by decide +kernel) rfl ?_
    refine g_iload_n (q := 1) (i := 1) (by decide +kernel) rfl rfl ?_
    refine g_aload_n (q := 0) (i := 0) (by decide +kernel) rfl rfl ?_
    refine g_aload_n (q := 0) (i := 0) (by decide +kernel) rfl rfl ?_
    refine g_get (C := "ThreePoints$Ride") (T := xT_Ride) (N := 4) (ci := 8) (k := 1) (v := vr 3 8) (by decide +kernel) (by decide) rfl rfl xi_Ride (by decide) kw_262 rfl ?_
    refine g_get (C := "ThreePoints$Vehicle") (T := xT_Vehicle) (N := 7) (ci := 3) (k := 2) (v := vi (H6 3 8 2)) (by decide +kernel) (by decide) rfl rfl xi_Vehicle (by decide) kw_133 rfl ?_
    refine g_aload_n (q := 0) (i := 0) (by decide +kernel) rfl rfl ?_
    refine g_get (C := "ThreePoints$Ride") (T := xT_Ride) (N := 4) (ci := 8) (k := 1) (v := vr 3 8) (by decide +kernel) (by decide) rfl rfl xi_Ride (by decide) kw_262 rfl ?_
    refine g_get (C := "ThreePoints$Vehicle") (T := xT_Vehicle) (N := 7) (ci := 3) (k := 3) (v := vi (H6 3 8 3)) (by decide +kernel) (by decide) rfl rfl xi_Vehicle (by decide) kw_137 rfl ?_
    refine g_iload_n (q := 2) (i := 2) (by decide +kernel) rfl rfl ?_
    refine g_callV (kd := 19) (ix := 0) (ci := 8) (N := 4) (T := xT_Ride) (vs := [vi (H6 3 8 2), vi (H6 3 8 3), vi x2]) (st := [vi x1, vi r5, vi v3, vr 3 8]) (by decide +kernel) xm_Ride_wears kw_756 kw_757 kw_758 (by decide) rfl rfl rfl rfl (Nat.le_of_ble_eq_true rfl) (Nat.le_of_ble_eq_true rfl) h (fun vH8 H8 hq => ?_)
    obtain ⟨r9, rfl, h⟩ := hq
    refine g_callV (kd := 3) (ix := 8) (ci := 3) (N := 7) (T := xT_Vehicle) (vs := [vi v3, vi r5, vi x1, vi r9]) (st := []) (by decide +kernel) xm_Vehicle_stepTo kw_760 kw_761 kw_762 (by decide) rfl rfl rfl rfl (Nat.le_of_ble_eq_true rfl) (Nat.le_of_ble_eq_true rfl) h (fun vH10 H10 hq => ?_)
    replace h := hq
    refine g_iconst (n := 1) (v := 1) (by decide +kernel) (by decide) ?_
    exact g_zret (by decide +kernel) rfl rfl ⟨_, rfl, h⟩
  · replace h := h.2 c
    refine g_iconst (n := 0) (v := 0) (by decide +kernel) (by decide) ?_
    exact g_zret (by decide +kernel) rfl rfl ⟨_, rfl, h⟩
def p_Search_state (E : XE) (d : Nat) (x0 : Int32) (x1 : Int32) (x2 : Int32) (H : HH) (Q : Int32 → HH → Prop) : Prop := ∀ v1 : Int32, v1 = (xmax 0 (xmin x0 60)) → (Q ((((v1 * 16) + (x1 &&& 15)) * 2) + (x2 &&& 1)) H)
set_option maxHeartbeats 4000000 in
theorem l_Search_state {E : XE} {d : Nat} {x0 : Int32} {x1 : Int32} {x2 : Int32} {H : HH} {Q : Int32 → HH → Prop} (h : p_Search_state E d x0 x1 x2 H Q) : c_Search_state E (d + 1) x0 x1 x2 H Q := by
  show g_Search_state E (d + 1) 0 (xent [vi x0, vi x1, vi x2]) [] H (qi Q)
  refine g_drop (ls2 := [some (vi x0), some (vi x1), some (vi x2), none]) (And.intro rfl (And.intro rfl (And.intro rfl trivial))) ?_
  refine g_iconst (n := 0) (v := 0) (by decide +kernel) (by decide) ?_
  refine g_iload_n (q := 0) (i := 0) (by decide +kernel) rfl rfl ?_
  refine g_bipush (n := 60) (v := 60) (by decide +kernel) (by decide) ?_
  refine g_mmin (by decide +kernel) kw_786 kw_463 kw_79 kw_464 (Nat.le_of_ble_eq_true rfl) ?_
  refine g_mmax (by decide +kernel) kw_787 kw_460 kw_79 kw_461 (Nat.le_of_ble_eq_true rfl) ?_
  refine g_topi (fun v1 ev1 => ?_)
  replace h := h v1 ev1
  refine g_istore_n (q := 3) (i := 3) (ls2 := [some (vi x0), some (vi x1), some (vi x2), some (vi v1)]) (by decide +kernel) rfl (by decide) rfl rfl ?_
  refine g_iload_n (q := 3) (i := 3) (by decide +kernel) rfl rfl ?_
  refine g_bipush (n := 16) (v := 16) (by decide +kernel) (by decide) ?_
  refine g_imul (by decide +kernel) ?_
  refine g_iload_n (q := 1) (i := 1) (by decide +kernel) rfl rfl ?_
  refine g_bipush (n := 15) (v := 15) (by decide +kernel) (by decide) ?_
  refine g_iand (by decide +kernel) ?_
  refine g_iadd (by decide +kernel) ?_
  refine g_iconst (n := 2) (v := 2) (by decide +kernel) (by decide) ?_
  refine g_imul (by decide +kernel) ?_
  refine g_iload_n (q := 2) (i := 2) (by decide +kernel) rfl rfl ?_
  refine g_iconst (n := 1) (v := 1) (by decide +kernel) (by decide) ?_
  refine g_iand (by decide +kernel) ?_
  refine g_iadd (by decide +kernel) ?_
  exact g_iret (by decide +kernel) rfl ⟨_, rfl, h⟩
def p_Search_unlink (E : XE) (d : Nat) (x1 : Int32) (H : HH) (Q : HH → Prop) : Prop := (x1 < 0 → (Q H)) ∧ (¬ x1 < 0 → ((x1 < 1952 → (vp_in x1 1952 ∧ (∀ v1 : Int32, v1 = (H 25 0 (x1.toNatClampNeg)) → (vp_in x1 1952 ∧ (∀ v2 : Int32, v2 = (H 26 0 (x1.toNatClampNeg)) → ((v2 < 0 → (vp_in x1 1952 ∧ (vp_in (xrem (H 23 0 (x1.toNatClampNeg)) 128) 128 ∧ (∀ H3 : HH, H3 = (hu H 24 0 ((xrem (H 23 0 (x1.toNatClampNeg)) 128).toNatClampNeg) v1) → ((v1 < 0 → (∀ H4 : HH, H4 = (hu H3 21 0 6 ((H3 21 0 6) - 1)) → (Q H4))) ∧ (¬ v1 < 0 → ((1952 ≤ v1 → (∀ H5 : HH, H5 = (hu H3 21 0 6 ((H3 21 0 6) - 1)) → (Q H5))) ∧ (¬ 1952 ≤ v1 → (vp_in v1 1952 ∧ (∀ H6 : HH, H6 = (hu H3 26 0 (v1.toNatClampNeg) v2) → (∀ H7 : HH, H7 = (hu H6 21 0 6 ((H6 21 0 6) - 1)) → (Q H7)))))))))))) ∧ (¬ v2 < 0 → ((1952 ≤ v2 → (vp_in x1 1952 ∧ (vp_in (xrem (H 23 0 (x1.toNatClampNeg)) 128) 128 ∧ (∀ H8 : HH, H8 = (hu H 24 0 ((xrem (H 23 0 (x1.toNatClampNeg)) 128).toNatClampNeg) v1) → ((v1 < 0 → (∀ H9 : HH, H9 = (hu H8 21 0 6 ((H8 21 0 6) - 1)) → (Q H9))) ∧ (¬ v1 < 0 → ((1952 ≤ v1 → (∀ H10 : HH, H10 = (hu H8 21 0 6 ((H8 21 0 6) - 1)) → (Q H10))) ∧ (¬ 1952 ≤ v1 → (vp_in v1 1952 ∧ (∀ H11 : HH, H11 = (hu H8 26 0 (v1.toNatClampNeg) v2) → (∀ H12 : HH, H12 = (hu H11 21 0 6 ((H11 21 0 6) - 1)) → (Q H12)))))))))))) ∧ (¬ 1952 ≤ v2 → (vp_in v2 1952 ∧ (∀ H13 : HH, H13 = (hu H 25 0 (v2.toNatClampNeg) v1) → ((v1 < 0 → (∀ H14 : HH, H14 = (hu H13 21 0 6 ((H13 21 0 6) - 1)) → (Q H14))) ∧ (¬ v1 < 0 → ((1952 ≤ v1 → (∀ H15 : HH, H15 = (hu H13 21 0 6 ((H13 21 0 6) - 1)) → (Q H15))) ∧ (¬ 1952 ≤ v1 → (vp_in v1 1952 ∧ (∀ H16 : HH, H16 = (hu H13 26 0 (v1.toNatClampNeg) v2) → (∀ H17 : HH, H17 = (hu H16 21 0 6 ((H16 21 0 6) - 1)) → (Q H17))))))))))))))))))) ∧ (¬ x1 < 1952 → (Q H))))
set_option maxHeartbeats 4000000 in
theorem l_Search_unlink {E : XE} {d : Nat} {x1 : Int32} {H : HH} {Q : HH → Prop} (h : p_Search_unlink E d x1 H Q) : c_Search_unlink E d x1 H Q := by
  show g_Search_unlink E d 0 (xent [vr 21 0, vi x1]) [] H (qv Q)
  refine g_drop (ls2 := [some (vr 21 0), some (vi x1), none, none]) (And.intro rfl (And.intro rfl trivial)) ?_
  refine g_iload_n (q := 1) (i := 1) (by decide +kernel) rfl rfl ?_
  refine g_if_lt (off := 10) (tgt := 11) (by decide +kernel) (by decide) (fun c => ?_) (fun c => ?_)
  · replace h := h.1 c
    exact g_vret (by decide +kernel) rfl h
  · replace h := h.2 c
    refine g_iload_n (q := 1) (i := 1) (by decide +kernel) rfl rfl ?_
    refine g_sipush (n := 1952) (v := 1952) (by decide +kernel) (by decide) ?_
    refine g_icmp_lt (off := 4) (tgt := 12) (by decide +kernel) (by decide) (fun c => ?_) (fun c => ?_)
    · replace h := h.1 c
      refine g_aload_n (q := 0) (i := 0) (by decide +kernel) rfl rfl ?_
      refine g_get (C := "ThreePoints$Search") (T := xT_Search) (N := 8) (ci := 9) (k := 4) (v := vr 25 0) (by decide +kernel) (by decide) rfl rfl xi_Search (by decide) kw_287 rfl ?_
      refine g_iload_n (q := 1) (i := 1) (by decide +kernel) rfl rfl ?_
      obtain ⟨hin, h⟩ := h
      refine g_iald (by decide +kernel) (by decide) rfl hin ?_
      refine g_topi (fun v1 ev1 => ?_)
      replace h := h v1 ev1
      refine g_istore_n (q := 2) (i := 2) (ls2 := [some (vr 21 0), some (vi x1), some (vi v1), none]) (by decide +kernel) rfl (by decide) rfl rfl ?_
      refine g_aload_n (q := 0) (i := 0) (by decide +kernel) rfl rfl ?_
      refine g_get (C := "ThreePoints$Search") (T := xT_Search) (N := 8) (ci := 9) (k := 5) (v := vr 26 0) (by decide +kernel) (by decide) rfl rfl xi_Search (by decide) kw_288 rfl ?_
      refine g_iload_n (q := 1) (i := 1) (by decide +kernel) rfl rfl ?_
      obtain ⟨hin, h⟩ := h
      refine g_iald (by decide +kernel) (by decide) rfl hin ?_
      refine g_topi (fun v2 ev2 => ?_)
      replace h := h v2 ev2
      refine g_istore_n (q := 3) (i := 3) (ls2 := [some (vr 21 0), some (vi x1), some (vi v1), some (vi v2)]) (by decide +kernel) rfl (by decide) rfl rfl ?_
      refine g_iload_n (q := 3) (i := 3) (by decide +kernel) rfl rfl ?_
      refine g_if_lt (off := 20) (tgt := 47) (by decide +kernel) (by decide) (fun c => ?_) (fun c => ?_)
      · replace h := h.1 c
        refine g_aload_n (q := 0) (i := 0) (by decide +kernel) rfl rfl ?_
        refine g_get (C := "ThreePoints$Search") (T := xT_Search) (N := 8) (ci := 9) (k := 3) (v := vr 24 0) (by decide +kernel) (by decide) rfl rfl xi_Search (by decide) kw_286 rfl ?_
        refine g_aload_n (q := 0) (i := 0) (by decide +kernel) rfl rfl ?_
        refine g_get (C := "ThreePoints$Search") (T := xT_Search) (N := 8) (ci := 9) (k := 2) (v := vr 23 0) (by decide +kernel) (by decide) rfl rfl xi_Search (by decide) kw_285 rfl ?_
        refine g_iload_n (q := 1) (i := 1) (by decide +kernel) rfl rfl ?_
        obtain ⟨hin, h⟩ := h
        refine g_iald (by decide +kernel) (by decide) rfl hin ?_
        refine g_sipush (n := 128) (v := 128) (by decide +kernel) (by decide) ?_
        refine g_irem (by decide +kernel) (by decide) ?_
        refine g_iload_n (q := 2) (i := 2) (by decide +kernel) rfl rfl ?_
        obtain ⟨hin, h⟩ := h
        refine g_iast (by decide +kernel) (by decide) rfl hin ?_
        refine g_iload_n (q := 2) (i := 2) (by decide +kernel) rfl rfl ?_
        refine g_heap (fun H3 eH3 => ?_)
        replace h := h H3 eH3
        refine g_if_lt (off := 17) (tgt := 81) (by decide +kernel) (by decide) (fun c => ?_) (fun c => ?_)
        · replace h := h.1 c
          refine g_aload_n (q := 0) (i := 0) (by decide +kernel) rfl rfl ?_
          refine g_dup (by decide +kernel) rfl ?_
          refine g_get (C := "ThreePoints$Search") (T := xT_Search) (N := 8) (ci := 9) (k := 6) (v := vi (H3 21 0 6)) (by decide +kernel) (by decide) rfl rfl xi_Search (by decide) kw_289 rfl ?_
          refine g_iconst (n := 1) (v := 1) (by decide +kernel) (by decide) ?_
          refine g_isub (by decide +kernel) ?_
          refine g_put (C := "ThreePoints$Search") (T := xT_Search) (N := 8) (ci := 9) (k := 6) xy_Search (by decide +kernel) (by decide) rfl rfl xi_Search xy_Search_ok xn_Search (by decide) kw_289 rfl (by decide +kernel) (fun _ => rfl) ?_
          refine g_heap (fun H4 eH4 => ?_)
          replace h := h H4 eH4
          exact g_vret (by decide +kernel) rfl h
        · replace h := h.2 c
          refine g_iload_n (q := 2) (i := 2) (by decide +kernel) rfl rfl ?_
          refine g_sipush (n := 1952) (v := 1952) (by decide +kernel) (by decide) ?_
          refine g_icmp_ge (off := 10) (tgt := 81) (by decide +kernel) (by decide) (fun c => ?_) (fun c => ?_)
          · replace h := h.1 c
            refine g_aload_n (q := 0) (i := 0) (by decide +kernel) rfl rfl ?_
            refine g_dup (by decide +kernel) rfl ?_
            refine g_get (C := "ThreePoints$Search") (T := xT_Search) (N := 8) (ci := 9) (k := 6) (v := vi (H3 21 0 6)) (by decide +kernel) (by decide) rfl rfl xi_Search (by decide) kw_289 rfl ?_
            refine g_iconst (n := 1) (v := 1) (by decide +kernel) (by decide) ?_
            refine g_isub (by decide +kernel) ?_
            refine g_put (C := "ThreePoints$Search") (T := xT_Search) (N := 8) (ci := 9) (k := 6) xy_Search (by decide +kernel) (by decide) rfl rfl xi_Search xy_Search_ok xn_Search (by decide) kw_289 rfl (by decide +kernel) (fun _ => rfl) ?_
            refine g_heap (fun H5 eH5 => ?_)
            replace h := h H5 eH5
            exact g_vret (by decide +kernel) rfl h
          · replace h := h.2 c
            refine g_aload_n (q := 0) (i := 0) (by decide +kernel) rfl rfl ?_
            refine g_get (C := "ThreePoints$Search") (T := xT_Search) (N := 8) (ci := 9) (k := 5) (v := vr 26 0) (by decide +kernel) (by decide) rfl rfl xi_Search (by decide) kw_288 rfl ?_
            refine g_iload_n (q := 2) (i := 2) (by decide +kernel) rfl rfl ?_
            refine g_iload_n (q := 3) (i := 3) (by decide +kernel) rfl rfl ?_
            obtain ⟨hin, h⟩ := h
            refine g_iast (by decide +kernel) (by decide) rfl hin ?_
            refine g_aload_n (q := 0) (i := 0) (by decide +kernel) rfl rfl ?_
            refine g_dup (by decide +kernel) rfl ?_
            refine g_heap (fun H6 eH6 => ?_)
            replace h := h H6 eH6
            refine g_get (C := "ThreePoints$Search") (T := xT_Search) (N := 8) (ci := 9) (k := 6) (v := vi (H6 21 0 6)) (by decide +kernel) (by decide) rfl rfl xi_Search (by decide) kw_289 rfl ?_
            refine g_iconst (n := 1) (v := 1) (by decide +kernel) (by decide) ?_
            refine g_isub (by decide +kernel) ?_
            refine g_put (C := "ThreePoints$Search") (T := xT_Search) (N := 8) (ci := 9) (k := 6) xy_Search (by decide +kernel) (by decide) rfl rfl xi_Search xy_Search_ok xn_Search (by decide) kw_289 rfl (by decide +kernel) (fun _ => rfl) ?_
            refine g_heap (fun H7 eH7 => ?_)
            replace h := h H7 eH7
            exact g_vret (by decide +kernel) rfl h
      · replace h := h.2 c
        refine g_iload_n (q := 3) (i := 3) (by decide +kernel) rfl rfl ?_
        refine g_sipush (n := 1952) (v := 1952) (by decide +kernel) (by decide) ?_
        refine g_icmp_ge (off := 13) (tgt := 47) (by decide +kernel) (by decide) (fun c => ?_) (fun c => ?_)
        · replace h := h.1 c
          refine g_aload_n (q := 0) (i := 0) (by decide +kernel) rfl rfl ?_
          refine g_get (C := "ThreePoints$Search") (T := xT_Search) (N := 8) (ci := 9) (k := 3) (v := vr 24 0) (by decide +kernel) (by decide) rfl rfl xi_Search (by decide) kw_286 rfl ?_
          refine g_aload_n (q := 0) (i := 0) (by decide +kernel) rfl rfl ?_
          refine g_get (C := "ThreePoints$Search") (T := xT_Search) (N := 8) (ci := 9) (k := 2) (v := vr 23 0) (by decide +kernel) (by decide) rfl rfl xi_Search (by decide) kw_285 rfl ?_
          refine g_iload_n (q := 1) (i := 1) (by decide +kernel) rfl rfl ?_
          obtain ⟨hin, h⟩ := h
          refine g_iald (by decide +kernel) (by decide) rfl hin ?_
          refine g_sipush (n := 128) (v := 128) (by decide +kernel) (by decide) ?_
          refine g_irem (by decide +kernel) (by decide) ?_
          refine g_iload_n (q := 2) (i := 2) (by decide +kernel) rfl rfl ?_
          obtain ⟨hin, h⟩ := h
          refine g_iast (by decide +kernel) (by decide) rfl hin ?_
          refine g_iload_n (q := 2) (i := 2) (by decide +kernel) rfl rfl ?_
          refine g_heap (fun H8 eH8 => ?_)
          replace h := h H8 eH8
          refine g_if_lt (off := 17) (tgt := 81) (by decide +kernel) (by decide) (fun c => ?_) (fun c => ?_)
          · replace h := h.1 c
            refine g_aload_n (q := 0) (i := 0) (by decide +kernel) rfl rfl ?_
            refine g_dup (by decide +kernel) rfl ?_
            refine g_get (C := "ThreePoints$Search") (T := xT_Search) (N := 8) (ci := 9) (k := 6) (v := vi (H8 21 0 6)) (by decide +kernel) (by decide) rfl rfl xi_Search (by decide) kw_289 rfl ?_
            refine g_iconst (n := 1) (v := 1) (by decide +kernel) (by decide) ?_
            refine g_isub (by decide +kernel) ?_
            refine g_put (C := "ThreePoints$Search") (T := xT_Search) (N := 8) (ci := 9) (k := 6) xy_Search (by decide +kernel) (by decide) rfl rfl xi_Search xy_Search_ok xn_Search (by decide) kw_289 rfl (by decide +kernel) (fun _ => rfl) ?_
            refine g_heap (fun H9 eH9 => ?_)
            replace h := h H9 eH9
            exact g_vret (by decide +kernel) rfl h
          · replace h := h.2 c
            refine g_iload_n (q := 2) (i := 2) (by decide +kernel) rfl rfl ?_
            refine g_sipush (n := 1952) (v := 1952) (by decide +kernel) (by decide) ?_
            refine g_icmp_ge (off := 10) (tgt := 81) (by decide +kernel) (by decide) (fun c => ?_) (fun c => ?_)
            · replace h := h.1 c
              refine g_aload_n (q := 0) (i := 0) (by decide +kernel) rfl rfl ?_
              refine g_dup (by decide +kernel) rfl ?_
              refine g_get (C := "ThreePoints$Search") (T := xT_Search) (N := 8) (ci := 9) (k := 6) (v := vi (H8 21 0 6)) (by decide +kernel) (by decide) rfl rfl xi_Search (by decide) kw_289 rfl ?_
              refine g_iconst (n := 1) (v := 1) (by decide +kernel) (by decide) ?_
              refine g_isub (by decide +kernel) ?_
              refine g_put (C := "ThreePoints$Search") (T := xT_Search) (N := 8) (ci := 9) (k := 6) xy_Search (by decide +kernel) (by decide) rfl rfl xi_Search xy_Search_ok xn_Search (by decide) kw_289 rfl (by decide +kernel) (fun _ => rfl) ?_
              refine g_heap (fun H10 eH10 => ?_)
              replace h := h H10 eH10
              exact g_vret (by decide +kernel) rfl h
            · replace h := h.2 c
              refine g_aload_n (q := 0) (i := 0) (by decide +kernel) rfl rfl ?_
              refine g_get (C := "ThreePoints$Search") (T := xT_Search) (N := 8) (ci := 9) (k := 5) (v := vr 26 0) (by decide +kernel) (by decide) rfl rfl xi_Search (by decide) kw_288 rfl ?_
              refine g_iload_n (q := 2) (i := 2) (by decide +kernel) rfl rfl ?_
              refine g_iload_n (q := 3) (i := 3) (by decide +kernel) rfl rfl ?_
              obtain ⟨hin, h⟩ := h
              refine g_iast (by decide +kernel) (by decide) rfl hin ?_
              refine g_aload_n (q := 0) (i := 0) (by decide +kernel) rfl rfl ?_
              refine g_dup (by decide +kernel) rfl ?_
              refine g_heap (fun H11 eH11 => ?_)
              replace h := h H11 eH11
              refine g_get (C := "ThreePoints$Search") (T := xT_Search) (N := 8) (ci := 9) (k := 6) (v := vi (H11 21 0 6)) (by decide +kernel) (by decide) rfl rfl xi_Search (by decide) kw_289 rfl ?_
              refine g_iconst (n := 1) (v := 1) (by decide +kernel) (by decide) ?_
              refine g_isub (by decide +kernel) ?_
              refine g_put (C := "ThreePoints$Search") (T := xT_Search) (N := 8) (ci := 9) (k := 6) xy_Search (by decide +kernel) (by decide) rfl rfl xi_Search xy_Search_ok xn_Search (by decide) kw_289 rfl (by decide +kernel) (fun _ => rfl) ?_
              refine g_heap (fun H12 eH12 => ?_)
              replace h := h H12 eH12
              exact g_vret (by decide +kernel) rfl h
        · replace h := h.2 c
          refine g_aload_n (q := 0) (i := 0) (by decide +kernel) rfl rfl ?_
          refine g_get (C := "ThreePoints$Search") (T := xT_Search) (N := 8) (ci := 9) (k := 4) (v := vr 25 0) (by decide +kernel) (by decide) rfl rfl xi_Search (by decide) kw_287 rfl ?_
          refine g_iload_n (q := 3) (i := 3) (by decide +kernel) rfl rfl ?_
          refine g_iload_n (q := 2) (i := 2) (by decide +kernel) rfl rfl ?_
          obtain ⟨hin, h⟩ := h
          refine g_iast (by decide +kernel) (by decide) rfl hin ?_
          refine g_goto (off := 19) (tgt := 63) (by decide +kernel) (by decide) ?_
          refine g_iload_n (q := 2) (i := 2) (by decide +kernel) rfl rfl ?_
          refine g_heap (fun H13 eH13 => ?_)
          replace h := h H13 eH13
          refine g_if_lt (off := 17) (tgt := 81) (by decide +kernel) (by decide) (fun c => ?_) (fun c => ?_)
          · replace h := h.1 c
            refine g_aload_n (q := 0) (i := 0) (by decide +kernel) rfl rfl ?_
            refine g_dup (by decide +kernel) rfl ?_
            refine g_get (C := "ThreePoints$Search") (T := xT_Search) (N := 8) (ci := 9) (k := 6) (v := vi (H13 21 0 6)) (by decide +kernel) (by decide) rfl rfl xi_Search (by decide) kw_289 rfl ?_
            refine g_iconst (n := 1) (v := 1) (by decide +kernel) (by decide) ?_
            refine g_isub (by decide +kernel) ?_
            refine g_put (C := "ThreePoints$Search") (T := xT_Search) (N := 8) (ci := 9) (k := 6) xy_Search (by decide +kernel) (by decide) rfl rfl xi_Search xy_Search_ok xn_Search (by decide) kw_289 rfl (by decide +kernel) (fun _ => rfl) ?_
            refine g_heap (fun H14 eH14 => ?_)
            replace h := h H14 eH14
            exact g_vret (by decide +kernel) rfl h
          · replace h := h.2 c
            refine g_iload_n (q := 2) (i := 2) (by decide +kernel) rfl rfl ?_
            refine g_sipush (n := 1952) (v := 1952) (by decide +kernel) (by decide) ?_
            refine g_icmp_ge (off := 10) (tgt := 81) (by decide +kernel) (by decide) (fun c => ?_) (fun c => ?_)
            · replace h := h.1 c
              refine g_aload_n (q := 0) (i := 0) (by decide +kernel) rfl rfl ?_
              refine g_dup (by decide +kernel) rfl ?_
              refine g_get (C := "ThreePoints$Search") (T := xT_Search) (N := 8) (ci := 9) (k := 6) (v := vi (H13 21 0 6)) (by decide +kernel) (by decide) rfl rfl xi_Search (by decide) kw_289 rfl ?_
              refine g_iconst (n := 1) (v := 1) (by decide +kernel) (by decide) ?_
              refine g_isub (by decide +kernel) ?_
              refine g_put (C := "ThreePoints$Search") (T := xT_Search) (N := 8) (ci := 9) (k := 6) xy_Search (by decide +kernel) (by decide) rfl rfl xi_Search xy_Search_ok xn_Search (by decide) kw_289 rfl (by decide +kernel) (fun _ => rfl) ?_
              refine g_heap (fun H15 eH15 => ?_)
              replace h := h H15 eH15
              exact g_vret (by decide +kernel) rfl h
            · replace h := h.2 c
              refine g_aload_n (q := 0) (i := 0) (by decide +kernel) rfl rfl ?_
              refine g_get (C := "ThreePoints$Search") (T := xT_Search) (N := 8) (ci := 9) (k := 5) (v := vr 26 0) (by decide +kernel) (by decide) rfl rfl xi_Search (by decide) kw_288 rfl ?_
              refine g_iload_n (q := 2) (i := 2) (by decide +kernel) rfl rfl ?_
              refine g_iload_n (q := 3) (i := 3) (by decide +kernel) rfl rfl ?_
              obtain ⟨hin, h⟩ := h
              refine g_iast (by decide +kernel) (by decide) rfl hin ?_
              refine g_aload_n (q := 0) (i := 0) (by decide +kernel) rfl rfl ?_
              refine g_dup (by decide +kernel) rfl ?_
              refine g_heap (fun H16 eH16 => ?_)
              replace h := h H16 eH16
              refine g_get (C := "ThreePoints$Search") (T := xT_Search) (N := 8) (ci := 9) (k := 6) (v := vi (H16 21 0 6)) (by decide +kernel) (by decide) rfl rfl xi_Search (by decide) kw_289 rfl ?_
              refine g_iconst (n := 1) (v := 1) (by decide +kernel) (by decide) ?_
              refine g_isub (by decide +kernel) ?_
              refine g_put (C := "ThreePoints$Search") (T := xT_Search) (N := 8) (ci := 9) (k := 6) xy_Search (by decide +kernel) (by decide) rfl rfl xi_Search xy_Search_ok xn_Search (by decide) kw_289 rfl (by decide +kernel) (fun _ => rfl) ?_
              refine g_heap (fun H17 eH17 => ?_)
              replace h := h H17 eH17
              exact g_vret (by decide +kernel) rfl h
    · replace h := h.2 c
      exact g_vret (by decide +kernel) rfl h
def p_Search_lower (E : XE) (d : Nat) (x1 : Int32) (x2 : Int32) (H : HH) (Q : HH → Prop) : Prop := (x1 < 0 → (Q H)) ∧ (¬ x1 < 0 → ((1952 ≤ x1 → (Q H)) ∧ (¬ 1952 ≤ x1 → ((x2 < 0 → (Q H)) ∧ (¬ x2 < 0 → (vp_in x1 1952 ∧ ((x2 < (H 23 0 (x1.toNatClampNeg)) → (vp_in (x1 >>> (1 &&& 31)) 976 ∧ ((¬ (H 22 0 ((x1 >>> (1 &&& 31)).toNatClampNeg)) = 0 → (vp_in x1 1952 ∧ (∃ J1 : HH → Prop, (((H 23 0 (x1.toNatClampNeg)) = 2147483647 → (J1  H)) ∧ (¬ (H 23 0 (x1.toNatClampNeg)) = 2147483647 → (c_Search_unlink E d x1 H (fun H12 => J1  H12)))) ∧ ∀  (H2 : HH), J1  H2 → (vp_in x1 1952 ∧ (vp_in (xrem x2 128) 128 ∧ (∀ H3 : HH, H3 = (hu H2 23 0 (x1.toNatClampNeg) x2) → (∀ v4 : Int32, v4 = (H3 24 0 ((xrem x2 128).toNatClampNeg)) → (vp_in x1 1952 ∧ (vp_in x1 1952 ∧ (∀ H5 : HH, H5 = (hu (hu H3 25 0 (x1.toNatClampNeg) v4) 26 0 (x1.toNatClampNeg) (-1)) → ((v4 < 0 → (vp_in (xrem x2 128) 128 ∧ (∀ H6 : HH, H6 = (hu H5 24 0 ((xrem x2 128).toNatClampNeg) x1) → (∀ H7 : HH, H7 = (hu H6 21 0 6 ((H6 21 0 6) + 1)) → (Q H7))))) ∧ (¬ v4 < 0 → ((1952 ≤ v4 → (vp_in (xrem x2 128) 128 ∧ (∀ H8 : HH, H8 = (hu H5 24 0 ((xrem x2 128).toNatClampNeg) x1) → (∀ H9 : HH, H9 = (hu H8 21 0 6 ((H8 21 0 6) + 1)) → (Q H9))))) ∧ (¬ 1952 ≤ v4 → (vp_in v4 1952 ∧ (vp_in (xrem x2 128) 128 ∧ (∀ H10 : HH, H10 = (hu (hu H5 26 0 (v4.toNatClampNeg) x1) 24 0 ((xrem x2 128).toNatClampNeg) x1) → (∀ H11 : HH, H11 = (hu H10 21 0 6 ((H10 21 0 6) + 1)) → (Q H11))))))))))))))))))) ∧ ((H 22 0 ((x1 >>> (1 &&& 31)).toNatClampNeg)) = 0 → (Q H))))) ∧ (¬ x2 < (H 23 0 (x1.toNatClampNeg)) → (Q H)))))))))
set_option maxHeartbeats 4000000 in
theorem l_Search_lower {E : XE} {d : Nat} {x1 : Int32} {x2 : Int32} {H : HH} {Q : HH → Prop} (h : p_Search_lower E d x1 x2 H Q) : c_Search_lower E (d + 1) x1 x2 H Q := by
  show g_Search_lower E (d + 1) 0 (xent [vr 21 0, vi x1, vi x2]) [] H (qv Q)
  refine g_drop (ls2 := [some (vr 21 0), some (vi x1), some (vi x2), none]) (And.intro rfl (And.intro rfl (And.intro rfl trivial))) ?_
  refine g_iload_n (q := 1) (i := 1) (by decide +kernel) rfl rfl ?_
  refine g_if_lt (off := 24) (tgt := 25) (by decide +kernel) (by decide) (fun c => ?_) (fun c => ?_)
  · replace h := h.1 c
    exact g_vret (by decide +kernel) rfl h
  · replace h := h.2 c
    refine g_iload_n (q := 1) (i := 1) (by decide +kernel) rfl rfl ?_
    refine g_sipush (n := 1952) (v := 1952) (by decide +kernel) (by decide) ?_
    refine g_icmp_ge (off := 17) (tgt := 25) (by decide +kernel) (by decide) (fun c => ?_) (fun c => ?_)
    · replace h := h.1 c
      exact g_vret (by decide +kernel) rfl h
    · replace h := h.2 c
      refine g_iload_n (q := 2) (i := 2) (by decide +kernel) rfl rfl ?_
      refine g_if_lt (off := 13) (tgt := 25) (by decide +kernel) (by decide) (fun c => ?_) (fun c => ?_)
      · replace h := h.1 c
        exact g_vret (by decide +kernel) rfl h
      · replace h := h.2 c
        refine g_iload_n (q := 2) (i := 2) (by decide +kernel) rfl rfl ?_
        refine g_aload_n (q := 0) (i := 0) (by decide +kernel) rfl rfl ?_
        refine g_get (C := "ThreePoints$Search") (T := xT_Search) (N := 8) (ci := 9) (k := 2) (v := vr 23 0) (by decide +kernel) (by decide) rfl rfl xi_Search (by decide) kw_285 rfl ?_
        refine g_iload_n (q := 1) (i := 1) (by decide +kernel) rfl rfl ?_
        obtain ⟨hin, h⟩ := h
        refine g_iald (by decide +kernel) (by decide) rfl hin ?_
        refine g_icmp_lt (off := 4) (tgt := 26) (by decide +kernel) (by decide) (fun c => ?_) (fun c => ?_)
        · replace h := h.1 c
          refine g_aload_n (q := 0) (i := 0) (by decide +kernel) rfl rfl ?_
          refine g_get (C := "ThreePoints$Search") (T := xT_Search) (N := 8) (ci := 9) (k := 1) (v := vr 22 0) (by decide +kernel) (by decide) rfl rfl xi_Search (by decide) kw_284 rfl ?_
          refine g_iload_n (q := 1) (i := 1) (by decide +kernel) rfl rfl ?_
          refine g_iconst (n := 1) (v := 1) (by decide +kernel) (by decide) ?_
          refine g_ishr (by decide +kernel) ?_
          obtain ⟨hin, h⟩ := h
          refine g_zald (by decide +kernel) (by decide) rfl hin ?_
          refine g_if_ne (off := 4) (tgt := 38) (by decide +kernel) (by decide) (fun c => ?_) (fun c => ?_)
          · replace h := h.1 c
            refine g_aload_n (q := 0) (i := 0) (by decide +kernel) rfl rfl ?_
            refine g_get (C := "ThreePoints$Search") (T := xT_Search) (N := 8) (ci := 9) (k := 2) (v := vr 23 0) (by decide +kernel) (by decide) rfl rfl xi_Search (by decide) kw_285 rfl ?_
            refine g_iload_n (q := 1) (i := 1) (by decide +kernel) rfl rfl ?_
            obtain ⟨hin, h⟩ := h
            refine g_iald (by decide +kernel) (by decide) rfl hin ?_
            refine g_ldc (v := 2147483647) (by decide +kernel) kw_780 ?_
            obtain ⟨J1, h, hk1⟩ := h
            have hc1 : ∀  (H2 : HH), J1  H2 → g_Search_lower E (d + 1) 54 [some (vr 21 0), some (vi x1), some (vi x2), none] [] H2 (qv Q) := by
              intro  H2 h
              replace h := hk1  H2 h
              refine g_aload_n (q := 0) (i := 0) (by decide +kernel) rfl rfl ?_
              refine g_get (C := "ThreePoints$Search") (T := xT_Search) (N := 8) (ci := 9) (k := 2) (v := vr 23 0) (by decide +kernel) (by decide) rfl rfl xi_Search (by decide) kw_285 rfl ?_
              refine g_iload_n (q := 1) (i := 1) (by decide +kernel) rfl rfl ?_
              refine g_iload_n (q := 2) (i := 2) (by decide +kernel) rfl rfl ?_
              obtain ⟨hin, h⟩ := h
              refine g_iast (by decide +kernel) (by decide) rfl hin ?_
              refine g_aload_n (q := 0) (i := 0) (by decide +kernel) rfl rfl ?_
              refine g_get (C := "ThreePoints$Search") (T := xT_Search) (N := 8) (ci := 9) (k := 3) (v := vr 24 0) (by decide +kernel) (by decide) rfl rfl xi_Search (by decide) kw_286 rfl ?_
              refine g_iload_n (q := 2) (i := 2) (by decide +kernel) rfl rfl ?_
              refine g_sipush (n := 128) (v := 128) (by decide +kernel) (by decide) ?_
              refine g_irem (by decide +kernel) (by decide) ?_
              obtain ⟨hin, h⟩ := h
              refine g_heap (fun H3 eH3 => ?_)
              replace h := h H3 eH3
              refine g_iald (by decide +kernel) (by decide) rfl hin ?_
              refine g_topi (fun v4 ev4 => ?_)
              replace h := h v4 ev4
              refine g_istore_n (q := 3) (i := 3) (ls2 := [some (vr 21 0), some (vi x1), some (vi x2), some (vi v4)]) (by decide +kernel) rfl (by decide) rfl rfl ?_
              refine g_aload_n (q := 0) (i := 0) (by decide +kernel) rfl rfl ?_
              refine g_get (C := "ThreePoints$Search") (T := xT_Search) (N := 8) (ci := 9) (k := 4) (v := vr 25 0) (by decide +kernel) (by decide) rfl rfl xi_Search (by decide) kw_287 rfl ?_
              refine g_iload_n (q := 1) (i := 1) (by decide +kernel) rfl rfl ?_
              refine g_iload_n (q := 3) (i := 3) (by decide +kernel) rfl rfl ?_
              obtain ⟨hin, h⟩ := h
              refine g_iast (by decide +kernel) (by decide) rfl hin ?_
              refine g_aload_n (q := 0) (i := 0) (by decide +kernel) rfl rfl ?_
              refine g_get (C := "ThreePoints$Search") (T := xT_Search) (N := 8) (ci := 9) (k := 5) (v := vr 26 0) (by decide +kernel) (by decide) rfl rfl xi_Search (by decide) kw_288 rfl ?_
              refine g_iload_n (q := 1) (i := 1) (by decide +kernel) rfl rfl ?_
              refine g_iconst (n := (-1)) (v := (-1)) (by decide +kernel) (by decide) ?_
              obtain ⟨hin, h⟩ := h
              refine g_iast (by decide +kernel) (by decide) rfl hin ?_
              refine g_iload_n (q := 3) (i := 3) (by decide +kernel) rfl rfl ?_
              refine g_heap (fun H5 eH5 => ?_)
              replace h := h H5 eH5
              refine g_if_lt (off := 17) (tgt := 104) (by decide +kernel) (by decide) (fun c => ?_) (fun c => ?_)
              · replace h := h.1 c
                refine g_aload_n (q := 0) (i := 0) (by decide +kernel) rfl rfl ?_
                refine g_get (C := "ThreePoints$Search") (T := xT_Search) (N := 8) (ci := 9) (k := 3) (v := vr 24 0) (by decide +kernel) (by decide) rfl rfl xi_Search (by decide) kw_286 rfl ?_
                refine g_iload_n (q := 2) (i := 2) (by decide +kernel) rfl rfl ?_
                refine g_sipush (n := 128) (v := 128) (by decide +kernel) (by decide) ?_
                refine g_irem (by decide +kernel) (by decide) ?_
                refine g_iload_n (q := 1) (i := 1) (by decide +kernel) rfl rfl ?_
                obtain ⟨hin, h⟩ := h
                refine g_iast (by decide +kernel) (by decide) rfl hin ?_
                refine g_aload_n (q := 0) (i := 0) (by decide +kernel) rfl rfl ?_
                refine g_dup (by decide +kernel) rfl ?_
                refine g_heap (fun H6 eH6 => ?_)
                replace h := h H6 eH6
                refine g_get (C := "ThreePoints$Search") (T := xT_Search) (N := 8) (ci := 9) (k := 6) (v := vi (H6 21 0 6)) (by decide +kernel) (by decide) rfl rfl xi_Search (by decide) kw_289 rfl ?_
                refine g_iconst (n := 1) (v := 1) (by decide +kernel) (by decide) ?_
                refine g_iadd (by decide +kernel) ?_
                refine g_put (C := "ThreePoints$Search") (T := xT_Search) (N := 8) (ci := 9) (k := 6) xy_Search (by decide +kernel) (by decide) rfl rfl xi_Search xy_Search_ok xn_Search (by decide) kw_289 rfl (by decide +kernel) (fun _ => rfl) ?_
                refine g_heap (fun H7 eH7 => ?_)
                replace h := h H7 eH7
                exact g_vret (by decide +kernel) rfl h
              · replace h := h.2 c
                refine g_iload_n (q := 3) (i := 3) (by decide +kernel) rfl rfl ?_
                refine g_sipush (n := 1952) (v := 1952) (by decide +kernel) (by decide) ?_
                refine g_icmp_ge (off := 10) (tgt := 104) (by decide +kernel) (by decide) (fun c => ?_) (fun c => ?_)
                · replace h := h.1 c
                  refine g_aload_n (q := 0) (i := 0) (by decide +kernel) rfl rfl ?_
                  refine g_get (C := "ThreePoints$Search") (T := xT_Search) (N := 8) (ci := 9) (k := 3) (v := vr 24 0) (by decide +kernel) (by decide) rfl rfl xi_Search (by decide) kw_286 rfl ?_
                  refine g_iload_n (q := 2) (i := 2) (by decide +kernel) rfl rfl ?_
                  refine g_sipush (n := 128) (v := 128) (by decide +kernel) (by decide) ?_
                  refine g_irem (by decide +kernel) (by decide) ?_
                  refine g_iload_n (q := 1) (i := 1) (by decide +kernel) rfl rfl ?_
                  obtain ⟨hin, h⟩ := h
                  refine g_iast (by decide +kernel) (by decide) rfl hin ?_
                  refine g_aload_n (q := 0) (i := 0) (by decide +kernel) rfl rfl ?_
                  refine g_dup (by decide +kernel) rfl ?_
                  refine g_heap (fun H8 eH8 => ?_)
                  replace h := h H8 eH8
                  refine g_get (C := "ThreePoints$Search") (T := xT_Search) (N := 8) (ci := 9) (k := 6) (v := vi (H8 21 0 6)) (by decide +kernel) (by decide) rfl rfl xi_Search (by decide) kw_289 rfl ?_
                  refine g_iconst (n := 1) (v := 1) (by decide +kernel) (by decide) ?_
                  refine g_iadd (by decide +kernel) ?_
                  refine g_put (C := "ThreePoints$Search") (T := xT_Search) (N := 8) (ci := 9) (k := 6) xy_Search (by decide +kernel) (by decide) rfl rfl xi_Search xy_Search_ok xn_Search (by decide) kw_289 rfl (by decide +kernel) (fun _ => rfl) ?_
                  refine g_heap (fun H9 eH9 => ?_)
                  replace h := h H9 eH9
                  exact g_vret (by decide +kernel) rfl h
                · replace h := h.2 c
                  refine g_aload_n (q := 0) (i := 0) (by decide +kernel) rfl rfl ?_
                  refine g_get (C := "ThreePoints$Search") (T := xT_Search) (N := 8) (ci := 9) (k := 5) (v := vr 26 0) (by decide +kernel) (by decide) rfl rfl xi_Search (by decide) kw_288 rfl ?_
                  refine g_iload_n (q := 3) (i := 3) (by decide +kernel) rfl rfl ?_
                  refine g_iload_n (q := 1) (i := 1) (by decide +kernel) rfl rfl ?_
                  obtain ⟨hin, h⟩ := h
                  refine g_iast (by decide +kernel) (by decide) rfl hin ?_
                  refine g_aload_n (q := 0) (i := 0) (by decide +kernel) rfl rfl ?_
                  refine g_get (C := "ThreePoints$Search") (T := xT_Search) (N := 8) (ci := 9) (k := 3) (v := vr 24 0) (by decide +kernel) (by decide) rfl rfl xi_Search (by decide) kw_286 rfl ?_
                  refine g_iload_n (q := 2) (i := 2) (by decide +kernel) rfl rfl ?_
                  refine g_sipush (n := 128) (v := 128) (by decide +kernel) (by decide) ?_
                  refine g_irem (by decide +kernel) (by decide) ?_
                  refine g_iload_n (q := 1) (i := 1) (by decide +kernel) rfl rfl ?_
                  obtain ⟨hin, h⟩ := h
                  refine g_iast (by decide +kernel) (by decide) rfl hin ?_
                  refine g_aload_n (q := 0) (i := 0) (by decide +kernel) rfl rfl ?_
                  refine g_dup (by decide +kernel) rfl ?_
                  refine g_heap (fun H10 eH10 => ?_)
                  replace h := h H10 eH10
                  refine g_get (C := "ThreePoints$Search") (T := xT_Search) (N := 8) (ci := 9) (k := 6) (v := vi (H10 21 0 6)) (by decide +kernel) (by decide) rfl rfl xi_Search (by decide) kw_289 rfl ?_
                  refine g_iconst (n := 1) (v := 1) (by decide +kernel) (by decide) ?_
                  refine g_iadd (by decide +kernel) ?_
                  refine g_put (C := "ThreePoints$Search") (T := xT_Search) (N := 8) (ci := 9) (k := 6) xy_Search (by decide +kernel) (by decide) rfl rfl xi_Search xy_Search_ok xn_Search (by decide) kw_289 rfl (by decide +kernel) (fun _ => rfl) ?_
                  refine g_heap (fun H11 eH11 => ?_)
                  replace h := h H11 eH11
                  exact g_vret (by decide +kernel) rfl h
            refine g_icmp_eq (off := 8) (tgt := 54) (by decide +kernel) (by decide) (fun c => ?_) (fun c => ?_)
            · replace h := h.1 c
              exact g_drop (ls2 := [some (vr 21 0), some (vi x1), some (vi x2), none]) (And.intro rfl (And.intro rfl (And.intro rfl trivial))) (hc1  H h)
            · replace h := h.2 c
              refine g_aload_n (q := 0) (i := 0) (by decide +kernel) rfl rfl ?_
              refine g_iload_n (q := 1) (i := 1) (by decide +kernel) rfl rfl ?_
              refine g_callV (kd := 21) (ix := 0) (ci := 9) (N := 8) (T := xT_Search) (vs := [vi x1]) (st := []) (by decide +kernel) xm_Search_unlink kw_792 kw_794 kw_23 (by decide) rfl rfl rfl rfl (Nat.le_of_ble_eq_true rfl) (Nat.le_of_ble_eq_true rfl) h (fun vH12 H12 hq => ?_)
              replace h := hq
              exact g_drop (ls2 := [some (vr 21 0), some (vi x1), some (vi x2), none]) (And.intro rfl (And.intro rfl (And.intro rfl trivial))) (hc1  H12 h)
          · replace h := h.2 c
            exact g_vret (by decide +kernel) rfl h
        · replace h := h.2 c
          exact g_vret (by decide +kernel) rfl h
def p_Search_lowerAhead (E : XE) (d : Nat) (x2 : Int32) (x3 : Int32) (H : HH) (Q : HH → Prop) : Prop := ∀ v1 : Int32, v1 = ((x2 >>> (1 &&& 31)) &&& 15) → (∀ v2 : Int32, v2 = (x2 >>> (5 &&& 31)) → (∃ (I3 : Int32 → HH → Prop) (μ3 : Int32 → HH → Nat), I3 0 H ∧ ∀ (z4 : Int32) (H5 : HH), I3 z4 H5 → ((1 < z4 → (Q H5)) ∧ (¬ 1 < z4 → ((¬ (H5 21 0 0) = 0 → (∃ (I6 : Int32 → HH → Prop) (μ6 : Int32 → HH → Nat), I6 (-1) H5 ∧ ∀ (z7 : Int32) (H8 : HH), I6 z7 H8 → ((1 < z7 → (I3 (z4 + 1) H8 ∧ μ3 (z4 + 1) H8 < μ3 z4 H5)) ∧ (¬ 1 < z7 → (c_Vehicle_turns E d 8 z4 z7 H8 (fun r10 H9 => ∀ v11 : Int32, v11 = ((v1 - r10) &&& 15) → (c_Ride_shift E d v11 z4 H9 (fun r13 H12 => ((v2 - r13) < 0 → (I6 (z7 + 1) H12 ∧ μ6 (z7 + 1) H12 < μ6 z7 H8)) ∧ (¬ (v2 - r13) < 0 → (((v2 - r13) ≤ (H12 2 2 0) → ((¬ (H12 21 0 0) = 1 → (c_Search_state E d (v2 - r13) v11 z4 H12 (fun r15 H14 => c_Search_lower E d r15 x3 H14 (fun H16 => c_Search_state E d (v2 - r13) v11 (1 - z4) H16 (fun r18 H17 => c_Search_lower E d r18 (x3 + 1) H17 (fun H19 => I6 (z7 + 1) H19 ∧ μ6 (z7 + 1) H19 < μ6 z7 H8)))))) ∧ ((H12 21 0 0) = 1 → (c_Search_state E d (v2 - r13) v11 0 H12 (fun r21 H20 => c_Ride_wears E d (v2 - r13) v11 z7 H20 (fun r23 H22 => c_Search_lower E d r21 (x3 + r23) H22 (fun H24 => I6 (z7 + 1) H24 ∧ μ6 (z7 + 1) H24 < μ6 z7 H8))))))) ∧ (¬ (v2 - r13) ≤ (H12 2 2 0) → (I6 (z7 + 1) H12 ∧ μ6 (z7 + 1) H12 < μ6 z7 H8)))))))))))) ∧ ((H5 21 0 0) = 0 → ((z4 = (x2 &&& 1) → (∃ (I25 : Int32 → HH → Prop) (μ25 : Int32 → HH → Nat), I25 (-1) H5 ∧ ∀ (z26 : Int32) (H27 : HH), I25 z26 H27 → ((1 < z26 → (I3 (z4 + 1) H27 ∧ μ3 (z4 + 1) H27 < μ3 z4 H5)) ∧ (¬ 1 < z26 → (c_Vehicle_turns E d 8 z4 z26 H27 (fun r29 H28 => ∀ v30 : Int32, v30 = ((v1 - r29) &&& 15) → (c_Ride_shift E d v30 z4 H28 (fun r32 H31 => ((v2 - r32) < 0 → (I25 (z26 + 1) H31 ∧ μ25 (z26 + 1) H31 < μ25 z26 H27)) ∧ (¬ (v2 - r32) < 0 → (((v2 - r32) ≤ (H31 2 2 0) → ((¬ (H31 21 0 0) = 1 → (c_Search_state E d (v2 - r32) v30 z4 H31 (fun r34 H33 => c_Search_lower E d r34 x3 H33 (fun H35 => c_Search_state E d (v2 - r32) v30 (1 - z4) H35 (fun r37 H36 => c_Search_lower E d r37 (x3 + 1) H36 (fun H38 => I25 (z26 + 1) H38 ∧ μ25 (z26 + 1) H38 < μ25 z26 H27)))))) ∧ ((H31 21 0 0) = 1 → (c_Search_state E d (v2 - r32) v30 0 H31 (fun r40 H39 => c_Ride_wears E d (v2 - r32) v30 z26 H39 (fun r42 H41 => c_Search_lower E d r40 (x3 + r42) H41 (fun H43 => I25 (z26 + 1) H43 ∧ μ25 (z26 + 1) H43 < μ25 z26 H27))))))) ∧ (¬ (v2 - r32) ≤ (H31 2 2 0) → (I25 (z26 + 1) H31 ∧ μ25 (z26 + 1) H31 < μ25 z26 H27)))))))))))) ∧ (¬ z4 = (x2 &&& 1) → (I3 (z4 + 1) H5 ∧ μ3 (z4 + 1) H5 < μ3 z4 H5)))))))))
set_option maxHeartbeats 4000000 in
theorem l_Search_lowerAhead {E : XE} {d : Nat} {x2 : Int32} {x3 : Int32} {H : HH} {Q : HH → Prop} (h : p_Search_lowerAhead E d x2 x3 H Q) : c_Search_lowerAhead E (d + 1) x2 x3 H Q := by
  show g_Search_lowerAhead E (d + 1) 0 (xent [vr 21 0, vr 19 0, vi x2, vi x3]) [] H (qv Q)
  refine g_drop (ls2 := [some (vr 21 0), some (vr 19 0), some (vi x2), some (vi x3), none, none, none, none, none, none, none]) (And.intro rfl (And.intro rfl (And.intro rfl (And.intro rfl trivial)))) ?_
  refine g_iload_n (q := 2) (i := 2) (by decide +kernel) rfl rfl ?_
  refine g_iconst (n := 1) (v := 1) (by decide +kernel) (by decide) ?_
  refine g_iand (by decide +kernel) ?_
  refine g_istore (i := 4) (ls2 := [some (vr 21 0), some (vr 19 0), some (vi x2), some (vi x3), some (vi (x2 &&& 1)), none, none, none, none, none, none]) (by decide +kernel) (by decide) rfl rfl ?_
  refine g_iload_n (q := 2) (i := 2) (by decide +kernel) rfl rfl ?_
  refine g_iconst (n := 1) (v := 1) (by decide +kernel) (by decide) ?_
  refine g_ishr (by decide +kernel) ?_
  refine g_bipush (n := 15) (v := 15) (by decide +kernel) (by decide) ?_
  refine g_iand (by decide +kernel) ?_
  refine g_topi (fun v1 ev1 => ?_)
  replace h := h v1 ev1
  refine g_istore (i := 5) (ls2 := [some (vr 21 0), some (vr 19 0), some (vi x2), some (vi x3), some (vi (x2 &&& 1)), some (vi v1), none, none, none, none, none]) (by decide +kernel) (by decide) rfl rfl ?_
  refine g_iload_n (q := 2) (i := 2) (by decide +kernel) rfl rfl ?_
  refine g_iconst (n := 5) (v := 5) (by decide +kernel) (by decide) ?_
  refine g_ishr (by decide +kernel) ?_
  refine g_topi (fun v2 ev2 => ?_)
  replace h := h v2 ev2
  refine g_istore (i := 6) (ls2 := [some (vr 21 0), some (vr 19 0), some (vi x2), some (vi x3), some (vi (x2 &&& 1)), some (vi v1), some (vi v2), none, none, none, none]) (by decide +kernel) (by decide) rfl rfl ?_
  refine g_iconst (n := 0) (v := 0) (by decide +kernel) (by decide) ?_
  refine g_istore (i := 7) (ls2 := [some (vr 21 0), some (vr 19 0), some (vi x2), some (vi x3), some (vi (x2 &&& 1)), some (vi v1), some (vi v2), some (vi 0), none, none, none]) (by decide +kernel) (by decide) rfl rfl ?_
  refine g_drop (ls2 := [some (vr 21 0), some (vr 19 0), none, some (vi x3), some (vi (x2 &&& 1)), some (vi v1), some (vi v2), some (vi 0), none, none, none]) (And.intro rfl (And.intro rfl (And.intro rfl (And.intro rfl (And.intro rfl (And.intro rfl (And.intro rfl trivial))))))) ?_
  obtain ⟨I3, μ3, h0, h⟩ := h
  refine xloop (σ := Int32) (fun s H => I3 s H) (fun s H => μ3 s H) (fun s H => g_Search_lowerAhead E (d + 1) 21 [some (vr 21 0), some (vr 19 0), none, some (vi x3), some (vi (x2 &&& 1)), some (vi v1), some (vi v2), some (vi s), none, none, none] [] H (qv Q)) (fun s H5 hI ih3 => ?_) 0 H h0
  obtain ⟨z4, es⟩ : ∃ z, z = s := ⟨s, rfl⟩
  subst es
  replace h := h z4 H5 hI
  refine g_iload (i := 7) (by decide +kernel) rfl ?_
  refine g_iconst (n := 1) (v := 1) (by decide +kernel) (by decide) ?_
  refine g_icmp_gt (off := 159) (tgt := 183) (by decide +kernel) (by decide) (fun c => ?_) (fun c => ?_)
  · replace h := h.1 c
    exact g_vret (by decide +kernel) rfl h
  · replace h := h.2 c
    refine g_aload_n (q := 0) (i := 0) (by decide +kernel) rfl rfl ?_
    refine g_get (C := "ThreePoints$Search") (T := xT_Search) (N := 8) (ci := 9) (k := 0) (v := vi (H5 21 0 0)) (by decide +kernel) (by decide) rfl rfl xi_Search (by decide) kw_283 rfl ?_
    refine g_if_ne (off := 13) (tgt := 44) (by decide +kernel) (by decide) (fun c => ?_) (fun c => ?_)
    · replace h := h.1 c
      refine g_iconst (n := (-1)) (v := (-1)) (by decide +kernel) (by decide) ?_
      refine g_istore (i := 8) (ls2 := [some (vr 21 0), some (vr 19 0), none, some (vi x3), some (vi (x2 &&& 1)), some (vi v1), some (vi v2), some (vi z4), some (vi (-1)), none, none]) (by decide +kernel) (by decide) rfl rfl ?_
      refine g_drop (ls2 := [some (vr 21 0), some (vr 19 0), none, some (vi x3), some (vi (x2 &&& 1)), some (vi v1), some (vi v2), some (vi z4), some (vi (-1)), none, none]) (And.intro rfl (And.intro rfl (And.intro rfl (And.intro rfl (And.intro rfl (And.intro rfl (And.intro rfl (And.intro rfl trivial)))))))) ?_
      obtain ⟨I6, μ6, h0, h⟩ := h
      refine xloop (σ := Int32) (fun s H => I6 s H) (fun s H => μ6 s H) (fun s H => g_Search_lowerAhead E (d + 1) 47 [some (vr 21 0), some (vr 19 0), none, some (vi x3), some (vi (x2 &&& 1)), some (vi v1), some (vi v2), some (vi z4), some (vi s), none, none] [] H (qv Q)) (fun s H8 hI ih6 => ?_) (-1) H5 h0
      obtain ⟨z7, es⟩ : ∃ z, z = s := ⟨s, rfl⟩
      subst es
      replace h := h z7 H8 hI
      refine g_iload (i := 8) (by decide +kernel) rfl ?_
      refine g_iconst (n := 1) (v := 1) (by decide +kernel) (by decide) ?_
      refine g_icmp_gt (off := 127) (tgt := 177) (by decide +kernel) (by decide) (fun c => ?_) (fun c => ?_)
      · replace h := h.1 c
        refine g_iinc (i := 7) (n := 1) (v := (z4 + 1)) (ls2 := [some (vr 21 0), some (vr 19 0), none, some (vi x3), some (vi (x2 &&& 1)), some (vi v1), some (vi v2), some (vi (z4 + 1)), some (vi z7), none, none]) (by decide +kernel) rfl rfl (by decide) rfl rfl ?_
        refine g_goto (off := (-159)) (tgt := 21) (by decide +kernel) (by decide) ?_
        obtain ⟨hI, hlt⟩ := h
        exact g_drop (ls2 := [some (vr 21 0), some (vr 19 0), none, some (vi x3), some (vi (x2 &&& 1)), some (vi v1), some (vi v2), some (vi (z4 + 1)), none, none, none]) (And.intro rfl (And.intro rfl (And.intro rfl (And.intro rfl (And.intro rfl (And.intro rfl (And.intro rfl trivial))))))) (ih3 (z4 + 1) H8 hI hlt)
      · replace h := h.2 c
        refine g_iload (i := 5) (by decide +kernel) rfl ?_
        refine g_aload_n (q := 1) (i := 1) (by decide +kernel) rfl rfl ?_
        refine g_get (C := "ThreePoints$Ride") (T := xT_Ride) (N := 4) (ci := 8) (k := 1) (v := vr 3 8) (by decide +kernel) (by decide) rfl rfl xi_Ride (by decide) kw_263 rfl ?_
        refine g_iload (i := 7) (by decide +kernel) rfl ?_
        refine g_iload (i := 8) (by decide +kernel) rfl ?_
        refine g_callV (kd := 3) (ix := 8) (ci := 3) (N := 7) (T := xT_Vehicle) (vs := [vi z4, vi z7]) (st := [vi v1]) (by decide +kernel) xm_Vehicle_turns kw_801 kw_753 kw_754 (by decide) rfl rfl rfl rfl (Nat.le_of_ble_eq_true rfl) (Nat.le_of_ble_eq_true rfl) h (fun vH9 H9 hq => ?_)
        obtain ⟨r10, rfl, h⟩ := hq
        refine g_isub (by decide +kernel) ?_
        refine g_bipush (n := 15) (v := 15) (by decide +kernel) (by decide) ?_
        refine g_iand (by decide +kernel) ?_
        refine g_topi (fun v11 ev11 => ?_)
        replace h := h v11 ev11
        refine g_istore (i := 9) (ls2 := [some (vr 21 0), some (vr 19 0), none, some (vi x3), some (vi (x2 &&& 1)), some (vi v1), some (vi v2), some (vi z4), some (vi z7), some (vi v11), none]) (by decide +kernel) (by decide) rfl rfl ?_
        refine g_iload (i := 6) (by decide +kernel) rfl ?_
        refine g_iload (i := 9) (by decide +kernel) rfl ?_
        refine g_iload (i := 7) (by decide +kernel) rfl ?_
        refine g_callS (vs := [vi v11, vi z4]) (st := [vi v2]) (by decide +kernel) xm_Ride_shift kw_802 kw_746 rfl rfl (Nat.le_of_ble_eq_true rfl) (Nat.le_of_ble_eq_true rfl) h (fun vH12 H12 hq => ?_)
        obtain ⟨r13, rfl, h⟩ := hq
        refine g_isub (by decide +kernel) ?_
        refine g_istore (i := 10) (ls2 := [some (vr 21 0), some (vr 19 0), none, some (vi x3), some (vi (x2 &&& 1)), some (vi v1), some (vi v2), some (vi z4), some (vi z7), some (vi v11), some (vi (v2 - r13))]) (by decide +kernel) (by decide) rfl rfl ?_
        refine g_iload (i := 10) (by decide +kernel) rfl ?_
        refine g_if_lt (off := 85) (tgt := 171) (by decide +kernel) (by decide) (fun c => ?_) (fun c => ?_)
        · replace h := h.1 c
          refine g_iinc (i := 8) (n := 1) (v := (z7 + 1)) (ls2 := [some (vr 21 0), some (vr 19 0), none, some (vi x3), some (vi (x2 &&& 1)), some (vi v1), some (vi v2), some (vi z4), some (vi (z7 + 1)), some (vi v11), some (vi (v2 - r13))]) (by decide +kernel) rfl rfl (by decide) rfl rfl ?_
          refine g_goto (off := (-127)) (tgt := 47) (by decide +kernel) (by decide) ?_
          obtain ⟨hI, hlt⟩ := h
          exact g_drop (ls2 := [some (vr 21 0), some (vr 19 0), none, some (vi x3), some (vi (x2 &&& 1)), some (vi v1), some (vi v2), some (vi z4), some (vi (z7 + 1)), none, none]) (And.intro rfl (And.intro rfl (And.intro rfl (And.intro rfl (And.intro rfl (And.intro rfl (And.intro rfl (And.intro rfl trivial)))))))) (ih6 (z7 + 1) H12 hI hlt)
        · replace h := h.2 c
          refine g_iload (i := 10) (by decide +kernel) rfl ?_
          refine g_aload_n (q := 1) (i := 1) (by decide +kernel) rfl rfl ?_
          refine g_get (C := "ThreePoints$Ride") (T := xT_Ride) (N := 4) (ci := 8) (k := 0) (v := vr 2 2) (by decide +kernel) (by decide) rfl rfl xi_Ride (by decide) kw_260 rfl ?_
          refine g_get (C := "ThreePoints$Lane") (T := xT_Lane) (N := 3) (ci := 2) (k := 0) (v := vi (H12 2 2 0)) (by decide +kernel) (by decide) rfl rfl xi_Lane (by decide) kw_107 rfl ?_
          refine g_icmp_le (off := 6) (tgt := 104) (by decide +kernel) (by decide) (fun c => ?_) (fun c => ?_)
          · replace h := h.1 c
            refine g_aload_n (q := 0) (i := 0) (by decide +kernel) rfl rfl ?_
            refine g_get (C := "ThreePoints$Search") (T := xT_Search) (N := 8) (ci := 9) (k := 0) (v := vi (H12 21 0 0)) (by decide +kernel) (by decide) rfl rfl xi_Search (by decide) kw_283 rfl ?_
            refine g_iconst (n := 1) (v := 1) (by decide +kernel) (by decide) ?_
            refine g_icmp_ne (off := 30) (tgt := 139) (by decide +kernel) (by decide) (fun c => ?_) (fun c => ?_)
            · replace h := h.1 c
              refine g_aload_n (q := 0) (i := 0) (by decide +kernel) rfl rfl ?_
              refine g_iload (i := 10) (by decide +kernel) rfl ?_
              refine g_iload (i := 9) (by decide +kernel) rfl ?_
              refine g_iload (i := 7) (by decide +kernel) rfl ?_
              refine g_callS (vs := [vi (v2 - r13), vi v11, vi z4]) (st := [vr 21 0]) (by decide +kernel) xm_Search_state kw_783 kw_784 rfl rfl (Nat.le_of_ble_eq_true rfl) (Nat.le_of_ble_eq_true rfl) h (fun vH14 H14 hq => ?_)
              obtain ⟨r15, rfl, h⟩ := hq
              refine g_iload_n (q := 3) (i := 3) (by decide +kernel) rfl rfl ?_
              refine g_callV (kd := 21) (ix := 0) (ci := 9) (N := 8) (T := xT_Search) (vs := [vi r15, vi x3]) (st := []) (by decide +kernel) xm_Search_lower kw_788 kw_790 kw_22 (by decide) rfl rfl rfl rfl (Nat.le_of_ble_eq_true rfl) (Nat.le_of_ble_eq_true rfl) h (fun vH16 H16 hq => ?_)
              replace h := hq
              refine g_aload_n (q := 0) (i := 0) (by decide +kernel) rfl rfl ?_
              refine g_iload (i := 10) (by decide +kernel) rfl ?_
              refine g_iload (i := 9) (by decide +kernel) rfl ?_
              refine g_iconst (n := 1) (v := 1) (by decide +kernel) (by decide) ?_
              refine g_iload (i := 7) (by decide +kernel) rfl ?_
              refine g_isub (by decide +kernel) ?_
              refine g_callS (vs := [vi (v2 - r13), vi v11, vi (1 - z4)]) (st := [vr 21 0]) (by decide +kernel) xm_Search_state kw_783 kw_784 rfl rfl (Nat.le_of_ble_eq_true rfl) (Nat.le_of_ble_eq_true rfl) h (fun vH17 H17 hq => ?_)
              obtain ⟨r18, rfl, h⟩ := hq
              refine g_iload_n (q := 3) (i := 3) (by decide +kernel) rfl rfl ?_
              refine g_iconst (n := 1) (v := 1) (by decide +kernel) (by decide) ?_
              refine g_iadd (by decide +kernel) ?_
              refine g_callV (kd := 21) (ix := 0) (ci := 9) (N := 8) (T := xT_Search) (vs := [vi r18, vi (x3 + 1)]) (st := []) (by decide +kernel) xm_Search_lower kw_788 kw_790 kw_22 (by decide) rfl rfl rfl rfl (Nat.le_of_ble_eq_true rfl) (Nat.le_of_ble_eq_true rfl) h (fun vH19 H19 hq => ?_)
              replace h := hq
              refine g_iinc (i := 8) (n := 1) (v := (z7 + 1)) (ls2 := [some (vr 21 0), some (vr 19 0), none, some (vi x3), some (vi (x2 &&& 1)), some (vi v1), some (vi v2), some (vi z4), some (vi (z7 + 1)), some (vi v11), some (vi (v2 - r13))]) (by decide +kernel) rfl rfl (by decide) rfl rfl ?_
              refine g_goto (off := (-127)) (tgt := 47) (by decide +kernel) (by decide) ?_
              obtain ⟨hI, hlt⟩ := h
              exact g_drop (ls2 := [some (vr 21 0), some (vr 19 0), none, some (vi x3), some (vi (x2 &&& 1)), some (vi v1), some (vi v2), some (vi z4), some (vi (z7 + 1)), none, none]) (And.intro rfl (And.intro rfl (And.intro rfl (And.intro rfl (And.intro rfl (And.intro rfl (And.intro rfl (And.intro rfl trivial)))))))) (ih6 (z7 + 1) H19 hI hlt)
            · replace h := h.2 c
              refine g_aload_n (q := 0) (i := 0) (by decide +kernel) rfl rfl ?_
              refine g_iload (i := 10) (by decide +kernel) rfl ?_
              refine g_iload (i := 9) (by decide +kernel) rfl ?_
              refine g_iconst (n := 0) (v := 0) (by decide +kernel) (by decide) ?_
              refine g_callS (vs := [vi (v2 - r13), vi v11, vi 0]) (st := [vr 21 0]) (by decide +kernel) xm_Search_state kw_783 kw_784 rfl rfl (Nat.le_of_ble_eq_true rfl) (Nat.le_of_ble_eq_true rfl) h (fun vH20 H20 hq => ?_)
              obtain ⟨r21, rfl, h⟩ := hq
              refine g_iload_n (q := 3) (i := 3) (by decide +kernel) rfl rfl ?_
              refine g_aload_n (q := 1) (i := 1) (by decide +kernel) rfl rfl ?_
              refine g_iload (i := 10) (by decide +kernel) rfl ?_
              refine g_iload (i := 9) (by decide +kernel) rfl ?_
              refine g_iload (i := 8) (by decide +kernel) rfl ?_
              refine g_callV (kd := 19) (ix := 0) (ci := 8) (N := 4) (T := xT_Ride) (vs := [vi (v2 - r13), vi v11, vi z7]) (st := [vi x3, vi r21, vr 21 0]) (by decide +kernel) xm_Ride_wears kw_803 kw_757 kw_758 (by decide) rfl rfl rfl rfl (Nat.le_of_ble_eq_true rfl) (Nat.le_of_ble_eq_true rfl) h (fun vH22 H22 hq => ?_)
              obtain ⟨r23, rfl, h⟩ := hq
              refine g_iadd (by decide +kernel) ?_
              refine g_callV (kd := 21) (ix := 0) (ci := 9) (N := 8) (T := xT_Search) (vs := [vi r21, vi (x3 + r23)]) (st := []) (by decide +kernel) xm_Search_lower kw_788 kw_790 kw_22 (by decide) rfl rfl rfl rfl (Nat.le_of_ble_eq_true rfl) (Nat.le_of_ble_eq_true rfl) h (fun vH24 H24 hq => ?_)
              replace h := hq
              refine g_goto (off := 35) (tgt := 171) (by decide +kernel) (by decide) ?_
              refine g_iinc (i := 8) (n := 1) (v := (z7 + 1)) (ls2 := [some (vr 21 0), some (vr 19 0), none, some (vi x3), some (vi (x2 &&& 1)), some (vi v1), some (vi v2), some (vi z4), some (vi (z7 + 1)), some (vi v11), some (vi (v2 - r13))]) (by decide +kernel) rfl rfl (by decide) rfl rfl ?_
              refine g_goto (off := (-127)) (tgt := 47) (by decide +kernel) (by decide) ?_
              obtain ⟨hI, hlt⟩ := h
              exact g_drop (ls2 := [some (vr 21 0), some (vr 19 0), none, some (vi x3), some (vi (x2 &&& 1)), some (vi v1), some (vi v2), some (vi z4), some (vi (z7 + 1)), none, none]) (And.intro rfl (And.intro rfl (And.intro rfl (And.intro rfl (And.intro rfl (And.intro rfl (And.intro rfl (And.intro rfl trivial)))))))) (ih6 (z7 + 1) H24 hI hlt)
          · replace h := h.2 c
            refine g_goto (off := 70) (tgt := 171) (by decide +kernel) (by decide) ?_
            refine g_iinc (i := 8) (n := 1) (v := (z7 + 1)) (ls2 := [some (vr 21 0), some (vr 19 0), none, some (vi x3), some (vi (x2 &&& 1)), some (vi v1), some (vi v2), some (vi z4), some (vi (z7 + 1)), some (vi v11), some (vi (v2 - r13))]) (by decide +kernel) rfl rfl (by decide) rfl rfl ?_
            refine g_goto (off := (-127)) (tgt := 47) (by decide +kernel) (by decide) ?_
            obtain ⟨hI, hlt⟩ := h
            exact g_drop (ls2 := [some (vr 21 0), some (vr 19 0), none, some (vi x3), some (vi (x2 &&& 1)), some (vi v1), some (vi v2), some (vi z4), some (vi (z7 + 1)), none, none]) (And.intro rfl (And.intro rfl (And.intro rfl (And.intro rfl (And.intro rfl (And.intro rfl (And.intro rfl (And.intro rfl trivial)))))))) (ih6 (z7 + 1) H12 hI hlt)
    · replace h := h.2 c
      refine g_iload (i := 7) (by decide +kernel) rfl ?_
      refine g_iload (i := 4) (by decide +kernel) rfl ?_
      refine g_icmp_eq (off := 6) (tgt := 44) (by decide +kernel) (by decide) (fun c => ?_) (fun c => ?_)
      · replace h := h.1 c
        refine g_iconst (n := (-1)) (v := (-1)) (by decide +kernel) (by decide) ?_
        refine g_istore (i := 8) (ls2 := [some (vr 21 0), some (vr 19 0), none, some (vi x3), some (vi (x2 &&& 1)), some (vi v1), some (vi v2), some (vi z4), some (vi (-1)), none, none]) (by decide +kernel) (by decide) rfl rfl ?_
        refine g_drop (ls2 := [some (vr 21 0), some (vr 19 0), none, some (vi x3), some (vi (x2 &&& 1)), some (vi v1), some (vi v2), some (vi z4), some (vi (-1)), none, none]) (And.intro rfl (And.intro rfl (And.intro rfl (And.intro rfl (And.intro rfl (And.intro rfl (And.intro rfl (And.intro rfl trivial)))))))) ?_
        obtain ⟨I25, μ25, h0, h⟩ := h
        refine xloop (σ := Int32) (fun s H => I25 s H) (fun s H => μ25 s H) (fun s H => g_Search_lowerAhead E (d + 1) 47 [some (vr 21 0), some (vr 19 0), none, some (vi x3), some (vi (x2 &&& 1)), some (vi v1), some (vi v2), some (vi z4), some (vi s), none, none] [] H (qv Q)) (fun s H27 hI ih25 => ?_) (-1) H5 h0
        obtain ⟨z26, es⟩ : ∃ z, z = s := ⟨s, rfl⟩
        subst es
        replace h := h z26 H27 hI
        refine g_iload (i := 8) (by decide +kernel) rfl ?_
        refine g_iconst (n := 1) (v := 1) (by decide +kernel) (by decide) ?_
        refine g_icmp_gt (off := 127) (tgt := 177) (by decide +kernel) (by decide) (fun c => ?_) (fun c => ?_)
        · replace h := h.1 c
          refine g_iinc (i := 7) (n := 1) (v := (z4 + 1)) (ls2 := [some (vr 21 0), some (vr 19 0), none, some (vi x3), some (vi (x2 &&& 1)), some (vi v1), some (vi v2), some (vi (z4 + 1)), some (vi z26), none, none]) (by decide +kernel) rfl rfl (by decide) rfl rfl ?_
          refine g_goto (off := (-159)) (tgt := 21) (by decide +kernel) (by decide) ?_
          obtain ⟨hI, hlt⟩ := h
          exact g_drop (ls2 := [some (vr 21 0), some (vr 19 0), none, some (vi x3), some (vi (x2 &&& 1)), some (vi v1), some (vi v2), some (vi (z4 + 1)), none, none, none]) (And.intro rfl (And.intro rfl (And.intro rfl (And.intro rfl (And.intro rfl (And.intro rfl (And.intro rfl trivial))))))) (ih3 (z4 + 1) H27 hI hlt)
        · replace h := h.2 c
          refine g_iload (i := 5) (by decide +kernel) rfl ?_
          refine g_aload_n (q := 1) (i := 1) (by decide +kernel) rfl rfl ?_
          refine g_get (C := "ThreePoints$Ride") (T := xT_Ride) (N := 4) (ci := 8) (k := 1) (v := vr 3 8) (by decide +kernel) (by decide) rfl rfl xi_Ride (by decide) kw_263 rfl ?_
          refine g_iload (i := 7) (by decide +kernel) rfl ?_
          refine g_iload (i := 8) (by decide +kernel) rfl ?_
          refine g_callV (kd := 3) (ix := 8) (ci := 3) (N := 7) (T := xT_Vehicle) (vs := [vi z4, vi z26]) (st := [vi v1]) (by decide +kernel) xm_Vehicle_turns kw_801 kw_753 kw_754 (by decide) rfl rfl rfl rfl (Nat.le_of_ble_eq_true rfl) (Nat.le_of_ble_eq_true rfl) h (fun vH28 H28 hq => ?_)
          obtain ⟨r29, rfl, h⟩ := hq
          refine g_isub (by decide +kernel) ?_
          refine g_bipush (n := 15) (v := 15) (by decide +kernel) (by decide) ?_
          refine g_iand (by decide +kernel) ?_
          refine g_topi (fun v30 ev30 => ?_)
          replace h := h v30 ev30
          refine g_istore (i := 9) (ls2 := [some (vr 21 0), some (vr 19 0), none, some (vi x3), some (vi (x2 &&& 1)), some (vi v1), some (vi v2), some (vi z4), some (vi z26), some (vi v30), none]) (by decide +kernel) (by decide) rfl rfl ?_
          refine g_iload (i := 6) (by decide +kernel) rfl ?_
          refine g_iload (i := 9) (by decide +kernel) rfl ?_
          refine g_iload (i := 7) (by decide +kernel) rfl ?_
          refine g_callS (vs := [vi v30, vi z4]) (st := [vi v2]) (by decide +kernel) xm_Ride_shift kw_802 kw_746 rfl rfl (Nat.le_of_ble_eq_true rfl) (Nat.le_of_ble_eq_true rfl) h (fun vH31 H31 hq => ?_)
          obtain ⟨r32, rfl, h⟩ := hq
          refine g_isub (by decide +kernel) ?_
          refine g_istore (i := 10) (ls2 := [some (vr 21 0), some (vr 19 0), none, some (vi x3), some (vi (x2 &&& 1)), some (vi v1), some (vi v2), some (vi z4), some (vi z26), some (vi v30), some (vi (v2 - r32))]) (by decide +kernel) (by decide) rfl rfl ?_
          refine g_iload (i := 10) (by decide +kernel) rfl ?_
          refine g_if_lt (off := 85) (tgt := 171) (by decide +kernel) (by decide) (fun c => ?_) (fun c => ?_)
          · replace h := h.1 c
            refine g_iinc (i := 8) (n := 1) (v := (z26 + 1)) (ls2 := [some (vr 21 0), some (vr 19 0), none, some (vi x3), some (vi (x2 &&& 1)), some (vi v1), some (vi v2), some (vi z4), some (vi (z26 + 1)), some (vi v30), some (vi (v2 - r32))]) (by decide +kernel) rfl rfl (by decide) rfl rfl ?_
            refine g_goto (off := (-127)) (tgt := 47) (by decide +kernel) (by decide) ?_
            obtain ⟨hI, hlt⟩ := h
            exact g_drop (ls2 := [some (vr 21 0), some (vr 19 0), none, some (vi x3), some (vi (x2 &&& 1)), some (vi v1), some (vi v2), some (vi z4), some (vi (z26 + 1)), none, none]) (And.intro rfl (And.intro rfl (And.intro rfl (And.intro rfl (And.intro rfl (And.intro rfl (And.intro rfl (And.intro rfl trivial)))))))) (ih25 (z26 + 1) H31 hI hlt)
          · replace h := h.2 c
            refine g_iload (i := 10) (by decide +kernel) rfl ?_
            refine g_aload_n (q := 1) (i := 1) (by decide +kernel) rfl rfl ?_
            refine g_get (C := "ThreePoints$Ride") (T := xT_Ride) (N := 4) (ci := 8) (k := 0) (v := vr 2 2) (by decide +kernel) (by decide) rfl rfl xi_Ride (by decide) kw_260 rfl ?_
            refine g_get (C := "ThreePoints$Lane") (T := xT_Lane) (N := 3) (ci := 2) (k := 0) (v := vi (H31 2 2 0)) (by decide +kernel) (by decide) rfl rfl xi_Lane (by decide) kw_107 rfl ?_
            refine g_icmp_le (off := 6) (tgt := 104) (by decide +kernel) (by decide) (fun c => ?_) (fun c => ?_)
            · replace h := h.1 c
              refine g_aload_n (q := 0) (i := 0) (by decide +kernel) rfl rfl ?_
              refine g_get (C := "ThreePoints$Search") (T := xT_Search) (N := 8) (ci := 9) (k := 0) (v := vi (H31 21 0 0)) (by decide +kernel) (by decide) rfl rfl xi_Search (by decide) kw_283 rfl ?_
              refine g_iconst (n := 1) (v := 1) (by decide +kernel) (by decide) ?_
              refine g_icmp_ne (off := 30) (tgt := 139) (by decide +kernel) (by decide) (fun c => ?_) (fun c => ?_)
              · replace h := h.1 c
                refine g_aload_n (q := 0) (i := 0) (by decide +kernel) rfl rfl ?_
                refine g_iload (i := 10) (by decide +kernel) rfl ?_
                refine g_iload (i := 9) (by decide +kernel) rfl ?_
                refine g_iload (i := 7) (by decide +kernel) rfl ?_
                refine g_callS (vs := [vi (v2 - r32), vi v30, vi z4]) (st := [vr 21 0]) (by decide +kernel) xm_Search_state kw_783 kw_784 rfl rfl (Nat.le_of_ble_eq_true rfl) (Nat.le_of_ble_eq_true rfl) h (fun vH33 H33 hq => ?_)
                obtain ⟨r34, rfl, h⟩ := hq
                refine g_iload_n (q := 3) (i := 3) (by decide +kernel) rfl rfl ?_
                refine g_callV (kd := 21) (ix := 0) (ci := 9) (N := 8) (T := xT_Search) (vs := [vi r34, vi x3]) (st := []) (by decide +kernel) xm_Search_lower kw_788 kw_790 kw_22 (by decide) rfl rfl rfl rfl (Nat.le_of_ble_eq_true rfl) (Nat.le_of_ble_eq_true rfl) h (fun vH35 H35 hq => ?_)
                replace h := hq
                refine g_aload_n (q := 0) (i := 0) (by decide +kernel) rfl rfl ?_
                refine g_iload (i := 10) (by decide +kernel) rfl ?_
                refine g_iload (i := 9) (by decide +kernel) rfl ?_
                refine g_iconst (n := 1) (v := 1) (by decide +kernel) (by decide) ?_
                refine g_iload (i := 7) (by decide +kernel) rfl ?_
                refine g_isub (by decide +kernel) ?_
                refine g_callS (vs := [vi (v2 - r32), vi v30, vi (1 - z4)]) (st := [vr 21 0]) (by decide +kernel) xm_Search_state kw_783 kw_784 rfl rfl (Nat.le_of_ble_eq_true rfl) (Nat.le_of_ble_eq_true rfl) h (fun vH36 H36 hq => ?_)
                obtain ⟨r37, rfl, h⟩ := hq
                refine g_iload_n (q := 3) (i := 3) (by decide +kernel) rfl rfl ?_
                refine g_iconst (n := 1) (v := 1) (by decide +kernel) (by decide) ?_
                refine g_iadd (by decide +kernel) ?_
                refine g_callV (kd := 21) (ix := 0) (ci := 9) (N := 8) (T := xT_Search) (vs := [vi r37, vi (x3 + 1)]) (st := []) (by decide +kernel) xm_Search_lower kw_788 kw_790 kw_22 (by decide) rfl rfl rfl rfl (Nat.le_of_ble_eq_true rfl) (Nat.le_of_ble_eq_true rfl) h (fun vH38 H38 hq => ?_)
                replace h := hq
                refine g_iinc (i := 8) (n := 1) (v := (z26 + 1)) (ls2 := [some (vr 21 0), some (vr 19 0), none, some (vi x3), some (vi (x2 &&& 1)), some (vi v1), some (vi v2), some (vi z4), some (vi (z26 + 1)), some (vi v30), some (vi (v2 - r32))]) (by decide +kernel) rfl rfl (by decide) rfl rfl ?_
                refine g_goto (off := (-127)) (tgt := 47) (by decide +kernel) (by decide) ?_
                obtain ⟨hI, hlt⟩ := h
                exact g_drop (ls2 := [some (vr 21 0), some (vr 19 0), none, some (vi x3), some (vi (x2 &&& 1)), some (vi v1), some (vi v2), some (vi z4), some (vi (z26 + 1)), none, none]) (And.intro rfl (And.intro rfl (And.intro rfl (And.intro rfl (And.intro rfl (And.intro rfl (And.intro rfl (And.intro rfl trivial)))))))) (ih25 (z26 + 1) H38 hI hlt)
              · replace h := h.2 c
                refine g_aload_n (q := 0) (i := 0) (by decide +kernel) rfl rfl ?_
                refine g_iload (i := 10) (by decide +kernel) rfl ?_
                refine g_iload (i := 9) (by decide +kernel) rfl ?_
                refine g_iconst (n := 0) (v := 0) (by decide +kernel) (by decide) ?_
                refine g_callS (vs := [vi (v2 - r32), vi v30, vi 0]) (st := [vr 21 0]) (by decide +kernel) xm_Search_state kw_783 kw_784 rfl rfl (Nat.le_of_ble_eq_true rfl) (Nat.le_of_ble_eq_true rfl) h (fun vH39 H39 hq => ?_)
                obtain ⟨r40, rfl, h⟩ := hq
                refine g_iload_n (q := 3) (i := 3) (by decide +kernel) rfl rfl ?_
                refine g_aload_n (q := 1) (i := 1) (by decide +kernel) rfl rfl ?_
                refine g_iload (i := 10) (by decide +kernel) rfl ?_
                refine g_iload (i := 9) (by decide +kernel) rfl ?_
                refine g_iload (i := 8) (by decide +kernel) rfl ?_
                refine g_callV (kd := 19) (ix := 0) (ci := 8) (N := 4) (T := xT_Ride) (vs := [vi (v2 - r32), vi v30, vi z26]) (st := [vi x3, vi r40, vr 21 0]) (by decide +kernel) xm_Ride_wears kw_803 kw_757 kw_758 (by decide) rfl rfl rfl rfl (Nat.le_of_ble_eq_true rfl) (Nat.le_of_ble_eq_true rfl) h (fun vH41 H41 hq => ?_)
                obtain ⟨r42, rfl, h⟩ := hq
                refine g_iadd (by decide +kernel) ?_
                refine g_callV (kd := 21) (ix := 0) (ci := 9) (N := 8) (T := xT_Search) (vs := [vi r40, vi (x3 + r42)]) (st := []) (by decide +kernel) xm_Search_lower kw_788 kw_790 kw_22 (by decide) rfl rfl rfl rfl (Nat.le_of_ble_eq_true rfl) (Nat.le_of_ble_eq_true rfl) h (fun vH43 H43 hq => ?_)
                replace h := hq
                refine g_goto (off := 35) (tgt := 171) (by decide +kernel) (by decide) ?_
                refine g_iinc (i := 8) (n := 1) (v := (z26 + 1)) (ls2 := [some (vr 21 0), some (vr 19 0), none, some (vi x3), some (vi (x2 &&& 1)), some (vi v1), some (vi v2), some (vi z4), some (vi (z26 + 1)), some (vi v30), some (vi (v2 - r32))]) (by decide +kernel) rfl rfl (by decide) rfl rfl ?_
                refine g_goto (off := (-127)) (tgt := 47) (by decide +kernel) (by decide) ?_
                obtain ⟨hI, hlt⟩ := h
                exact g_drop (ls2 := [some (vr 21 0), some (vr 19 0), none, some (vi x3), some (vi (x2 &&& 1)), some (vi v1), some (vi v2), some (vi z4), some (vi (z26 + 1)), none, none]) (And.intro rfl (And.intro rfl (And.intro rfl (And.intro rfl (And.intro rfl (And.intro rfl (And.intro rfl (And.intro rfl trivial)))))))) (ih25 (z26 + 1) H43 hI hlt)
            · replace h := h.2 c
              refine g_goto (off := 70) (tgt := 171) (by decide +kernel) (by decide) ?_
              refine g_iinc (i := 8) (n := 1) (v := (z26 + 1)) (ls2 := [some (vr 21 0), some (vr 19 0), none, some (vi x3), some (vi (x2 &&& 1)), some (vi v1), some (vi v2), some (vi z4), some (vi (z26 + 1)), some (vi v30), some (vi (v2 - r32))]) (by decide +kernel) rfl rfl (by decide) rfl rfl ?_
              refine g_goto (off := (-127)) (tgt := 47) (by decide +kernel) (by decide) ?_
              obtain ⟨hI, hlt⟩ := h
              exact g_drop (ls2 := [some (vr 21 0), some (vr 19 0), none, some (vi x3), some (vi (x2 &&& 1)), some (vi v1), some (vi v2), some (vi z4), some (vi (z26 + 1)), none, none]) (And.intro rfl (And.intro rfl (And.intro rfl (And.intro rfl (And.intro rfl (And.intro rfl (And.intro rfl (And.intro rfl trivial)))))))) (ih25 (z26 + 1) H31 hI hlt)
      · replace h := h.2 c
        refine g_goto (off := 136) (tgt := 177) (by decide +kernel) (by decide) ?_
        refine g_iinc (i := 7) (n := 1) (v := (z4 + 1)) (ls2 := [some (vr 21 0), some (vr 19 0), none, some (vi x3), some (vi (x2 &&& 1)), some (vi v1), some (vi v2), some (vi (z4 + 1)), none, none, none]) (by decide +kernel) rfl rfl (by decide) rfl rfl ?_
        refine g_goto (off := (-159)) (tgt := 21) (by decide +kernel) (by decide) ?_
        obtain ⟨hI, hlt⟩ := h
        exact g_drop (ls2 := [some (vr 21 0), some (vr 19 0), none, some (vi x3), some (vi (x2 &&& 1)), some (vi v1), some (vi v2), some (vi (z4 + 1)), none, none, none]) (And.intro rfl (And.intro rfl (And.intro rfl (And.intro rfl (And.intro rfl (And.intro rfl (And.intro rfl trivial))))))) (ih3 (z4 + 1) H5 hI hlt)
def p_Search_toHeading (E : XE) (d : Nat) (x2 : Int32) (x3 : Int32) (H : HH) (Q : HH → Prop) : Prop := ∀ H1 : HH, H1 = (hu (hu H 21 0 0 x3) 21 0 6 0) → (c_fill E d 23 1952 0 2147483647 H1 (fun H2 => c_fill E d 24 128 0 (-1) H2 (fun H3 => ∃ (I4 : Int32 → HH → Prop) (μ4 : Int32 → HH → Nat), I4 0 H3 ∧ ∀ (z5 : Int32) (H6 : HH), I4 z5 H6 → (∃ J7 : HH → Prop, (((((H6 2 2 0) + 1) * 16) ≤ z5 → (J7  H6)) ∧ (¬ (((H6 2 2 0) + 1) * 16) ≤ z5 → ((976 ≤ z5 → (J7  H6)) ∧ (¬ 976 ≤ z5 → (c_Ride_fits E d (z5 / 16) (xrem z5 16) H6 (fun r30 H29 => vp_in z5 976 ∧ ((r30 = 0 ∨ r30 = 1) ∧ (∀ H31 : HH, H31 = (hu H29 22 0 (z5.toNatClampNeg) r30) → (I4 (z5 + 1) H31 ∧ μ4 (z5 + 1) H31 < μ4 z5 H6))))))))) ∧ ∀  (H8 : HH), J7  H8 → (∃ (I9 : Int32 → HH → Prop) (μ9 : Int32 → HH → Nat), I9 0 H8 ∧ ∀ (z10 : Int32) (H11 : HH), I9 z10 H11 → (∃ J12 : HH → Prop, (((H11 2 2 0) < z10 → (J12  H11)) ∧ (¬ (H11 2 2 0) < z10 → (c_Search_state E d z10 x2 0 H11 (fun r24 H23 => c_Search_lower E d r24 0 H23 (fun H25 => (¬ (H25 21 0 0) = 0 → (I9 (z10 + 1) H25 ∧ μ9 (z10 + 1) H25 < μ9 z10 H11)) ∧ ((H25 21 0 0) = 0 → (c_Search_state E d z10 x2 1 H25 (fun r27 H26 => c_Search_lower E d r27 0 H26 (fun H28 => I9 (z10 + 1) H28 ∧ μ9 (z10 + 1) H28 < μ9 z10 H11))))))))) ∧ ∀  (H13 : HH), J12  H13 → (∃ (I14 : Int32 → HH → Prop) (μ14 : Int32 → HH → Nat), I14 0 H13 ∧ ∀ (z15 : Int32) (H16 : HH), I14 z15 H16 → ((193248 < z15 → (Q H16)) ∧ (¬ 193248 < z15 → (((H16 21 0 6) ≤ 0 → (Q H16)) ∧ (¬ (H16 21 0 6) ≤ 0 → (∃ (I17 : Int32 → HH → Prop) (μ17 : Int32 → HH → Nat), I17 1952 H16 ∧ ∀ (z18 : Int32) (H19 : HH), I17 z18 H19 → ((z18 ≤ 0 → (I14 (z15 + 1) H19 ∧ μ14 (z15 + 1) H19 < μ14 z15 H16)) ∧ (¬ z18 ≤ 0 → (vp_in (xrem z15 128) 128 ∧ (((H19 24 0 ((xrem z15 128).toNatClampNeg)) < 0 → (I14 (z15 + 1) H19 ∧ μ14 (z15 + 1) H19 < μ14 z15 H16)) ∧ (¬ (H19 24 0 ((xrem z15 128).toNatClampNeg)) < 0 → (vp_in (xrem z15 128) 128 ∧ (∀ v20 : Int32, v20 = (H19 24 0 ((xrem z15 128).toNatClampNeg)) → (c_Search_unlink E d v20 H19 (fun H21 => c_Search_lowerAhead E d v20 z15 H21 (fun H22 => I17 (z18 + (-1)) H22 ∧ μ17 (z18 + (-1)) H22 < μ17 z18 H19))))))))))))))))))))))
set_option maxHeartbeats 4000000 in
theorem l_Search_toHeading {E : XE} {d : Nat} {x2 : Int32} {x3 : Int32} {H : HH} {Q : HH → Prop} (h : p_Search_toHeading E d x2 x3 H Q) : c_Search_toHeading E (d + 1) x2 x3 H Q := by
  show g_Search_toHeading E (d + 1) 0 (xent [vr 21 0, vr 19 0, vi x2, vi x3]) [] H (qv Q)
  refine g_drop (ls2 := [some (vr 21 0), some (vr 19 0), some (vi x2), some (vi x3), none, none, none]) (And.intro rfl (And.intro rfl (And.intro rfl (And.intro rfl trivial)))) ?_
  refine g_aload_n (q := 0) (i := 0) (by decide +kernel) rfl rfl ?_
  refine g_iload_n (q := 3) (i := 3) (by decide +kernel) rfl rfl ?_
  refine g_put (C := "ThreePoints$Search") (T := xT_Search) (N := 8) (ci := 9) (k := 0) xy_Search (by decide +kernel) (by decide) rfl rfl xi_Search xy_Search_ok xn_Search (by decide) kw_283 rfl (by decide +kernel) (fun _ => rfl) ?_
  refine g_aload_n (q := 0) (i := 0) (by decide +kernel) rfl rfl ?_
  refine g_iconst (n := 0) (v := 0) (by decide +kernel) (by decide) ?_
  refine g_put (C := "ThreePoints$Search") (T := xT_Search) (N := 8) (ci := 9) (k := 6) xy_Search (by decide +kernel) (by decide) rfl rfl xi_Search xy_Search_ok xn_Search (by decide) kw_289 rfl (by decide +kernel) (fun _ => rfl) ?_
  refine g_aload_n (q := 0) (i := 0) (by decide +kernel) rfl rfl ?_
  refine g_get (C := "ThreePoints$Search") (T := xT_Search) (N := 8) (ci := 9) (k := 2) (v := vr 23 0) (by decide +kernel) (by decide) rfl rfl xi_Search (by decide) kw_285 rfl ?_
  refine g_ldc (v := 2147483647) (by decide +kernel) kw_780 ?_
  refine g_heap (fun H1 eH1 => ?_)
  replace h := h H1 eH1
  refine g_callS (vs := [vr 23 0, vi 2147483647]) (st := []) (by decide +kernel) xm_fill kw_781 kw_509 rfl rfl (Nat.le_of_ble_eq_true rfl) (Nat.le_of_ble_eq_true rfl) h (fun vH2 H2 hq => ?_)
  replace h := hq
  refine g_aload_n (q := 0) (i := 0) (by decide +kernel) rfl rfl ?_
  refine g_get (C := "ThreePoints$Search") (T := xT_Search) (N := 8) (ci := 9) (k := 3) (v := vr 24 0) (by decide +kernel) (by decide) rfl rfl xi_Search (by decide) kw_286 rfl ?_
  refine g_iconst (n := (-1)) (v := (-1)) (by decide +kernel) (by decide) ?_
  refine g_callS (vs := [vr 24 0, vi (-1)]) (st := []) (by decide +kernel) xm_fill kw_781 kw_509 rfl rfl (Nat.le_of_ble_eq_true rfl) (Nat.le_of_ble_eq_true rfl) h (fun vH3 H3 hq => ?_)
  replace h := hq
  refine g_iconst (n := 0) (v := 0) (by decide +kernel) (by decide) ?_
  refine g_istore (i := 4) (ls2 := [some (vr 21 0), some (vr 19 0), some (vi x2), some (vi x3), some (vi 0), none, none]) (by decide +kernel) (by decide) rfl rfl ?_
  refine g_drop (ls2 := [some (vr 21 0), some (vr 19 0), some (vi x2), none, some (vi 0), none, none]) (And.intro rfl (And.intro rfl (And.intro rfl (And.intro rfl trivial)))) ?_
  obtain ⟨I4, μ4, h0, h⟩ := h
  refine xloop (σ := Int32) (fun s H => I4 s H) (fun s H => μ4 s H) (fun s H => g_Search_toHeading E (d + 1) 30 [some (vr 21 0), some (vr 19 0), some (vi x2), none, some (vi s), none, none] [] H (qv Q)) (fun s H6 hI ih4 => ?_) 0 H3 h0
  obtain ⟨z5, es⟩ : ∃ z, z = s := ⟨s, rfl⟩
  subst es
  replace h := h z5 H6 hI
  refine g_iload (i := 4) (by decide +kernel) rfl ?_
  refine g_aload_n (q := 1) (i := 1) (by decide +kernel) rfl rfl ?_
  refine g_get (C := "ThreePoints$Ride") (T := xT_Ride) (N := 4) (ci := 8) (k := 0) (v := vr 2 2) (by decide +kernel) (by decide) rfl rfl xi_Ride (by decide) kw_260 rfl ?_
  refine g_get (C := "ThreePoints$Lane") (T := xT_Lane) (N := 3) (ci := 2) (k := 0) (v := vi (H6 2 2 0)) (by decide +kernel) (by decide) rfl rfl xi_Lane (by decide) kw_107 rfl ?_
  refine g_iconst (n := 1) (v := 1) (by decide +kernel) (by decide) ?_
  refine g_iadd (by decide +kernel) ?_
  refine g_bipush (n := 16) (v := 16) (by decide +kernel) (by decide) ?_
  refine g_imul (by decide +kernel) ?_
  obtain ⟨J7, h, hk7⟩ := h
  have hc7 : ∀  (H8 : HH), J7  H8 → g_Search_toHeading E (d + 1) 82 [some (vr 21 0), some (vr 19 0), some (vi x2), none, none, none, none] [] H8 (qv Q) := by
    intro  H8 h
    replace h := hk7  H8 h
    refine g_iconst (n := 0) (v := 0) (by decide +kernel) (by decide) ?_
    refine g_istore (i := 4) (ls2 := [some (vr 21 0), some (vr 19 0), some (vi x2), none, some (vi 0), none, none]) (by decide +kernel) (by decide) rfl rfl ?_
    refine g_drop (ls2 := [some (vr 21 0), some (vr 19 0), some (vi x2), none, some (vi 0), none, none]) (And.intro rfl (And.intro rfl (And.intro rfl (And.intro rfl trivial)))) ?_
    obtain ⟨I9, μ9, h0, h⟩ := h
    refine xloop (σ := Int32) (fun s H => I9 s H) (fun s H => μ9 s H) (fun s H => g_Search_toHeading E (d + 1) 85 [some (vr 21 0), some (vr 19 0), some (vi x2), none, some (vi s), none, none] [] H (qv Q)) (fun s H11 hI ih9 => ?_) 0 H8 h0
    obtain ⟨z10, es⟩ : ∃ z, z = s := ⟨s, rfl⟩
    subst es
    replace h := h z10 H11 hI
    refine g_iload (i := 4) (by decide +kernel) rfl ?_
    refine g_aload_n (q := 1) (i := 1) (by decide +kernel) rfl rfl ?_
    refine g_get (C := "ThreePoints$Ride") (T := xT_Ride) (N := 4) (ci := 8) (k := 0) (v := vr 2 2) (by decide +kernel) (by decide) rfl rfl xi_Ride (by decide) kw_260 rfl ?_
    refine g_get (C := "ThreePoints$Lane") (T := xT_Lane) (N := 3) (ci := 2) (k := 0) (v := vi (H11 2 2 0)) (by decide +kernel) (by decide) rfl rfl xi_Lane (by decide) kw_107 rfl ?_
    obtain ⟨J12, h, hk12⟩ := h
    have hc12 : ∀  (H13 : HH), J12  H13 → g_Search_toHeading E (d + 1) 134 [some (vr 21 0), some (vr 19 0), none, none, none, none, none] [] H13 (qv Q) := by
      intro  H13 h
      replace h := hk12  H13 h
      refine g_iconst (n := 0) (v := 0) (by decide +kernel) (by decide) ?_
      refine g_istore (i := 4) (ls2 := [some (vr 21 0), some (vr 19 0), none, none, some (vi 0), none, none]) (by decide +kernel) (by decide) rfl rfl ?_
      refine g_drop (ls2 := [some (vr 21 0), some (vr 19 0), none, none, some (vi 0), none, none]) (And.intro rfl (And.intro rfl (And.intro rfl trivial))) ?_
      obtain ⟨I14, μ14, h0, h⟩ := h
      refine xloop (σ := Int32) (fun s H => I14 s H) (fun s H => μ14 s H) (fun s H => g_Search_toHeading E (d + 1) 137 [some (vr 21 0), some (vr 19 0), none, none, some (vi s), none, none] [] H (qv Q)) (fun s H16 hI ih14 => ?_) 0 H13 h0
      obtain ⟨z15, es⟩ : ∃ z, z = s := ⟨s, rfl⟩
      subst es
      replace h := h z15 H16 hI
      refine g_iload (i := 4) (by decide +kernel) rfl ?_
      refine g_ldc (v := 193248) (by decide +kernel) kw_796 ?_
      refine g_icmp_gt (off := 74) (tgt := 215) (by decide +kernel) (by decide) (fun c => ?_) (fun c => ?_)
      · replace h := h.1 c
        exact g_vret (by decide +kernel) rfl h
      · replace h := h.2 c
        refine g_aload_n (q := 0) (i := 0) (by decide +kernel) rfl rfl ?_
        refine g_get (C := "ThreePoints$Search") (T := xT_Search) (N := 8) (ci := 9) (k := 6) (v := vi (H16 21 0 6)) (by decide +kernel) (by decide) rfl rfl xi_Search (by decide) kw_289 rfl ?_
        refine g_if_le (off := 67) (tgt := 215) (by decide +kernel) (by decide) (fun c => ?_) (fun c => ?_)
        · replace h := h.1 c
          exact g_vret (by decide +kernel) rfl h
        · replace h := h.2 c
          refine g_sipush (n := 1952) (v := 1952) (by decide +kernel) (by decide) ?_
          refine g_istore (i := 5) (ls2 := [some (vr 21 0), some (vr 19 0), none, none, some (vi z15), some (vi 1952), none]) (by decide +kernel) (by decide) rfl rfl ?_
          refine g_drop (ls2 := [some (vr 21 0), some (vr 19 0), none, none, some (vi z15), some (vi 1952), none]) (And.intro rfl (And.intro rfl (And.intro rfl (And.intro rfl trivial)))) ?_
          obtain ⟨I17, μ17, h0, h⟩ := h
          refine xloop (σ := Int32) (fun s H => I17 s H) (fun s H => μ17 s H) (fun s H => g_Search_toHeading E (d + 1) 156 [some (vr 21 0), some (vr 19 0), none, none, some (vi z15), some (vi s), none] [] H (qv Q)) (fun s H19 hI ih17 => ?_) 1952 H16 h0
          obtain ⟨z18, es⟩ : ∃ z, z = s := ⟨s, rfl⟩
          subst es
          replace h := h z18 H19 hI
          refine g_iload (i := 5) (by decide +kernel) rfl ?_
          refine g_if_le (off := 51) (tgt := 209) (by decide +kernel) (by decide) (fun c => ?_) (fun c => ?_)
          · replace h := h.1 c
            refine g_iinc (i := 4) (n := 1) (v := (z15 + 1)) (ls2 := [some (vr 21 0), some (vr 19 0), none, none, some (vi (z15 + 1)), some (vi z18), none]) (by decide +kernel) rfl rfl (by decide) rfl rfl ?_
            refine g_goto (off := (-75)) (tgt := 137) (by decide +kernel) (by decide) ?_
            obtain ⟨hI, hlt⟩ := h
            exact g_drop (ls2 := [some (vr 21 0), some (vr 19 0), none, none, some (vi (z15 + 1)), none, none]) (And.intro rfl (And.intro rfl (And.intro rfl trivial))) (ih14 (z15 + 1) H19 hI hlt)
          · replace h := h.2 c
            refine g_aload_n (q := 0) (i := 0) (by decide +kernel) rfl rfl ?_
            refine g_get (C := "ThreePoints$Search") (T := xT_Search) (N := 8) (ci := 9) (k := 3) (v := vr 24 0) (by decide +kernel) (by decide) rfl rfl xi_Search (by decide) kw_286 rfl ?_
            refine g_iload (i := 4) (by decide +kernel) rfl ?_
            refine g_sipush (n := 128) (v := 128) (by decide +kernel) (by decide) ?_
            refine g_irem (by decide +kernel) (by decide) ?_
            obtain ⟨hin, h⟩ := h
            refine g_iald (by decide +kernel) (by decide) rfl hin ?_
            refine g_if_lt (off := 37) (tgt := 209) (by decide +kernel) (by decide) (fun c => ?_) (fun c => ?_)
            · replace h := h.1 c
              refine g_iinc (i := 4) (n := 1) (v := (z15 + 1)) (ls2 := [some (vr 21 0), some (vr 19 0), none, none, some (vi (z15 + 1)), some (vi z18), none]) (by decide +kernel) rfl rfl (by decide) rfl rfl ?_
              refine g_goto (off := (-75)) (tgt := 137) (by decide +kernel) (by decide) ?_
              obtain ⟨hI, hlt⟩ := h
              exact g_drop (ls2 := [some (vr 21 0), some (vr 19 0), none, none, some (vi (z15 + 1)), none, none]) (And.intro rfl (And.intro rfl (And.intro rfl trivial))) (ih14 (z15 + 1) H19 hI hlt)
            · replace h := h.2 c
              refine g_aload_n (q := 0) (i := 0) (by decide +kernel) rfl rfl ?_
              refine g_get (C := "ThreePoints$Search") (T := xT_Search) (N := 8) (ci := 9) (k := 3) (v := vr 24 0) (by decide +kernel) (by decide) rfl rfl xi_Search (by decide) kw_286 rfl ?_
              refine g_iload (i := 4) (by decide +kernel) rfl ?_
              refine g_sipush (n := 128) (v := 128) (by decide +kernel) (by decide) ?_
              refine g_irem (by decide +kernel) (by decide) ?_
              obtain ⟨hin, h⟩ := h
              refine g_iald (by decide +kernel) (by decide) rfl hin ?_
              refine g_topi (fun v20 ev20 => ?_)
              replace h := h v20 ev20
              refine g_istore (i := 6) (ls2 := [some (vr 21 0), some (vr 19 0), none, none, some (vi z15), some (vi z18), some (vi v20)]) (by decide +kernel) (by decide) rfl rfl ?_
              refine g_aload_n (q := 0) (i := 0) (by decide +kernel) rfl rfl ?_
              refine g_iload (i := 6) (by decide +kernel) rfl ?_
              refine g_callV (kd := 21) (ix := 0) (ci := 9) (N := 8) (T := xT_Search) (vs := [vi v20]) (st := []) (by decide +kernel) xm_Search_unlink kw_792 kw_794 kw_23 (by decide) rfl rfl rfl rfl (Nat.le_of_ble_eq_true rfl) (Nat.le_of_ble_eq_true rfl) h (fun vH21 H21 hq => ?_)
              replace h := hq
              refine g_aload_n (q := 0) (i := 0) (by decide +kernel) rfl rfl ?_
              refine g_aload_n (q := 1) (i := 1) (by decide +kernel) rfl rfl ?_
              refine g_iload (i := 6) (by decide +kernel) rfl ?_
              refine g_iload (i := 4) (by decide +kernel) rfl ?_
              refine g_callV (kd := 21) (ix := 0) (ci := 9) (N := 8) (T := xT_Search) (vs := [vr 19 0, vi v20, vi z15]) (st := []) (by decide +kernel) xm_Search_lowerAhead kw_797 kw_799 kw_24 (by decide) rfl rfl rfl rfl (Nat.le_of_ble_eq_true rfl) (Nat.le_of_ble_eq_true rfl) h (fun vH22 H22 hq => ?_)
              replace h := hq
              refine g_iinc (i := 5) (n := (-1)) (v := (z18 + (-1))) (ls2 := [some (vr 21 0), some (vr 19 0), none, none, some (vi z15), some (vi (z18 + (-1))), some (vi v20)]) (by decide +kernel) rfl rfl (by decide) rfl rfl ?_
              refine g_goto (off := (-50)) (tgt := 156) (by decide +kernel) (by decide) ?_
              obtain ⟨hI, hlt⟩ := h
              exact g_drop (ls2 := [some (vr 21 0), some (vr 19 0), none, none, some (vi z15), some (vi (z18 + (-1))), none]) (And.intro rfl (And.intro rfl (And.intro rfl (And.intro rfl trivial)))) (ih17 (z18 + (-1)) H22 hI hlt)
    refine g_icmp_gt (off := 40) (tgt := 134) (by decide +kernel) (by decide) (fun c => ?_) (fun c => ?_)
    · replace h := h.1 c
      exact g_drop (ls2 := [some (vr 21 0), some (vr 19 0), none, none, none, none, none]) (And.intro rfl (And.intro rfl trivial)) (hc12  H11 h)
    · replace h := h.2 c
      refine g_aload_n (q := 0) (i := 0) (by decide +kernel) rfl rfl ?_
      refine g_iload (i := 4) (by decide +kernel) rfl ?_
      refine g_iload_n (q := 2) (i := 2) (by decide +kernel) rfl rfl ?_
      refine g_iconst (n := 0) (v := 0) (by decide +kernel) (by decide) ?_
      refine g_callS (vs := [vi z10, vi x2, vi 0]) (st := [vr 21 0]) (by decide +kernel) xm_Search_state kw_783 kw_784 rfl rfl (Nat.le_of_ble_eq_true rfl) (Nat.le_of_ble_eq_true rfl) h (fun vH23 H23 hq => ?_)
      obtain ⟨r24, rfl, h⟩ := hq
      refine g_iconst (n := 0) (v := 0) (by decide +kernel) (by decide) ?_
      refine g_callV (kd := 21) (ix := 0) (ci := 9) (N := 8) (T := xT_Search) (vs := [vi r24, vi 0]) (st := []) (by decide +kernel) xm_Search_lower kw_788 kw_790 kw_22 (by decide) rfl rfl rfl rfl (Nat.le_of_ble_eq_true rfl) (Nat.le_of_ble_eq_true rfl) h (fun vH25 H25 hq => ?_)
      replace h := hq
      refine g_aload_n (q := 0) (i := 0) (by decide +kernel) rfl rfl ?_
      refine g_get (C := "ThreePoints$Search") (T := xT_Search) (N := 8) (ci := 9) (k := 0) (v := vi (H25 21 0 0)) (by decide +kernel) (by decide) rfl rfl xi_Search (by decide) kw_283 rfl ?_
      refine g_if_ne (off := 15) (tgt := 128) (by decide +kernel) (by decide) (fun c => ?_) (fun c => ?_)
      · replace h := h.1 c
        refine g_iinc (i := 4) (n := 1) (v := (z10 + 1)) (ls2 := [some (vr 21 0), some (vr 19 0), some (vi x2), none, some (vi (z10 + 1)), none, none]) (by decide +kernel) rfl rfl (by decide) rfl rfl ?_
        refine g_goto (off := (-46)) (tgt := 85) (by decide +kernel) (by decide) ?_
        obtain ⟨hI, hlt⟩ := h
        exact g_drop (ls2 := [some (vr 21 0), some (vr 19 0), some (vi x2), none, some (vi (z10 + 1)), none, none]) (And.intro rfl (And.intro rfl (And.intro rfl (And.intro rfl trivial)))) (ih9 (z10 + 1) H25 hI hlt)
      · replace h := h.2 c
        refine g_aload_n (q := 0) (i := 0) (by decide +kernel) rfl rfl ?_
        refine g_iload (i := 4) (by decide +kernel) rfl ?_
        refine g_iload_n (q := 2) (i := 2) (by decide +kernel) rfl rfl ?_
        refine g_iconst (n := 1) (v := 1) (by decide +kernel) (by decide) ?_
        refine g_callS (vs := [vi z10, vi x2, vi 1]) (st := [vr 21 0]) (by decide +kernel) xm_Search_state kw_783 kw_784 rfl rfl (Nat.le_of_ble_eq_true rfl) (Nat.le_of_ble_eq_true rfl) h (fun vH26 H26 hq => ?_)
        obtain ⟨r27, rfl, h⟩ := hq
        refine g_iconst (n := 0) (v := 0) (by decide +kernel) (by decide) ?_
        refine g_callV (kd := 21) (ix := 0) (ci := 9) (N := 8) (T := xT_Search) (vs := [vi r27, vi 0]) (st := []) (by decide +kernel) xm_Search_lower kw_788 kw_790 kw_22 (by decide) rfl rfl rfl rfl (Nat.le_of_ble_eq_true rfl) (Nat.le_of_ble_eq_true rfl) h (fun vH28 H28 hq => ?_)
        replace h := hq
        refine g_iinc (i := 4) (n := 1) (v := (z10 + 1)) (ls2 := [some (vr 21 0), some (vr 19 0), some (vi x2), none, some (vi (z10 + 1)), none, none]) (by decide +kernel) rfl rfl (by decide) rfl rfl ?_
        refine g_goto (off := (-46)) (tgt := 85) (by decide +kernel) (by decide) ?_
        obtain ⟨hI, hlt⟩ := h
        exact g_drop (ls2 := [some (vr 21 0), some (vr 19 0), some (vi x2), none, some (vi (z10 + 1)), none, none]) (And.intro rfl (And.intro rfl (And.intro rfl (And.intro rfl trivial)))) (ih9 (z10 + 1) H28 hI hlt)
  refine g_icmp_ge (off := 38) (tgt := 82) (by decide +kernel) (by decide) (fun c => ?_) (fun c => ?_)
  · replace h := h.1 c
    exact g_drop (ls2 := [some (vr 21 0), some (vr 19 0), some (vi x2), none, none, none, none]) (And.intro rfl (And.intro rfl (And.intro rfl trivial))) (hc7  H6 h)
  · replace h := h.2 c
    refine g_iload (i := 4) (by decide +kernel) rfl ?_
    refine g_sipush (n := 976) (v := 976) (by decide +kernel) (by decide) ?_
    refine g_icmp_ge (off := 30) (tgt := 82) (by decide +kernel) (by decide) (fun c => ?_) (fun c => ?_)
    · replace h := h.1 c
      exact g_drop (ls2 := [some (vr 21 0), some (vr 19 0), some (vi x2), none, none, none, none]) (And.intro rfl (And.intro rfl (And.intro rfl trivial))) (hc7  H6 h)
    · replace h := h.2 c
      refine g_aload_n (q := 0) (i := 0) (by decide +kernel) rfl rfl ?_
      refine g_get (C := "ThreePoints$Search") (T := xT_Search) (N := 8) (ci := 9) (k := 1) (v := vr 22 0) (by decide +kernel) (by decide) rfl rfl xi_Search (by decide) kw_284 rfl ?_
      refine g_iload (i := 4) (by decide +kernel) rfl ?_
      refine g_aload_n (q := 1) (i := 1) (by decide +kernel) rfl rfl ?_
      refine g_iload (i := 4) (by decide +kernel) rfl ?_
      refine g_bipush (n := 16) (v := 16) (by decide +kernel) (by decide) ?_
      refine g_idiv (by decide +kernel) (by decide) ?_
      refine g_iload (i := 4) (by decide +kernel) rfl ?_
      refine g_bipush (n := 16) (v := 16) (by decide +kernel) (by decide) ?_
      refine g_irem (by decide +kernel) (by decide) ?_
      refine g_callV (kd := 19) (ix := 0) (ci := 8) (N := 4) (T := xT_Ride) (vs := [vi (z5 / 16), vi (xrem z5 16)]) (st := [vi z5, vr 22 0]) (by decide +kernel) xm_Ride_fits kw_782 kw_643 kw_644 (by decide) rfl rfl rfl rfl (Nat.le_of_ble_eq_true rfl) (Nat.le_of_ble_eq_true rfl) h (fun vH29 H29 hq => ?_)
      obtain ⟨r30, rfl, h⟩ := hq
      obtain ⟨hin, h⟩ := h
      obtain ⟨h01, h⟩ := h
      refine g_zast (by decide +kernel) (by decide) rfl hin h01 ?_
      refine g_iinc (i := 4) (n := 1) (v := (z5 + 1)) (ls2 := [some (vr 21 0), some (vr 19 0), some (vi x2), none, some (vi (z5 + 1)), none, none]) (by decide +kernel) rfl rfl (by decide) rfl rfl ?_
      refine g_goto (off := (-49)) (tgt := 30) (by decide +kernel) (by decide) ?_
      refine g_heap (fun H31 eH31 => ?_)
      replace h := h H31 eH31
      obtain ⟨hI, hlt⟩ := h
      exact g_drop (ls2 := [some (vr 21 0), some (vr 19 0), some (vi x2), none, some (vi (z5 + 1)), none, none]) (And.intro rfl (And.intro rfl (And.intro rfl (And.intro rfl trivial)))) (ih4 (z5 + 1) H31 hI hlt)
def p_Search_least (E : XE) (d : Nat) (x2 : Int32) (x3 : Int32) (x4 : Int32) (H : HH) (Q : Int32 → HH → Prop) : Prop := ∀ H1 : HH, H1 = (hu H 21 0 7 (-1)) → (∃ (I2 : Int32 → Int32 → HH → Prop) (μ2 : Int32 → Int32 → HH → Nat), I2 2147483647 0 H1 ∧ ∀ (z3 : Int32) (z4 : Int32) (H5 : HH), I2 z3 z4 H5 → ((1 < z4 → (Q (if z3 = 2147483647 then (-1) else z3 : Int32) H5)) ∧ (¬ 1 < z4 → (c_Ride_shift E d x3 z4 H5 (fun r8 H7 => ((x2 + r8) < 0 → (I2 z3 (z4 + 1) H7 ∧ μ2 z3 (z4 + 1) H7 < μ2 z3 z4 H5)) ∧ (¬ (x2 + r8) < 0 → (((x2 + r8) ≤ (H7 2 2 0) → (∃ (I9 : Int32 → Int32 → HH → Prop) (μ9 : Int32 → Int32 → HH → Nat), I9 z3 (-1) H7 ∧ ∀ (z10 : Int32) (z11 : Int32) (H12 : HH), I9 z10 z11 H12 → ((1 < z11 → (I2 z10 (z4 + 1) H12 ∧ μ2 z10 (z4 + 1) H12 < μ2 z3 z4 H5)) ∧ (¬ 1 < z11 → (∀ v14 : Int32, v14 = (if (H12 21 0 0) = 0 then z4 else 0 : Int32) → (c_Ride_turnedBy E d x3 z4 z11 H12 (fun r16 H15 => c_Search_state E d (x2 + r8) r16 v14 H15 (fun r18 H17 => vp_in r18 1952 ∧ (∀ v19 : Int32, v19 = (H17 23 0 (r18.toNatClampNeg)) → ((¬ v19 = 2147483647 → (∀ v22 : Int32, v22 = (if z4 = x4 then 0 else 1 : Int32) → ((¬ (H17 21 0 0) = 1 → (((v22 + v19) < z10 → (∀ H23 : HH, H23 = (hu H17 21 0 7 (((10 * z4) + z11) + 1)) → (I9 (v22 + v19) (z11 + 1) H23 ∧ μ9 (v22 + v19) (z11 + 1) H23 < μ9 z10 z11 H12))) ∧ (¬ (v22 + v19) < z10 → (I9 z10 (z11 + 1) H17 ∧ μ9 z10 (z11 + 1) H17 < μ9 z10 z11 H12)))) ∧ ((H17 21 0 0) = 1 → (c_Ride_wears E d x2 x3 z11 H17 (fun r25 H24 => ((r25 + v19) < z10 → (∀ H26 : HH, H26 = (hu H24 21 0 7 (((10 * z4) + z11) + 1)) → (I9 (r25 + v19) (z11 + 1) H26 ∧ μ9 (r25 + v19) (z11 + 1) H26 < μ9 z10 z11 H12))) ∧ (¬ (r25 + v19) < z10 → (I9 z10 (z11 + 1) H24 ∧ μ9 z10 (z11 + 1) H24 < μ9 z10 z11 H12)))))))) ∧ (v19 = 2147483647 → (I9 z10 (z11 + 1) H17 ∧ μ9 z10 (z11 + 1) H17 < μ9 z10 z11 H12)))))))))))) ∧ (¬ (x2 + r8) ≤ (H7 2 2 0) → (I2 z3 (z4 + 1) H7 ∧ μ2 z3 (z4 + 1) H7 < μ2 z3 z4 H5)))))))))
set_option maxHeartbeats 4000000 in
theorem l_Search_least {E : XE} {d : Nat} {x2 : Int32} {x3 : Int32} {x4 : Int32} {H : HH} {Q : Int32 → HH → Prop} (h : p_Search_least E d x2 x3 x4 H Q) : c_Search_least E (d + 1) x2 x3 x4 H Q := by
  show g_Search_least E (d + 1) 0 (xent [vr 21 0, vr 19 0, vi x2, vi x3, vi x4]) [] H (qi Q)
  refine g_drop (ls2 := [some (vr 21 0), some (vr 19 0), some (vi x2), some (vi x3), some (vi x4), none, none, none, none, none, none, none]) (And.intro rfl (And.intro rfl (And.intro rfl (And.intro rfl (And.intro rfl trivial))))) ?_
  refine g_ldc (v := 2147483647) (by decide +kernel) kw_780 ?_
  refine g_istore (i := 5) (ls2 := [some (vr 21 0), some (vr 19 0), some (vi x2), some (vi x3), some (vi x4), some (vi 2147483647), none, none, none, none, none, none]) (by decide +kernel) (by decide) rfl rfl ?_
  refine g_aload_n (q := 0) (i := 0) (by decide +kernel) rfl rfl ?_
  refine g_iconst (n := (-1)) (v := (-1)) (by decide +kernel) (by decide) ?_
  refine g_put (C := "ThreePoints$Search") (T := xT_Search) (N := 8) (ci := 9) (k := 7) xy_Search (by decide +kernel) (by decide) rfl rfl xi_Search xy_Search_ok xn_Search (by decide) kw_290 rfl (by decide +kernel) (fun _ => rfl) ?_
  refine g_iconst (n := 0) (v := 0) (by decide +kernel) (by decide) ?_
  refine g_istore (i := 6) (ls2 := [some (vr 21 0), some (vr 19 0), some (vi x2), some (vi x3), some (vi x4), some (vi 2147483647), some (vi 0), none, none, none, none, none]) (by decide +kernel) (by decide) rfl rfl ?_
  refine g_heap (fun H1 eH1 => ?_)
  replace h := h H1 eH1
  refine g_drop (ls2 := [some (vr 21 0), some (vr 19 0), some (vi x2), some (vi x3), some (vi x4), some (vi 2147483647), some (vi 0), none, none, none, none, none]) (And.intro rfl (And.intro rfl (And.intro rfl (And.intro rfl (And.intro rfl (And.intro rfl (And.intro rfl trivial))))))) ?_
  obtain ⟨I2, μ2, h0, h⟩ := h
  refine xloop (σ := Int32 × Int32) (fun s H => I2 s.1 s.2 H) (fun s H => μ2 s.1 s.2 H) (fun s H => g_Search_least E (d + 1) 12 [some (vr 21 0), some (vr 19 0), some (vi x2), some (vi x3), some (vi x4), some (vi s.1), some (vi s.2), none, none, none, none, none] [] H (qi Q)) (fun s H5 hI ih2 => ?_) (2147483647, 0) H1 h0
  obtain ⟨z3, z4⟩ := s
  replace h := h z3 z4 H5 hI
  refine g_iload (i := 6) (by decide +kernel) rfl ?_
  refine g_iconst (n := 1) (v := 1) (by decide +kernel) (by decide) ?_
  refine g_icmp_gt (off := 168) (tgt := 183) (by decide +kernel) (by decide) (fun c => ?_) (fun c => ?_)
  · replace h := h.1 c
    refine g_iload (i := 5) (by decide +kernel) rfl ?_
    refine g_ldc (v := 2147483647) (by decide +kernel) kw_780 ?_
    suffices hj6 : g_Search_least E (d + 1) 196 [some (vr 21 0), some (vr 19 0), some (vi x2), some (vi x3), some (vi x4), some (vi z3), some (vi z4), none, none, none, none, none] [vi (if z3 = 2147483647 then (-1) else z3 : Int32)] H5 (qi Q) by
      refine g_icmp_ne (off := 7) (tgt := 194) (by decide +kernel) (by decide) (fun c => ?_) (fun c => ?_)
      · rw [if_neg c] at hj6
        refine g_iload (i := 5) (by decide +kernel) rfl ?_
        exact hj6
      · rw [if_pos c] at hj6
        refine g_iconst (n := (-1)) (v := (-1)) (by decide +kernel) (by decide) ?_
        refine g_goto (off := 5) (tgt := 196) (by decide +kernel) (by decide) ?_
        exact hj6
    exact g_iret (by decide +kernel) rfl ⟨_, rfl, h⟩
  · replace h := h.2 c
    refine g_iload_n (q := 2) (i := 2) (by decide +kernel) rfl rfl ?_
    refine g_iload_n (q := 3) (i := 3) (by decide +kernel) rfl rfl ?_
    refine g_iload (i := 6) (by decide +kernel) rfl ?_
    refine g_callS (vs := [vi x3, vi z4]) (st := [vi x2]) (by decide +kernel) xm_Ride_shift kw_802 kw_746 rfl rfl (Nat.le_of_ble_eq_true rfl) (Nat.le_of_ble_eq_true rfl) h (fun vH7 H7 hq => ?_)
    obtain ⟨r8, rfl, h⟩ := hq
    refine g_iadd (by decide +kernel) ?_
    refine g_istore (i := 7) (ls2 := [some (vr 21 0), some (vr 19 0), some (vi x2), some (vi x3), some (vi x4), some (vi z3), some (vi z4), some (vi (x2 + r8)), none, none, none, none]) (by decide +kernel) (by decide) rfl rfl ?_
    refine g_iload (i := 7) (by decide +kernel) rfl ?_
    refine g_if_lt (off := 147) (tgt := 177) (by decide +kernel) (by decide) (fun c => ?_) (fun c => ?_)
    · replace h := h.1 c
      refine g_iinc (i := 6) (n := 1) (v := (z4 + 1)) (ls2 := [some (vr 21 0), some (vr 19 0), some (vi x2), some (vi x3), some (vi x4), some (vi z3), some (vi (z4 + 1)), some (vi (x2 + r8)), none, none, none, none]) (by decide +kernel) rfl rfl (by decide) rfl rfl ?_
      refine g_goto (off := (-168)) (tgt := 12) (by decide +kernel) (by decide) ?_
      obtain ⟨hI, hlt⟩ := h
      exact g_drop (ls2 := [some (vr 21 0), some (vr 19 0), some (vi x2), some (vi x3), some (vi x4), some (vi z3), some (vi (z4 + 1)), none, none, none, none, none]) (And.intro rfl (And.intro rfl (And.intro rfl (And.intro rfl (And.intro rfl (And.intro rfl (And.intro rfl trivial))))))) (ih2 (z3, (z4 + 1)) H7 hI hlt)
    · replace h := h.2 c
      refine g_iload (i := 7) (by decide +kernel) rfl ?_
      refine g_aload_n (q := 1) (i := 1) (by decide +kernel) rfl rfl ?_
      refine g_get (C := "ThreePoints$Ride") (T := xT_Ride) (N := 4) (ci := 8) (k := 0) (v := vr 2 2) (by decide +kernel) (by decide) rfl rfl xi_Ride (by decide) kw_260 rfl ?_
      refine g_get (C := "ThreePoints$Lane") (T := xT_Lane) (N := 3) (ci := 2) (k := 0) (v := vi (H7 2 2 0)) (by decide +kernel) (by decide) rfl rfl xi_Lane (by decide) kw_107 rfl ?_
      refine g_icmp_le (off := 6) (tgt := 48) (by decide +kernel) (by decide) (fun c => ?_) (fun c => ?_)
      · replace h := h.1 c
        refine g_iconst (n := (-1)) (v := (-1)) (by decide +kernel) (by decide) ?_
        refine g_istore (i := 8) (ls2 := [some (vr 21 0), some (vr 19 0), some (vi x2), some (vi x3), some (vi x4), some (vi z3), some (vi z4), some (vi (x2 + r8)), some (vi (-1)), none, none, none]) (by decide +kernel) (by decide) rfl rfl ?_
        refine g_drop (ls2 := [some (vr 21 0), some (vr 19 0), some (vi x2), some (vi x3), some (vi x4), some (vi z3), some (vi z4), some (vi (x2 + r8)), some (vi (-1)), none, none, none]) (And.intro rfl (And.intro rfl (And.intro rfl (And.intro rfl (And.intro rfl (And.intro rfl (And.intro rfl (And.intro rfl (And.intro rfl trivial))))))))) ?_
        obtain ⟨I9, μ9, h0, h⟩ := h
        refine xloop (σ := Int32 × Int32) (fun s H => I9 s.1 s.2 H) (fun s H => μ9 s.1 s.2 H) (fun s H => g_Search_least E (d + 1) 51 [some (vr 21 0), some (vr 19 0), some (vi x2), some (vi x3), some (vi x4), some (vi s.1), some (vi z4), some (vi (x2 + r8)), some (vi s.2), none, none, none] [] H (qi Q)) (fun s H12 hI ih9 => ?_) (z3, (-1)) H7 h0
        obtain ⟨z10, z11⟩ := s
        replace h := h z10 z11 H12 hI
        refine g_iload (i := 8) (by decide +kernel) rfl ?_
        refine g_iconst (n := 1) (v := 1) (by decide +kernel) (by decide) ?_
        refine g_icmp_gt (off := 123) (tgt := 177) (by decide +kernel) (by decide) (fun c => ?_) (fun c => ?_)
        · replace h := h.1 c
          refine g_iinc (i := 6) (n := 1) (v := (z4 + 1)) (ls2 := [some (vr 21 0), some (vr 19 0), some (vi x2), some (vi x3), some (vi x4), some (vi z10), some (vi (z4 + 1)), some (vi (x2 + r8)), some (vi z11), none, none, none]) (by decide +kernel) rfl rfl (by decide) rfl rfl ?_
          refine g_goto (off := (-168)) (tgt := 12) (by decide +kernel) (by decide) ?_
          obtain ⟨hI, hlt⟩ := h
          exact g_drop (ls2 := [some (vr 21 0), some (vr 19 0), some (vi x2), some (vi x3), some (vi x4), some (vi z10), some (vi (z4 + 1)), none, none, none, none, none]) (And.intro rfl (And.intro rfl (And.intro rfl (And.intro rfl (And.intro rfl (And.intro rfl (And.intro rfl trivial))))))) (ih2 (z10, (z4 + 1)) H12 hI hlt)
        · replace h := h.2 c
          refine g_aload_n (q := 0) (i := 0) (by decide +kernel) rfl rfl ?_
          refine g_get (C := "ThreePoints$Search") (T := xT_Search) (N := 8) (ci := 9) (k := 0) (v := vi (H12 21 0 0)) (by decide +kernel) (by decide) rfl rfl xi_Search (by decide) kw_283 rfl ?_
          suffices hj13 : g_Search_least E (d + 1) 70 [some (vr 21 0), some (vr 19 0), some (vi x2), some (vi x3), some (vi x4), some (vi z10), some (vi z4), some (vi (x2 + r8)), some (vi z11), none, none, none] [vi (if (H12 21 0 0) = 0 then z4 else 0 : Int32)] H12 (qi Q) by
            refine g_if_ne (off := 8) (tgt := 69) (by decide +kernel) (by decide) (fun c => ?_) (fun c => ?_)
            · rw [if_neg c] at hj13
              refine g_iconst (n := 0) (v := 0) (by decide +kernel) (by decide) ?_
              exact hj13
            · rw [if_pos c] at hj13
              refine g_iload (i := 6) (by decide +kernel) rfl ?_
              refine g_goto (off := 4) (tgt := 70) (by decide +kernel) (by decide) ?_
              exact hj13
          refine g_topi (fun v14 ev14 => ?_)
          replace h := h v14 ev14
          refine g_istore (i := 9) (ls2 := [some (vr 21 0), some (vr 19 0), some (vi x2), some (vi x3), some (vi x4), some (vi z10), some (vi z4), some (vi (x2 + r8)), some (vi z11), some (vi v14), none, none]) (by decide +kernel) (by decide) rfl rfl ?_
          refine g_aload_n (q := 0) (i := 0) (by decide +kernel) rfl rfl ?_
          refine g_get (C := "ThreePoints$Search") (T := xT_Search) (N := 8) (ci := 9) (k := 2) (v := vr 23 0) (by decide +kernel) (by decide) rfl rfl xi_Search (by decide) kw_285 rfl ?_
          refine g_iload (i := 7) (by decide +kernel) rfl ?_
          refine g_aload_n (q := 1) (i := 1) (by decide +kernel) rfl rfl ?_
          refine g_iload_n (q := 3) (i := 3) (by decide +kernel) rfl rfl ?_
          refine g_iload (i := 6) (by decide +kernel) rfl ?_
          refine g_iload (i := 8) (by decide +kernel) rfl ?_
          refine g_callV (kd := 19) (ix := 0) (ci := 8) (N := 4) (T := xT_Ride) (vs := [vi x3, vi z4, vi z11]) (st := [vi (x2 + r8), vr 23 0]) (by decide +kernel) xm_Ride_turnedBy kw_812 kw_749 kw_750 (by decide) rfl rfl rfl rfl (Nat.le_of_ble_eq_true rfl) (Nat.le_of_ble_eq_true rfl) h (fun vH15 H15 hq => ?_)
          obtain ⟨r16, rfl, h⟩ := hq
          refine g_iload (i := 9) (by decide +kernel) rfl ?_
          refine g_callS (vs := [vi (x2 + r8), vi r16, vi v14]) (st := [vr 23 0]) (by decide +kernel) xm_Search_state kw_783 kw_784 rfl rfl (Nat.le_of_ble_eq_true rfl) (Nat.le_of_ble_eq_true rfl) h (fun vH17 H17 hq => ?_)
          obtain ⟨r18, rfl, h⟩ := hq
          obtain ⟨hin, h⟩ := h
          refine g_iald (by decide +kernel) (by decide) rfl hin ?_
          refine g_topi (fun v19 ev19 => ?_)
          replace h := h v19 ev19
          refine g_istore (i := 10) (ls2 := [some (vr 21 0), some (vr 19 0), some (vi x2), some (vi x3), some (vi x4), some (vi z10), some (vi z4), some (vi (x2 + r8)), some (vi z11), some (vi v14), some (vi v19), none]) (by decide +kernel) (by decide) rfl rfl ?_
          refine g_iload (i := 10) (by decide +kernel) rfl ?_
          refine g_ldc (v := 2147483647) (by decide +kernel) kw_780 ?_
          refine g_icmp_ne (off := 6) (tgt := 105) (by decide +kernel) (by decide) (fun c => ?_) (fun c => ?_)
          · replace h := h.1 c
            refine g_iload (i := 6) (by decide +kernel) rfl ?_
            refine g_iload (i := 4) (by decide +kernel) rfl ?_
            suffices hj21 : g_Search_least E (d + 1) 117 [some (vr 21 0), some (vr 19 0), some (vi x2), some (vi x3), some (vi x4), some (vi z10), some (vi z4), some (vi (x2 + r8)), some (vi z11), some (vi v14), some (vi v19), none] [vi (if z4 = x4 then 0 else 1 : Int32)] H17 (qi Q) by
              refine g_icmp_ne (off := 7) (tgt := 116) (by decide +kernel) (by decide) (fun c => ?_) (fun c => ?_)
              · rw [if_neg c] at hj21
                refine g_iconst (n := 1) (v := 1) (by decide +kernel) (by decide) ?_
                exact hj21
              · rw [if_pos c] at hj21
                refine g_iconst (n := 0) (v := 0) (by decide +kernel) (by decide) ?_
                refine g_goto (off := 4) (tgt := 117) (by decide +kernel) (by decide) ?_
                exact hj21
            refine g_topi (fun v22 ev22 => ?_)
            replace h := h v22 ev22
            refine g_istore (i := 11) (ls2 := [some (vr 21 0), some (vr 19 0), some (vi x2), some (vi x3), some (vi x4), some (vi z10), some (vi z4), some (vi (x2 + r8)), some (vi z11), some (vi v14), some (vi v19), some (vi v22)]) (by decide +kernel) (by decide) rfl rfl ?_
            refine g_aload_n (q := 0) (i := 0) (by decide +kernel) rfl rfl ?_
            refine g_get (C := "ThreePoints$Search") (T := xT_Search) (N := 8) (ci := 9) (k := 0) (v := vi (H17 21 0 0)) (by decide +kernel) (by decide) rfl rfl xi_Search (by decide) kw_283 rfl ?_
            refine g_iconst (n := 1) (v := 1) (by decide +kernel) (by decide) ?_
            refine g_icmp_ne (off := 13) (tgt := 137) (by decide +kernel) (by decide) (fun c => ?_) (fun c => ?_)
            · replace h := h.1 c
              refine g_iload (i := 11) (by decide +kernel) rfl ?_
              refine g_iload (i := 10) (by decide +kernel) rfl ?_
              refine g_iadd (by decide +kernel) ?_
              refine g_iload (i := 5) (by decide +kernel) rfl ?_
              refine g_icmp_lt (off := 6) (tgt := 150) (by decide +kernel) (by decide) (fun c => ?_) (fun c => ?_)
              · replace h := h.1 c
                refine g_iload (i := 11) (by decide +kernel) rfl ?_
                refine g_iload (i := 10) (by decide +kernel) rfl ?_
                refine g_iadd (by decide +kernel) ?_
                refine g_istore (i := 5) (ls2 := [some (vr 21 0), some (vr 19 0), some (vi x2), some (vi x3), some (vi x4), some (vi (v22 + v19)), some (vi z4), some (vi (x2 + r8)), some (vi z11), some (vi v14), some (vi v19), some (vi v22)]) (by decide +kernel) (by decide) rfl rfl ?_
                refine g_aload_n (q := 0) (i := 0) (by decide +kernel) rfl rfl ?_
                refine g_bipush (n := 10) (v := 10) (by decide +kernel) (by decide) ?_
                refine g_iload (i := 6) (by decide +kernel) rfl ?_
                refine g_imul (by decide +kernel) ?_
                refine g_iload (i := 8) (by decide +kernel) rfl ?_
                refine g_iadd (by decide +kernel) ?_
                refine g_iconst (n := 1) (v := 1) (by decide +kernel) (by decide) ?_
                refine g_iadd (by decide +kernel) ?_
                refine g_put (C := "ThreePoints$Search") (T := xT_Search) (N := 8) (ci := 9) (k := 7) xy_Search (by decide +kernel) (by decide) rfl rfl xi_Search xy_Search_ok xn_Search (by decide) kw_290 rfl (by decide +kernel) (fun _ => rfl) ?_
                refine g_iinc (i := 8) (n := 1) (v := (z11 + 1)) (ls2 := [some (vr 21 0), some (vr 19 0), some (vi x2), some (vi x3), some (vi x4), some (vi (v22 + v19)), some (vi z4), some (vi (x2 + r8)), some (vi (z11 + 1)), some (vi v14), some (vi v19), some (vi v22)]) (by decide +kernel) rfl rfl (by decide) rfl rfl ?_
                refine g_goto (off := (-123)) (tgt := 51) (by decide +kernel) (by decide) ?_
                refine g_heap (fun H23 eH23 => ?_)
                replace h := h H23 eH23
                obtain ⟨hI, hlt⟩ := h
                exact g_drop (ls2 := [some (vr 21 0), some (vr 19 0), some (vi x2), some (vi x3), some (vi x4), some (vi (v22 + v19)), some (vi z4), some (vi (x2 + r8)), some (vi (z11 + 1)), none, none, none]) (And.intro rfl (And.intro rfl (And.intro rfl (And.intro rfl (And.intro rfl (And.intro rfl (And.intro rfl (And.intro rfl (And.intro rfl trivial))))))))) (ih9 ((v22 + v19), (z11 + 1)) H23 hI hlt)
              · replace h := h.2 c
                refine g_goto (off := 24) (tgt := 171) (by decide +kernel) (by decide) ?_
                refine g_iinc (i := 8) (n := 1) (v := (z11 + 1)) (ls2 := [some (vr 21 0), some (vr 19 0), some (vi x2), some (vi x3), some (vi x4), some (vi z10), some (vi z4), some (vi (x2 + r8)), some (vi (z11 + 1)), some (vi v14), some (vi v19), some (vi v22)]) (by decide +kernel) rfl rfl (by decide) rfl rfl ?_
                refine g_goto (off := (-123)) (tgt := 51) (by decide +kernel) (by decide) ?_
                obtain ⟨hI, hlt⟩ := h
                exact g_drop (ls2 := [some (vr 21 0), some (vr 19 0), some (vi x2), some (vi x3), some (vi x4), some (vi z10), some (vi z4), some (vi (x2 + r8)), some (vi (z11 + 1)), none, none, none]) (And.intro rfl (And.intro rfl (And.intro rfl (And.intro rfl (And.intro rfl (And.intro rfl (And.intro rfl (And.intro rfl (And.intro rfl trivial))))))))) (ih9 (z10, (z11 + 1)) H17 hI hlt)
            · replace h := h.2 c
              refine g_aload_n (q := 1) (i := 1) (by decide +kernel) rfl rfl ?_
              refine g_iload_n (q := 2) (i := 2) (by decide +kernel) rfl rfl ?_
              refine g_iload_n (q := 3) (i := 3) (by decide +kernel) rfl rfl ?_
              refine g_iload (i := 8) (by decide +kernel) rfl ?_
              refine g_callV (kd := 19) (ix := 0) (ci := 8) (N := 4) (T := xT_Ride) (vs := [vi x2, vi x3, vi z11]) (st := []) (by decide +kernel) xm_Ride_wears kw_803 kw_757 kw_758 (by decide) rfl rfl rfl rfl (Nat.le_of_ble_eq_true rfl) (Nat.le_of_ble_eq_true rfl) h (fun vH24 H24 hq => ?_)
              obtain ⟨r25, rfl, h⟩ := hq
              refine g_istore (i := 11) (ls2 := [some (vr 21 0), some (vr 19 0), some (vi x2), some (vi x3), some (vi x4), some (vi z10), some (vi z4), some (vi (x2 + r8)), some (vi z11), some (vi v14), some (vi v19), some (vi r25)]) (by decide +kernel) (by decide) rfl rfl ?_
              refine g_iload (i := 11) (by decide +kernel) rfl ?_
              refine g_iload (i := 10) (by decide +kernel) rfl ?_
              refine g_iadd (by decide +kernel) ?_
              refine g_iload (i := 5) (by decide +kernel) rfl ?_
              refine g_icmp_lt (off := 6) (tgt := 150) (by decide +kernel) (by decide) (fun c => ?_) (fun c => ?_)
              · replace h := h.1 c
                refine g_iload (i := 11) (by decide +kernel) rfl ?_
                refine g_iload (i := 10) (by decide +kernel) rfl ?_
                refine g_iadd (by decide +kernel) ?_
                refine g_istore (i := 5) (ls2 := [some (vr 21 0), some (vr 19 0), some (vi x2), some (vi x3), some (vi x4), some (vi (r25 + v19)), some (vi z4), some (vi (x2 + r8)), some (vi z11), some (vi v14), some (vi v19), some (vi r25)]) (by decide +kernel) (by decide) rfl rfl ?_
                refine g_aload_n (q := 0) (i := 0) (by decide +kernel) rfl rfl ?_
                refine g_bipush (n := 10) (v := 10) (by decide +kernel) (by decide) ?_
                refine g_iload (i := 6) (by decide +kernel) rfl ?_
                refine g_imul (by decide +kernel) ?_
                refine g_iload (i := 8) (by decide +kernel) rfl ?_
                refine g_iadd (by decide +kernel) ?_
                refine g_iconst (n := 1) (v := 1) (by decide +kernel) (by decide) ?_
                refine g_iadd (by decide +kernel) ?_
                refine g_put (C := "ThreePoints$Search") (T := xT_Search) (N := 8) (ci := 9) (k := 7) xy_Search (by decide +kernel) (by decide) rfl rfl xi_Search xy_Search_ok xn_Search (by decide) kw_290 rfl (by decide +kernel) (fun _ => rfl) ?_
                refine g_iinc (i := 8) (n := 1) (v := (z11 + 1)) (ls2 := [some (vr 21 0), some (vr 19 0), some (vi x2), some (vi x3), some (vi x4), some (vi (r25 + v19)), some (vi z4), some (vi (x2 + r8)), some (vi (z11 + 1)), some (vi v14), some (vi v19), some (vi r25)]) (by decide +kernel) rfl rfl (by decide) rfl rfl ?_
                refine g_goto (off := (-123)) (tgt := 51) (by decide +kernel) (by decide) ?_
                refine g_heap (fun H26 eH26 => ?_)
                replace h := h H26 eH26
                obtain ⟨hI, hlt⟩ := h
                exact g_drop (ls2 := [some (vr 21 0), some (vr 19 0), some (vi x2), some (vi x3), some (vi x4), some (vi (r25 + v19)), some (vi z4), some (vi (x2 + r8)), some (vi (z11 + 1)), none, none, none]) (And.intro rfl (And.intro rfl (And.intro rfl (And.intro rfl (And.intro rfl (And.intro rfl (And.intro rfl (And.intro rfl (And.intro rfl trivial))))))))) (ih9 ((r25 + v19), (z11 + 1)) H26 hI hlt)
              · replace h := h.2 c
                refine g_goto (off := 24) (tgt := 171) (by decide +kernel) (by decide) ?_
                refine g_iinc (i := 8) (n := 1) (v := (z11 + 1)) (ls2 := [some (vr 21 0), some (vr 19 0), some (vi x2), some (vi x3), some (vi x4), some (vi z10), some (vi z4), some (vi (x2 + r8)), some (vi (z11 + 1)), some (vi v14), some (vi v19), some (vi r25)]) (by decide +kernel) rfl rfl (by decide) rfl rfl ?_
                refine g_goto (off := (-123)) (tgt := 51) (by decide +kernel) (by decide) ?_
                obtain ⟨hI, hlt⟩ := h
                exact g_drop (ls2 := [some (vr 21 0), some (vr 19 0), some (vi x2), some (vi x3), some (vi x4), some (vi z10), some (vi z4), some (vi (x2 + r8)), some (vi (z11 + 1)), none, none, none]) (And.intro rfl (And.intro rfl (And.intro rfl (And.intro rfl (And.intro rfl (And.intro rfl (And.intro rfl (And.intro rfl (And.intro rfl trivial))))))))) (ih9 (z10, (z11 + 1)) H24 hI hlt)
          · replace h := h.2 c
            refine g_goto (off := 69) (tgt := 171) (by decide +kernel) (by decide) ?_
            refine g_iinc (i := 8) (n := 1) (v := (z11 + 1)) (ls2 := [some (vr 21 0), some (vr 19 0), some (vi x2), some (vi x3), some (vi x4), some (vi z10), some (vi z4), some (vi (x2 + r8)), some (vi (z11 + 1)), some (vi v14), some (vi v19), none]) (by decide +kernel) rfl rfl (by decide) rfl rfl ?_
            refine g_goto (off := (-123)) (tgt := 51) (by decide +kernel) (by decide) ?_
            obtain ⟨hI, hlt⟩ := h
            exact g_drop (ls2 := [some (vr 21 0), some (vr 19 0), some (vi x2), some (vi x3), some (vi x4), some (vi z10), some (vi z4), some (vi (x2 + r8)), some (vi (z11 + 1)), none, none, none]) (And.intro rfl (And.intro rfl (And.intro rfl (And.intro rfl (And.intro rfl (And.intro rfl (And.intro rfl (And.intro rfl (And.intro rfl trivial))))))))) (ih9 (z10, (z11 + 1)) H17 hI hlt)
      · replace h := h.2 c
        refine g_goto (off := 132) (tgt := 177) (by decide +kernel) (by decide) ?_
        refine g_iinc (i := 6) (n := 1) (v := (z4 + 1)) (ls2 := [some (vr 21 0), some (vr 19 0), some (vi x2), some (vi x3), some (vi x4), some (vi z3), some (vi (z4 + 1)), some (vi (x2 + r8)), none, none, none, none]) (by decide +kernel) rfl rfl (by decide) rfl rfl ?_
        refine g_goto (off := (-168)) (tgt := 12) (by decide +kernel) (by decide) ?_
        obtain ⟨hI, hlt⟩ := h
        exact g_drop (ls2 := [some (vr 21 0), some (vr 19 0), some (vi x2), some (vi x3), some (vi x4), some (vi z3), some (vi (z4 + 1)), none, none, none, none, none]) (And.intro rfl (And.intro rfl (And.intro rfl (And.intro rfl (And.intro rfl (And.intro rfl (And.intro rfl trivial))))))) (ih2 (z3, (z4 + 1)) H7 hI hlt)
def p_Search_leastFromNow (E : XE) (d : Nat)  (H : HH) (Q : Int32 → HH → Prop) : Prop := c_Search_least E d (H 3 8 2) (H 3 8 3) (H 3 8 6) H (fun r2 H1 => Q r2 H1)
set_option maxHeartbeats 4000000 in
theorem l_Search_leastFromNow {E : XE} {d : Nat}  {H : HH} {Q : Int32 → HH → Prop} (h : p_Search_leastFromNow E d  H Q) : c_Search_leastFromNow E (d + 1)  H Q := by
  show g_Search_leastFromNow E (d + 1) 0 (xent [vr 21 0, vr 19 0]) [] H (qi Q)
  refine g_drop (ls2 := [some (vr 21 0), some (vr 19 0)]) (And.intro rfl (And.intro rfl trivial)) ?_
  refine g_aload_n (q := 0) (i := 0) (by decide +kernel) rfl rfl ?_
  refine g_aload_n (q := 1) (i := 1) (by decide +kernel) rfl rfl ?_
  refine g_aload_n (q := 1) (i := 1) (by decide +kernel) rfl rfl ?_
  refine g_get (C := "ThreePoints$Ride") (T := xT_Ride) (N := 4) (ci := 8) (k := 1) (v := vr 3 8) (by decide +kernel) (by decide) rfl rfl xi_Ride (by decide) kw_263 rfl ?_
  refine g_get (C := "ThreePoints$Vehicle") (T := xT_Vehicle) (N := 7) (ci := 3) (k := 2) (v := vi (H 3 8 2)) (by decide +kernel) (by decide) rfl rfl xi_Vehicle (by decide) kw_134 rfl ?_
  refine g_aload_n (q := 1) (i := 1) (by decide +kernel) rfl rfl ?_
  refine g_get (C := "ThreePoints$Ride") (T := xT_Ride) (N := 4) (ci := 8) (k := 1) (v := vr 3 8) (by decide +kernel) (by decide) rfl rfl xi_Ride (by decide) kw_263 rfl ?_
  refine g_get (C := "ThreePoints$Vehicle") (T := xT_Vehicle) (N := 7) (ci := 3) (k := 3) (v := vi (H 3 8 3)) (by decide +kernel) (by decide) rfl rfl xi_Vehicle (by decide) kw_138 rfl ?_
  refine g_aload_n (q := 1) (i := 1) (by decide +kernel) rfl rfl ?_
  refine g_get (C := "ThreePoints$Ride") (T := xT_Ride) (N := 4) (ci := 8) (k := 1) (v := vr 3 8) (by decide +kernel) (by decide) rfl rfl xi_Ride (by decide) kw_263 rfl ?_
  refine g_get (C := "ThreePoints$Vehicle") (T := xT_Vehicle) (N := 7) (ci := 3) (k := 6) (v := vi (H 3 8 6)) (by decide +kernel) (by decide) rfl rfl xi_Vehicle (by decide) kw_145 rfl ?_
  refine g_callV (kd := 21) (ix := 0) (ci := 9) (N := 8) (T := xT_Search) (vs := [vr 19 0, vi (H 3 8 2), vi (H 3 8 3), vi (H 3 8 6)]) (st := []) (by decide +kernel) xm_Search_least kw_808 kw_809 kw_810 (by decide) rfl rfl rfl rfl (Nat.le_of_ble_eq_true rfl) (Nat.le_of_ble_eq_true rfl) h (fun vH1 H1 hq => ?_)
  obtain ⟨r2, rfl, h⟩ := hq
  exact g_iret (by decide +kernel) rfl ⟨_, rfl, h⟩
def p_Search_addBehind (E : XE) (d : Nat) (x2 : Int32) (x3 : Int32) (x4 : Int32) (H : HH) (Q : Int32 → HH → Prop) : Prop := ∃ (I1 : Int32 → Int32 → HH → Prop) (μ1 : Int32 → Int32 → HH → Nat), I1 x4 0 H ∧ ∀ (z2 : Int32) (z3 : Int32) (H4 : HH), I1 z2 z3 H4 → ((1 < z3 → (Q z2 H4)) ∧ (¬ 1 < z3 → (c_Ride_shift E d x3 z3 H4 (fun r6 H5 => ((x2 + r6) < 0 → (I1 z2 (z3 + 1) H5 ∧ μ1 z2 (z3 + 1) H5 < μ1 z2 z3 H4)) ∧ (¬ (x2 + r6) < 0 → (((x2 + r6) ≤ (H5 2 2 0) → (∃ (I7 : Int32 → Int32 → HH → Prop) (μ7 : Int32 → Int32 → HH → Nat), I7 z2 (-1) H5 ∧ ∀ (z8 : Int32) (z9 : Int32) (H10 : HH), I7 z8 z9 H10 → ((1 < z9 → (I1 z8 (z3 + 1) H10 ∧ μ1 z8 (z3 + 1) H10 < μ1 z2 z3 H4)) ∧ (¬ 1 < z9 → (c_Ride_turnedBy E d x3 z3 z9 H10 (fun r12 H11 => c_Search_state E d (x2 + r6) r12 0 H11 (fun r14 H13 => vp_in r14 1952 ∧ ((¬ (H13 23 0 (r14.toNatClampNeg)) = 2147483647 → (I7 z8 (z9 + 1) H13 ∧ μ7 z8 (z9 + 1) H13 < μ7 z8 z9 H10)) ∧ ((H13 23 0 (r14.toNatClampNeg)) = 2147483647 → ((z8 < 1952 → (vp_in r14 1952 ∧ (∀ H15 : HH, H15 = (hu H13 23 0 (r14.toNatClampNeg) 0) → (c_Ride_fits E d (x2 + r6) r12 H15 (fun r17 H16 => (¬ r17 = 0 → (vp_in z8 1952 ∧ (∀ H18 : HH, H18 = (hu H16 25 0 (z8.toNatClampNeg) r14) → (I7 (z8 + 1) (z9 + 1) H18 ∧ μ7 (z8 + 1) (z9 + 1) H18 < μ7 z8 z9 H10)))) ∧ (r17 = 0 → (I7 z8 (z9 + 1) H16 ∧ μ7 z8 (z9 + 1) H16 < μ7 z8 z9 H10))))))) ∧ (¬ z8 < 1952 → (I7 z8 (z9 + 1) H13 ∧ μ7 z8 (z9 + 1) H13 < μ7 z8 z9 H10)))))))))))) ∧ (¬ (x2 + r6) ≤ (H5 2 2 0) → (I1 z2 (z3 + 1) H5 ∧ μ1 z2 (z3 + 1) H5 < μ1 z2 z3 H4))))))))
set_option maxHeartbeats 4000000 in
theorem l_Search_addBehind {E : XE} {d : Nat} {x2 : Int32} {x3 : Int32} {x4 : Int32} {H : HH} {Q : Int32 → HH → Prop} (h : p_Search_addBehind E d x2 x3 x4 H Q) : c_Search_addBehind E (d + 1) x2 x3 x4 H Q := by
  show g_Search_addBehind E (d + 1) 0 (xent [vr 21 0, vr 19 0, vi x2, vi x3, vi x4]) [] H (qi Q)
  refine g_drop (ls2 := [some (vr 21 0), some (vr 19 0), some (vi x2), some (vi x3), some (vi x4), none, none, none, none, none, none]) (And.intro rfl (And.intro rfl (And.intro rfl (And.intro rfl (And.intro rfl trivial))))) ?_
  refine g_iload (i := 4) (by decide +kernel) rfl ?_
  refine g_istore (i := 5) (ls2 := [some (vr 21 0), some (vr 19 0), some (vi x2), some (vi x3), some (vi x4), some (vi x4), none, none, none, none, none]) (by decide +kernel) (by decide) rfl rfl ?_
  refine g_iconst (n := 0) (v := 0) (by decide +kernel) (by decide) ?_
  refine g_istore (i := 6) (ls2 := [some (vr 21 0), some (vr 19 0), some (vi x2), some (vi x3), some (vi x4), some (vi x4), some (vi 0), none, none, none, none]) (by decide +kernel) (by decide) rfl rfl ?_
  refine g_drop (ls2 := [some (vr 21 0), some (vr 19 0), some (vi x2), some (vi x3), none, some (vi x4), some (vi 0), none, none, none, none]) (And.intro rfl (And.intro rfl (And.intro rfl (And.intro rfl (And.intro rfl (And.intro rfl trivial)))))) ?_
  obtain ⟨I1, μ1, h0, h⟩ := h
  refine xloop (σ := Int32 × Int32) (fun s H => I1 s.1 s.2 H) (fun s H => μ1 s.1 s.2 H) (fun s H => g_Search_addBehind E (d + 1) 7 [some (vr 21 0), some (vr 19 0), some (vi x2), some (vi x3), none, some (vi s.1), some (vi s.2), none, none, none, none] [] H (qi Q)) (fun s H4 hI ih1 => ?_) (x4, 0) H h0
  obtain ⟨z2, z3⟩ := s
  replace h := h z2 z3 H4 hI
  refine g_iload (i := 6) (by decide +kernel) rfl ?_
  refine g_iconst (n := 1) (v := 1) (by decide +kernel) (by decide) ?_
  refine g_icmp_gt (off := 132) (tgt := 142) (by decide +kernel) (by decide) (fun c => ?_) (fun c => ?_)
  · replace h := h.1 c
    refine g_iload (i := 5) (by decide +kernel) rfl ?_
    exact g_iret (by decide +kernel) rfl ⟨_, rfl, h⟩
  · replace h := h.2 c
    refine g_iload_n (q := 2) (i := 2) (by decide +kernel) rfl rfl ?_
    refine g_iload_n (q := 3) (i := 3) (by decide +kernel) rfl rfl ?_
    refine g_iload (i := 6) (by decide +kernel) rfl ?_
    refine g_callS (vs := [vi x3, vi z3]) (st := [vi x2]) (by decide +kernel) xm_Ride_shift kw_802 kw_746 rfl rfl (Nat.le_of_ble_eq_true rfl) (Nat.le_of_ble_eq_true rfl) h (fun vH5 H5 hq => ?_)
    obtain ⟨r6, rfl, h⟩ := hq
    refine g_iadd (by decide +kernel) ?_
    refine g_istore (i := 7) (ls2 := [some (vr 21 0), some (vr 19 0), some (vi x2), some (vi x3), none, some (vi z2), some (vi z3), some (vi (x2 + r6)), none, none, none]) (by decide +kernel) (by decide) rfl rfl ?_
    refine g_iload (i := 7) (by decide +kernel) rfl ?_
    refine g_if_lt (off := 111) (tgt := 136) (by decide +kernel) (by decide) (fun c => ?_) (fun c => ?_)
    · replace h := h.1 c
      refine g_iinc (i := 6) (n := 1) (v := (z3 + 1)) (ls2 := [some (vr 21 0), some (vr 19 0), some (vi x2), some (vi x3), none, some (vi z2), some (vi (z3 + 1)), some (vi (x2 + r6)), none, none, none]) (by decide +kernel) rfl rfl (by decide) rfl rfl ?_
      refine g_goto (off := (-132)) (tgt := 7) (by decide +kernel) (by decide) ?_
      obtain ⟨hI, hlt⟩ := h
      exact g_drop (ls2 := [some (vr 21 0), some (vr 19 0), some (vi x2), some (vi x3), none, some (vi z2), some (vi (z3 + 1)), none, none, none, none]) (And.intro rfl (And.intro rfl (And.intro rfl (And.intro rfl (And.intro rfl (And.intro rfl trivial)))))) (ih1 (z2, (z3 + 1)) H5 hI hlt)
    · replace h := h.2 c
      refine g_iload (i := 7) (by decide +kernel) rfl ?_
      refine g_aload_n (q := 1) (i := 1) (by decide +kernel) rfl rfl ?_
      refine g_get (C := "ThreePoints$Ride") (T := xT_Ride) (N := 4) (ci := 8) (k := 0) (v := vr 2 2) (by decide +kernel) (by decide) rfl rfl xi_Ride (by decide) kw_260 rfl ?_
      refine g_get (C := "ThreePoints$Lane") (T := xT_Lane) (N := 3) (ci := 2) (k := 0) (v := vi (H5 2 2 0)) (by decide +kernel) (by decide) rfl rfl xi_Lane (by decide) kw_107 rfl ?_
      refine g_icmp_le (off := 6) (tgt := 43) (by decide +kernel) (by decide) (fun c => ?_) (fun c => ?_)
      · replace h := h.1 c
        refine g_iconst (n := (-1)) (v := (-1)) (by decide +kernel) (by decide) ?_
        refine g_istore (i := 8) (ls2 := [some (vr 21 0), some (vr 19 0), some (vi x2), some (vi x3), none, some (vi z2), some (vi z3), some (vi (x2 + r6)), some (vi (-1)), none, none]) (by decide +kernel) (by decide) rfl rfl ?_
        refine g_drop (ls2 := [some (vr 21 0), some (vr 19 0), some (vi x2), some (vi x3), none, some (vi z2), some (vi z3), some (vi (x2 + r6)), some (vi (-1)), none, none]) (And.intro rfl (And.intro rfl (And.intro rfl (And.intro rfl (And.intro rfl (And.intro rfl (And.intro rfl (And.intro rfl trivial)))))))) ?_
        obtain ⟨I7, μ7, h0, h⟩ := h
        refine xloop (σ := Int32 × Int32) (fun s H => I7 s.1 s.2 H) (fun s H => μ7 s.1 s.2 H) (fun s H => g_Search_addBehind E (d + 1) 46 [some (vr 21 0), some (vr 19 0), some (vi x2), some (vi x3), none, some (vi s.1), some (vi z3), some (vi (x2 + r6)), some (vi s.2), none, none] [] H (qi Q)) (fun s H10 hI ih7 => ?_) (z2, (-1)) H5 h0
        obtain ⟨z8, z9⟩ := s
        replace h := h z8 z9 H10 hI
        refine g_iload (i := 8) (by decide +kernel) rfl ?_
        refine g_iconst (n := 1) (v := 1) (by decide +kernel) (by decide) ?_
        refine g_icmp_gt (off := 87) (tgt := 136) (by decide +kernel) (by decide) (fun c => ?_) (fun c => ?_)
        · replace h := h.1 c
          refine g_iinc (i := 6) (n := 1) (v := (z3 + 1)) (ls2 := [some (vr 21 0), some (vr 19 0), some (vi x2), some (vi x3), none, some (vi z8), some (vi (z3 + 1)), some (vi (x2 + r6)), some (vi z9), none, none]) (by decide +kernel) rfl rfl (by decide) rfl rfl ?_
          refine g_goto (off := (-132)) (tgt := 7) (by decide +kernel) (by decide) ?_
          obtain ⟨hI, hlt⟩ := h
          exact g_drop (ls2 := [some (vr 21 0), some (vr 19 0), some (vi x2), some (vi x3), none, some (vi z8), some (vi (z3 + 1)), none, none, none, none]) (And.intro rfl (And.intro rfl (And.intro rfl (And.intro rfl (And.intro rfl (And.intro rfl trivial)))))) (ih1 (z8, (z3 + 1)) H10 hI hlt)
        · replace h := h.2 c
          refine g_aload_n (q := 1) (i := 1) (by decide +kernel) rfl rfl ?_
          refine g_iload_n (q := 3) (i := 3) (by decide +kernel) rfl rfl ?_
          refine g_iload (i := 6) (by decide +kernel) rfl ?_
          refine g_iload (i := 8) (by decide +kernel) rfl ?_
          refine g_callV (kd := 19) (ix := 0) (ci := 8) (N := 4) (T := xT_Ride) (vs := [vi x3, vi z3, vi z9]) (st := []) (by decide +kernel) xm_Ride_turnedBy kw_812 kw_749 kw_750 (by decide) rfl rfl rfl rfl (Nat.le_of_ble_eq_true rfl) (Nat.le_of_ble_eq_true rfl) h (fun vH11 H11 hq => ?_)
          obtain ⟨r12, rfl, h⟩ := hq
          refine g_istore (i := 9) (ls2 := [some (vr 21 0), some (vr 19 0), some (vi x2), some (vi x3), none, some (vi z8), some (vi z3), some (vi (x2 + r6)), some (vi z9), some (vi r12), none]) (by decide +kernel) (by decide) rfl rfl ?_
          refine g_iload (i := 7) (by decide +kernel) rfl ?_
          refine g_iload (i := 9) (by decide +kernel) rfl ?_
          refine g_iconst (n := 0) (v := 0) (by decide +kernel) (by decide) ?_
          refine g_callS (vs := [vi (x2 + r6), vi r12, vi 0]) (st := []) (by decide +kernel) xm_Search_state kw_783 kw_784 rfl rfl (Nat.le_of_ble_eq_true rfl) (Nat.le_of_ble_eq_true rfl) h (fun vH13 H13 hq => ?_)
          obtain ⟨r14, rfl, h⟩ := hq
          refine g_istore (i := 10) (ls2 := [some (vr 21 0), some (vr 19 0), some (vi x2), some (vi x3), none, some (vi z8), some (vi z3), some (vi (x2 + r6)), some (vi z9), some (vi r12), some (vi r14)]) (by decide +kernel) (by decide) rfl rfl ?_
          refine g_aload_n (q := 0) (i := 0) (by decide +kernel) rfl rfl ?_
          refine g_get (C := "ThreePoints$Search") (T := xT_Search) (N := 8) (ci := 9) (k := 2) (v := vr 23 0) (by decide +kernel) (by decide) rfl rfl xi_Search (by decide) kw_285 rfl ?_
          refine g_iload (i := 10) (by decide +kernel) rfl ?_
          obtain ⟨hin, h⟩ := h
          refine g_iald (by decide +kernel) (by decide) rfl hin ?_
          refine g_ldc (v := 2147483647) (by decide +kernel) kw_780 ?_
          refine g_icmp_ne (off := 48) (tgt := 130) (by decide +kernel) (by decide) (fun c => ?_) (fun c => ?_)
          · replace h := h.1 c
            refine g_iinc (i := 8) (n := 1) (v := (z9 + 1)) (ls2 := [some (vr 21 0), some (vr 19 0), some (vi x2), some (vi x3), none, some (vi z8), some (vi z3), some (vi (x2 + r6)), some (vi (z9 + 1)), some (vi r12), some (vi r14)]) (by decide +kernel) rfl rfl (by decide) rfl rfl ?_
            refine g_goto (off := (-87)) (tgt := 46) (by decide +kernel) (by decide) ?_
            obtain ⟨hI, hlt⟩ := h
            exact g_drop (ls2 := [some (vr 21 0), some (vr 19 0), some (vi x2), some (vi x3), none, some (vi z8), some (vi z3), some (vi (x2 + r6)), some (vi (z9 + 1)), none, none]) (And.intro rfl (And.intro rfl (And.intro rfl (And.intro rfl (And.intro rfl (And.intro rfl (And.intro rfl (And.intro rfl trivial)))))))) (ih7 (z8, (z9 + 1)) H13 hI hlt)
          · replace h := h.2 c
            refine g_iload (i := 5) (by decide +kernel) rfl ?_
            refine g_sipush (n := 1952) (v := 1952) (by decide +kernel) (by decide) ?_
            refine g_icmp_lt (off := 6) (tgt := 96) (by decide +kernel) (by decide) (fun c => ?_) (fun c => ?_)
            · replace h := h.1 c
              refine g_aload_n (q := 0) (i := 0) (by decide +kernel) rfl rfl ?_
              refine g_get (C := "ThreePoints$Search") (T := xT_Search) (N := 8) (ci := 9) (k := 2) (v := vr 23 0) (by decide +kernel) (by decide) rfl rfl xi_Search (by decide) kw_285 rfl ?_
              refine g_iload (i := 10) (by decide +kernel) rfl ?_
              refine g_iconst (n := 0) (v := 0) (by decide +kernel) (by decide) ?_
              obtain ⟨hin, h⟩ := h
              refine g_iast (by decide +kernel) (by decide) rfl hin ?_
              refine g_aload_n (q := 1) (i := 1) (by decide +kernel) rfl rfl ?_
              refine g_iload (i := 7) (by decide +kernel) rfl ?_
              refine g_iload (i := 9) (by decide +kernel) rfl ?_
              refine g_heap (fun H15 eH15 => ?_)
              replace h := h H15 eH15
              refine g_callV (kd := 19) (ix := 0) (ci := 8) (N := 4) (T := xT_Ride) (vs := [vi (x2 + r6), vi r12]) (st := []) (by decide +kernel) xm_Ride_fits kw_782 kw_643 kw_644 (by decide) rfl rfl rfl rfl (Nat.le_of_ble_eq_true rfl) (Nat.le_of_ble_eq_true rfl) h (fun vH16 H16 hq => ?_)
              obtain ⟨r17, rfl, h⟩ := hq
              refine g_if_ne (off := 6) (tgt := 118) (by decide +kernel) (by decide) (fun c => ?_) (fun c => ?_)
              · replace h := h.1 c
                refine g_aload_n (q := 0) (i := 0) (by decide +kernel) rfl rfl ?_
                refine g_get (C := "ThreePoints$Search") (T := xT_Search) (N := 8) (ci := 9) (k := 4) (v := vr 25 0) (by decide +kernel) (by decide) rfl rfl xi_Search (by decide) kw_287 rfl ?_
                refine g_iload (i := 5) (by decide +kernel) rfl ?_
                refine g_iload (i := 10) (by decide +kernel) rfl ?_
                obtain ⟨hin, h⟩ := h
                refine g_iast (by decide +kernel) (by decide) rfl hin ?_
                refine g_iinc (i := 5) (n := 1) (v := (z8 + 1)) (ls2 := [some (vr 21 0), some (vr 19 0), some (vi x2), some (vi x3), none, some (vi (z8 + 1)), some (vi z3), some (vi (x2 + r6)), some (vi z9), some (vi r12), some (vi r14)]) (by decide +kernel) rfl rfl (by decide) rfl rfl ?_
                refine g_iinc (i := 8) (n := 1) (v := (z9 + 1)) (ls2 := [some (vr 21 0), some (vr 19 0), some (vi x2), some (vi x3), none, some (vi (z8 + 1)), some (vi z3), some (vi (x2 + r6)), some (vi (z9 + 1)), some (vi r12), some (vi r14)]) (by decide +kernel) rfl rfl (by decide) rfl rfl ?_
                refine g_goto (off := (-87)) (tgt := 46) (by decide +kernel) (by decide) ?_
                refine g_heap (fun H18 eH18 => ?_)
                replace h := h H18 eH18
                obtain ⟨hI, hlt⟩ := h
                exact g_drop (ls2 := [some (vr 21 0), some (vr 19 0), some (vi x2), some (vi x3), none, some (vi (z8 + 1)), some (vi z3), some (vi (x2 + r6)), some (vi (z9 + 1)), none, none]) (And.intro rfl (And.intro rfl (And.intro rfl (And.intro rfl (And.intro rfl (And.intro rfl (And.intro rfl (And.intro rfl trivial)))))))) (ih7 ((z8 + 1), (z9 + 1)) H18 hI hlt)
              · replace h := h.2 c
                refine g_goto (off := 15) (tgt := 130) (by decide +kernel) (by decide) ?_
                refine g_iinc (i := 8) (n := 1) (v := (z9 + 1)) (ls2 := [some (vr 21 0), some (vr 19 0), some (vi x2), some (vi x3), none, some (vi z8), some (vi z3), some (vi (x2 + r6)), some (vi (z9 + 1)), some (vi r12), some (vi r14)]) (by decide +kernel) rfl rfl (by decide) rfl rfl ?_
                refine g_goto (off := (-87)) (tgt := 46) (by decide +kernel) (by decide) ?_
                obtain ⟨hI, hlt⟩ := h
                exact g_drop (ls2 := [some (vr 21 0), some (vr 19 0), some (vi x2), some (vi x3), none, some (vi z8), some (vi z3), some (vi (x2 + r6)), some (vi (z9 + 1)), none, none]) (And.intro rfl (And.intro rfl (And.intro rfl (And.intro rfl (And.intro rfl (And.intro rfl (And.intro rfl (And.intro rfl trivial)))))))) (ih7 (z8, (z9 + 1)) H16 hI hlt)
            · replace h := h.2 c
              refine g_goto (off := 37) (tgt := 130) (by decide +kernel) (by decide) ?_
              refine g_iinc (i := 8) (n := 1) (v := (z9 + 1)) (ls2 := [some (vr 21 0), some (vr 19 0), some (vi x2), some (vi x3), none, some (vi z8), some (vi z3), some (vi (x2 + r6)), some (vi (z9 + 1)), some (vi r12), some (vi r14)]) (by decide +kernel) rfl rfl (by decide) rfl rfl ?_
              refine g_goto (off := (-87)) (tgt := 46) (by decide +kernel) (by decide) ?_
              obtain ⟨hI, hlt⟩ := h
              exact g_drop (ls2 := [some (vr 21 0), some (vr 19 0), some (vi x2), some (vi x3), none, some (vi z8), some (vi z3), some (vi (x2 + r6)), some (vi (z9 + 1)), none, none]) (And.intro rfl (And.intro rfl (And.intro rfl (And.intro rfl (And.intro rfl (And.intro rfl (And.intro rfl (And.intro rfl trivial)))))))) (ih7 (z8, (z9 + 1)) H13 hI hlt)
      · replace h := h.2 c
        refine g_goto (off := 96) (tgt := 136) (by decide +kernel) (by decide) ?_
        refine g_iinc (i := 6) (n := 1) (v := (z3 + 1)) (ls2 := [some (vr 21 0), some (vr 19 0), some (vi x2), some (vi x3), none, some (vi z2), some (vi (z3 + 1)), some (vi (x2 + r6)), none, none, none]) (by decide +kernel) rfl rfl (by decide) rfl rfl ?_
        refine g_goto (off := (-132)) (tgt := 7) (by decide +kernel) (by decide) ?_
        obtain ⟨hI, hlt⟩ := h
        exact g_drop (ls2 := [some (vr 21 0), some (vr 19 0), some (vi x2), some (vi x3), none, some (vi z2), some (vi (z3 + 1)), none, none, none, none]) (And.intro rfl (And.intro rfl (And.intro rfl (And.intro rfl (And.intro rfl (And.intro rfl trivial)))))) (ih1 (z2, (z3 + 1)) H5 hI hlt)
def p_Search_headingsReached (E : XE) (d : Nat)  (H : HH) (Q : Int32 → HH → Prop) : Prop := c_fill E d 23 1952 0 2147483647 H (fun H1 => c_Search_state E d (H1 3 8 2) (H1 3 8 3) 0 H1 (fun r3 H2 => vp_in r3 1952 ∧ (∀ H4 : HH, H4 = (hu (hu H2 23 0 (r3.toNatClampNeg) 0) 25 0 0 r3) → (∃ (I5 : Int32 → Int32 → Int32 → HH → Prop) (μ5 : Int32 → Int32 → Int32 → HH → Nat), I5 1 0 0 H4 ∧ ∀ (z6 : Int32) (z7 : Int32) (z8 : Int32) (H9 : HH), I5 z6 z7 z8 H9 → ((z6 ≤ z8 → (Q z7 H9)) ∧ (¬ z6 ≤ z8 → ((1952 ≤ z8 → (Q z7 H9)) ∧ (¬ 1952 ≤ z8 → (vp_in z8 1952 ∧ (∀ v10 : Int32, v10 = (((H9 25 0 (z8.toNatClampNeg)) >>> (1 &&& 31)) &&& 15) → (∀ v11 : Int32, v11 = (z7 ||| (1 <<< (v10 &&& 31))) → (vp_in z8 1952 ∧ (c_Search_addBehind E d ((H9 25 0 (z8.toNatClampNeg)) >>> (5 &&& 31)) v10 z6 H9 (fun r13 H12 => I5 r13 v11 (z8 + 1) H12 ∧ μ5 r13 v11 (z8 + 1) H12 < μ5 z6 z7 z8 H9))))))))))))))
set_option maxHeartbeats 4000000 in
theorem l_Search_headingsReached {E : XE} {d : Nat}  {H : HH} {Q : Int32 → HH → Prop} (h : p_Search_headingsReached E d  H Q) : c_Search_headingsReached E (d + 1)  H Q := by
  show g_Search_headingsReached E (d + 1) 0 (xent [vr 21 0, vr 19 0]) [] H (qi Q)
  refine g_drop (ls2 := [some (vr 21 0), some (vr 19 0), none, none, none, none, none]) (And.intro rfl (And.intro rfl trivial)) ?_
  refine g_aload_n (q := 0) (i := 0) (by decide +kernel) rfl rfl ?_
  refine g_get (C := "ThreePoints$Search") (T := xT_Search) (N := 8) (ci := 9) (k := 2) (v := vr 23 0) (by decide +kernel) (by decide) rfl rfl xi_Search (by decide) kw_285 rfl ?_
  refine g_ldc (v := 2147483647) (by decide +kernel) kw_780 ?_
  refine g_callS (vs := [vr 23 0, vi 2147483647]) (st := []) (by decide +kernel) xm_fill kw_781 kw_509 rfl rfl (Nat.le_of_ble_eq_true rfl) (Nat.le_of_ble_eq_true rfl) h (fun vH1 H1 hq => ?_)
  replace h := hq
  refine g_aload_n (q := 1) (i := 1) (by decide +kernel) rfl rfl ?_
  refine g_get (C := "ThreePoints$Ride") (T := xT_Ride) (N := 4) (ci := 8) (k := 1) (v := vr 3 8) (by decide +kernel) (by decide) rfl rfl xi_Ride (by decide) kw_263 rfl ?_
  refine g_get (C := "ThreePoints$Vehicle") (T := xT_Vehicle) (N := 7) (ci := 3) (k := 2) (v := vi (H1 3 8 2)) (by decide +kernel) (by decide) rfl rfl xi_Vehicle (by decide) kw_134 rfl ?_
  refine g_aload_n (q := 1) (i := 1) (by decide +kernel) rfl rfl ?_
  refine g_get (C := "ThreePoints$Ride") (T := xT_Ride) (N := 4) (ci := 8) (k := 1) (v := vr 3 8) (by decide +kernel) (by decide) rfl rfl xi_Ride (by decide) kw_263 rfl ?_
  refine g_get (C := "ThreePoints$Vehicle") (T := xT_Vehicle) (N := 7) (ci := 3) (k := 3) (v := vi (H1 3 8 3)) (by decide +kernel) (by decide) rfl rfl xi_Vehicle (by decide) kw_138 rfl ?_
  refine g_iconst (n := 0) (v := 0) (by decide +kernel) (by decide) ?_
  refine g_callS (vs := [vi (H1 3 8 2), vi (H1 3 8 3), vi 0]) (st := []) (by decide +kernel) xm_Search_state kw_783 kw_784 rfl rfl (Nat.le_of_ble_eq_true rfl) (Nat.le_of_ble_eq_true rfl) h (fun vH2 H2 hq => ?_)
  obtain ⟨r3, rfl, h⟩ := hq
  refine g_istore_n (q := 2) (i := 2) (ls2 := [some (vr 21 0), some (vr 19 0), some (vi r3), none, none, none, none]) (by decide +kernel) rfl (by decide) rfl rfl ?_
  refine g_aload_n (q := 0) (i := 0) (by decide +kernel) rfl rfl ?_
  refine g_get (C := "ThreePoints$Search") (T := xT_Search) (N := 8) (ci := 9) (k := 2) (v := vr 23 0) (by decide +kernel) (by decide) rfl rfl xi_Search (by decide) kw_285 rfl ?_
  refine g_iload_n (q := 2) (i := 2) (by decide +kernel) rfl rfl ?_
  refine g_iconst (n := 0) (v := 0) (by decide +kernel) (by decide) ?_
  obtain ⟨hin, h⟩ := h
  refine g_iast (by decide +kernel) (by decide) rfl hin ?_
  refine g_aload_n (q := 0) (i := 0) (by decide +kernel) rfl rfl ?_
  refine g_get (C := "ThreePoints$Search") (T := xT_Search) (N := 8) (ci := 9) (k := 4) (v := vr 25 0) (by decide +kernel) (by decide) rfl rfl xi_Search (by decide) kw_287 rfl ?_
  refine g_iconst (n := 0) (v := 0) (by decide +kernel) (by decide) ?_
  refine g_iload_n (q := 2) (i := 2) (by decide +kernel) rfl rfl ?_
  refine g_iast (by decide +kernel) (by decide) rfl (vp_lit (by decide)) ?_
  refine g_heapE (H1 := (hu (hu H2 23 0 (r3.toNatClampNeg) 0) 25 0 0 r3)) rfl ?_
  refine g_iconst (n := 1) (v := 1) (by decide +kernel) (by decide) ?_
  refine g_istore_n (q := 3) (i := 3) (ls2 := [some (vr 21 0), some (vr 19 0), some (vi r3), some (vi 1), none, none, none]) (by decide +kernel) rfl (by decide) rfl rfl ?_
  refine g_iconst (n := 0) (v := 0) (by decide +kernel) (by decide) ?_
  refine g_istore (i := 4) (ls2 := [some (vr 21 0), some (vr 19 0), some (vi r3), some (vi 1), some (vi 0), none, none]) (by decide +kernel) (by decide) rfl rfl ?_
  refine g_iconst (n := 0) (v := 0) (by decide +kernel) (by decide) ?_
  refine g_istore (i := 5) (ls2 := [some (vr 21 0), some (vr 19 0), some (vi r3), some (vi 1), some (vi 0), some (vi 0), none]) (by decide +kernel) (by decide) rfl rfl ?_
  refine g_heap (fun H4 eH4 => ?_)
  replace h := h H4 eH4
  refine g_drop (ls2 := [some (vr 21 0), some (vr 19 0), none, some (vi 1), some (vi 0), some (vi 0), none]) (And.intro rfl (And.intro rfl (And.intro rfl (And.intro rfl (And.intro rfl trivial))))) ?_
  obtain ⟨I5, μ5, h0, h⟩ := h
  refine xloop (σ := Int32 × Int32 × Int32) (fun s H => I5 s.1 s.2.1 s.2.2 H) (fun s H => μ5 s.1 s.2.1 s.2.2 H) (fun s H => g_Search_headingsReached E (d + 1) 50 [some (vr 21 0), some (vr 19 0), none, some (vi s.1), some (vi s.2.1), some (vi s.2.2), none] [] H (qi Q)) (fun s H9 hI ih5 => ?_) (1, 0, 0) H4 h0
  obtain ⟨z6, z7, z8⟩ := s
  replace h := h z6 z7 z8 H9 hI
  refine g_iload (i := 5) (by decide +kernel) rfl ?_
  refine g_iload_n (q := 3) (i := 3) (by decide +kernel) rfl rfl ?_
  refine g_icmp_ge (off := 58) (tgt := 111) (by decide +kernel) (by decide) (fun c => ?_) (fun c => ?_)
  · replace h := h.1 c
    refine g_iload (i := 4) (by decide +kernel) rfl ?_
    exact g_iret (by decide +kernel) rfl ⟨_, rfl, h⟩
  · replace h := h.2 c
    refine g_iload (i := 5) (by decide +kernel) rfl ?_
    refine g_sipush (n := 1952) (v := 1952) (by decide +kernel) (by decide) ?_
    refine g_icmp_ge (off := 50) (tgt := 111) (by decide +kernel) (by decide) (fun c => ?_) (fun c => ?_)
    · replace h := h.1 c
      refine g_iload (i := 4) (by decide +kernel) rfl ?_
      exact g_iret (by decide +kernel) rfl ⟨_, rfl, h⟩
    · replace h := h.2 c
      refine g_aload_n (q := 0) (i := 0) (by decide +kernel) rfl rfl ?_
      refine g_get (C := "ThreePoints$Search") (T := xT_Search) (N := 8) (ci := 9) (k := 4) (v := vr 25 0) (by decide +kernel) (by decide) rfl rfl xi_Search (by decide) kw_287 rfl ?_
      refine g_iload (i := 5) (by decide +kernel) rfl ?_
      obtain ⟨hin, h⟩ := h
      refine g_iald (by decide +kernel) (by decide) rfl hin ?_
      refine g_iconst (n := 1) (v := 1) (by decide +kernel) (by decide) ?_
      refine g_ishr (by decide +kernel) ?_
      refine g_bipush (n := 15) (v := 15) (by decide +kernel) (by decide) ?_
      refine g_iand (by decide +kernel) ?_
      refine g_topi (fun v10 ev10 => ?_)
      replace h := h v10 ev10
      refine g_istore (i := 6) (ls2 := [some (vr 21 0), some (vr 19 0), none, some (vi z6), some (vi z7), some (vi z8), some (vi v10)]) (by decide +kernel) (by decide) rfl rfl ?_
      refine g_iload (i := 4) (by decide +kernel) rfl ?_
      refine g_iconst (n := 1) (v := 1) (by decide +kernel) (by decide) ?_
      refine g_iload (i := 6) (by decide +kernel) rfl ?_
      refine g_ishl (by decide +kernel) ?_
      refine g_ior (by decide +kernel) ?_
      refine g_topi (fun v11 ev11 => ?_)
      replace h := h v11 ev11
      refine g_istore (i := 4) (ls2 := [some (vr 21 0), some (vr 19 0), none, some (vi z6), some (vi v11), some (vi z8), some (vi v10)]) (by decide +kernel) (by decide) rfl rfl ?_
      refine g_aload_n (q := 0) (i := 0) (by decide +kernel) rfl rfl ?_
      refine g_aload_n (q := 1) (i := 1) (by decide +kernel) rfl rfl ?_
      refine g_aload_n (q := 0) (i := 0) (by decide +kernel) rfl rfl ?_
      refine g_get (C := "ThreePoints$Search") (T := xT_Search) (N := 8) (ci := 9) (k := 4) (v := vr 25 0) (by decide +kernel) (by decide) rfl rfl xi_Search (by decide) kw_287 rfl ?_
      refine g_iload (i := 5) (by decide +kernel) rfl ?_
      obtain ⟨hin, h⟩ := h
      refine g_iald (by decide +kernel) (by decide) rfl hin ?_
      refine g_iconst (n := 5) (v := 5) (by decide +kernel) (by decide) ?_
      refine g_ishr (by decide +kernel) ?_
      refine g_iload (i := 6) (by decide +kernel) rfl ?_
      refine g_iload_n (q := 3) (i := 3) (by decide +kernel) rfl rfl ?_
      refine g_callV (kd := 21) (ix := 0) (ci := 9) (N := 8) (T := xT_Search) (vs := [vr 19 0, vi ((H9 25 0 (z8.toNatClampNeg)) >>> (5 &&& 31)), vi v10, vi z6]) (st := []) (by decide +kernel) xm_Search_addBehind kw_834 kw_836 kw_25 (by decide) rfl rfl rfl rfl (Nat.le_of_ble_eq_true rfl) (Nat.le_of_ble_eq_true rfl) h (fun vH12 H12 hq => ?_)
      obtain ⟨r13, rfl, h⟩ := hq
      refine g_istore_n (q := 3) (i := 3) (ls2 := [some (vr 21 0), some (vr 19 0), none, some (vi r13), some (vi v11), some (vi z8), some (vi v10)]) (by decide +kernel) rfl (by decide) rfl rfl ?_
      refine g_iinc (i := 5) (n := 1) (v := (z8 + 1)) (ls2 := [some (vr 21 0), some (vr 19 0), none, some (vi r13), some (vi v11), some (vi (z8 + 1)), some (vi v10)]) (by decide +kernel) rfl rfl (by decide) rfl rfl ?_
      refine g_goto (off := (-58)) (tgt := 50) (by decide +kernel) (by decide) ?_
      obtain ⟨hI, hlt⟩ := h
      exact g_drop (ls2 := [some (vr 21 0), some (vr 19 0), none, some (vi r13), some (vi v11), some (vi (z8 + 1)), none]) (And.intro rfl (And.intro rfl (And.intro rfl (And.intro rfl (And.intro rfl trivial))))) (ih5 (r13, v11, (z8 + 1)) H12 hI hlt)
def p_Ride_through (E : XE) (d : Nat) (u : Nat) (H : HH) (Q : Int32 → HH → Prop) : Prop := ∃ (I1 : Int32 → HH → Prop) (μ1 : Int32 → HH → Nat), I1 0 H ∧ ∀ (z2 : Int32) (H3 : HH), I1 z2 H3 → ((((H3 16 u 2) / 3) ≤ z2 → (Q (-1) H3)) ∧ (¬ ((H3 16 u 2) / 3) ≤ z2 → (c_Sheet_get E d u ((3 * z2) + 2) H3 (fun r5 H4 => ∃ (I6 : Int32 → HH → Prop) (μ6 : Int32 → HH → Nat), I6 0 H4 ∧ ∀ (z7 : Int32) (H8 : HH), I6 z7 H8 → ((r5 ≤ z7 → (I1 (z2 + 1) H8 ∧ μ1 (z2 + 1) H8 < μ1 z2 H3)) ∧ (¬ r5 ≤ z7 → (c_Sheet_get E d u (3 * z2) H8 (fun r10 H9 => c_Sheet_get E d u ((3 * z2) + 1) H9 (fun r12 H11 => c_Ride_go E d r10 r12 H11 (fun r14 H13 => (¬ r14 = 0 → (I6 (z7 + 1) H13 ∧ μ6 (z7 + 1) H13 < μ6 z7 H8)) ∧ (r14 = 0 → (Q z2 H13))))))))))))
set_option maxHeartbeats 4000000 in
theorem l_Ride_through {E : XE} {d : Nat} {u : Nat} {H : HH} {Q : Int32 → HH → Prop} (h : p_Ride_through E d u H Q) : c_Ride_through E (d + 1) u H Q := by
  show g_Ride_through E (d + 1) 0 (xent [vr 19 0, vr 16 u]) [] H (qi Q)
  refine g_drop (ls2 := [some (vr 19 0), some (vr 16 u), none, none, none]) (And.intro rfl (And.intro rfl trivial)) ?_
  refine g_iconst (n := 0) (v := 0) (by decide +kernel) (by decide) ?_
  refine g_istore_n (q := 2) (i := 2) (ls2 := [some (vr 19 0), some (vr 16 u), some (vi 0), none, none]) (by decide +kernel) rfl (by decide) rfl rfl ?_
  refine g_drop (ls2 := [some (vr 19 0), some (vr 16 u), some (vi 0), none, none]) (And.intro rfl (And.intro rfl (And.intro rfl trivial))) ?_
  obtain ⟨I1, μ1, h0, h⟩ := h
  refine xloop (σ := Int32) (fun s H => I1 s H) (fun s H => μ1 s H) (fun s H => g_Ride_through E (d + 1) 2 [some (vr 19 0), some (vr 16 u), some (vi s), none, none] [] H (qi Q)) (fun s H3 hI ih1 => ?_) 0 H h0
  obtain ⟨z2, es⟩ : ∃ z, z = s := ⟨s, rfl⟩
  subst es
  replace h := h z2 H3 hI
  refine g_iload_n (q := 2) (i := 2) (by decide +kernel) rfl rfl ?_
  refine g_aload_n (q := 1) (i := 1) (by decide +kernel) rfl rfl ?_
  refine g_get (C := "ThreePoints$Sheet") (T := xT_Sheet) (N := 3) (ci := 7) (k := 2) (v := vi (H3 16 u 2)) (by decide +kernel) (by decide) rfl rfl xi_Sheet (by decide) kw_321 rfl ?_
  refine g_iconst (n := 3) (v := 3) (by decide +kernel) (by decide) ?_
  refine g_idiv (by decide +kernel) (by decide) ?_
  refine g_icmp_ge (off := 59) (tgt := 68) (by decide +kernel) (by decide) (fun c => ?_) (fun c => ?_)
  · replace h := h.1 c
    refine g_iconst (n := (-1)) (v := (-1)) (by decide +kernel) (by decide) ?_
    exact g_iret (by decide +kernel) rfl ⟨_, rfl, h⟩
  · replace h := h.2 c
    refine g_aload_n (q := 1) (i := 1) (by decide +kernel) rfl rfl ?_
    refine g_iconst (n := 3) (v := 3) (by decide +kernel) (by decide) ?_
    refine g_iload_n (q := 2) (i := 2) (by decide +kernel) rfl rfl ?_
    refine g_imul (by decide +kernel) ?_
    refine g_iconst (n := 2) (v := 2) (by decide +kernel) (by decide) ?_
    refine g_iadd (by decide +kernel) ?_
    refine g_callV (kd := 16) (ix := u) (ci := 7) (N := 3) (T := xT_Sheet) (vs := [vi ((3 * z2) + 2)]) (st := []) (by decide +kernel) xm_Sheet_get kw_866 kw_867 kw_868 (by decide) rfl rfl rfl rfl (Nat.le_of_ble_eq_true rfl) (Nat.le_of_ble_eq_true rfl) h (fun vH4 H4 hq => ?_)
    obtain ⟨r5, rfl, h⟩ := hq
    refine g_istore_n (q := 3) (i := 3) (ls2 := [some (vr 19 0), some (vr 16 u), some (vi z2), some (vi r5), none]) (by decide +kernel) rfl (by decide) rfl rfl ?_
    refine g_iconst (n := 0) (v := 0) (by decide +kernel) (by decide) ?_
    refine g_istore (i := 4) (ls2 := [some (vr 19 0), some (vr 16 u), some (vi z2), some (vi r5), some (vi 0)]) (by decide +kernel) (by decide) rfl rfl ?_
    refine g_drop (ls2 := [some (vr 19 0), some (vr 16 u), some (vi z2), some (vi r5), some (vi 0)]) (And.intro rfl (And.intro rfl (And.intro rfl (And.intro rfl (And.intro rfl trivial))))) ?_
    obtain ⟨I6, μ6, h0, h⟩ := h
    refine xloop (σ := Int32) (fun s H => I6 s H) (fun s H => μ6 s H) (fun s H => g_Ride_through E (d + 1) 25 [some (vr 19 0), some (vr 16 u), some (vi z2), some (vi r5), some (vi s)] [] H (qi Q)) (fun s H8 hI ih6 => ?_) 0 H4 h0
    obtain ⟨z7, es⟩ : ∃ z, z = s := ⟨s, rfl⟩
    subst es
    replace h := h z7 H8 hI
    refine g_iload (i := 4) (by decide +kernel) rfl ?_
    refine g_iload_n (q := 3) (i := 3) (by decide +kernel) rfl rfl ?_
    refine g_icmp_ge (off := 34) (tgt := 62) (by decide +kernel) (by decide) (fun c => ?_) (fun c => ?_)
    · replace h := h.1 c
      refine g_iinc (i := 2) (n := 1) (v := (z2 + 1)) (ls2 := [some (vr 19 0), some (vr 16 u), some (vi (z2 + 1)), some (vi r5), some (vi z7)]) (by decide +kernel) rfl rfl (by decide) rfl rfl ?_
      refine g_goto (off := (-63)) (tgt := 2) (by decide +kernel) (by decide) ?_
      obtain ⟨hI, hlt⟩ := h
      exact g_drop (ls2 := [some (vr 19 0), some (vr 16 u), some (vi (z2 + 1)), none, none]) (And.intro rfl (And.intro rfl (And.intro rfl trivial))) (ih1 (z2 + 1) H8 hI hlt)
    · replace h := h.2 c
      refine g_aload_n (q := 0) (i := 0) (by decide +kernel) rfl rfl ?_
      refine g_aload_n (q := 1) (i := 1) (by decide +kernel) rfl rfl ?_
      refine g_iconst (n := 3) (v := 3) (by decide +kernel) (by decide) ?_
      refine g_iload_n (q := 2) (i := 2) (by decide +kernel) rfl rfl ?_
      refine g_imul (by decide +kernel) ?_
      refine g_callV (kd := 16) (ix := u) (ci := 7) (N := 3) (T := xT_Sheet) (vs := [vi (3 * z2)]) (st := [vr 19 0]) (by decide +kernel) xm_Sheet_get kw_866 kw_867 kw_868 (by decide) rfl rfl rfl rfl (Nat.le_of_ble_eq_true rfl) (Nat.le_of_ble_eq_true rfl) h (fun vH9 H9 hq => ?_)
      obtain ⟨r10, rfl, h⟩ := hq
      refine g_aload_n (q := 1) (i := 1) (by decide +kernel) rfl rfl ?_
      refine g_iconst (n := 3) (v := 3) (by decide +kernel) (by decide) ?_
      refine g_iload_n (q := 2) (i := 2) (by decide +kernel) rfl rfl ?_
      refine g_imul (by decide +kernel) ?_
      refine g_iconst (n := 1) (v := 1) (by decide +kernel) (by decide) ?_
      refine g_iadd (by decide +kernel) ?_
      refine g_callV (kd := 16) (ix := u) (ci := 7) (N := 3) (T := xT_Sheet) (vs := [vi ((3 * z2) + 1)]) (st := [vi r10, vr 19 0]) (by decide +kernel) xm_Sheet_get kw_866 kw_867 kw_868 (by decide) rfl rfl rfl rfl (Nat.le_of_ble_eq_true rfl) (Nat.le_of_ble_eq_true rfl) h (fun vH11 H11 hq => ?_)
      obtain ⟨r12, rfl, h⟩ := hq
      refine g_callV (kd := 19) (ix := 0) (ci := 8) (N := 4) (T := xT_Ride) (vs := [vi r10, vi r12]) (st := []) (by decide +kernel) xm_Ride_go kw_874 kw_742 kw_743 (by decide) rfl rfl rfl rfl (Nat.le_of_ble_eq_true rfl) (Nat.le_of_ble_eq_true rfl) h (fun vH13 H13 hq => ?_)
      obtain ⟨r14, rfl, h⟩ := hq
      refine g_if_ne (off := 5) (tgt := 56) (by decide +kernel) (by decide) (fun c => ?_) (fun c => ?_)
      · replace h := h.1 c
        refine g_iinc (i := 4) (n := 1) (v := (z7 + 1)) (ls2 := [some (vr 19 0), some (vr 16 u), some (vi z2), some (vi r5), some (vi (z7 + 1))]) (by decide +kernel) rfl rfl (by decide) rfl rfl ?_
        refine g_goto (off := (-34)) (tgt := 25) (by decide +kernel) (by decide) ?_
        obtain ⟨hI, hlt⟩ := h
        exact g_drop (ls2 := [some (vr 19 0), some (vr 16 u), some (vi z2), some (vi r5), some (vi (z7 + 1))]) (And.intro rfl (And.intro rfl (And.intro rfl (And.intro rfl (And.intro rfl trivial))))) (ih6 (z7 + 1) H13 hI hlt)
      · replace h := h.2 c
        refine g_iload_n (q := 2) (i := 2) (by decide +kernel) rfl rfl ?_
        exact g_iret (by decide +kernel) rfl ⟨_, rfl, h⟩
def p_Ride_byLots (E : XE) (d : Nat) (x1 : Int32) (x2 : Int32) (H : HH) (Q : Int32 → HH → Prop) : Prop := ∀ v1 : Int64, v1 = ((x1.toInt64) + 1) → (∃ (I2 : Int64 → Int32 → HH → Prop) (μ2 : Int64 → Int32 → HH → Nat), I2 v1 0 H ∧ ∀ (z3 : Int64) (z4 : Int32) (H5 : HH), I2 z3 z4 H5 → ((x2 ≤ z4 → (Q (-1) H5)) ∧ (¬ x2 ≤ z4 → (∀ v6 : Int64, v6 = ((z3 * 48271) - (z3 * 48271) / 2147483647 * 2147483647) → (∀ v7 : Int64, v7 = (v6 - v6 / 2 * 2) → (∀ v9 : Int32, v9 = (if (lg_cmp v7 0) = 0 then 0 else 1 : Int32) → (∀ v10 : Int64, v10 = ((v6 / 2) - (v6 / 2) / 3 * 3) → (∀ v11 : Int32, v11 = ((v10.toInt32) - 1) → (c_Ride_go E d v9 v11 H5 (fun r13 H12 => (r13 = 0 → (c_Ride_says E d 2 (H12 3 8 2) (H12 3 8 3) 0 (if v11 = 0 then 0 else 1 : Int32) H12 (fun r16 H15 => ∀ v17 : Int64, v17 = ((v6 / 6) - (v6 / 6) / 100 * 100) → (((lg_cmp v17 (r16.toInt64)) < 0 → (I2 v6 (z4 + 1) H15 ∧ μ2 v6 (z4 + 1) H15 < μ2 z3 z4 H5)) ∧ (¬ (lg_cmp v17 (r16.toInt64)) < 0 → (Q z4 H15)))))) ∧ (¬ r13 = 0 → (I2 v6 (z4 + 1) H12 ∧ μ2 v6 (z4 + 1) H12 < μ2 z3 z4 H5))))))))))))
set_option maxHeartbeats 4000000 in
theorem l_Ride_byLots {E : XE} {d : Nat} {x1 : Int32} {x2 : Int32} {H : HH} {Q : Int32 → HH → Prop} (h : p_Ride_byLots E d x1 x2 H Q) : c_Ride_byLots E (d + 1) x1 x2 H Q := by
  show g_Ride_byLots E (d + 1) 0 (xent [vr 19 0, vi x1, vi x2]) [] H (qi Q)
  refine g_drop (ls2 := [some (vr 19 0), some (vi x1), some (vi x2), none, none, none, none, none, none]) (And.intro rfl (And.intro rfl (And.intro rfl trivial))) ?_
  refine g_iload_n (q := 1) (i := 1) (by decide +kernel) rfl rfl ?_
  refine g_i2l (by decide +kernel) ?_
  refine g_lconst (n := 1) (v := 1) (by decide +kernel) (by decide) ?_
  refine g_ladd (by decide +kernel) ?_
  refine g_topl (fun v1 ev1 => ?_)
  replace h := h v1 ev1
  refine g_lstore_n (q := 3) (i := 3) (ls2 := [some (vr 19 0), some (vi x1), some (vi x2), some (vl v1), none, none, none, none, none]) (by decide +kernel) rfl (by decide) rfl rfl ?_
  refine g_iconst (n := 0) (v := 0) (by decide +kernel) (by decide) ?_
  refine g_istore (i := 5) (ls2 := [some (vr 19 0), some (vi x1), some (vi x2), some (vl v1), none, some (vi 0), none, none, none]) (by decide +kernel) (by decide) rfl rfl ?_
  refine g_drop (ls2 := [some (vr 19 0), none, some (vi x2), some (vl v1), none, some (vi 0), none, none, none]) (And.intro rfl (And.intro rfl (And.intro rfl (And.intro rfl trivial)))) ?_
  obtain ⟨I2, μ2, h0, h⟩ := h
  refine xloop (σ := Int64 × Int32) (fun s H => I2 s.1 s.2 H) (fun s H => μ2 s.1 s.2 H) (fun s H => g_Ride_byLots E (d + 1) 8 [some (vr 19 0), none, some (vi x2), some (vl s.1), none, some (vi s.2), none, none, none] [] H (qi Q)) (fun s H5 hI ih2 => ?_) (v1, 0) H h0
  obtain ⟨z3, z4⟩ := s
  replace h := h z3 z4 H5 hI
  refine g_iload (i := 5) (by decide +kernel) rfl ?_
  refine g_iload_n (q := 2) (i := 2) (by decide +kernel) rfl rfl ?_
  refine g_icmp_ge (off := 115) (tgt := 126) (by decide +kernel) (by decide) (fun c => ?_) (fun c => ?_)
  · replace h := h.1 c
    refine g_iconst (n := (-1)) (v := (-1)) (by decide +kernel) (by decide) ?_
    exact g_iret (by decide +kernel) rfl ⟨_, rfl, h⟩
  · replace h := h.2 c
    refine g_lload_n (q := 3) (i := 3) (by decide +kernel) rfl rfl ?_
    refine g_ldc2 (v := 48271) (by decide +kernel) kw_900 ?_
    refine g_lmul (by decide +kernel) ?_
    refine g_ldc2 (v := 2147483647) (by decide +kernel) kw_901 ?_
    refine g_lrem (by decide +kernel) (by decide) ?_
    refine g_topl (fun v6 ev6 => ?_)
    replace h := h v6 ev6
    refine g_lstore_n (q := 3) (i := 3) (ls2 := [some (vr 19 0), none, some (vi x2), some (vl v6), none, some (vi z4), none, none, none]) (by decide +kernel) rfl (by decide) rfl rfl ?_
    refine g_lload_n (q := 3) (i := 3) (by decide +kernel) rfl rfl ?_
    refine g_ldc2 (v := 2) (by decide +kernel) kw_902 ?_
    refine g_lrem (by decide +kernel) (by decide) ?_
    refine g_topl (fun v7 ev7 => ?_)
    replace h := h v7 ev7
    refine g_lconst (n := 0) (v := 0) (by decide +kernel) (by decide) ?_
    refine g_lcmp (by decide +kernel) ?_
    suffices hj8 : g_Ride_byLots E (d + 1) 39 [some (vr 19 0), none, some (vi x2), some (vl v6), none, some (vi z4), none, none, none] [vi (if (lg_cmp v7 0) = 0 then 0 else 1 : Int32)] H5 (qi Q) by
      refine g_if_ne (off := 7) (tgt := 38) (by decide +kernel) (by decide) (fun c => ?_) (fun c => ?_)
      · rw [if_neg c] at hj8
        refine g_iconst (n := 1) (v := 1) (by decide +kernel) (by decide) ?_
        exact hj8
      · rw [if_pos c] at hj8
        refine g_iconst (n := 0) (v := 0) (by decide +kernel) (by decide) ?_
        refine g_goto (off := 4) (tgt := 39) (by decide +kernel) (by decide) ?_
        exact hj8
    refine g_topi (fun v9 ev9 => ?_)
    replace h := h v9 ev9
    refine g_istore (i := 6) (ls2 := [some (vr 19 0), none, some (vi x2), some (vl v6), none, some (vi z4), some (vi v9), none, none]) (by decide +kernel) (by decide) rfl rfl ?_
    refine g_lload_n (q := 3) (i := 3) (by decide +kernel) rfl rfl ?_
    refine g_ldc2 (v := 2) (by decide +kernel) kw_902 ?_
    refine g_ldiv (by decide +kernel) (by decide) ?_
    refine g_ldc2 (v := 3) (by decide +kernel) kw_903 ?_
    refine g_lrem (by decide +kernel) (by decide) ?_
    refine g_topl (fun v10 ev10 => ?_)
    replace h := h v10 ev10
    refine g_l2i (by decide +kernel) ?_
    refine g_iconst (n := 1) (v := 1) (by decide +kernel) (by decide) ?_
    refine g_isub (by decide +kernel) ?_
    refine g_topi (fun v11 ev11 => ?_)
    replace h := h v11 ev11
    refine g_istore (i := 7) (ls2 := [some (vr 19 0), none, some (vi x2), some (vl v6), none, some (vi z4), some (vi v9), some (vi v11), none]) (by decide +kernel) (by decide) rfl rfl ?_
    refine g_aload_n (q := 0) (i := 0) (by decide +kernel) rfl rfl ?_
    refine g_iload (i := 6) (by decide +kernel) rfl ?_
    refine g_iload (i := 7) (by decide +kernel) rfl ?_
    refine g_callV (kd := 19) (ix := 0) (ci := 8) (N := 4) (T := xT_Ride) (vs := [vi v9, vi v11]) (st := []) (by decide +kernel) xm_Ride_go kw_874 kw_742 kw_743 (by decide) rfl rfl rfl rfl (Nat.le_of_ble_eq_true rfl) (Nat.le_of_ble_eq_true rfl) h (fun vH12 H12 hq => ?_)
    obtain ⟨r13, rfl, h⟩ := hq
    refine g_if_eq (off := 6) (tgt := 69) (by decide +kernel) (by decide) (fun c => ?_) (fun c => ?_)
    · replace h := h.1 c
      refine g_aload_n (q := 0) (i := 0) (by decide +kernel) rfl rfl ?_
      refine g_iconst (n := 2) (v := 2) (by decide +kernel) (by decide) ?_
      refine g_aload_n (q := 0) (i := 0) (by decide +kernel) rfl rfl ?_
      refine g_get (C := "ThreePoints$Ride") (T := xT_Ride) (N := 4) (ci := 8) (k := 1) (v := vr 3 8) (by decide +kernel) (by decide) rfl rfl xi_Ride (by decide) kw_262 rfl ?_
      refine g_get (C := "ThreePoints$Vehicle") (T := xT_Vehicle) (N := 7) (ci := 3) (k := 2) (v := vi (H12 3 8 2)) (by decide +kernel) (by decide) rfl rfl xi_Vehicle (by decide) kw_133 rfl ?_
      refine g_aload_n (q := 0) (i := 0) (by decide +kernel) rfl rfl ?_
      refine g_get (C := "ThreePoints$Ride") (T := xT_Ride) (N := 4) (ci := 8) (k := 1) (v := vr 3 8) (by decide +kernel) (by decide) rfl rfl xi_Ride (by decide) kw_262 rfl ?_
      refine g_get (C := "ThreePoints$Vehicle") (T := xT_Vehicle) (N := 7) (ci := 3) (k := 3) (v := vi (H12 3 8 3)) (by decide +kernel) (by decide) rfl rfl xi_Vehicle (by decide) kw_137 rfl ?_
      refine g_iconst (n := 0) (v := 0) (by decide +kernel) (by decide) ?_
      refine g_iload (i := 7) (by decide +kernel) rfl ?_
      suffices hj14 : g_Ride_byLots E (d + 1) 96 [some (vr 19 0), none, some (vi x2), some (vl v6), none, some (vi z4), some (vi v9), some (vi v11), none] [vi (if v11 = 0 then 0 else 1 : Int32), vi 0, vi (H12 3 8 3), vi (H12 3 8 2), vi 2, vr 19 0] H12 (qi Q) by
        refine g_if_ne (off := 7) (tgt := 95) (by decide +kernel) (by decide) (fun c => ?_) (fun c => ?_)
        · rw [if_neg c] at hj14
          refine g_iconst (n := 1) (v := 1) (by decide +kernel) (by decide) ?_
          exact hj14
        · rw [if_pos c] at hj14
          refine g_iconst (n := 0) (v := 0) (by decide +kernel) (by decide) ?_
          refine g_goto (off := 4) (tgt := 96) (by decide +kernel) (by decide) ?_
          exact hj14
      refine g_callV (kd := 19) (ix := 0) (ci := 8) (N := 4) (T := xT_Ride) (vs := [vi 2, vi (H12 3 8 2), vi (H12 3 8 3), vi 0, vi (if v11 = 0 then 0 else 1 : Int32)]) (st := []) (by decide +kernel) xm_Ride_says kw_660 kw_661 kw_662 (by decide) rfl rfl rfl rfl (Nat.le_of_ble_eq_true rfl) (Nat.le_of_ble_eq_true rfl) h (fun vH15 H15 hq => ?_)
      obtain ⟨r16, rfl, h⟩ := hq
      refine g_istore (i := 8) (ls2 := [some (vr 19 0), none, some (vi x2), some (vl v6), none, some (vi z4), some (vi v9), some (vi v11), some (vi r16)]) (by decide +kernel) (by decide) rfl rfl ?_
      refine g_lload_n (q := 3) (i := 3) (by decide +kernel) rfl rfl ?_
      refine g_ldc2 (v := 6) (by decide +kernel) kw_904 ?_
      refine g_ldiv (by decide +kernel) (by decide) ?_
      refine g_ldc2 (v := 100) (by decide +kernel) kw_905 ?_
      refine g_lrem (by decide +kernel) (by decide) ?_
      refine g_topl (fun v17 ev17 => ?_)
      replace h := h v17 ev17
      refine g_iload (i := 8) (by decide +kernel) rfl ?_
      refine g_i2l (by decide +kernel) ?_
      refine g_lcmp (by decide +kernel) ?_
      refine g_if_lt (off := 6) (tgt := 120) (by decide +kernel) (by decide) (fun c => ?_) (fun c => ?_)
      · replace h := h.1 c
        refine g_iinc (i := 5) (n := 1) (v := (z4 + 1)) (ls2 := [some (vr 19 0), none, some (vi x2), some (vl v6), none, some (vi (z4 + 1)), some (vi v9), some (vi v11), some (vi r16)]) (by decide +kernel) rfl rfl (by decide) rfl rfl ?_
        refine g_goto (off := (-115)) (tgt := 8) (by decide +kernel) (by decide) ?_
        obtain ⟨hI, hlt⟩ := h
        exact g_drop (ls2 := [some (vr 19 0), none, some (vi x2), some (vl v6), none, some (vi (z4 + 1)), none, none, none]) (And.intro rfl (And.intro rfl (And.intro rfl (And.intro rfl trivial)))) (ih2 (v6, (z4 + 1)) H15 hI hlt)
      · replace h := h.2 c
        refine g_iload (i := 5) (by decide +kernel) rfl ?_
        exact g_iret (by decide +kernel) rfl ⟨_, rfl, h⟩
    · replace h := h.2 c
      refine g_goto (off := 54) (tgt := 120) (by decide +kernel) (by decide) ?_
      refine g_iinc (i := 5) (n := 1) (v := (z4 + 1)) (ls2 := [some (vr 19 0), none, some (vi x2), some (vl v6), none, some (vi (z4 + 1)), some (vi v9), some (vi v11), none]) (by decide +kernel) rfl rfl (by decide) rfl rfl ?_
      refine g_goto (off := (-115)) (tgt := 8) (by decide +kernel) (by decide) ?_
      obtain ⟨hI, hlt⟩ := h
      exact g_drop (ls2 := [some (vr 19 0), none, some (vi x2), some (vl v6), none, some (vi (z4 + 1)), none, none, none]) (And.intro rfl (And.intro rfl (And.intro rfl (And.intro rfl trivial)))) (ih2 (v6, (z4 + 1)) H12 hI hlt)
