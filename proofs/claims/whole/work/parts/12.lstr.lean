/-! a method: its place, its formula, the walk that proves it; printed by wip/gen/emitall.py -/
abbrev g_String_coder (E : XE) (d pc : Nat) (ls : List (Option AV)) (st : List AV) (H : HH) (Q : AV → HH → Prop) : Prop := Gp E.1 E.2.1 E.2.2.1 E.2.2.2 xTX xRF xLC d "java/lang/String" prog_15_method_152_code 1 (some .byte) pc ls st H Q
def c_String_coder (E : XE) (d : Nat) (t : Nat) (H : HH) (Q : Int32 → HH → Prop) : Prop := g_String_coder E d 0 (xent [vr 60 t]) [] H (qi Q)
theorem xm_String_coder : xM ⟨"java/lang/String", "coder", "()B"⟩ prog_15_method_152_code 1 (some .byte) 0 := ⟨kw_341, kw_75, by decide +kernel, by decide +kernel, by decide⟩
abbrev g_String_length (E : XE) (d pc : Nat) (ls : List (Option AV)) (st : List AV) (H : HH) (Q : AV → HH → Prop) : Prop := Gp E.1 E.2.1 E.2.2.1 E.2.2.2 xTX xRF xLC d "java/lang/String" prog_15_method_54_code 1 (some .int) pc ls st H Q
def c_String_length (E : XE) (d : Nat) (t : Nat) (H : HH) (Q : Int32 → HH → Prop) : Prop := g_String_length E d 0 (xent [vr 60 t]) [] H (qi Q)
theorem xm_String_length : xM ⟨"java/lang/String", "length", "()I"⟩ prog_15_method_54_code 1 (some .int) 0 := ⟨kw_337, kw_75, by decide +kernel, by decide +kernel, by decide⟩
abbrev g_String_isLatin1 (E : XE) (d pc : Nat) (ls : List (Option AV)) (st : List AV) (H : HH) (Q : AV → HH → Prop) : Prop := Gp E.1 E.2.1 E.2.2.1 E.2.2.2 xTX xRF xLC d "java/lang/String" prog_15_method_154_code 1 (some .boolean) pc ls st H Q
def c_String_isLatin1 (E : XE) (d : Nat) (t : Nat) (H : HH) (Q : Int32 → HH → Prop) : Prop := g_String_isLatin1 E d 0 (xent [vr 60 t]) [] H (qi Q)
theorem xm_String_isLatin1 : xM ⟨"java/lang/String", "isLatin1", "()Z"⟩ prog_15_method_154_code 1 (some .boolean) 0 := ⟨kw_351, kw_75, by decide +kernel, by decide +kernel, by decide⟩
abbrev g_Precond_checkIndex (E : XE) (d pc : Nat) (ls : List (Option AV)) (st : List AV) (H : HH) (Q : AV → HH → Prop) : Prop := Gp E.1 E.2.1 E.2.2.1 E.2.2.2 xTX xRF xLC d "jdk/internal/util/Preconditions" prog_20_method_11_code 3 (some .int) pc ls st H Q
def c_Precond_checkIndex (E : XE) (d : Nat) (x0 : Int32) (x1 : Int32) (H : HH) (Q : Int32 → HH → Prop) : Prop := g_Precond_checkIndex E d 0 (xent [vi x0, vi x1, vn]) [] H (qi Q) ∧ g_Precond_checkIndex E d 0 (xent [vi x0, vi x1, vr 65 0]) [] H (qi Q)
theorem xm_Precond_checkIndex : xM ⟨"jdk/internal/util/Preconditions", "checkIndex", "(IILjava/util/function/BiFunction;)I"⟩ prog_20_method_11_code 3 (some .int) 3 := ⟨kw_362, kw_77, by decide +kernel, by decide +kernel, by decide⟩
abbrev g_String_checkIndex (E : XE) (d pc : Nat) (ls : List (Option AV)) (st : List AV) (H : HH) (Q : AV → HH → Prop) : Prop := Gp E.1 E.2.1 E.2.2.1 E.2.2.2 xTX xRF xLC d "java/lang/String" prog_15_method_155_code 2 none pc ls st H Q
def c_String_checkIndex (E : XE) (d : Nat) (x0 : Int32) (x1 : Int32) (H : HH) (Q : HH → Prop) : Prop := g_String_checkIndex E d 0 (xent [vi x0, vi x1]) [] H (qv Q)
theorem xm_String_checkIndex : xM ⟨"java/lang/String", "checkIndex", "(II)V"⟩ prog_15_method_155_code 2 none 2 := ⟨kw_357, kw_75, by decide +kernel, by decide +kernel, by decide⟩
abbrev g_Latin1_charAt (E : XE) (d pc : Nat) (ls : List (Option AV)) (st : List AV) (H : HH) (Q : AV → HH → Prop) : Prop := Gp E.1 E.2.1 E.2.2.1 E.2.2.2 xTX xRF xLC d "java/lang/StringLatin1" prog_16_method_2_code 2 (some .char) pc ls st H Q
def c_Latin1_charAt (E : XE) (d : Nat) (w : Nat) (x1 : Int32) (H : HH) (Q : Int32 → HH → Prop) : Prop := g_Latin1_charAt E d 0 (xent [vr 61 w, vi x1]) [] H (qi Q)
theorem xm_Latin1_charAt : xM ⟨"java/lang/StringLatin1", "charAt", "([BI)C"⟩ prog_16_method_2_code 2 (some .char) 2 := ⟨kw_354, kw_76, by decide +kernel, by decide +kernel, by decide⟩
abbrev g_String_charAt (E : XE) (d pc : Nat) (ls : List (Option AV)) (st : List AV) (H : HH) (Q : AV → HH → Prop) : Prop := Gp E.1 E.2.1 E.2.2.1 E.2.2.2 xTX xRF xLC d "java/lang/String" prog_15_method_56_code 2 (some .char) pc ls st H Q
def c_String_charAt (E : XE) (d : Nat) (t : Nat) (x1 : Int32) (H : HH) (Q : Int32 → HH → Prop) : Prop := g_String_charAt E d 0 (xent [vr 60 t, vi x1]) [] H (qi Q)
theorem xm_String_charAt : xM ⟨"java/lang/String", "charAt", "(I)C"⟩ prog_15_method_56_code 2 (some .char) 1 := ⟨kw_347, kw_75, by decide +kernel, by decide +kernel, by decide⟩
abbrev g_Latin1_canEncode (E : XE) (d pc : Nat) (ls : List (Option AV)) (st : List AV) (H : HH) (Q : AV → HH → Prop) : Prop := Gp E.1 E.2.1 E.2.2.1 E.2.2.2 xTX xRF xLC d "java/lang/StringLatin1" prog_16_method_4_code 1 (some .boolean) pc ls st H Q
def c_Latin1_canEncode (E : XE) (d : Nat) (x0 : Int32) (H : HH) (Q : Int32 → HH → Prop) : Prop := g_Latin1_canEncode E d 0 (xent [vi x0]) [] H (qi Q)
theorem xm_Latin1_canEncode : xM ⟨"java/lang/StringLatin1", "canEncode", "(I)Z"⟩ prog_16_method_4_code 1 (some .boolean) 1 := ⟨kw_458, kw_76, by decide +kernel, by decide +kernel, by decide⟩
abbrev g_Latin1_indexOfChar (E : XE) (d pc : Nat) (ls : List (Option AV)) (st : List AV) (H : HH) (Q : AV → HH → Prop) : Prop := Gp E.1 E.2.1 E.2.2.1 E.2.2.2 xTX xRF xLC d "java/lang/StringLatin1" prog_16_method_23_code 6 (some .int) pc ls st H Q
def c_Latin1_indexOfChar (E : XE) (d : Nat) (w : Nat) (x1 : Int32) (x2 : Int32) (x3 : Int32) (H : HH) (Q : Int32 → HH → Prop) : Prop := g_Latin1_indexOfChar E d 0 (xent [vr 61 w, vi x1, vi x2, vi x3]) [] H (qi Q)
theorem xm_Latin1_indexOfChar : xM ⟨"java/lang/StringLatin1", "indexOfChar", "([BIII)I"⟩ prog_16_method_23_code 6 (some .int) 4 := ⟨kw_467, kw_76, by decide +kernel, by decide +kernel, by decide⟩
abbrev g_Latin1_indexOf (E : XE) (d pc : Nat) (ls : List (Option AV)) (st : List AV) (H : HH) (Q : AV → HH → Prop) : Prop := Gp E.1 E.2.1 E.2.2.1 E.2.2.2 xTX xRF xLC d "java/lang/StringLatin1" prog_16_method_22_code 4 (some .int) pc ls st H Q
def c_Latin1_indexOf (E : XE) (d : Nat) (w : Nat) (x1 : Int32) (x2 : Int32) (x3 : Int32) (H : HH) (Q : Int32 → HH → Prop) : Prop := g_Latin1_indexOf E d 0 (xent [vr 61 w, vi x1, vi x2, vi x3]) [] H (qi Q)
theorem xm_Latin1_indexOf : xM ⟨"java/lang/StringLatin1", "indexOf", "([BIII)I"⟩ prog_16_method_22_code 4 (some .int) 4 := ⟨kw_455, kw_76, by decide +kernel, by decide +kernel, by decide⟩
abbrev g_String_indexOf_II (E : XE) (d pc : Nat) (ls : List (Option AV)) (st : List AV) (H : HH) (Q : AV → HH → Prop) : Prop := Gp E.1 E.2.1 E.2.2.1 E.2.2.2 xTX xRF xLC d "java/lang/String" prog_15_method_80_code 3 (some .int) pc ls st H Q
def c_String_indexOf_II (E : XE) (d : Nat) (t : Nat) (x1 : Int32) (x2 : Int32) (H : HH) (Q : Int32 → HH → Prop) : Prop := g_String_indexOf_II E d 0 (xent [vr 60 t, vi x1, vi x2]) [] H (qi Q)
theorem xm_String_indexOf_II : xM ⟨"java/lang/String", "indexOf", "(II)I"⟩ prog_15_method_80_code 3 (some .int) 2 := ⟨kw_451, kw_75, by decide +kernel, by decide +kernel, by decide⟩
abbrev g_String_indexOf_I (E : XE) (d pc : Nat) (ls : List (Option AV)) (st : List AV) (H : HH) (Q : AV → HH → Prop) : Prop := Gp E.1 E.2.1 E.2.2.1 E.2.2.2 xTX xRF xLC d "java/lang/String" prog_15_method_79_code 2 (some .int) pc ls st H Q
def c_String_indexOf_I (E : XE) (d : Nat) (t : Nat) (x1 : Int32) (H : HH) (Q : Int32 → HH → Prop) : Prop := g_String_indexOf_I E d 0 (xent [vr 60 t, vi x1]) [] H (qi Q)
theorem xm_String_indexOf_I : xM ⟨"java/lang/String", "indexOf", "(I)I"⟩ prog_15_method_79_code 2 (some .int) 1 := ⟨kw_447, kw_75, by decide +kernel, by decide +kernel, by decide⟩
def p_String_coder (E : XE) (d : Nat) (t : Nat) (H : HH) (Q : Int32 → HH → Prop) : Prop := narrow .char (.int 0) = .int 0 ∧ Q 0 H
set_option maxHeartbeats 4000000 in
theorem l_String_coder {E : XE} {d : Nat} {t : Nat} {H : HH} {Q : Int32 → HH → Prop} (h : p_String_coder E d t H Q) : c_String_coder E d t H Q := by
  show g_String_coder E d 0 (xent [vr 60 t]) [] H (qi Q)
  refine g_drop (ls2 := [some (vr 60 t)]) (And.intro rfl trivial) ?_
  refine g_gsCMP (by decide +kernel) kw_342 ?_
  refine g_if_eq (off := 10) (tgt := 13) (by decide +kernel) (by decide) (fun c => absurd c (by decide)) (fun c => ?_)
  refine g_aload_n (q := 0) (i := 0) (by decide +kernel) rfl rfl ?_
  refine g_strC (by decide +kernel) kw_1409 ?_
  refine g_goto (off := 4) (tgt := 14) (by decide +kernel) (by decide) ?_
  obtain ⟨hnr, h⟩ := h
  exact g_zret (by decide +kernel) rfl hnr ⟨_, rfl, h⟩
def p_String_length (E : XE) (d : Nat) (t : Nat) (H : HH) (Q : Int32 → HH → Prop) : Prop := c_String_coder E d t H (fun r2 H1 => Q ((nI (xTX.getD t []).length) >>> (r2 &&& 31)) H1)
set_option maxHeartbeats 4000000 in
theorem l_String_length {E : XE} {d : Nat} {t : Nat} {H : HH} {Q : Int32 → HH → Prop} (h : p_String_length E d t H Q) : c_String_length E (d + 1) t H Q := by
  show g_String_length E (d + 1) 0 (xent [vr 60 t]) [] H (qi Q)
  refine g_drop (ls2 := [some (vr 60 t)]) (And.intro rfl trivial) ?_
  refine g_aload_n (q := 0) (i := 0) (by decide +kernel) rfl rfl ?_
  refine g_strV (by decide +kernel) kw_1408 ?_
  refine g_blen (by decide +kernel) ?_
  refine g_aload_n (q := 0) (i := 0) (by decide +kernel) rfl rfl ?_
  refine g_callStr (vs := []) (st := [vi (nI (xTX.getD t []).length)]) (by decide +kernel) xm_String_coder kw_338 kw_339 kw_340 rfl rfl rfl (Nat.le_of_ble_eq_true rfl) (Nat.le_of_ble_eq_true rfl) h (fun vH1 H1 hq => ?_)
  obtain ⟨r2, rfl, h⟩ := hq
  refine g_ishr (by decide +kernel) ?_
  exact g_iret (by decide +kernel) rfl ⟨_, rfl, h⟩
def p_String_isLatin1 (E : XE) (d : Nat) (t : Nat) (H : HH) (Q : Int32 → HH → Prop) : Prop := Q 1 H
set_option maxHeartbeats 4000000 in
theorem l_String_isLatin1 {E : XE} {d : Nat} {t : Nat} {H : HH} {Q : Int32 → HH → Prop} (h : p_String_isLatin1 E d t H Q) : c_String_isLatin1 E d t H Q := by
  show g_String_isLatin1 E d 0 (xent [vr 60 t]) [] H (qi Q)
  refine g_drop (ls2 := [some (vr 60 t)]) (And.intro rfl trivial) ?_
  refine g_gsCMP (by decide +kernel) kw_342 ?_
  refine g_if_eq (off := 14) (tgt := 17) (by decide +kernel) (by decide) (fun c => absurd c (by decide)) (fun c => ?_)
  refine g_aload_n (q := 0) (i := 0) (by decide +kernel) rfl rfl ?_
  refine g_strC (by decide +kernel) kw_1409 ?_
  refine g_if_ne (off := 7) (tgt := 17) (by decide +kernel) (by decide) (fun c => absurd c (by decide)) (fun c => ?_)
  refine g_iconst (n := 1) (v := 1) (by decide +kernel) (by decide) ?_
  refine g_goto (off := 4) (tgt := 18) (by decide +kernel) (by decide) ?_
  exact g_zret (by decide +kernel) rfl rfl ⟨_, rfl, h⟩
def p_Precond_checkIndex (E : XE) (d : Nat) (x0 : Int32) (x1 : Int32) (H : HH) (Q : Int32 → HH → Prop) : Prop := (x0 < 0 → (False)) ∧ (¬ x0 < 0 → ((x0 < x1 → (Q x0 H)) ∧ (¬ x0 < x1 → (False))))
set_option maxHeartbeats 4000000 in
/-- the third is null, or some reference (printed by wip/gen/fix12.py) -/
theorem l_Precond_any {E : XE} {d : Nat} {x0 : Int32} {x1 : Int32} {H : HH} {Q : Int32 → HH → Prop} {v : AV} (hv : xent [vi x0, vi x1, v] = [some (vi x0), some (vi x1), some v]) (h : p_Precond_checkIndex E d x0 x1 H Q) : g_Precond_checkIndex E d 0 (xent [vi x0, vi x1, v]) [] H (qi Q) := by
  rw [hv]
  refine g_iload_n (q := 0) (i := 0) (by decide +kernel) rfl rfl ?_
  refine g_if_lt (off := 8) (tgt := 9) (by decide +kernel) (by decide) (fun c => ?_) (fun c => ?_)
  · replace h := h.1 c
    exact h.elim
  · replace h := h.2 c
    refine g_iload_n (q := 0) (i := 0) (by decide +kernel) rfl rfl ?_
    refine g_iload_n (q := 1) (i := 1) (by decide +kernel) rfl rfl ?_
    refine g_icmp_lt (off := 10) (tgt := 16) (by decide +kernel) (by decide) (fun c => ?_) (fun c => ?_)
    · replace h := h.1 c
      refine g_iload_n (q := 0) (i := 0) (by decide +kernel) rfl rfl ?_
      exact g_iret (by decide +kernel) rfl ⟨_, rfl, h⟩
    · replace h := h.2 c
      exact h.elim
theorem l_Precond_checkIndex {E : XE} {d : Nat} {x0 : Int32} {x1 : Int32} {H : HH} {Q : Int32 → HH → Prop} (h : p_Precond_checkIndex E d x0 x1 H Q) : c_Precond_checkIndex E d x0 x1 H Q := ⟨l_Precond_any rfl h, l_Precond_any rfl h⟩
def p_String_checkIndex (E : XE) (d : Nat) (x0 : Int32) (x1 : Int32) (H : HH) (Q : HH → Prop) : Prop := c_Precond_checkIndex E d x0 x1 H (fun r2 H1 => Q H1)
set_option maxHeartbeats 4000000 in
theorem l_String_checkIndex {E : XE} {d : Nat} {x0 : Int32} {x1 : Int32} {H : HH} {Q : HH → Prop} (h : p_String_checkIndex E d x0 x1 H Q) : c_String_checkIndex E (d + 1) x0 x1 H Q := by
  show g_String_checkIndex E (d + 1) 0 (xent [vi x0, vi x1]) [] H (qv Q)
  refine g_drop (ls2 := [some (vi x0), some (vi x1)]) (And.intro rfl (And.intro rfl trivial)) ?_
  refine g_iload_n (q := 0) (i := 0) (by decide +kernel) rfl rfl ?_
  refine g_iload_n (q := 1) (i := 1) (by decide +kernel) rfl rfl ?_
  refine g_gsSIO (by decide +kernel) kw_358 ?_ ?_
  · refine g_callS (vs := [vi x0, vi x1, vn]) (st := []) (by decide +kernel) xm_Precond_checkIndex kw_360 kw_361 rfl rfl (Nat.le_of_ble_eq_true rfl) (Nat.le_of_ble_eq_true rfl) h.1 (fun vH1 H1 hq => ?_)
    obtain ⟨r2, rfl, h⟩ := hq
    refine g_pop (by decide +kernel) rfl ?_
    exact g_vret (by decide +kernel) rfl h
  · refine g_callS (vs := [vi x0, vi x1, vr 65 0]) (st := []) (by decide +kernel) xm_Precond_checkIndex kw_360 kw_361 rfl rfl (Nat.le_of_ble_eq_true rfl) (Nat.le_of_ble_eq_true rfl) h.2 (fun vH1 H1 hq => ?_)
    obtain ⟨r2, rfl, h⟩ := hq
    refine g_pop (by decide +kernel) rfl ?_
    exact g_vret (by decide +kernel) rfl h
def p_Latin1_charAt (E : XE) (d : Nat) (w : Nat) (x1 : Int32) (H : HH) (Q : Int32 → HH → Prop) : Prop := c_String_checkIndex E d x1 (nI (xTX.getD w []).length) H (fun H1 => vp_in x1 (xTX.getD w []).length ∧ (narrow .char (.int (((((xTX.getD w []).getD (x1.toNatClampNeg) 0) &&& 255).toUInt32 % 65536).toInt32)) = .int (((((xTX.getD w []).getD (x1.toNatClampNeg) 0) &&& 255).toUInt32 % 65536).toInt32) ∧ Q (((((xTX.getD w []).getD (x1.toNatClampNeg) 0) &&& 255).toUInt32 % 65536).toInt32) H1))
set_option maxHeartbeats 4000000 in
theorem l_Latin1_charAt {E : XE} {d : Nat} {w : Nat} {x1 : Int32} {H : HH} {Q : Int32 → HH → Prop} (h : p_Latin1_charAt E d w x1 H Q) : c_Latin1_charAt E (d + 1) w x1 H Q := by
  show g_Latin1_charAt E (d + 1) 0 (xent [vr 61 w, vi x1]) [] H (qi Q)
  refine g_drop (ls2 := [some (vr 61 w), some (vi x1)]) (And.intro rfl (And.intro rfl trivial)) ?_
  refine g_iload_n (q := 1) (i := 1) (by decide +kernel) rfl rfl ?_
  refine g_aload_n (q := 0) (i := 0) (by decide +kernel) rfl rfl ?_
  refine g_blen (by decide +kernel) ?_
  refine g_callS (vs := [vi x1, vi (nI (xTX.getD w []).length)]) (st := []) (by decide +kernel) xm_String_checkIndex kw_355 kw_356 rfl rfl (Nat.le_of_ble_eq_true rfl) (Nat.le_of_ble_eq_true rfl) h (fun vH1 H1 hq => ?_)
  replace h := hq
  refine g_aload_n (q := 0) (i := 0) (by decide +kernel) rfl rfl ?_
  refine g_iload_n (q := 1) (i := 1) (by decide +kernel) rfl rfl ?_
  obtain ⟨hin, h⟩ := h
  refine g_bald (by decide +kernel) hin ?_
  refine g_sipush (n := 255) (v := 255) (by decide +kernel) (by decide) ?_
  refine g_iand (by decide +kernel) ?_
  refine g_i2c (by decide +kernel) ?_
  obtain ⟨hnr, h⟩ := h
  exact g_zret (by decide +kernel) rfl hnr ⟨_, rfl, h⟩
def p_String_charAt (E : XE) (d : Nat) (t : Nat) (x1 : Int32) (H : HH) (Q : Int32 → HH → Prop) : Prop := c_String_isLatin1 E d t H (fun r2 H1 => (r2 = 0 → (False)) ∧ (¬ r2 = 0 → (c_Latin1_charAt E d t x1 H1 (fun r4 H3 => narrow .char (.int r4) = .int r4 ∧ Q r4 H3))))
set_option maxHeartbeats 4000000 in
theorem l_String_charAt {E : XE} {d : Nat} {t : Nat} {x1 : Int32} {H : HH} {Q : Int32 → HH → Prop} (h : p_String_charAt E d t x1 H Q) : c_String_charAt E (d + 1) t x1 H Q := by
  show g_String_charAt E (d + 1) 0 (xent [vr 60 t, vi x1]) [] H (qi Q)
  refine g_drop (ls2 := [some (vr 60 t), some (vi x1)]) (And.intro rfl (And.intro rfl trivial)) ?_
  refine g_aload_n (q := 0) (i := 0) (by decide +kernel) rfl rfl ?_
  refine g_callStr (vs := []) (st := []) (by decide +kernel) xm_String_isLatin1 kw_348 kw_349 kw_350 rfl rfl rfl (Nat.le_of_ble_eq_true rfl) (Nat.le_of_ble_eq_true rfl) h (fun vH1 H1 hq => ?_)
  obtain ⟨r2, rfl, h⟩ := hq
  refine g_if_eq (off := 12) (tgt := 16) (by decide +kernel) (by decide) (fun c => ?_) (fun c => ?_)
  · replace h := h.1 c
    refine g_aload_n (q := 0) (i := 0) (by decide +kernel) rfl rfl ?_
    refine g_strV (by decide +kernel) kw_1408 ?_
    refine g_iload_n (q := 1) (i := 1) (by decide +kernel) rfl rfl ?_
    exact h.elim
  · replace h := h.2 c
    refine g_aload_n (q := 0) (i := 0) (by decide +kernel) rfl rfl ?_
    refine g_strV (by decide +kernel) kw_1408 ?_
    refine g_iload_n (q := 1) (i := 1) (by decide +kernel) rfl rfl ?_
    refine g_callS (vs := [vr 61 t, vi x1]) (st := []) (by decide +kernel) xm_Latin1_charAt kw_352 kw_353 rfl rfl (Nat.le_of_ble_eq_true rfl) (Nat.le_of_ble_eq_true rfl) h (fun vH3 H3 hq => ?_)
    obtain ⟨r4, rfl, h⟩ := hq
    obtain ⟨hnr, h⟩ := h
    exact g_zret (by decide +kernel) rfl hnr ⟨_, rfl, h⟩
def p_Latin1_canEncode (E : XE) (d : Nat) (x0 : Int32) (H : HH) (Q : Int32 → HH → Prop) : Prop := ((if x0 < 0 then 0 else (if 255 < x0 then 0 else 1 : Int32) : Int32) = 0 ∨ (if x0 < 0 then 0 else (if 255 < x0 then 0 else 1 : Int32) : Int32) = 1) ∧ Q (if x0 < 0 then 0 else (if 255 < x0 then 0 else 1 : Int32) : Int32) H
set_option maxHeartbeats 4000000 in
theorem l_Latin1_canEncode {E : XE} {d : Nat} {x0 : Int32} {H : HH} {Q : Int32 → HH → Prop} (h : p_Latin1_canEncode E d x0 H Q) : c_Latin1_canEncode E d x0 H Q := by
  show g_Latin1_canEncode E d 0 (xent [vi x0]) [] H (qi Q)
  refine g_drop (ls2 := [some (vi x0)]) (And.intro rfl trivial) ?_
  refine g_iload_n (q := 0) (i := 0) (by decide +kernel) rfl rfl ?_
  suffices hj2 : g_Latin1_canEncode E d 16 [some (vi x0)] [vi (if x0 < 0 then 0 else (if 255 < x0 then 0 else 1 : Int32) : Int32)] H (qi Q) by
    refine g_if_lt (off := 14) (tgt := 15) (by decide +kernel) (by decide) (fun c => ?_) (fun c => ?_)
    · rw [if_pos c] at hj2
      refine g_iconst (n := 0) (v := 0) (by decide +kernel) (by decide) ?_
      exact hj2
    · rw [if_neg c] at hj2
      refine g_iload_n (q := 0) (i := 0) (by decide +kernel) rfl rfl ?_
      refine g_sipush (n := 255) (v := 255) (by decide +kernel) (by decide) ?_
      suffices hj1 : g_Latin1_canEncode E d 16 [some (vi x0)] [vi (if 255 < x0 then 0 else 1 : Int32)] H (qi Q) by
        refine g_icmp_gt (off := 7) (tgt := 15) (by decide +kernel) (by decide) (fun c => ?_) (fun c => ?_)
        · rw [if_pos c] at hj1
          refine g_iconst (n := 0) (v := 0) (by decide +kernel) (by decide) ?_
          exact hj1
        · rw [if_neg c] at hj1
          refine g_iconst (n := 1) (v := 1) (by decide +kernel) (by decide) ?_
          refine g_goto (off := 4) (tgt := 16) (by decide +kernel) (by decide) ?_
          exact hj1
      exact hj2
  obtain ⟨h01, h⟩ := h
  exact g_zret (by decide +kernel) rfl (nbool h01) ⟨_, rfl, h⟩
def p_Latin1_indexOfChar (E : XE) (d : Nat) (w : Nat) (x1 : Int32) (x2 : Int32) (x3 : Int32) (H : HH) (Q : Int32 → HH → Prop) : Prop := ∀ v1 : Int32, v1 = (x1.toInt8.toInt32) → (∃ (I2 : Int32 → HH → Prop) (μ2 : Int32 → HH → Nat), I2 x2 H ∧ ∀ (z3 : Int32) (H4 : HH), I2 z3 H4 → ((x3 ≤ z3 → (Q (-1) H4)) ∧ (¬ x3 ≤ z3 → (vp_in z3 (xTX.getD w []).length ∧ ((¬ ((xTX.getD w []).getD (z3.toNatClampNeg) 0) = v1 → (I2 (z3 + 1) H4 ∧ μ2 (z3 + 1) H4 < μ2 z3 H4)) ∧ (((xTX.getD w []).getD (z3.toNatClampNeg) 0) = v1 → (Q z3 H4)))))))
set_option maxHeartbeats 4000000 in
theorem l_Latin1_indexOfChar {E : XE} {d : Nat} {w : Nat} {x1 : Int32} {x2 : Int32} {x3 : Int32} {H : HH} {Q : Int32 → HH → Prop} (h : p_Latin1_indexOfChar E d w x1 x2 x3 H Q) : c_Latin1_indexOfChar E d w x1 x2 x3 H Q := by
  show g_Latin1_indexOfChar E d 0 (xent [vr 61 w, vi x1, vi x2, vi x3]) [] H (qi Q)
  refine g_drop (ls2 := [some (vr 61 w), some (vi x1), some (vi x2), some (vi x3), none, none]) (And.intro rfl (And.intro rfl (And.intro rfl (And.intro rfl trivial)))) ?_
  refine g_iload_n (q := 1) (i := 1) (by decide +kernel) rfl rfl ?_
  refine g_i2b (by decide +kernel) ?_
  refine g_topi (fun v1 ev1 => ?_)
  replace h := h v1 ev1
  refine g_istore (i := 4) (ls2 := [some (vr 61 w), some (vi x1), some (vi x2), some (vi x3), some (vi v1), none]) (by decide +kernel) (by decide) rfl rfl ?_
  refine g_iload_n (q := 2) (i := 2) (by decide +kernel) rfl rfl ?_
  refine g_istore (i := 5) (ls2 := [some (vr 61 w), some (vi x1), some (vi x2), some (vi x3), some (vi v1), some (vi x2)]) (by decide +kernel) (by decide) rfl rfl ?_
  refine g_drop (ls2 := [some (vr 61 w), none, none, some (vi x3), some (vi v1), some (vi x2)]) (And.intro rfl (And.intro rfl (And.intro rfl (And.intro rfl trivial)))) ?_
  obtain ⟨I2, μ2, h0, h⟩ := h
  refine xloop (σ := Int32) (fun s H => I2 s H) (fun s H => μ2 s H) (fun s H => g_Latin1_indexOfChar E d 7 [some (vr 61 w), none, none, some (vi x3), some (vi v1), some (vi s)] [] H (qi Q)) (fun s H4 hI ih2 => ?_) x2 H h0
  obtain ⟨z3, es⟩ : ∃ z, z = s := ⟨s, rfl⟩
  subst es
  replace h := h z3 H4 hI
  refine g_iload (i := 5) (by decide +kernel) rfl ?_
  refine g_iload_n (q := 3) (i := 3) (by decide +kernel) rfl rfl ?_
  refine g_icmp_ge (off := 21) (tgt := 31) (by decide +kernel) (by decide) (fun c => ?_) (fun c => ?_)
  · replace h := h.1 c
    refine g_iconst (n := (-1)) (v := (-1)) (by decide +kernel) (by decide) ?_
    exact g_iret (by decide +kernel) rfl ⟨_, rfl, h⟩
  · replace h := h.2 c
    refine g_aload_n (q := 0) (i := 0) (by decide +kernel) rfl rfl ?_
    refine g_iload (i := 5) (by decide +kernel) rfl ?_
    obtain ⟨hin, h⟩ := h
    refine g_bald (by decide +kernel) hin ?_
    refine g_iload (i := 4) (by decide +kernel) rfl ?_
    refine g_icmp_ne (off := 6) (tgt := 25) (by decide +kernel) (by decide) (fun c => ?_) (fun c => ?_)
    · replace h := h.1 c
      refine g_iinc (i := 5) (n := 1) (v := (z3 + 1)) (ls2 := [some (vr 61 w), none, none, some (vi x3), some (vi v1), some (vi (z3 + 1))]) (by decide +kernel) rfl rfl (by decide) rfl rfl ?_
      refine g_goto (off := (-21)) (tgt := 7) (by decide +kernel) (by decide) ?_
      obtain ⟨hI, hlt⟩ := h
      exact g_drop (ls2 := [some (vr 61 w), none, none, some (vi x3), some (vi v1), some (vi (z3 + 1))]) (And.intro rfl (And.intro rfl (And.intro rfl (And.intro rfl trivial)))) (ih2 (z3 + 1) H4 hI hlt)
    · replace h := h.2 c
      refine g_iload (i := 5) (by decide +kernel) rfl ?_
      exact g_iret (by decide +kernel) rfl ⟨_, rfl, h⟩
def p_Latin1_indexOf (E : XE) (d : Nat) (w : Nat) (x1 : Int32) (x2 : Int32) (x3 : Int32) (H : HH) (Q : Int32 → HH → Prop) : Prop := c_Latin1_canEncode E d x1 H (fun r2 H1 => (¬ r2 = 0 → (∀ v3 : Int32, v3 = (xmin x3 (nI (xTX.getD w []).length)) → (((xmax x2 0) < v3 → (c_Latin1_indexOfChar E d w x1 (xmax x2 0) v3 H1 (fun r5 H4 => Q r5 H4))) ∧ (¬ (xmax x2 0) < v3 → (Q (-1) H1))))) ∧ (r2 = 0 → (Q (-1) H1)))
set_option maxHeartbeats 4000000 in
theorem l_Latin1_indexOf {E : XE} {d : Nat} {w : Nat} {x1 : Int32} {x2 : Int32} {x3 : Int32} {H : HH} {Q : Int32 → HH → Prop} (h : p_Latin1_indexOf E d w x1 x2 x3 H Q) : c_Latin1_indexOf E (d + 1) w x1 x2 x3 H Q := by
  show g_Latin1_indexOf E (d + 1) 0 (xent [vr 61 w, vi x1, vi x2, vi x3]) [] H (qi Q)
  refine g_drop (ls2 := [some (vr 61 w), some (vi x1), some (vi x2), some (vi x3)]) (And.intro rfl (And.intro rfl (And.intro rfl (And.intro rfl trivial)))) ?_
  refine g_iload_n (q := 1) (i := 1) (by decide +kernel) rfl rfl ?_
  refine g_callS (vs := [vi x1]) (st := []) (by decide +kernel) xm_Latin1_canEncode kw_456 kw_457 rfl rfl (Nat.le_of_ble_eq_true rfl) (Nat.le_of_ble_eq_true rfl) h (fun vH1 H1 hq => ?_)
  obtain ⟨r2, rfl, h⟩ := hq
  refine g_if_ne (off := 5) (tgt := 9) (by decide +kernel) (by decide) (fun c => ?_) (fun c => ?_)
  · replace h := h.1 c
    refine g_iload_n (q := 2) (i := 2) (by decide +kernel) rfl rfl ?_
    refine g_iconst (n := 0) (v := 0) (by decide +kernel) (by decide) ?_
    refine g_mmax (by decide +kernel) kw_459 kw_460 kw_79 kw_461 (Nat.le_of_ble_eq_true rfl) ?_
    refine g_istore_n (q := 2) (i := 2) (ls2 := [some (vr 61 w), some (vi x1), some (vi (xmax x2 0)), some (vi x3)]) (by decide +kernel) rfl (by decide) rfl rfl ?_
    refine g_iload_n (q := 3) (i := 3) (by decide +kernel) rfl rfl ?_
    refine g_aload_n (q := 0) (i := 0) (by decide +kernel) rfl rfl ?_
    refine g_blen (by decide +kernel) ?_
    refine g_mmin (by decide +kernel) kw_462 kw_463 kw_79 kw_464 (Nat.le_of_ble_eq_true rfl) ?_
    refine g_topi (fun v3 ev3 => ?_)
    replace h := h v3 ev3
    refine g_istore_n (q := 3) (i := 3) (ls2 := [some (vr 61 w), some (vi x1), some (vi (xmax x2 0)), some (vi v3)]) (by decide +kernel) rfl (by decide) rfl rfl ?_
    refine g_iload_n (q := 2) (i := 2) (by decide +kernel) rfl rfl ?_
    refine g_iload_n (q := 3) (i := 3) (by decide +kernel) rfl rfl ?_
    refine g_icmp_lt (off := 5) (tgt := 29) (by decide +kernel) (by decide) (fun c => ?_) (fun c => ?_)
    · replace h := h.1 c
      refine g_aload_n (q := 0) (i := 0) (by decide +kernel) rfl rfl ?_
      refine g_iload_n (q := 1) (i := 1) (by decide +kernel) rfl rfl ?_
      refine g_iload_n (q := 2) (i := 2) (by decide +kernel) rfl rfl ?_
      refine g_iload_n (q := 3) (i := 3) (by decide +kernel) rfl rfl ?_
      refine g_callS (vs := [vr 61 w, vi x1, vi (xmax x2 0), vi v3]) (st := []) (by decide +kernel) xm_Latin1_indexOfChar kw_465 kw_466 rfl rfl (Nat.le_of_ble_eq_true rfl) (Nat.le_of_ble_eq_true rfl) h (fun vH4 H4 hq => ?_)
      obtain ⟨r5, rfl, h⟩ := hq
      exact g_iret (by decide +kernel) rfl ⟨_, rfl, h⟩
    · replace h := h.2 c
      refine g_iconst (n := (-1)) (v := (-1)) (by decide +kernel) (by decide) ?_
      exact g_iret (by decide +kernel) rfl ⟨_, rfl, h⟩
  · replace h := h.2 c
    refine g_iconst (n := (-1)) (v := (-1)) (by decide +kernel) (by decide) ?_
    exact g_iret (by decide +kernel) rfl ⟨_, rfl, h⟩
def p_String_indexOf_II (E : XE) (d : Nat) (t : Nat) (x1 : Int32) (x2 : Int32) (H : HH) (Q : Int32 → HH → Prop) : Prop := c_String_isLatin1 E d t H (fun r2 H1 => (r2 = 0 → (c_String_length E d t H1 (fun r4 H3 => False))) ∧ (¬ r2 = 0 → (c_String_length E d t H1 (fun r6 H5 => c_Latin1_indexOf E d t x1 x2 r6 H5 (fun r8 H7 => Q r8 H7)))))
set_option maxHeartbeats 4000000 in
theorem l_String_indexOf_II {E : XE} {d : Nat} {t : Nat} {x1 : Int32} {x2 : Int32} {H : HH} {Q : Int32 → HH → Prop} (h : p_String_indexOf_II E d t x1 x2 H Q) : c_String_indexOf_II E (d + 1) t x1 x2 H Q := by
  show g_String_indexOf_II E (d + 1) 0 (xent [vr 60 t, vi x1, vi x2]) [] H (qi Q)
  refine g_drop (ls2 := [some (vr 60 t), some (vi x1), some (vi x2)]) (And.intro rfl (And.intro rfl (And.intro rfl trivial))) ?_
  refine g_aload_n (q := 0) (i := 0) (by decide +kernel) rfl rfl ?_
  refine g_callStr (vs := []) (st := []) (by decide +kernel) xm_String_isLatin1 kw_348 kw_349 kw_350 rfl rfl rfl (Nat.le_of_ble_eq_true rfl) (Nat.le_of_ble_eq_true rfl) h (fun vH1 H1 hq => ?_)
  obtain ⟨r2, rfl, h⟩ := hq
  refine g_if_eq (off := 19) (tgt := 23) (by decide +kernel) (by decide) (fun c => ?_) (fun c => ?_)
  · replace h := h.1 c
    refine g_aload_n (q := 0) (i := 0) (by decide +kernel) rfl rfl ?_
    refine g_strV (by decide +kernel) kw_1408 ?_
    refine g_iload_n (q := 1) (i := 1) (by decide +kernel) rfl rfl ?_
    refine g_iload_n (q := 2) (i := 2) (by decide +kernel) rfl rfl ?_
    refine g_aload_n (q := 0) (i := 0) (by decide +kernel) rfl rfl ?_
    refine g_callStr (vs := []) (st := [vi x2, vi x1, vr 61 t]) (by decide +kernel) xm_String_length kw_452 kw_335 kw_336 rfl rfl rfl (Nat.le_of_ble_eq_true rfl) (Nat.le_of_ble_eq_true rfl) h (fun vH3 H3 hq => ?_)
    obtain ⟨r4, rfl, h⟩ := hq
    exact h.elim
  · replace h := h.2 c
    refine g_aload_n (q := 0) (i := 0) (by decide +kernel) rfl rfl ?_
    refine g_strV (by decide +kernel) kw_1408 ?_
    refine g_iload_n (q := 1) (i := 1) (by decide +kernel) rfl rfl ?_
    refine g_iload_n (q := 2) (i := 2) (by decide +kernel) rfl rfl ?_
    refine g_aload_n (q := 0) (i := 0) (by decide +kernel) rfl rfl ?_
    refine g_callStr (vs := []) (st := [vi x2, vi x1, vr 61 t]) (by decide +kernel) xm_String_length kw_452 kw_335 kw_336 rfl rfl rfl (Nat.le_of_ble_eq_true rfl) (Nat.le_of_ble_eq_true rfl) h (fun vH5 H5 hq => ?_)
    obtain ⟨r6, rfl, h⟩ := hq
    refine g_callS (vs := [vr 61 t, vi x1, vi x2, vi r6]) (st := []) (by decide +kernel) xm_Latin1_indexOf kw_453 kw_454 rfl rfl (Nat.le_of_ble_eq_true rfl) (Nat.le_of_ble_eq_true rfl) h (fun vH7 H7 hq => ?_)
    obtain ⟨r8, rfl, h⟩ := hq
    refine g_goto (off := 16) (tgt := 36) (by decide +kernel) (by decide) ?_
    exact g_iret (by decide +kernel) rfl ⟨_, rfl, h⟩
def p_String_indexOf_I (E : XE) (d : Nat) (t : Nat) (x1 : Int32) (H : HH) (Q : Int32 → HH → Prop) : Prop := c_String_indexOf_II E d t x1 0 H (fun r2 H1 => Q r2 H1)
set_option maxHeartbeats 4000000 in
theorem l_String_indexOf_I {E : XE} {d : Nat} {t : Nat} {x1 : Int32} {H : HH} {Q : Int32 → HH → Prop} (h : p_String_indexOf_I E d t x1 H Q) : c_String_indexOf_I E (d + 1) t x1 H Q := by
  show g_String_indexOf_I E (d + 1) 0 (xent [vr 60 t, vi x1]) [] H (qi Q)
  refine g_drop (ls2 := [some (vr 60 t), some (vi x1)]) (And.intro rfl (And.intro rfl trivial)) ?_
  refine g_aload_n (q := 0) (i := 0) (by decide +kernel) rfl rfl ?_
  refine g_iload_n (q := 1) (i := 1) (by decide +kernel) rfl rfl ?_
  refine g_iconst (n := 0) (v := 0) (by decide +kernel) (by decide) ?_
  refine g_callStr (vs := [vi x1, vi 0]) (st := []) (by decide +kernel) xm_String_indexOf_II kw_448 kw_449 kw_450 rfl rfl rfl (Nat.le_of_ble_eq_true rfl) (Nat.le_of_ble_eq_true rfl) h (fun vH1 H1 hq => ?_)
  obtain ⟨r2, rfl, h⟩ := hq
  exact g_iret (by decide +kernel) rfl ⟨_, rfl, h⟩
