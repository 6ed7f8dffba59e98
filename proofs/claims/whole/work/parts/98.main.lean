/-! MAKING 7: ThreePoints(). Printed by wip/gen/gen98.py. -/
theorem xsp_lt {kd k : Nat} {t : Nat × (Nat → Nat)} (hs : xsp kd k = some t) : k < (xsh kd).2.2 := by
  unfold xsp at hs
  split at hs <;> first | decide | cases hs
theorem xclo_of {L : List (Nat × Nat)} {nT : Nat} (hn : L.Nodup) (h60 : ∀ q ∈ L, q.1 < 60) (hc : ∀ q ∈ L, ycs L q) (h19 : ∀ i, (19, i) ∈ L → ∀ j, j < 7 → (11, j) ∈ L) : xclo L nT := by
  refine ⟨hn, h60, fun q hq k x => ?_, fun q hq h3 j hj => ?_⟩
  · cases hs : xsp q.1 k with
    | some t =>
      have e : xld q.1 q.2 k x = vr t.1 (t.2 q.2) := by unfold xld; rw [hs]
      rw [e]
      rcases hc q hq with w | w | w
      · exact absurd w (fun w2 => xsp_sh w2 hs)
      · exact absurd w (fun w2 => xsp_sh2 w2 hs)
      · exact Or.inl ((w k (xsp_lt hs)).1 t hs)
    | none =>
      by_cases c : q.1 = 19 ∧ k = 2
      · obtain ⟨a, i⟩ := q
        obtain ⟨c1, c2⟩ := c
        have c3 : a = 19 := c1
        subst c3
        subst c2
        rcases xlaw i x with ⟨-, e⟩ | ⟨t, ht, -, e⟩
        · show xok L nT (xld 19 i 2 x)
          rw [e]; exact trivial
        · show xok L nT (xld 19 i 2 x)
          rw [e]; exact Or.inl (h19 i hq t ht)
      · have e : xld q.1 q.2 k x = vi x := by unfold xld; rw [hs]; exact if_neg c
        rw [e]; exact trivial
  · rcases hc q hq with w | w | w
    · rw [w] at h3; exact absurd h3 (by decide)
    · rw [w] at h3; exact absurd h3 (by decide)
    · exact Or.inl ((w j hj).2 h3)
theorem ycs_LC : ∀ q ∈ xLC, ycs xLC q := ycs_of (by decide +kernel)
theorem ycs_LM : ∀ q ∈ xLM, ycs xLM q := ycs_of (by decide +kernel)
theorem xclo_LC : xclo xLC xTX.length := xclo_of (by decide +kernel) (by decide +kernel) ycs_LC (fun i _ j hj => by
  rcases (show j = 0 ∨ j = 1 ∨ j = 2 ∨ j = 3 ∨ j = 4 ∨ j = 5 ∨ j = 6 by omega) with rfl | rfl | rfl | rfl | rfl | rfl | rfl <;> decide +kernel)
theorem xclo_LM : xclo xLM xTX.length := xclo_of (by decide +kernel) (by decide +kernel) ycs_LM (fun i h => by
  have : ∀ q ∈ xLM, q.1 ≠ 19 := by decide +kernel
  exact absurd rfl (this _ h))
theorem y_aald {l : Launch} {cid : Nat → ClassId} {D : va_G} {HI : HH} {R : Room} {own : String} {b : ByteArray} {nL kd0 ix0 : Nat} {Lf : List (Nat × Nat)} {QH : HH → Prop} {pc : Nat} {ls : List (Option AV)} {st : List AV} {L : List (Nat × Nat)} {B : YB} {H : HH} {cells slots : Nat} {kd ix N t a kt it : Nat} {C : String} {i : Int32} (hd : decode b pc = .ok (.aaload, 1)) (h60 : kd < 60) (hsh : xsh kd = (t + 3, a, N)) (htys : ∀ c : Nat → ClassId, (xtys c)[t + 2]? = some (c (t + 2), .object C)) (hin : vp_in i N) (hB : B kd ix i.toNatClampNeg = true) (hkt : (xra kd).1 = kt) (hit : (xra kd).2 ix i.toNatClampNeg = it) (k : Gc l cid D HI R own b nL kd0 ix0 Lf QH (pc + 1) ls (vr kt it :: st) L B H cells slots) : Gc l cid D HI R own b nL kd0 ix0 Lf QH pc ls (vi i :: vr kd ix :: st) L B H cells slots := by
  subst hkt
  subst hit
  intro ad0 ad h1 h2 h3 h4 p e s m args below meth c Hc locs lsC A hC ho hP hD hS hl
  obtain ⟨hx, hb, hml, hr, hown, hlk, hin2, hts, hK, hZ, hrf, hwd, hA⟩ := id hC
  have hi := yok_in ho.pop.top h60
  obtain ⟨q0, hq, hw⟩ := yw_at (cid := cid) (ad := ad) (B := B) (H := H) hi
  rw [ycell_q hsh] at hw
  refine va_aldq hx hb hK hP q0 (t + 2) hw (htys cid) hin hd ?_
  rw [if_pos hB]
  exact k ad0 ad h1 h2 h3 h4 p e s m args below meth c Hc locs lsC A hC (ho.pop.pop.push (Or.inl ((h4.2.2.1 kd ix _ hB).2.2 (by rw [hsh]; exact Nat.le_add_left 3 t)))) hP hD hS hl
set_option maxRecDepth 20000 in
theorem cw_65 : Cond.initialized "ThreePoints" ∈ xtbl := xtbl_at 65 (by decide +kernel) (by decide +kernel)
set_option maxRecDepth 20000 in
theorem cw_87 : Cond.instanceMethod ⟨"ThreePoints", "<init>", "()V"⟩ ∈ xtbl := xtbl_at 87 (by decide +kernel) (by decide +kernel)
set_option maxRecDepth 20000 in
theorem cw_88 : Cond.code ⟨"ThreePoints", "<init>", "()V"⟩ prog_1_method_1_code 2 none ∈ xtbl := xtbl_at 88 rfl rfl
set_option maxRecDepth 20000 in
theorem cw_89 : Cond.methodLink "ThreePoints" 1 ⟨"java/lang/Object", "<init>", "()V"⟩ ∈ xtbl := xtbl_at 89 (by decide +kernel) (by decide +kernel)
set_option maxRecDepth 20000 in
theorem cw_92 : Cond.classLink "ThreePoints" 7 "ThreePoints$Yard" ∈ xtbl := xtbl_at 92 (by decide +kernel) (by decide +kernel)
set_option maxRecDepth 20000 in
theorem cw_93 : Cond.instantiable "ThreePoints$Yard" 3 ∈ xtbl := xtbl_at 93 (by decide +kernel) (by decide +kernel)
set_option maxRecDepth 20000 in
theorem cw_94 : Cond.methodLink "ThreePoints" 9 ⟨"ThreePoints$Yard", "<init>", "()V"⟩ ∈ xtbl := xtbl_at 94 (by decide +kernel) (by decide +kernel)
set_option maxRecDepth 20000 in
theorem cw_175 : Cond.classLink "ThreePoints" 19 "ThreePoints$Reader" ∈ xtbl := xtbl_at 175 (by decide +kernel) (by decide +kernel)
set_option maxRecDepth 20000 in
theorem cw_176 : Cond.instantiable "ThreePoints$Reader" 5 ∈ xtbl := xtbl_at 176 (by decide +kernel) (by decide +kernel)
set_option maxRecDepth 20000 in
theorem cw_228 : Cond.fieldLink "ThreePoints" 54 "ThreePoints$Reader" "tape" "LThreePoints$Tape;" ∈ xtbl := xtbl_at 228 (by decide +kernel) (by decide +kernel)
set_option maxRecDepth 20000 in
theorem cw_230 : Cond.fieldLink "ThreePoints" 70 "ThreePoints$Reader" "draft" "LThreePoints$Text;" ∈ xtbl := xtbl_at 230 (by decide +kernel) (by decide +kernel)
set_option maxRecDepth 20000 in
theorem cw_245 : Cond.classLink "ThreePoints" 26 "ThreePoints$Text" ∈ xtbl := xtbl_at 245 (by decide +kernel) (by decide +kernel)
set_option maxRecDepth 20000 in
theorem cw_247 : Cond.classLink "ThreePoints" 32 "ThreePoints$Sheet" ∈ xtbl := xtbl_at 247 (by decide +kernel) (by decide +kernel)
set_option maxRecDepth 20000 in
theorem cw_249 : Cond.classLink "ThreePoints" 38 "ThreePoints$Ride" ∈ xtbl := xtbl_at 249 (by decide +kernel) (by decide +kernel)
set_option maxRecDepth 20000 in
theorem cw_250 : Cond.instantiable "ThreePoints$Ride" 4 ∈ xtbl := xtbl_at 250 (by decide +kernel) (by decide +kernel)
set_option maxRecDepth 20000 in
theorem cw_277 : Cond.classLink "ThreePoints" 45 "ThreePoints$Search" ∈ xtbl := xtbl_at 277 (by decide +kernel) (by decide +kernel)
set_option maxRecDepth 20000 in
theorem cw_278 : Cond.instantiable "ThreePoints$Search" 8 ∈ xtbl := xtbl_at 278 (by decide +kernel) (by decide +kernel)
set_option maxRecDepth 20000 in
theorem cw_311 : Cond.instantiable "ThreePoints$Sheet" 3 ∈ xtbl := xtbl_at 311 (by decide +kernel) (by decide +kernel)
set_option maxRecDepth 20000 in
theorem cw_330 : Cond.methodLink "ThreePoints" 60 ⟨"ThreePoints$Tape", "write", "(Ljava/lang/String;)V"⟩ ∈ xtbl := xtbl_at 330 (by decide +kernel) (by decide +kernel)
set_option maxRecDepth 20000 in
theorem cw_331 : Cond.instanceMethod ⟨"ThreePoints$Tape", "write", "(Ljava/lang/String;)V"⟩ ∈ xtbl := xtbl_at 331 (by decide +kernel) (by decide +kernel)
set_option maxRecDepth 20000 in
theorem cw_332 : Cond.selects "ThreePoints$Tape" ⟨"ThreePoints$Tape", "write", "(Ljava/lang/String;)V"⟩ ⟨"ThreePoints$Tape", "write", "(Ljava/lang/String;)V"⟩ ∈ xtbl := xtbl_at 332 (by decide +kernel) (by decide +kernel)
set_option maxRecDepth 20000 in
theorem cw_386 : Cond.methodLink "ThreePoints" 66 ⟨"ThreePoints$Reader", "faultOfTape", "()I"⟩ ∈ xtbl := xtbl_at 386 (by decide +kernel) (by decide +kernel)
set_option maxRecDepth 20000 in
theorem cw_387 : Cond.instanceMethod ⟨"ThreePoints$Reader", "faultOfTape", "()I"⟩ ∈ xtbl := xtbl_at 387 (by decide +kernel) (by decide +kernel)
set_option maxRecDepth 20000 in
theorem cw_388 : Cond.selects "ThreePoints$Reader" ⟨"ThreePoints$Reader", "faultOfTape", "()I"⟩ ⟨"ThreePoints$Reader", "faultOfTape", "()I"⟩ ∈ xtbl := xtbl_at 388 (by decide +kernel) (by decide +kernel)
set_option maxRecDepth 20000 in
theorem cw_571 : Cond.methodLink "ThreePoints" 74 ⟨"ThreePoints$Text", "become", "(LThreePoints$Text;)V"⟩ ∈ xtbl := xtbl_at 571 (by decide +kernel) (by decide +kernel)
set_option maxRecDepth 20000 in
theorem cw_572 : Cond.instanceMethod ⟨"ThreePoints$Text", "become", "(LThreePoints$Text;)V"⟩ ∈ xtbl := xtbl_at 572 (by decide +kernel) (by decide +kernel)
set_option maxRecDepth 20000 in
theorem cw_573 : Cond.selects "ThreePoints$Text" ⟨"ThreePoints$Text", "become", "(LThreePoints$Text;)V"⟩ ⟨"ThreePoints$Text", "become", "(LThreePoints$Text;)V"⟩ ∈ xtbl := xtbl_at 573 (by decide +kernel) (by decide +kernel)
set_option maxRecDepth 20000 in
theorem cw_578 : Cond.methodLink "ThreePoints" 78 ⟨"ThreePoints$Tape", "clear", "()V"⟩ ∈ xtbl := xtbl_at 578 (by decide +kernel) (by decide +kernel)
set_option maxRecDepth 20000 in
theorem cw_579 : Cond.instanceMethod ⟨"ThreePoints$Tape", "clear", "()V"⟩ ∈ xtbl := xtbl_at 579 (by decide +kernel) (by decide +kernel)
set_option maxRecDepth 20000 in
theorem cw_580 : Cond.selects "ThreePoints$Tape" ⟨"ThreePoints$Tape", "clear", "()V"⟩ ⟨"ThreePoints$Tape", "clear", "()V"⟩ ∈ xtbl := xtbl_at 580 (by decide +kernel) (by decide +kernel)
set_option maxRecDepth 20000 in
theorem cw_582 : Cond.fieldLink "ThreePoints" 10 "ThreePoints" "yard" "LThreePoints$Yard;" ∈ xtbl := xtbl_at 582 (by decide +kernel) (by decide +kernel)
set_option maxRecDepth 20000 in
theorem cw_583 : Cond.fieldLink "ThreePoints" 16 "ThreePoints" "kept" "LThreePoints$Yard;" ∈ xtbl := xtbl_at 583 (by decide +kernel) (by decide +kernel)
set_option maxRecDepth 20000 in
theorem cw_585 : Cond.fieldLink "ThreePoints" 22 "ThreePoints" "reader" "LThreePoints$Reader;" ∈ xtbl := xtbl_at 585 (by decide +kernel) (by decide +kernel)
set_option maxRecDepth 20000 in
theorem cw_586 : Cond.fieldLink "ThreePoints" 28 "ThreePoints" "texts" "[LThreePoints$Text;" ∈ xtbl := xtbl_at 586 (by decide +kernel) (by decide +kernel)
set_option maxRecDepth 20000 in
theorem cw_587 : Cond.fieldLink "ThreePoints" 81 "ThreePoints" "textCount" "I" ∈ xtbl := xtbl_at 587 (by decide +kernel) (by decide +kernel)
set_option maxRecDepth 20000 in
theorem cw_588 : Cond.fieldLink "ThreePoints" 34 "ThreePoints" "sheets" "[LThreePoints$Sheet;" ∈ xtbl := xtbl_at 588 (by decide +kernel) (by decide +kernel)
set_option maxRecDepth 20000 in
theorem cw_589 : Cond.fieldLink "ThreePoints" 41 "ThreePoints" "ride" "LThreePoints$Ride;" ∈ xtbl := xtbl_at 589 (by decide +kernel) (by decide +kernel)
set_option maxRecDepth 20000 in
theorem cw_590 : Cond.fieldLink "ThreePoints" 48 "ThreePoints" "search" "LThreePoints$Search;" ∈ xtbl := xtbl_at 590 (by decide +kernel) (by decide +kernel)
theorem dc_Main_0 : decode prog_1_method_1_code 0 = .ok (.aload_n 0, 1) := by decide +kernel
theorem dc_Main_1 : decode prog_1_method_1_code 1 = .ok (.invokespecial 1, 3) := by decide +kernel
theorem dc_Main_4 : decode prog_1_method_1_code 4 = .ok (.aload_n 0, 1) := by decide +kernel
theorem dc_Main_5 : decode prog_1_method_1_code 5 = .ok (.new 7, 3) := by decide +kernel
theorem dc_Main_8 : decode prog_1_method_1_code 8 = .ok (.dup, 1) := by decide +kernel
theorem dc_Main_9 : decode prog_1_method_1_code 9 = .ok (.invokespecial 9, 3) := by decide +kernel
theorem dc_Main_12 : decode prog_1_method_1_code 12 = .ok (.putfield 10, 3) := by decide +kernel
theorem dc_Main_15 : decode prog_1_method_1_code 15 = .ok (.aload_n 0, 1) := by decide +kernel
theorem dc_Main_16 : decode prog_1_method_1_code 16 = .ok (.new 7, 3) := by decide +kernel
theorem dc_Main_19 : decode prog_1_method_1_code 19 = .ok (.dup, 1) := by decide +kernel
theorem dc_Main_20 : decode prog_1_method_1_code 20 = .ok (.invokespecial 9, 3) := by decide +kernel
theorem dc_Main_23 : decode prog_1_method_1_code 23 = .ok (.putfield 16, 3) := by decide +kernel
theorem dc_Main_26 : decode prog_1_method_1_code 26 = .ok (.aload_n 0, 1) := by decide +kernel
theorem dc_Main_27 : decode prog_1_method_1_code 27 = .ok (.new 19, 3) := by decide +kernel
theorem dc_Main_30 : decode prog_1_method_1_code 30 = .ok (.dup, 1) := by decide +kernel
theorem dc_Main_31 : decode prog_1_method_1_code 31 = .ok (.invokespecial 21, 3) := by decide +kernel
theorem dc_Main_34 : decode prog_1_method_1_code 34 = .ok (.putfield 22, 3) := by decide +kernel
theorem dc_Main_37 : decode prog_1_method_1_code 37 = .ok (.aload_n 0, 1) := by decide +kernel
theorem dc_Main_38 : decode prog_1_method_1_code 38 = .ok (.bipush 6, 2) := by decide +kernel
theorem dc_Main_40 : decode prog_1_method_1_code 40 = .ok (.anewarray 26, 3) := by decide +kernel
theorem dc_Main_43 : decode prog_1_method_1_code 43 = .ok (.putfield 28, 3) := by decide +kernel
theorem dc_Main_46 : decode prog_1_method_1_code 46 = .ok (.aload_n 0, 1) := by decide +kernel
theorem dc_Main_47 : decode prog_1_method_1_code 47 = .ok (.iconst 4, 1) := by decide +kernel
theorem dc_Main_48 : decode prog_1_method_1_code 48 = .ok (.anewarray 32, 3) := by decide +kernel
theorem dc_Main_51 : decode prog_1_method_1_code 51 = .ok (.putfield 34, 3) := by decide +kernel
theorem dc_Main_54 : decode prog_1_method_1_code 54 = .ok (.aload_n 0, 1) := by decide +kernel
theorem dc_Main_55 : decode prog_1_method_1_code 55 = .ok (.new 38, 3) := by decide +kernel
theorem dc_Main_58 : decode prog_1_method_1_code 58 = .ok (.dup, 1) := by decide +kernel
theorem dc_Main_59 : decode prog_1_method_1_code 59 = .ok (.invokespecial 40, 3) := by decide +kernel
theorem dc_Main_62 : decode prog_1_method_1_code 62 = .ok (.putfield 41, 3) := by decide +kernel
theorem dc_Main_65 : decode prog_1_method_1_code 65 = .ok (.aload_n 0, 1) := by decide +kernel
theorem dc_Main_66 : decode prog_1_method_1_code 66 = .ok (.new 45, 3) := by decide +kernel
theorem dc_Main_69 : decode prog_1_method_1_code 69 = .ok (.dup, 1) := by decide +kernel
theorem dc_Main_70 : decode prog_1_method_1_code 70 = .ok (.invokespecial 47, 3) := by decide +kernel
theorem dc_Main_73 : decode prog_1_method_1_code 73 = .ok (.putfield 48, 3) := by decide +kernel
theorem dc_Main_76 : decode prog_1_method_1_code 76 = .ok (.iconst 0, 1) := by decide +kernel
theorem dc_Main_77 : decode prog_1_method_1_code 77 = .ok (.istore_n 1, 1) := by decide +kernel
theorem dc_Main_78 : decode prog_1_method_1_code 78 = .ok (.iload_n 1, 1) := by decide +kernel
theorem dc_Main_79 : decode prog_1_method_1_code 79 = .ok (.bipush 6, 2) := by decide +kernel
theorem dc_Main_81 : decode prog_1_method_1_code 81 = .ok (.if_icmp .ge 22, 3) := by decide +kernel
theorem dc_Main_84 : decode prog_1_method_1_code 84 = .ok (.aload_n 0, 1) := by decide +kernel
theorem dc_Main_85 : decode prog_1_method_1_code 85 = .ok (.getfield 28, 3) := by decide +kernel
theorem dc_Main_88 : decode prog_1_method_1_code 88 = .ok (.iload_n 1, 1) := by decide +kernel
theorem dc_Main_89 : decode prog_1_method_1_code 89 = .ok (.new 26, 3) := by decide +kernel
theorem dc_Main_92 : decode prog_1_method_1_code 92 = .ok (.dup, 1) := by decide +kernel
theorem dc_Main_93 : decode prog_1_method_1_code 93 = .ok (.invokespecial 52, 3) := by decide +kernel
theorem dc_Main_96 : decode prog_1_method_1_code 96 = .ok (.aastore, 1) := by decide +kernel
theorem dc_Main_97 : decode prog_1_method_1_code 97 = .ok (.iinc 1 1, 3) := by decide +kernel
theorem dc_Main_100 : decode prog_1_method_1_code 100 = .ok (.goto (-22), 3) := by decide +kernel
theorem dc_Main_103 : decode prog_1_method_1_code 103 = .ok (.iconst 0, 1) := by decide +kernel
theorem dc_Main_104 : decode prog_1_method_1_code 104 = .ok (.istore_n 1, 1) := by decide +kernel
theorem dc_Main_105 : decode prog_1_method_1_code 105 = .ok (.iload_n 1, 1) := by decide +kernel
theorem dc_Main_106 : decode prog_1_method_1_code 106 = .ok (.iconst 4, 1) := by decide +kernel
theorem dc_Main_107 : decode prog_1_method_1_code 107 = .ok (.if_icmp .ge 22, 3) := by decide +kernel
theorem dc_Main_110 : decode prog_1_method_1_code 110 = .ok (.aload_n 0, 1) := by decide +kernel
theorem dc_Main_111 : decode prog_1_method_1_code 111 = .ok (.getfield 34, 3) := by decide +kernel
theorem dc_Main_114 : decode prog_1_method_1_code 114 = .ok (.iload_n 1, 1) := by decide +kernel
theorem dc_Main_115 : decode prog_1_method_1_code 115 = .ok (.new 32, 3) := by decide +kernel
theorem dc_Main_118 : decode prog_1_method_1_code 118 = .ok (.dup, 1) := by decide +kernel
theorem dc_Main_119 : decode prog_1_method_1_code 119 = .ok (.invokespecial 53, 3) := by decide +kernel
theorem dc_Main_122 : decode prog_1_method_1_code 122 = .ok (.aastore, 1) := by decide +kernel
theorem dc_Main_123 : decode prog_1_method_1_code 123 = .ok (.iinc 1 1, 3) := by decide +kernel
theorem dc_Main_126 : decode prog_1_method_1_code 126 = .ok (.goto (-21), 3) := by decide +kernel
theorem dc_Main_129 : decode prog_1_method_1_code 129 = .ok (.aload_n 0, 1) := by decide +kernel
theorem dc_Main_130 : decode prog_1_method_1_code 130 = .ok (.getfield 22, 3) := by decide +kernel
theorem dc_Main_133 : decode prog_1_method_1_code 133 = .ok (.getfield 54, 3) := by decide +kernel
theorem dc_Main_136 : decode prog_1_method_1_code 136 = .ok (.ldc 58, 2) := by decide +kernel
theorem dc_Main_138 : decode prog_1_method_1_code 138 = .ok (.invokevirtual 60, 3) := by decide +kernel
theorem dc_Main_141 : decode prog_1_method_1_code 141 = .ok (.aload_n 0, 1) := by decide +kernel
theorem dc_Main_142 : decode prog_1_method_1_code 142 = .ok (.getfield 22, 3) := by decide +kernel
theorem dc_Main_145 : decode prog_1_method_1_code 145 = .ok (.invokevirtual 66, 3) := by decide +kernel
theorem dc_Main_148 : decode prog_1_method_1_code 148 = .ok (.pop, 1) := by decide +kernel
theorem dc_Main_149 : decode prog_1_method_1_code 149 = .ok (.aload_n 0, 1) := by decide +kernel
theorem dc_Main_150 : decode prog_1_method_1_code 150 = .ok (.getfield 28, 3) := by decide +kernel
theorem dc_Main_153 : decode prog_1_method_1_code 153 = .ok (.iconst 0, 1) := by decide +kernel
theorem dc_Main_154 : decode prog_1_method_1_code 154 = .ok (.aaload, 1) := by decide +kernel
theorem dc_Main_155 : decode prog_1_method_1_code 155 = .ok (.aload_n 0, 1) := by decide +kernel
theorem dc_Main_156 : decode prog_1_method_1_code 156 = .ok (.getfield 22, 3) := by decide +kernel
theorem dc_Main_159 : decode prog_1_method_1_code 159 = .ok (.getfield 70, 3) := by decide +kernel
theorem dc_Main_162 : decode prog_1_method_1_code 162 = .ok (.invokevirtual 74, 3) := by decide +kernel
theorem dc_Main_165 : decode prog_1_method_1_code 165 = .ok (.aload_n 0, 1) := by decide +kernel
theorem dc_Main_166 : decode prog_1_method_1_code 166 = .ok (.getfield 22, 3) := by decide +kernel
theorem dc_Main_169 : decode prog_1_method_1_code 169 = .ok (.getfield 54, 3) := by decide +kernel
theorem dc_Main_172 : decode prog_1_method_1_code 172 = .ok (.invokevirtual 78, 3) := by decide +kernel
theorem dc_Main_175 : decode prog_1_method_1_code 175 = .ok (.aload_n 0, 1) := by decide +kernel
theorem dc_Main_176 : decode prog_1_method_1_code 176 = .ok (.iconst 1, 1) := by decide +kernel
theorem dc_Main_177 : decode prog_1_method_1_code 177 = .ok (.putfield 81, 3) := by decide +kernel
theorem dc_Main_180 : decode prog_1_method_1_code 180 = .ok (.return_, 1) := by decide +kernel
theorem ym_Main : yM ⟨"ThreePoints", "<init>", "()V"⟩ prog_1_method_1_code 2 := ⟨cw_88, cw_65, cw_87, rfl, by decide +kernel, by decide⟩
theorem yf_Main : ∀ j, j < 9 → defaultValue (xy_Main j) = yz 0 j := by
  intro j hj
  match j, hj with
  | 0, _ => rfl
  | 1, _ => rfl
  | 2, _ => rfl
  | 3, _ => rfl
  | 4, _ => rfl
  | 5, _ => rfl
  | 6, _ => rfl
  | 7, _ => rfl
  | 8, _ => rfl
  | j + 9, h => exact absurd h (by omega)
set_option maxHeartbeats 8000000 in
set_option maxRecDepth 20000 in
theorem k_Main_0 (l : Launch) (cid : Nat → ClassId) (D : va_G) : Mk l cid D ⟨"ThreePoints", "<init>", "()V"⟩ prog_1_method_1_code 2 0 0 xLC (yrm 110 68 10186) QM := by
  refine mk_of (HI := Hi) (ls := [none]) (by decide +kernel) rfl (by decide) (by decide) (by simp) ?_
  refine y_aload (pc := 0) dc_Main_0 rfl rfl ?_
  refine y_objInit (pc := 1) dc_Main_1 cw_89 cw_90 cw_91 rfl (by decide) ?_
  refine y_aload (pc := 4) dc_Main_4 rfl rfl ?_
  refine y_ctor (pc := 5) xy_Yard dc_Main_5 dc_Main_8 dc_Main_9 (k_Yard_0 l cid D) ym_Yard (Or.inl cw_94) cw_92 cw_93 rfl rfl xi_Yard xy_Yard_ok yf_Yard (by decide) (by decide) (by decide) (by decide) (fun _ => rfl) (by decide) (by decide) (by decide) (by decide) ?_
  refine y_putF (pc := 12) (k1 := 0) (ty := xy_Main 0) xy_Main _ dc_Main_12 (by decide) rfl rfl xi_Main xy_Main_ok xn_Main (by decide) cw_582 rfl rfl (xy_Main_ok 0 (by decide)) (fun _ => rfl) (fun _ => rfl) rfl rfl rfl (by decide) rfl ?_
  refine y_aload (pc := 15) dc_Main_15 rfl rfl ?_
  refine y_ctor (pc := 16) xy_Yard dc_Main_16 dc_Main_19 dc_Main_20 (k_Yard_1 l cid D) ym_Yard (Or.inl cw_94) cw_92 cw_93 rfl rfl xi_Yard xy_Yard_ok yf_Yard (by decide) (by decide) (by decide) (by decide) (fun _ => rfl) (by decide) (by decide) (by decide) (by decide) ?_
  refine y_putF (pc := 23) (k1 := 1) (ty := xy_Main 1) xy_Main _ dc_Main_23 (by decide) rfl rfl xi_Main xy_Main_ok xn_Main (by decide) cw_583 rfl rfl (xy_Main_ok 1 (by decide)) (fun _ => rfl) (fun _ => rfl) rfl rfl rfl (by decide) rfl ?_
  refine y_aload (pc := 26) dc_Main_26 rfl rfl ?_
  refine y_ctor (pc := 27) xy_Reader dc_Main_27 dc_Main_30 dc_Main_31 (k_Reader_0 l cid D) ym_Reader (Or.inr (by decide)) cw_175 cw_176 rfl rfl xi_Reader xy_Reader_ok yf_Reader (by decide) (by decide) (by decide) (by decide) (fun _ => rfl) (by decide) (by decide) (by decide) (by decide) ?_
  refine y_putF (pc := 34) (k1 := 3) (ty := xy_Main 3) xy_Main _ dc_Main_34 (by decide) rfl rfl xi_Main xy_Main_ok xn_Main (by decide) cw_585 rfl rfl (xy_Main_ok 3 (by decide)) (fun _ => rfl) (fun _ => rfl) rfl rfl rfl (by decide) rfl ?_
  refine y_aload (pc := 37) dc_Main_37 rfl rfl ?_
  refine y_push (pc := 38) (v := 6) (n := 2) (Or.inr (Or.inl ⟨_, dc_Main_38, by decide, rfl⟩)) ?_
  refine y_newQ (pc := 40) (kt := 15) (it := 0) (t := 1) dc_Main_40 cw_245 (fun _ h => h.2.2.1) (by decide) (by decide) (by decide) rfl (fun _ => rfl) (by decide) (by decide) (by decide) (by decide) (by decide) (by decide) ?_
  refine y_putF (pc := 43) (k1 := 4) (ty := xy_Main 4) xy_Main _ dc_Main_43 (by decide) rfl rfl xi_Main xy_Main_ok xn_Main (by decide) cw_586 rfl rfl (xy_Main_ok 4 (by decide)) (fun _ => rfl) (fun _ => rfl) rfl rfl rfl (by decide) rfl ?_
  refine y_aload (pc := 46) dc_Main_46 rfl rfl ?_
  refine y_push (pc := 47) (v := 4) (n := 1) (Or.inl ⟨_, dc_Main_47, by decide, rfl⟩) ?_
  refine y_newQ (pc := 48) (kt := 18) (it := 0) (t := 2) dc_Main_48 cw_247 (fun _ h => h.2.2.2) (by decide) (by decide) (by decide) rfl (fun _ => rfl) (by decide) (by decide) (by decide) (by decide) (by decide) (by decide) ?_
  refine y_putF (pc := 51) (k1 := 6) (ty := xy_Main 6) xy_Main _ dc_Main_51 (by decide) rfl rfl xi_Main xy_Main_ok xn_Main (by decide) cw_588 rfl rfl (xy_Main_ok 6 (by decide)) (fun _ => rfl) (fun _ => rfl) rfl rfl rfl (by decide) rfl ?_
  refine y_aload (pc := 54) dc_Main_54 rfl rfl ?_
  refine y_ctor (pc := 55) xy_Ride dc_Main_55 dc_Main_58 dc_Main_59 (k_Ride_0 l cid D) ym_Ride (Or.inr (by decide)) cw_249 cw_250 rfl rfl xi_Ride xy_Ride_ok yf_Ride (by decide) (by decide) (by decide) (by decide) (fun _ => rfl) (by decide) (by decide) (by decide) (by decide) ?_
  refine y_putF (pc := 62) (k1 := 7) (ty := xy_Main 7) xy_Main _ dc_Main_62 (by decide) rfl rfl xi_Main xy_Main_ok xn_Main (by decide) cw_589 rfl rfl (xy_Main_ok 7 (by decide)) (fun _ => rfl) (fun _ => rfl) rfl rfl rfl (by decide) rfl ?_
  refine y_aload (pc := 65) dc_Main_65 rfl rfl ?_
  refine y_ctor (pc := 66) xy_Search dc_Main_66 dc_Main_69 dc_Main_70 (k_Search_0 l cid D) ym_Search (Or.inr (by decide)) cw_277 cw_278 rfl rfl xi_Search xy_Search_ok yf_Search (by decide) (by decide) (by decide) (by decide) (fun _ => rfl) (by decide) (by decide) (by decide) (by decide) ?_
  refine y_putF (pc := 73) (k1 := 8) (ty := xy_Main 8) xy_Main _ dc_Main_73 (by decide) rfl rfl xi_Main xy_Main_ok xn_Main (by decide) cw_590 rfl rfl (xy_Main_ok 8 (by decide)) (fun _ => rfl) (fun _ => rfl) rfl rfl rfl (by decide) rfl ?_
  refine y_push (pc := 76) (v := 0) (n := 1) (Or.inl ⟨_, dc_Main_76, by decide, rfl⟩) ?_
  refine y_istore (pc := 77) dc_Main_77 rfl (by decide) rfl rfl ?_
  refine y_iload (pc := 78) dc_Main_78 rfl rfl ?_
  refine y_push (pc := 79) (v := 6) (n := 2) (Or.inr (Or.inl ⟨_, dc_Main_79, by decide, rfl⟩)) ?_
  refine y_icmp_ge (pc := 81) (tgt := 103) dc_Main_81 (by decide) (fun z => absurd z (by decide)) (fun _ => ?_)
  refine y_aload (pc := 84) dc_Main_84 rfl rfl ?_
  refine y_getQ (pc := 85) (kd := 0) (k1 := 4) (kt := 15) (it := 0) dc_Main_85 (by decide) rfl rfl xi_Main (by decide) cw_586 rfl (by decide +kernel) rfl rfl ?_
  refine y_iload (pc := 88) dc_Main_88 rfl rfl ?_
  refine y_ctor (pc := 89) xy_Text dc_Main_89 dc_Main_92 dc_Main_93 (k_Text_0 l cid D) ym_Text (Or.inr (by decide)) cw_245 cw_209 rfl rfl xi_Text xy_Text_ok yf_Text (by decide) (by decide) (by decide) (by decide) (fun _ => rfl) (by decide) (by decide) (by decide) (by decide) ?_
  refine y_aast (pc := 96) (T := xT_Text) dc_Main_96 (by decide) rfl (fun _ => rfl) (by decide) rfl rfl rfl rfl (vp_lit (by decide)) (fun _ => rfl) ?_
  refine y_iinc (pc := 97) (v := 1) dc_Main_97 rfl (by decide) (by decide) rfl rfl ?_
  refine y_goto (pc := 100) (tgt := 78) dc_Main_100 (by decide) ?_
  refine y_iload (pc := 78) dc_Main_78 rfl rfl ?_
  refine y_push (pc := 79) (v := 6) (n := 2) (Or.inr (Or.inl ⟨_, dc_Main_79, by decide, rfl⟩)) ?_
  refine y_icmp_ge (pc := 81) (tgt := 103) dc_Main_81 (by decide) (fun z => absurd z (by decide)) (fun _ => ?_)
  refine y_aload (pc := 84) dc_Main_84 rfl rfl ?_
  refine y_getQ (pc := 85) (kd := 0) (k1 := 4) (kt := 15) (it := 0) dc_Main_85 (by decide) rfl rfl xi_Main (by decide) cw_586 rfl (by decide +kernel) rfl rfl ?_
  refine y_iload (pc := 88) dc_Main_88 rfl rfl ?_
  refine y_ctor (pc := 89) xy_Text dc_Main_89 dc_Main_92 dc_Main_93 (k_Text_1 l cid D) ym_Text (Or.inr (by decide)) cw_245 cw_209 rfl rfl xi_Text xy_Text_ok yf_Text (by decide) (by decide) (by decide) (by decide) (fun _ => rfl) (by decide) (by decide) (by decide) (by decide) ?_
  refine y_aast (pc := 96) (T := xT_Text) dc_Main_96 (by decide) rfl (fun _ => rfl) (by decide) rfl rfl rfl rfl (vp_lit (by decide)) (fun _ => rfl) ?_
  refine y_iinc (pc := 97) (v := 2) dc_Main_97 rfl (by decide) (by decide) rfl rfl ?_
  refine y_goto (pc := 100) (tgt := 78) dc_Main_100 (by decide) ?_
  refine y_iload (pc := 78) dc_Main_78 rfl rfl ?_
  refine y_push (pc := 79) (v := 6) (n := 2) (Or.inr (Or.inl ⟨_, dc_Main_79, by decide, rfl⟩)) ?_
  refine y_icmp_ge (pc := 81) (tgt := 103) dc_Main_81 (by decide) (fun z => absurd z (by decide)) (fun _ => ?_)
  refine y_aload (pc := 84) dc_Main_84 rfl rfl ?_
  refine y_getQ (pc := 85) (kd := 0) (k1 := 4) (kt := 15) (it := 0) dc_Main_85 (by decide) rfl rfl xi_Main (by decide) cw_586 rfl (by decide +kernel) rfl rfl ?_
  refine y_iload (pc := 88) dc_Main_88 rfl rfl ?_
  refine y_ctor (pc := 89) xy_Text dc_Main_89 dc_Main_92 dc_Main_93 (k_Text_2 l cid D) ym_Text (Or.inr (by decide)) cw_245 cw_209 rfl rfl xi_Text xy_Text_ok yf_Text (by decide) (by decide) (by decide) (by decide) (fun _ => rfl) (by decide) (by decide) (by decide) (by decide) ?_
  refine y_aast (pc := 96) (T := xT_Text) dc_Main_96 (by decide) rfl (fun _ => rfl) (by decide) rfl rfl rfl rfl (vp_lit (by decide)) (fun _ => rfl) ?_
  refine y_iinc (pc := 97) (v := 3) dc_Main_97 rfl (by decide) (by decide) rfl rfl ?_
  refine y_goto (pc := 100) (tgt := 78) dc_Main_100 (by decide) ?_
  refine y_iload (pc := 78) dc_Main_78 rfl rfl ?_
  refine y_push (pc := 79) (v := 6) (n := 2) (Or.inr (Or.inl ⟨_, dc_Main_79, by decide, rfl⟩)) ?_
  refine y_icmp_ge (pc := 81) (tgt := 103) dc_Main_81 (by decide) (fun z => absurd z (by decide)) (fun _ => ?_)
  refine y_aload (pc := 84) dc_Main_84 rfl rfl ?_
  refine y_getQ (pc := 85) (kd := 0) (k1 := 4) (kt := 15) (it := 0) dc_Main_85 (by decide) rfl rfl xi_Main (by decide) cw_586 rfl (by decide +kernel) rfl rfl ?_
  refine y_iload (pc := 88) dc_Main_88 rfl rfl ?_
  refine y_ctor (pc := 89) xy_Text dc_Main_89 dc_Main_92 dc_Main_93 (k_Text_3 l cid D) ym_Text (Or.inr (by decide)) cw_245 cw_209 rfl rfl xi_Text xy_Text_ok yf_Text (by decide) (by decide) (by decide) (by decide) (fun _ => rfl) (by decide) (by decide) (by decide) (by decide) ?_
  refine y_aast (pc := 96) (T := xT_Text) dc_Main_96 (by decide) rfl (fun _ => rfl) (by decide) rfl rfl rfl rfl (vp_lit (by decide)) (fun _ => rfl) ?_
  refine y_iinc (pc := 97) (v := 4) dc_Main_97 rfl (by decide) (by decide) rfl rfl ?_
  refine y_goto (pc := 100) (tgt := 78) dc_Main_100 (by decide) ?_
  refine y_iload (pc := 78) dc_Main_78 rfl rfl ?_
  refine y_push (pc := 79) (v := 6) (n := 2) (Or.inr (Or.inl ⟨_, dc_Main_79, by decide, rfl⟩)) ?_
  refine y_icmp_ge (pc := 81) (tgt := 103) dc_Main_81 (by decide) (fun z => absurd z (by decide)) (fun _ => ?_)
  refine y_aload (pc := 84) dc_Main_84 rfl rfl ?_
  refine y_getQ (pc := 85) (kd := 0) (k1 := 4) (kt := 15) (it := 0) dc_Main_85 (by decide) rfl rfl xi_Main (by decide) cw_586 rfl (by decide +kernel) rfl rfl ?_
  refine y_iload (pc := 88) dc_Main_88 rfl rfl ?_
  refine y_ctor (pc := 89) xy_Text dc_Main_89 dc_Main_92 dc_Main_93 (k_Text_4 l cid D) ym_Text (Or.inr (by decide)) cw_245 cw_209 rfl rfl xi_Text xy_Text_ok yf_Text (by decide) (by decide) (by decide) (by decide) (fun _ => rfl) (by decide) (by decide) (by decide) (by decide) ?_
  refine y_aast (pc := 96) (T := xT_Text) dc_Main_96 (by decide) rfl (fun _ => rfl) (by decide) rfl rfl rfl rfl (vp_lit (by decide)) (fun _ => rfl) ?_
  refine y_iinc (pc := 97) (v := 5) dc_Main_97 rfl (by decide) (by decide) rfl rfl ?_
  refine y_goto (pc := 100) (tgt := 78) dc_Main_100 (by decide) ?_
  refine y_iload (pc := 78) dc_Main_78 rfl rfl ?_
  refine y_push (pc := 79) (v := 6) (n := 2) (Or.inr (Or.inl ⟨_, dc_Main_79, by decide, rfl⟩)) ?_
  refine y_icmp_ge (pc := 81) (tgt := 103) dc_Main_81 (by decide) (fun z => absurd z (by decide)) (fun _ => ?_)
  refine y_aload (pc := 84) dc_Main_84 rfl rfl ?_
  refine y_getQ (pc := 85) (kd := 0) (k1 := 4) (kt := 15) (it := 0) dc_Main_85 (by decide) rfl rfl xi_Main (by decide) cw_586 rfl (by decide +kernel) rfl rfl ?_
  refine y_iload (pc := 88) dc_Main_88 rfl rfl ?_
  refine y_ctor (pc := 89) xy_Text dc_Main_89 dc_Main_92 dc_Main_93 (k_Text_5 l cid D) ym_Text (Or.inr (by decide)) cw_245 cw_209 rfl rfl xi_Text xy_Text_ok yf_Text (by decide) (by decide) (by decide) (by decide) (fun _ => rfl) (by decide) (by decide) (by decide) (by decide) ?_
  refine y_aast (pc := 96) (T := xT_Text) dc_Main_96 (by decide) rfl (fun _ => rfl) (by decide) rfl rfl rfl rfl (vp_lit (by decide)) (fun _ => rfl) ?_
  refine y_iinc (pc := 97) (v := 6) dc_Main_97 rfl (by decide) (by decide) rfl rfl ?_
  refine y_goto (pc := 100) (tgt := 78) dc_Main_100 (by decide) ?_
  refine y_iload (pc := 78) dc_Main_78 rfl rfl ?_
  refine y_push (pc := 79) (v := 6) (n := 2) (Or.inr (Or.inl ⟨_, dc_Main_79, by decide, rfl⟩)) ?_
  refine y_icmp_ge (pc := 81) (tgt := 103) dc_Main_81 (by decide) (fun _ => ?_) (fun z => absurd (by decide) z)
  refine y_push (pc := 103) (v := 0) (n := 1) (Or.inl ⟨_, dc_Main_103, by decide, rfl⟩) ?_
  refine y_istore (pc := 104) dc_Main_104 rfl (by decide) rfl rfl ?_
  refine y_iload (pc := 105) dc_Main_105 rfl rfl ?_
  refine y_push (pc := 106) (v := 4) (n := 1) (Or.inl ⟨_, dc_Main_106, by decide, rfl⟩) ?_
  refine y_icmp_ge (pc := 107) (tgt := 129) dc_Main_107 (by decide) (fun z => absurd z (by decide)) (fun _ => ?_)
  refine y_aload (pc := 110) dc_Main_110 rfl rfl ?_
  refine y_getQ (pc := 111) (kd := 0) (k1 := 6) (kt := 18) (it := 0) dc_Main_111 (by decide) rfl rfl xi_Main (by decide) cw_588 rfl (by decide +kernel) rfl rfl ?_
  refine y_iload (pc := 114) dc_Main_114 rfl rfl ?_
  refine y_ctor (pc := 115) xy_Sheet dc_Main_115 dc_Main_118 dc_Main_119 (k_Sheet_0 l cid D) ym_Sheet (Or.inr (by decide)) cw_247 cw_311 rfl rfl xi_Sheet xy_Sheet_ok yf_Sheet (by decide) (by decide) (by decide) (by decide) (fun _ => rfl) (by decide) (by decide) (by decide) (by decide) ?_
  refine y_aast (pc := 122) (T := xT_Sheet) dc_Main_122 (by decide) rfl (fun _ => rfl) (by decide) rfl rfl rfl rfl (vp_lit (by decide)) (fun _ => rfl) ?_
  refine y_iinc (pc := 123) (v := 1) dc_Main_123 rfl (by decide) (by decide) rfl rfl ?_
  refine y_goto (pc := 126) (tgt := 105) dc_Main_126 (by decide) ?_
  refine y_iload (pc := 105) dc_Main_105 rfl rfl ?_
  refine y_push (pc := 106) (v := 4) (n := 1) (Or.inl ⟨_, dc_Main_106, by decide, rfl⟩) ?_
  refine y_icmp_ge (pc := 107) (tgt := 129) dc_Main_107 (by decide) (fun z => absurd z (by decide)) (fun _ => ?_)
  refine y_aload (pc := 110) dc_Main_110 rfl rfl ?_
  refine y_getQ (pc := 111) (kd := 0) (k1 := 6) (kt := 18) (it := 0) dc_Main_111 (by decide) rfl rfl xi_Main (by decide) cw_588 rfl (by decide +kernel) rfl rfl ?_
  refine y_iload (pc := 114) dc_Main_114 rfl rfl ?_
  refine y_ctor (pc := 115) xy_Sheet dc_Main_115 dc_Main_118 dc_Main_119 (k_Sheet_1 l cid D) ym_Sheet (Or.inr (by decide)) cw_247 cw_311 rfl rfl xi_Sheet xy_Sheet_ok yf_Sheet (by decide) (by decide) (by decide) (by decide) (fun _ => rfl) (by decide) (by decide) (by decide) (by decide) ?_
  refine y_aast (pc := 122) (T := xT_Sheet) dc_Main_122 (by decide) rfl (fun _ => rfl) (by decide) rfl rfl rfl rfl (vp_lit (by decide)) (fun _ => rfl) ?_
  refine y_iinc (pc := 123) (v := 2) dc_Main_123 rfl (by decide) (by decide) rfl rfl ?_
  refine y_goto (pc := 126) (tgt := 105) dc_Main_126 (by decide) ?_
  refine y_iload (pc := 105) dc_Main_105 rfl rfl ?_
  refine y_push (pc := 106) (v := 4) (n := 1) (Or.inl ⟨_, dc_Main_106, by decide, rfl⟩) ?_
  refine y_icmp_ge (pc := 107) (tgt := 129) dc_Main_107 (by decide) (fun z => absurd z (by decide)) (fun _ => ?_)
  refine y_aload (pc := 110) dc_Main_110 rfl rfl ?_
  refine y_getQ (pc := 111) (kd := 0) (k1 := 6) (kt := 18) (it := 0) dc_Main_111 (by decide) rfl rfl xi_Main (by decide) cw_588 rfl (by decide +kernel) rfl rfl ?_
  refine y_iload (pc := 114) dc_Main_114 rfl rfl ?_
  refine y_ctor (pc := 115) xy_Sheet dc_Main_115 dc_Main_118 dc_Main_119 (k_Sheet_2 l cid D) ym_Sheet (Or.inr (by decide)) cw_247 cw_311 rfl rfl xi_Sheet xy_Sheet_ok yf_Sheet (by decide) (by decide) (by decide) (by decide) (fun _ => rfl) (by decide) (by decide) (by decide) (by decide) ?_
  refine y_aast (pc := 122) (T := xT_Sheet) dc_Main_122 (by decide) rfl (fun _ => rfl) (by decide) rfl rfl rfl rfl (vp_lit (by decide)) (fun _ => rfl) ?_
  refine y_iinc (pc := 123) (v := 3) dc_Main_123 rfl (by decide) (by decide) rfl rfl ?_
  refine y_goto (pc := 126) (tgt := 105) dc_Main_126 (by decide) ?_
  refine y_iload (pc := 105) dc_Main_105 rfl rfl ?_
  refine y_push (pc := 106) (v := 4) (n := 1) (Or.inl ⟨_, dc_Main_106, by decide, rfl⟩) ?_
  refine y_icmp_ge (pc := 107) (tgt := 129) dc_Main_107 (by decide) (fun z => absurd z (by decide)) (fun _ => ?_)
  refine y_aload (pc := 110) dc_Main_110 rfl rfl ?_
  refine y_getQ (pc := 111) (kd := 0) (k1 := 6) (kt := 18) (it := 0) dc_Main_111 (by decide) rfl rfl xi_Main (by decide) cw_588 rfl (by decide +kernel) rfl rfl ?_
  refine y_iload (pc := 114) dc_Main_114 rfl rfl ?_
  refine y_ctor (pc := 115) xy_Sheet dc_Main_115 dc_Main_118 dc_Main_119 (k_Sheet_3 l cid D) ym_Sheet (Or.inr (by decide)) cw_247 cw_311 rfl rfl xi_Sheet xy_Sheet_ok yf_Sheet (by decide) (by decide) (by decide) (by decide) (fun _ => rfl) (by decide) (by decide) (by decide) (by decide) ?_
  refine y_aast (pc := 122) (T := xT_Sheet) dc_Main_122 (by decide) rfl (fun _ => rfl) (by decide) rfl rfl rfl rfl (vp_lit (by decide)) (fun _ => rfl) ?_
  refine y_iinc (pc := 123) (v := 4) dc_Main_123 rfl (by decide) (by decide) rfl rfl ?_
  refine y_goto (pc := 126) (tgt := 105) dc_Main_126 (by decide) ?_
  refine y_iload (pc := 105) dc_Main_105 rfl rfl ?_
  refine y_push (pc := 106) (v := 4) (n := 1) (Or.inl ⟨_, dc_Main_106, by decide, rfl⟩) ?_
  refine y_icmp_ge (pc := 107) (tgt := 129) dc_Main_107 (by decide) (fun _ => ?_) (fun z => absurd (by decide) z)
  refine y_perm (L2 := xLC) (by decide +kernel) (by decide +kernel) (by decide +kernel) (yfl_of (by decide +kernel)) ycs_LC ?_
  rw [show hrow Hi 0 0 (fun _ => 0) = Hi from hrow_same Hi 0 0]
  refine y_aload (pc := 129) dc_Main_129 rfl rfl ?_
  refine y_getQ (pc := 130) (kd := 0) (k1 := 3) (kt := 5) (it := 0) dc_Main_130 (by decide) rfl rfl xi_Main (by decide) cw_585 rfl (by decide +kernel) rfl rfl ?_
  refine y_getQ (pc := 133) (kd := 5) (k1 := 0) (kt := 6) (it := 0) dc_Main_133 (by decide) rfl rfl xi_Reader (by decide) cw_228 rfl (by decide +kernel) rfl rfl ?_
  refine y_ldcS (pc := 136) (i := 0) dc_Main_136 rfl (by decide) ?_
  refine y_callV (pc := 138) (kd := 6) (ix := 0) (d := 9) (st := []) (vs := [vr 60 0]) (Q2 := qv fun G => G = tpH Hi 39) dc_Main_138 xm_Tape_write cw_330 cw_331 cw_332 (by decide) rfl rfl rfl rfl (by decide) (by decide) xclo_LC (by decide) (by decide) (fun ad => s_Tape_write0 (E := (l, cid, D, ad)) (d := 5) rfl rfl rfl) (fun v H1 hq => ?_)
  have e1 : H1 = tpH Hi 39 := hq
  subst e1
  refine y_aload (pc := 141) dc_Main_141 rfl rfl ?_
  refine y_getQ (pc := 142) (kd := 0) (k1 := 3) (kt := 5) (it := 0) dc_Main_142 (by decide) rfl rfl xi_Main (by decide) cw_585 rfl (by decide +kernel) rfl rfl ?_
  refine y_callV (pc := 145) (kd := 5) (ix := 0) (d := 47) (st := []) (vs := []) (Q2 := qi fun _ G => fpM G) dc_Main_145 xm_Reader_faultOfTape cw_386 cw_387 cw_388 (by decide) rfl rfl rfl rfl (by decide) (by decide) xclo_LC (by decide) (by decide) (fun ad => s_fault0 (E := (l, cid, D, ad)) (d := 0)) (fun v G hq => ?_)
  obtain ⟨r, rfl, hG⟩ := hq
  refine y_pop (pc := 148) (x := r) dc_Main_148 ?_
  refine y_aload (pc := 149) dc_Main_149 rfl rfl ?_
  refine y_getQ (pc := 150) (kd := 0) (k1 := 4) (kt := 15) (it := 0) dc_Main_150 (by decide) rfl rfl xi_Main (by decide) cw_586 rfl (by decide +kernel) rfl rfl ?_
  refine y_push (pc := 153) (v := 0) (n := 1) (Or.inl ⟨_, dc_Main_153, by decide, rfl⟩) ?_
  refine y_aald (pc := 154) (kt := 11) (it := 0) dc_Main_154 (by decide) rfl (fun _ => rfl) (vp_lit (by decide)) (by decide +kernel) rfl rfl ?_
  refine y_aload (pc := 155) dc_Main_155 rfl rfl ?_
  refine y_getQ (pc := 156) (kd := 0) (k1 := 3) (kt := 5) (it := 0) dc_Main_156 (by decide) rfl rfl xi_Main (by decide) cw_585 rfl (by decide +kernel) rfl rfl ?_
  refine y_getQ (pc := 159) (kd := 5) (k1 := 1) (kt := 11) (it := 6) dc_Main_159 (by decide) rfl rfl xi_Reader (by decide) cw_230 rfl (by decide +kernel) rfl rfl ?_
  refine y_callV (pc := 162) (kd := 11) (ix := 0) (d := 9) (st := []) (vs := [vr 11 6]) (Q2 := qv fun H3 => ∃ H1 H2, H1 = hu G 11 0 1 (G 11 6 1) ∧ H2 = hrow H1 12 0 (va_cpy (H1 12 6) (H1 12 0) 0 0 160) ∧ H3 = hrow H2 13 0 (va_cpy (H2 13 6) (H2 13 0) 0 0 3)) dc_Main_162 xm_Text_become cw_571 cw_572 cw_573 (by decide) rfl rfl rfl rfl (by decide) (by decide) xclo_LC (by decide) (by decide) (fun ad => l_Text_become (E := (l, cid, D, ad)) (d := 8) (fun H1 e1 H2 e2 H3 e3 => ⟨H1, H2, e1, e2, e3⟩)) (fun v H3 hq => ?_)
  obtain ⟨H1, H2, e1, e2, e3⟩ := hq
  refine y_aload (pc := 165) dc_Main_165 rfl rfl ?_
  refine y_getQ (pc := 166) (kd := 0) (k1 := 3) (kt := 5) (it := 0) dc_Main_166 (by decide) rfl rfl xi_Main (by decide) cw_585 rfl (by decide +kernel) rfl rfl ?_
  refine y_getQ (pc := 169) (kd := 5) (k1 := 0) (kt := 6) (it := 0) dc_Main_169 (by decide) rfl rfl xi_Reader (by decide) cw_228 rfl (by decide +kernel) rfl rfl ?_
  refine y_callV (pc := 172) (kd := 6) (ix := 0) (d := 9) (st := []) (vs := []) (Q2 := qv fun H4 => H4 = hu H3 6 0 1 0) dc_Main_172 xm_Tape_clear cw_578 cw_579 cw_580 (by decide) rfl rfl rfl rfl (by decide) (by decide) xclo_LC (by decide) (by decide) (fun ad => l_Tape_clear (E := (l, cid, D, ad)) (d := 9) (fun H1 e => e)) (fun v H4 hq => ?_)
  have e4 : H4 = hu H3 6 0 1 0 := hq
  subst e4
  refine y_aload (pc := 175) dc_Main_175 rfl rfl ?_
  refine y_push (pc := 176) (v := 1) (n := 1) (Or.inl ⟨_, dc_Main_176, by decide, rfl⟩) ?_
  refine y_put (pc := 177) (k1 := 5) xy_Main dc_Main_177 (by decide) (by decide) rfl rfl xi_Main xy_Main_ok xn_Main (by decide) cw_587 rfl (xy_Main_ok 5 (by decide)) rfl ?_
  exact y_ret (pc := 180) dc_Main_180 (fun _ q => q) xclo_LC.1 (fun q hq => fB_fl hq) ycs_LC (QM_of hG e1 e2 e3) (by decide)
