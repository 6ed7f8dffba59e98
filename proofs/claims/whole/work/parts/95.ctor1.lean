/-! MAKING 4: checks by program, words, decode rows, the small constructors. Printed by wip/gen/gen95.py. -/
def yflb (B : YB) (q : Nat × Nat) : Bool := Nat.beq (xsh q.1).1 1 || (Nat.beq (xsh q.1).1 2 || (List.range (xsh q.1).2.2).all fun k => !((xsp q.1 k).isSome || Nat.ble 3 (xsh q.1).1) || B q.1 q.2 k)
theorem yfl_of {B : YB} {L : List (Nat × Nat)} (h : L.all (yflb B) = true) : ∀ q ∈ L, yfl B q := by
  intro q hq
  have h1 : (Nat.beq (xsh q.1).1 1 || (Nat.beq (xsh q.1).1 2 || (List.range (xsh q.1).2.2).all fun k => !((xsp q.1 k).isSome || Nat.ble 3 (xsh q.1).1) || B q.1 q.2 k)) = true := List.all_eq_true.mp h q hq
  rcases Bool.or_eq_true _ _ ▸ h1 with z | z
  · exact Or.inl (Nat.eq_of_beq_eq_true z)
  · rcases Bool.or_eq_true _ _ ▸ z with z | z
    · exact Or.inr (Or.inl (Nat.eq_of_beq_eq_true z))
    · refine Or.inr (Or.inr fun k hk hs => ?_)
      have h2 := List.all_eq_true.mp z k (List.mem_range.mpr hk)
      rcases Bool.or_eq_true _ _ ▸ h2 with w | w
      · rcases hs with hs | hs
        · rw [hs] at w; cases w
        · rw [show Nat.ble 3 (xsh q.1).1 = true from Nat.ble_eq.mpr hs, Bool.or_true] at w; cases w
      · exact w
def ycsb (L : List (Nat × Nat)) (q : Nat × Nat) : Bool := Nat.beq (xsh q.1).1 1 || (Nat.beq (xsh q.1).1 2 || (List.range (xsh q.1).2.2).all fun k => (match xsp q.1 k with
  | some t => decide ((t.1, t.2 q.2) ∈ L)
  | none => true) && (!Nat.ble 3 (xsh q.1).1 || decide (((xra q.1).1, (xra q.1).2 q.2 k) ∈ L)))
theorem ycs_of {L : List (Nat × Nat)} (h : L.all (ycsb L) = true) : ∀ q ∈ L, ycs L q := by
  intro q hq
  have h1 : (Nat.beq (xsh q.1).1 1 || (Nat.beq (xsh q.1).1 2 || (List.range (xsh q.1).2.2).all fun k => (match xsp q.1 k with
    | some t => decide ((t.1, t.2 q.2) ∈ L)
    | none => true) && (!Nat.ble 3 (xsh q.1).1 || decide (((xra q.1).1, (xra q.1).2 q.2 k) ∈ L)))) = true := List.all_eq_true.mp h q hq
  rcases Bool.or_eq_true _ _ ▸ h1 with z | z
  · exact Or.inl (Nat.eq_of_beq_eq_true z)
  · rcases Bool.or_eq_true _ _ ▸ z with z | z
    · exact Or.inr (Or.inl (Nat.eq_of_beq_eq_true z))
    · refine Or.inr (Or.inr fun k hk => ?_)
      have h2 := List.all_eq_true.mp z k (List.mem_range.mpr hk)
      simp only [Bool.and_eq_true] at h2
      refine ⟨fun t ht => ?_, fun h3 => ?_⟩
      · have := h2.1
        rw [ht] at this
        exact of_decide_eq_true this
      · rcases Bool.or_eq_true _ _ ▸ h2.2 with w | w
        · rw [show Nat.ble 3 (xsh q.1).1 = true from Nat.ble_eq.mpr h3] at w; cases w
        · exact of_decide_eq_true w
theorem y_getQ {l : Launch} {cid : Nat → ClassId} {D : va_G} {HI : HH} {R : Room} {own : String} {b : ByteArray} {nL kd0 ix0 : Nat} {Lf : List (Nat × Nat)} {QH : HH → Prop} {pc : Nat} {ls : List (Option AV)} {st : List AV} {L : List (Nat × Nat)} {B : YB} {H : HH} {cells slots : Nat} {kd ix ci N k1 index kt it : Nat} {C : String} {T : u_T} {t : Nat × (Nat → Nat)} (hd : decode b pc = .ok (.getfield index, 3)) (h60 : kd < 60) (hsh : xsh kd = (0, ci, N)) (hc : xcl[ci]? = some (C, T, N)) (hin : ∀ w ∈ u_ws C T N, w ∈ xtbl) (hk : k1 < N)
    (hm : Cond.fieldLink own index (T k1).1 (T k1).2.1 (T k1).2.2.1 ∈ xtbl) (hs : xsp kd k1 = some t) (hB : B kd ix k1 = true) (hkt : t.1 = kt) (hit : t.2 ix = it) (k : Gc l cid D HI R own b nL kd0 ix0 Lf QH (pc + 3) ls (vr kt it :: st) L B H cells slots) : Gc l cid D HI R own b nL kd0 ix0 Lf QH pc ls (vr kd ix :: st) L B H cells slots := by
  subst hkt
  subst hit
  exact y_getR hd h60 hsh hc hin hk hm hs hB k
set_option maxRecDepth 20000 in
theorem cw_67 : Cond.initialized "ThreePoints$Lane" ∈ xtbl := xtbl_at 67 (by decide +kernel) (by decide +kernel)
set_option maxRecDepth 20000 in
theorem cw_68 : Cond.initialized "ThreePoints$Vehicle" ∈ xtbl := xtbl_at 68 (by decide +kernel) (by decide +kernel)
set_option maxRecDepth 20000 in
theorem cw_70 : Cond.initialized "ThreePoints$Tape" ∈ xtbl := xtbl_at 70 (by decide +kernel) (by decide +kernel)
set_option maxRecDepth 20000 in
theorem cw_71 : Cond.initialized "ThreePoints$Text" ∈ xtbl := xtbl_at 71 (by decide +kernel) (by decide +kernel)
set_option maxRecDepth 20000 in
theorem cw_73 : Cond.initialized "ThreePoints$Search" ∈ xtbl := xtbl_at 73 (by decide +kernel) (by decide +kernel)
set_option maxRecDepth 20000 in
theorem cw_74 : Cond.initialized "ThreePoints$Sheet" ∈ xtbl := xtbl_at 74 (by decide +kernel) (by decide +kernel)
set_option maxRecDepth 20000 in
theorem cw_90 : Cond.instanceMethod ⟨"java/lang/Object", "<init>", "()V"⟩ ∈ xtbl := xtbl_at 90 (by decide +kernel) (by decide +kernel)
set_option maxRecDepth 20000 in
theorem cw_91 : Cond.code ⟨"java/lang/Object", "<init>", "()V"⟩ ⟨#[0xb1]⟩ 1 none ∈ xtbl := xtbl_at 91 rfl rfl
set_option maxRecDepth 20000 in
theorem cw_101 : Cond.instanceMethod ⟨"ThreePoints$Lane", "<init>", "()V"⟩ ∈ xtbl := xtbl_at 101 (by decide +kernel) (by decide +kernel)
set_option maxRecDepth 20000 in
theorem cw_102 : Cond.code ⟨"ThreePoints$Lane", "<init>", "()V"⟩ prog_2_method_1_code 1 none ∈ xtbl := xtbl_at 102 rfl rfl
set_option maxRecDepth 20000 in
theorem cw_103 : Cond.methodLink "ThreePoints$Lane" 1 ⟨"java/lang/Object", "<init>", "()V"⟩ ∈ xtbl := xtbl_at 103 (by decide +kernel) (by decide +kernel)
set_option maxRecDepth 20000 in
theorem cw_104 : Cond.fieldLink "ThreePoints$Lane" 7 "ThreePoints$Lane" "width" "I" ∈ xtbl := xtbl_at 104 (by decide +kernel) (by decide +kernel)
set_option maxRecDepth 20000 in
theorem cw_124 : Cond.instanceMethod ⟨"ThreePoints$Vehicle", "<init>", "()V"⟩ ∈ xtbl := xtbl_at 124 (by decide +kernel) (by decide +kernel)
set_option maxRecDepth 20000 in
theorem cw_125 : Cond.code ⟨"ThreePoints$Vehicle", "<init>", "()V"⟩ prog_9_method_1_code 1 none ∈ xtbl := xtbl_at 125 rfl rfl
set_option maxRecDepth 20000 in
theorem cw_126 : Cond.methodLink "ThreePoints$Vehicle" 3 ⟨"java/lang/Object", "<init>", "()V"⟩ ∈ xtbl := xtbl_at 126 (by decide +kernel) (by decide +kernel)
set_option maxRecDepth 20000 in
theorem cw_144 : Cond.fieldLink "ThreePoints$Vehicle" 9 "ThreePoints$Vehicle" "last" "I" ∈ xtbl := xtbl_at 144 (by decide +kernel) (by decide +kernel)
set_option maxRecDepth 20000 in
theorem cw_184 : Cond.instanceMethod ⟨"ThreePoints$Tape", "<init>", "()V"⟩ ∈ xtbl := xtbl_at 184 (by decide +kernel) (by decide +kernel)
set_option maxRecDepth 20000 in
theorem cw_185 : Cond.code ⟨"ThreePoints$Tape", "<init>", "()V"⟩ prog_7_method_1_code 1 none ∈ xtbl := xtbl_at 185 rfl rfl
set_option maxRecDepth 20000 in
theorem cw_186 : Cond.methodLink "ThreePoints$Tape" 3 ⟨"java/lang/Object", "<init>", "()V"⟩ ∈ xtbl := xtbl_at 186 (by decide +kernel) (by decide +kernel)
set_option maxRecDepth 20000 in
theorem cw_187 : Cond.fieldLink "ThreePoints$Tape" 11 "ThreePoints$Tape" "bytes" "[I" ∈ xtbl := xtbl_at 187 (by decide +kernel) (by decide +kernel)
set_option maxRecDepth 20000 in
theorem cw_190 : Cond.fieldLink "ThreePoints$Tape" 15 "ThreePoints$Tape" "kinds" "[I" ∈ xtbl := xtbl_at 190 (by decide +kernel) (by decide +kernel)
set_option maxRecDepth 20000 in
theorem cw_191 : Cond.fieldLink "ThreePoints$Tape" 18 "ThreePoints$Tape" "starts" "[I" ∈ xtbl := xtbl_at 191 (by decide +kernel) (by decide +kernel)
set_option maxRecDepth 20000 in
theorem cw_192 : Cond.fieldLink "ThreePoints$Tape" 21 "ThreePoints$Tape" "values" "[I" ∈ xtbl := xtbl_at 192 (by decide +kernel) (by decide +kernel)
set_option maxRecDepth 20000 in
theorem cw_207 : Cond.arrayClass .int ∈ xtbl := xtbl_at 207 (by decide +kernel) (by decide +kernel)
set_option maxRecDepth 20000 in
theorem cw_211 : Cond.instanceMethod ⟨"ThreePoints$Text", "<init>", "()V"⟩ ∈ xtbl := xtbl_at 211 (by decide +kernel) (by decide +kernel)
set_option maxRecDepth 20000 in
theorem cw_212 : Cond.code ⟨"ThreePoints$Text", "<init>", "()V"⟩ prog_8_method_1_code 1 none ∈ xtbl := xtbl_at 212 rfl rfl
set_option maxRecDepth 20000 in
theorem cw_213 : Cond.methodLink "ThreePoints$Text" 1 ⟨"java/lang/Object", "<init>", "()V"⟩ ∈ xtbl := xtbl_at 213 (by decide +kernel) (by decide +kernel)
set_option maxRecDepth 20000 in
theorem cw_214 : Cond.fieldLink "ThreePoints$Text" 9 "ThreePoints$Text" "code" "[I" ∈ xtbl := xtbl_at 214 (by decide +kernel) (by decide +kernel)
set_option maxRecDepth 20000 in
theorem cw_216 : Cond.fieldLink "ThreePoints$Text" 15 "ThreePoints$Text" "partEnds" "[I" ∈ xtbl := xtbl_at 216 (by decide +kernel) (by decide +kernel)
set_option maxRecDepth 20000 in
theorem cw_217 : Cond.fieldLink "ThreePoints$Text" 18 "ThreePoints$Text" "stack" "[I" ∈ xtbl := xtbl_at 217 (by decide +kernel) (by decide +kernel)
set_option maxRecDepth 20000 in
theorem cw_280 : Cond.instanceMethod ⟨"ThreePoints$Search", "<init>", "()V"⟩ ∈ xtbl := xtbl_at 280 (by decide +kernel) (by decide +kernel)
set_option maxRecDepth 20000 in
theorem cw_281 : Cond.code ⟨"ThreePoints$Search", "<init>", "()V"⟩ prog_5_method_1_code 1 none ∈ xtbl := xtbl_at 281 rfl rfl
set_option maxRecDepth 20000 in
theorem cw_282 : Cond.methodLink "ThreePoints$Search" 5 ⟨"java/lang/Object", "<init>", "()V"⟩ ∈ xtbl := xtbl_at 282 (by decide +kernel) (by decide +kernel)
set_option maxRecDepth 20000 in
theorem cw_284 : Cond.fieldLink "ThreePoints$Search" 11 "ThreePoints$Search" "fitting" "[Z" ∈ xtbl := xtbl_at 284 (by decide +kernel) (by decide +kernel)
set_option maxRecDepth 20000 in
theorem cw_285 : Cond.fieldLink "ThreePoints$Search" 15 "ThreePoints$Search" "costs" "[I" ∈ xtbl := xtbl_at 285 (by decide +kernel) (by decide +kernel)
set_option maxRecDepth 20000 in
theorem cw_286 : Cond.fieldLink "ThreePoints$Search" 19 "ThreePoints$Search" "heads" "[I" ∈ xtbl := xtbl_at 286 (by decide +kernel) (by decide +kernel)
set_option maxRecDepth 20000 in
theorem cw_287 : Cond.fieldLink "ThreePoints$Search" 22 "ThreePoints$Search" "nexts" "[I" ∈ xtbl := xtbl_at 287 (by decide +kernel) (by decide +kernel)
set_option maxRecDepth 20000 in
theorem cw_288 : Cond.fieldLink "ThreePoints$Search" 25 "ThreePoints$Search" "previous" "[I" ∈ xtbl := xtbl_at 288 (by decide +kernel) (by decide +kernel)
set_option maxRecDepth 20000 in
theorem cw_309 : Cond.arrayClass .boolean ∈ xtbl := xtbl_at 309 (by decide +kernel) (by decide +kernel)
set_option maxRecDepth 20000 in
theorem cw_313 : Cond.instanceMethod ⟨"ThreePoints$Sheet", "<init>", "()V"⟩ ∈ xtbl := xtbl_at 313 (by decide +kernel) (by decide +kernel)
set_option maxRecDepth 20000 in
theorem cw_314 : Cond.code ⟨"ThreePoints$Sheet", "<init>", "()V"⟩ prog_6_method_1_code 1 none ∈ xtbl := xtbl_at 314 rfl rfl
set_option maxRecDepth 20000 in
theorem cw_315 : Cond.methodLink "ThreePoints$Sheet" 3 ⟨"java/lang/Object", "<init>", "()V"⟩ ∈ xtbl := xtbl_at 315 (by decide +kernel) (by decide +kernel)
set_option maxRecDepth 20000 in
theorem cw_316 : Cond.fieldLink "ThreePoints$Sheet" 11 "ThreePoints$Sheet" "numbers" "[I" ∈ xtbl := xtbl_at 316 (by decide +kernel) (by decide +kernel)
set_option maxRecDepth 20000 in
theorem cw_318 : Cond.fieldLink "ThreePoints$Sheet" 15 "ThreePoints$Sheet" "sort" "I" ∈ xtbl := xtbl_at 318 (by decide +kernel) (by decide +kernel)
theorem dc_Vehicle_0 : decode prog_9_method_1_code 0 = .ok (.aload_n 0, 1) := by decide +kernel
theorem dc_Vehicle_1 : decode prog_9_method_1_code 1 = .ok (.invokespecial 3, 3) := by decide +kernel
theorem dc_Vehicle_4 : decode prog_9_method_1_code 4 = .ok (.aload_n 0, 1) := by decide +kernel
theorem dc_Vehicle_5 : decode prog_9_method_1_code 5 = .ok (.iconst (-1), 1) := by decide +kernel
theorem dc_Vehicle_6 : decode prog_9_method_1_code 6 = .ok (.putfield 9, 3) := by decide +kernel
theorem dc_Vehicle_9 : decode prog_9_method_1_code 9 = .ok (.return_, 1) := by decide +kernel
theorem ym_Vehicle : yM ⟨"ThreePoints$Vehicle", "<init>", "()V"⟩ prog_9_method_1_code 1 := ⟨cw_125, cw_68, cw_124, rfl, by decide +kernel, by decide⟩
theorem yf_Vehicle : ∀ j, j < 7 → defaultValue (xy_Vehicle j) = yz 3 j := by
  intro j hj
  match j, hj with
  | 0, _ => rfl
  | 1, _ => rfl
  | 2, _ => rfl
  | 3, _ => rfl
  | 4, _ => rfl
  | 5, _ => rfl
  | 6, _ => rfl
  | j + 7, h => exact absurd h (by omega)
set_option maxHeartbeats 4000000 in
set_option maxRecDepth 20000 in
theorem k_Vehicle_0 (l : Launch) (cid : Nat → ClassId) (D : va_G) : Mk l cid D ⟨"ThreePoints$Vehicle", "<init>", "()V"⟩ prog_9_method_1_code 1 3 0 [(3, 0)] (yrm 1 0 0) (fun H2 => ∀ q ∈ ([(3, 0)] : List (Nat × Nat)), H2 q.1 q.2 = Hi q.1 q.2) := by
  refine mk_of (HI := Hi) (ls := []) (by decide +kernel) rfl (by decide) (by decide) (by simp) ?_
  refine y_aload (pc := 0) dc_Vehicle_0 rfl rfl ?_
  refine y_objInit (pc := 1) dc_Vehicle_1 cw_126 cw_90 cw_91 rfl (by decide) ?_
  refine y_aload (pc := 4) dc_Vehicle_4 rfl rfl ?_
  refine y_push (pc := 5) (v := (-1)) (n := 1) (Or.inl ⟨_, dc_Vehicle_5, by decide, rfl⟩) ?_
  refine y_put (pc := 6) (k1 := 6) xy_Vehicle dc_Vehicle_6 (by decide) (by decide) rfl rfl xi_Vehicle xy_Vehicle_ok xn_Vehicle (by decide) cw_144 rfl (xy_Vehicle_ok 6 (by decide)) rfl ?_
  refine y_ret (pc := 9) dc_Vehicle_9 (by decide) (by decide) (yfl_of (by decide +kernel)) (ycs_of (by decide +kernel)) (fun q hq => ?_) (by decide)
  simp only [List.mem_cons, List.not_mem_nil, or_false] at hq
  rcases hq with rfl <;> (funext k; simp [hu, hrow, Hi])
set_option maxHeartbeats 4000000 in
set_option maxRecDepth 20000 in
theorem k_Vehicle_1 (l : Launch) (cid : Nat → ClassId) (D : va_G) : Mk l cid D ⟨"ThreePoints$Vehicle", "<init>", "()V"⟩ prog_9_method_1_code 1 3 1 [(3, 1)] (yrm 1 0 0) (fun H2 => ∀ q ∈ ([(3, 1)] : List (Nat × Nat)), H2 q.1 q.2 = Hi q.1 q.2) := by
  refine mk_of (HI := Hi) (ls := []) (by decide +kernel) rfl (by decide) (by decide) (by simp) ?_
  refine y_aload (pc := 0) dc_Vehicle_0 rfl rfl ?_
  refine y_objInit (pc := 1) dc_Vehicle_1 cw_126 cw_90 cw_91 rfl (by decide) ?_
  refine y_aload (pc := 4) dc_Vehicle_4 rfl rfl ?_
  refine y_push (pc := 5) (v := (-1)) (n := 1) (Or.inl ⟨_, dc_Vehicle_5, by decide, rfl⟩) ?_
  refine y_put (pc := 6) (k1 := 6) xy_Vehicle dc_Vehicle_6 (by decide) (by decide) rfl rfl xi_Vehicle xy_Vehicle_ok xn_Vehicle (by decide) cw_144 rfl (xy_Vehicle_ok 6 (by decide)) rfl ?_
  refine y_ret (pc := 9) dc_Vehicle_9 (by decide) (by decide) (yfl_of (by decide +kernel)) (ycs_of (by decide +kernel)) (fun q hq => ?_) (by decide)
  simp only [List.mem_cons, List.not_mem_nil, or_false] at hq
  rcases hq with rfl <;> (funext k; simp [hu, hrow, Hi])
set_option maxHeartbeats 4000000 in
set_option maxRecDepth 20000 in
theorem k_Vehicle_2 (l : Launch) (cid : Nat → ClassId) (D : va_G) : Mk l cid D ⟨"ThreePoints$Vehicle", "<init>", "()V"⟩ prog_9_method_1_code 1 3 2 [(3, 2)] (yrm 1 0 0) (fun H2 => ∀ q ∈ ([(3, 2)] : List (Nat × Nat)), H2 q.1 q.2 = Hi q.1 q.2) := by
  refine mk_of (HI := Hi) (ls := []) (by decide +kernel) rfl (by decide) (by decide) (by simp) ?_
  refine y_aload (pc := 0) dc_Vehicle_0 rfl rfl ?_
  refine y_objInit (pc := 1) dc_Vehicle_1 cw_126 cw_90 cw_91 rfl (by decide) ?_
  refine y_aload (pc := 4) dc_Vehicle_4 rfl rfl ?_
  refine y_push (pc := 5) (v := (-1)) (n := 1) (Or.inl ⟨_, dc_Vehicle_5, by decide, rfl⟩) ?_
  refine y_put (pc := 6) (k1 := 6) xy_Vehicle dc_Vehicle_6 (by decide) (by decide) rfl rfl xi_Vehicle xy_Vehicle_ok xn_Vehicle (by decide) cw_144 rfl (xy_Vehicle_ok 6 (by decide)) rfl ?_
  refine y_ret (pc := 9) dc_Vehicle_9 (by decide) (by decide) (yfl_of (by decide +kernel)) (ycs_of (by decide +kernel)) (fun q hq => ?_) (by decide)
  simp only [List.mem_cons, List.not_mem_nil, or_false] at hq
  rcases hq with rfl <;> (funext k; simp [hu, hrow, Hi])
set_option maxHeartbeats 4000000 in
set_option maxRecDepth 20000 in
theorem k_Vehicle_3 (l : Launch) (cid : Nat → ClassId) (D : va_G) : Mk l cid D ⟨"ThreePoints$Vehicle", "<init>", "()V"⟩ prog_9_method_1_code 1 3 3 [(3, 3)] (yrm 1 0 0) (fun H2 => ∀ q ∈ ([(3, 3)] : List (Nat × Nat)), H2 q.1 q.2 = Hi q.1 q.2) := by
  refine mk_of (HI := Hi) (ls := []) (by decide +kernel) rfl (by decide) (by decide) (by simp) ?_
  refine y_aload (pc := 0) dc_Vehicle_0 rfl rfl ?_
  refine y_objInit (pc := 1) dc_Vehicle_1 cw_126 cw_90 cw_91 rfl (by decide) ?_
  refine y_aload (pc := 4) dc_Vehicle_4 rfl rfl ?_
  refine y_push (pc := 5) (v := (-1)) (n := 1) (Or.inl ⟨_, dc_Vehicle_5, by decide, rfl⟩) ?_
  refine y_put (pc := 6) (k1 := 6) xy_Vehicle dc_Vehicle_6 (by decide) (by decide) rfl rfl xi_Vehicle xy_Vehicle_ok xn_Vehicle (by decide) cw_144 rfl (xy_Vehicle_ok 6 (by decide)) rfl ?_
  refine y_ret (pc := 9) dc_Vehicle_9 (by decide) (by decide) (yfl_of (by decide +kernel)) (ycs_of (by decide +kernel)) (fun q hq => ?_) (by decide)
  simp only [List.mem_cons, List.not_mem_nil, or_false] at hq
  rcases hq with rfl <;> (funext k; simp [hu, hrow, Hi])
set_option maxHeartbeats 4000000 in
set_option maxRecDepth 20000 in
theorem k_Vehicle_4 (l : Launch) (cid : Nat → ClassId) (D : va_G) : Mk l cid D ⟨"ThreePoints$Vehicle", "<init>", "()V"⟩ prog_9_method_1_code 1 3 4 [(3, 4)] (yrm 1 0 0) (fun H2 => ∀ q ∈ ([(3, 4)] : List (Nat × Nat)), H2 q.1 q.2 = Hi q.1 q.2) := by
  refine mk_of (HI := Hi) (ls := []) (by decide +kernel) rfl (by decide) (by decide) (by simp) ?_
  refine y_aload (pc := 0) dc_Vehicle_0 rfl rfl ?_
  refine y_objInit (pc := 1) dc_Vehicle_1 cw_126 cw_90 cw_91 rfl (by decide) ?_
  refine y_aload (pc := 4) dc_Vehicle_4 rfl rfl ?_
  refine y_push (pc := 5) (v := (-1)) (n := 1) (Or.inl ⟨_, dc_Vehicle_5, by decide, rfl⟩) ?_
  refine y_put (pc := 6) (k1 := 6) xy_Vehicle dc_Vehicle_6 (by decide) (by decide) rfl rfl xi_Vehicle xy_Vehicle_ok xn_Vehicle (by decide) cw_144 rfl (xy_Vehicle_ok 6 (by decide)) rfl ?_
  refine y_ret (pc := 9) dc_Vehicle_9 (by decide) (by decide) (yfl_of (by decide +kernel)) (ycs_of (by decide +kernel)) (fun q hq => ?_) (by decide)
  simp only [List.mem_cons, List.not_mem_nil, or_false] at hq
  rcases hq with rfl <;> (funext k; simp [hu, hrow, Hi])
set_option maxHeartbeats 4000000 in
set_option maxRecDepth 20000 in
theorem k_Vehicle_5 (l : Launch) (cid : Nat → ClassId) (D : va_G) : Mk l cid D ⟨"ThreePoints$Vehicle", "<init>", "()V"⟩ prog_9_method_1_code 1 3 5 [(3, 5)] (yrm 1 0 0) (fun H2 => ∀ q ∈ ([(3, 5)] : List (Nat × Nat)), H2 q.1 q.2 = Hi q.1 q.2) := by
  refine mk_of (HI := Hi) (ls := []) (by decide +kernel) rfl (by decide) (by decide) (by simp) ?_
  refine y_aload (pc := 0) dc_Vehicle_0 rfl rfl ?_
  refine y_objInit (pc := 1) dc_Vehicle_1 cw_126 cw_90 cw_91 rfl (by decide) ?_
  refine y_aload (pc := 4) dc_Vehicle_4 rfl rfl ?_
  refine y_push (pc := 5) (v := (-1)) (n := 1) (Or.inl ⟨_, dc_Vehicle_5, by decide, rfl⟩) ?_
  refine y_put (pc := 6) (k1 := 6) xy_Vehicle dc_Vehicle_6 (by decide) (by decide) rfl rfl xi_Vehicle xy_Vehicle_ok xn_Vehicle (by decide) cw_144 rfl (xy_Vehicle_ok 6 (by decide)) rfl ?_
  refine y_ret (pc := 9) dc_Vehicle_9 (by decide) (by decide) (yfl_of (by decide +kernel)) (ycs_of (by decide +kernel)) (fun q hq => ?_) (by decide)
  simp only [List.mem_cons, List.not_mem_nil, or_false] at hq
  rcases hq with rfl <;> (funext k; simp [hu, hrow, Hi])
set_option maxHeartbeats 4000000 in
set_option maxRecDepth 20000 in
theorem k_Vehicle_6 (l : Launch) (cid : Nat → ClassId) (D : va_G) : Mk l cid D ⟨"ThreePoints$Vehicle", "<init>", "()V"⟩ prog_9_method_1_code 1 3 6 [(3, 6)] (yrm 1 0 0) (fun H2 => ∀ q ∈ ([(3, 6)] : List (Nat × Nat)), H2 q.1 q.2 = Hi q.1 q.2) := by
  refine mk_of (HI := Hi) (ls := []) (by decide +kernel) rfl (by decide) (by decide) (by simp) ?_
  refine y_aload (pc := 0) dc_Vehicle_0 rfl rfl ?_
  refine y_objInit (pc := 1) dc_Vehicle_1 cw_126 cw_90 cw_91 rfl (by decide) ?_
  refine y_aload (pc := 4) dc_Vehicle_4 rfl rfl ?_
  refine y_push (pc := 5) (v := (-1)) (n := 1) (Or.inl ⟨_, dc_Vehicle_5, by decide, rfl⟩) ?_
  refine y_put (pc := 6) (k1 := 6) xy_Vehicle dc_Vehicle_6 (by decide) (by decide) rfl rfl xi_Vehicle xy_Vehicle_ok xn_Vehicle (by decide) cw_144 rfl (xy_Vehicle_ok 6 (by decide)) rfl ?_
  refine y_ret (pc := 9) dc_Vehicle_9 (by decide) (by decide) (yfl_of (by decide +kernel)) (ycs_of (by decide +kernel)) (fun q hq => ?_) (by decide)
  simp only [List.mem_cons, List.not_mem_nil, or_false] at hq
  rcases hq with rfl <;> (funext k; simp [hu, hrow, Hi])
set_option maxHeartbeats 4000000 in
set_option maxRecDepth 20000 in
theorem k_Vehicle_7 (l : Launch) (cid : Nat → ClassId) (D : va_G) : Mk l cid D ⟨"ThreePoints$Vehicle", "<init>", "()V"⟩ prog_9_method_1_code 1 3 7 [(3, 7)] (yrm 1 0 0) (fun H2 => ∀ q ∈ ([(3, 7)] : List (Nat × Nat)), H2 q.1 q.2 = Hi q.1 q.2) := by
  refine mk_of (HI := Hi) (ls := []) (by decide +kernel) rfl (by decide) (by decide) (by simp) ?_
  refine y_aload (pc := 0) dc_Vehicle_0 rfl rfl ?_
  refine y_objInit (pc := 1) dc_Vehicle_1 cw_126 cw_90 cw_91 rfl (by decide) ?_
  refine y_aload (pc := 4) dc_Vehicle_4 rfl rfl ?_
  refine y_push (pc := 5) (v := (-1)) (n := 1) (Or.inl ⟨_, dc_Vehicle_5, by decide, rfl⟩) ?_
  refine y_put (pc := 6) (k1 := 6) xy_Vehicle dc_Vehicle_6 (by decide) (by decide) rfl rfl xi_Vehicle xy_Vehicle_ok xn_Vehicle (by decide) cw_144 rfl (xy_Vehicle_ok 6 (by decide)) rfl ?_
  refine y_ret (pc := 9) dc_Vehicle_9 (by decide) (by decide) (yfl_of (by decide +kernel)) (ycs_of (by decide +kernel)) (fun q hq => ?_) (by decide)
  simp only [List.mem_cons, List.not_mem_nil, or_false] at hq
  rcases hq with rfl <;> (funext k; simp [hu, hrow, Hi])
set_option maxHeartbeats 4000000 in
set_option maxRecDepth 20000 in
theorem k_Vehicle_8 (l : Launch) (cid : Nat → ClassId) (D : va_G) : Mk l cid D ⟨"ThreePoints$Vehicle", "<init>", "()V"⟩ prog_9_method_1_code 1 3 8 [(3, 8)] (yrm 1 0 0) (fun H2 => ∀ q ∈ ([(3, 8)] : List (Nat × Nat)), H2 q.1 q.2 = Hi q.1 q.2) := by
  refine mk_of (HI := Hi) (ls := []) (by decide +kernel) rfl (by decide) (by decide) (by simp) ?_
  refine y_aload (pc := 0) dc_Vehicle_0 rfl rfl ?_
  refine y_objInit (pc := 1) dc_Vehicle_1 cw_126 cw_90 cw_91 rfl (by decide) ?_
  refine y_aload (pc := 4) dc_Vehicle_4 rfl rfl ?_
  refine y_push (pc := 5) (v := (-1)) (n := 1) (Or.inl ⟨_, dc_Vehicle_5, by decide, rfl⟩) ?_
  refine y_put (pc := 6) (k1 := 6) xy_Vehicle dc_Vehicle_6 (by decide) (by decide) rfl rfl xi_Vehicle xy_Vehicle_ok xn_Vehicle (by decide) cw_144 rfl (xy_Vehicle_ok 6 (by decide)) rfl ?_
  refine y_ret (pc := 9) dc_Vehicle_9 (by decide) (by decide) (yfl_of (by decide +kernel)) (ycs_of (by decide +kernel)) (fun q hq => ?_) (by decide)
  simp only [List.mem_cons, List.not_mem_nil, or_false] at hq
  rcases hq with rfl <;> (funext k; simp [hu, hrow, Hi])
theorem dc_Lane_0 : decode prog_2_method_1_code 0 = .ok (.aload_n 0, 1) := by decide +kernel
theorem dc_Lane_1 : decode prog_2_method_1_code 1 = .ok (.invokespecial 1, 3) := by decide +kernel
theorem dc_Lane_4 : decode prog_2_method_1_code 4 = .ok (.aload_n 0, 1) := by decide +kernel
theorem dc_Lane_5 : decode prog_2_method_1_code 5 = .ok (.bipush 40, 2) := by decide +kernel
theorem dc_Lane_7 : decode prog_2_method_1_code 7 = .ok (.putfield 7, 3) := by decide +kernel
theorem dc_Lane_10 : decode prog_2_method_1_code 10 = .ok (.return_, 1) := by decide +kernel
theorem ym_Lane : yM ⟨"ThreePoints$Lane", "<init>", "()V"⟩ prog_2_method_1_code 1 := ⟨cw_102, cw_67, cw_101, rfl, by decide +kernel, by decide⟩
theorem yf_Lane : ∀ j, j < 3 → defaultValue (xy_Lane j) = yz 2 j := by
  intro j hj
  match j, hj with
  | 0, _ => rfl
  | 1, _ => rfl
  | 2, _ => rfl
  | j + 3, h => exact absurd h (by omega)
set_option maxHeartbeats 4000000 in
set_option maxRecDepth 20000 in
theorem k_Lane_0 (l : Launch) (cid : Nat → ClassId) (D : va_G) : Mk l cid D ⟨"ThreePoints$Lane", "<init>", "()V"⟩ prog_2_method_1_code 1 2 0 [(2, 0)] (yrm 1 0 0) (fun H2 => ∀ q ∈ ([(2, 0)] : List (Nat × Nat)), H2 q.1 q.2 = Hi q.1 q.2) := by
  refine mk_of (HI := Hi) (ls := []) (by decide +kernel) rfl (by decide) (by decide) (by simp) ?_
  refine y_aload (pc := 0) dc_Lane_0 rfl rfl ?_
  refine y_objInit (pc := 1) dc_Lane_1 cw_103 cw_90 cw_91 rfl (by decide) ?_
  refine y_aload (pc := 4) dc_Lane_4 rfl rfl ?_
  refine y_push (pc := 5) (v := 40) (n := 2) (Or.inr (Or.inl ⟨_, dc_Lane_5, by decide, rfl⟩)) ?_
  refine y_put (pc := 7) (k1 := 0) xy_Lane dc_Lane_7 (by decide) (by decide) rfl rfl xi_Lane xy_Lane_ok xn_Lane (by decide) cw_104 rfl (xy_Lane_ok 0 (by decide)) rfl ?_
  refine y_ret (pc := 10) dc_Lane_10 (by decide) (by decide) (yfl_of (by decide +kernel)) (ycs_of (by decide +kernel)) (fun q hq => ?_) (by decide)
  simp only [List.mem_cons, List.not_mem_nil, or_false] at hq
  rcases hq with rfl <;> (funext k; simp [hu, hrow, Hi])
set_option maxHeartbeats 4000000 in
set_option maxRecDepth 20000 in
theorem k_Lane_1 (l : Launch) (cid : Nat → ClassId) (D : va_G) : Mk l cid D ⟨"ThreePoints$Lane", "<init>", "()V"⟩ prog_2_method_1_code 1 2 1 [(2, 1)] (yrm 1 0 0) (fun H2 => ∀ q ∈ ([(2, 1)] : List (Nat × Nat)), H2 q.1 q.2 = Hi q.1 q.2) := by
  refine mk_of (HI := Hi) (ls := []) (by decide +kernel) rfl (by decide) (by decide) (by simp) ?_
  refine y_aload (pc := 0) dc_Lane_0 rfl rfl ?_
  refine y_objInit (pc := 1) dc_Lane_1 cw_103 cw_90 cw_91 rfl (by decide) ?_
  refine y_aload (pc := 4) dc_Lane_4 rfl rfl ?_
  refine y_push (pc := 5) (v := 40) (n := 2) (Or.inr (Or.inl ⟨_, dc_Lane_5, by decide, rfl⟩)) ?_
  refine y_put (pc := 7) (k1 := 0) xy_Lane dc_Lane_7 (by decide) (by decide) rfl rfl xi_Lane xy_Lane_ok xn_Lane (by decide) cw_104 rfl (xy_Lane_ok 0 (by decide)) rfl ?_
  refine y_ret (pc := 10) dc_Lane_10 (by decide) (by decide) (yfl_of (by decide +kernel)) (ycs_of (by decide +kernel)) (fun q hq => ?_) (by decide)
  simp only [List.mem_cons, List.not_mem_nil, or_false] at hq
  rcases hq with rfl <;> (funext k; simp [hu, hrow, Hi])
set_option maxHeartbeats 4000000 in
set_option maxRecDepth 20000 in
theorem k_Lane_2 (l : Launch) (cid : Nat → ClassId) (D : va_G) : Mk l cid D ⟨"ThreePoints$Lane", "<init>", "()V"⟩ prog_2_method_1_code 1 2 2 [(2, 2)] (yrm 1 0 0) (fun H2 => ∀ q ∈ ([(2, 2)] : List (Nat × Nat)), H2 q.1 q.2 = Hi q.1 q.2) := by
  refine mk_of (HI := Hi) (ls := []) (by decide +kernel) rfl (by decide) (by decide) (by simp) ?_
  refine y_aload (pc := 0) dc_Lane_0 rfl rfl ?_
  refine y_objInit (pc := 1) dc_Lane_1 cw_103 cw_90 cw_91 rfl (by decide) ?_
  refine y_aload (pc := 4) dc_Lane_4 rfl rfl ?_
  refine y_push (pc := 5) (v := 40) (n := 2) (Or.inr (Or.inl ⟨_, dc_Lane_5, by decide, rfl⟩)) ?_
  refine y_put (pc := 7) (k1 := 0) xy_Lane dc_Lane_7 (by decide) (by decide) rfl rfl xi_Lane xy_Lane_ok xn_Lane (by decide) cw_104 rfl (xy_Lane_ok 0 (by decide)) rfl ?_
  refine y_ret (pc := 10) dc_Lane_10 (by decide) (by decide) (yfl_of (by decide +kernel)) (ycs_of (by decide +kernel)) (fun q hq => ?_) (by decide)
  simp only [List.mem_cons, List.not_mem_nil, or_false] at hq
  rcases hq with rfl <;> (funext k; simp [hu, hrow, Hi])
theorem dc_Sheet_0 : decode prog_6_method_1_code 0 = .ok (.aload_n 0, 1) := by decide +kernel
theorem dc_Sheet_1 : decode prog_6_method_1_code 1 = .ok (.invokespecial 3, 3) := by decide +kernel
theorem dc_Sheet_4 : decode prog_6_method_1_code 4 = .ok (.aload_n 0, 1) := by decide +kernel
theorem dc_Sheet_5 : decode prog_6_method_1_code 5 = .ok (.bipush 40, 2) := by decide +kernel
theorem dc_Sheet_7 : decode prog_6_method_1_code 7 = .ok (.newarray .int, 2) := by decide +kernel
theorem dc_Sheet_9 : decode prog_6_method_1_code 9 = .ok (.putfield 11, 3) := by decide +kernel
theorem dc_Sheet_12 : decode prog_6_method_1_code 12 = .ok (.aload_n 0, 1) := by decide +kernel
theorem dc_Sheet_13 : decode prog_6_method_1_code 13 = .ok (.iconst (-1), 1) := by decide +kernel
theorem dc_Sheet_14 : decode prog_6_method_1_code 14 = .ok (.putfield 15, 3) := by decide +kernel
theorem dc_Sheet_17 : decode prog_6_method_1_code 17 = .ok (.return_, 1) := by decide +kernel
theorem ym_Sheet : yM ⟨"ThreePoints$Sheet", "<init>", "()V"⟩ prog_6_method_1_code 1 := ⟨cw_314, cw_74, cw_313, rfl, by decide +kernel, by decide⟩
theorem yf_Sheet : ∀ j, j < 3 → defaultValue (xy_Sheet j) = yz 16 j := by
  intro j hj
  match j, hj with
  | 0, _ => rfl
  | 1, _ => rfl
  | 2, _ => rfl
  | j + 3, h => exact absurd h (by omega)
set_option maxHeartbeats 4000000 in
set_option maxRecDepth 20000 in
theorem k_Sheet_0 (l : Launch) (cid : Nat → ClassId) (D : va_G) : Mk l cid D ⟨"ThreePoints$Sheet", "<init>", "()V"⟩ prog_6_method_1_code 1 16 0 [(16, 0), (17, 0)] (yrm 1 1 40) (fun H2 => ∀ q ∈ ([(16, 0), (17, 0)] : List (Nat × Nat)), H2 q.1 q.2 = Hi q.1 q.2) := by
  refine mk_of (HI := Hi) (ls := []) (by decide +kernel) rfl (by decide) (by decide) (by simp) ?_
  refine y_aload (pc := 0) dc_Sheet_0 rfl rfl ?_
  refine y_objInit (pc := 1) dc_Sheet_1 cw_315 cw_90 cw_91 rfl (by decide) ?_
  refine y_aload (pc := 4) dc_Sheet_4 rfl rfl ?_
  refine y_push (pc := 5) (v := 40) (n := 2) (Or.inr (Or.inl ⟨_, dc_Sheet_5, by decide, rfl⟩)) ?_
  refine y_newI (pc := 7) (kt := 17) (it := 0) dc_Sheet_7 cw_207 (by decide) (by decide) rfl (by decide) rfl (by decide) (by decide) (by decide) (by decide) (by decide) ?_
  refine y_putF (pc := 9) (k1 := 0) (ty := xy_Sheet 0) xy_Sheet _ dc_Sheet_9 (by decide) rfl rfl xi_Sheet xy_Sheet_ok xn_Sheet (by decide) cw_316 rfl rfl (xy_Sheet_ok 0 (by decide)) (fun _ => rfl) (fun _ => rfl) rfl rfl rfl (by decide) rfl ?_
  refine y_aload (pc := 12) dc_Sheet_12 rfl rfl ?_
  refine y_push (pc := 13) (v := (-1)) (n := 1) (Or.inl ⟨_, dc_Sheet_13, by decide, rfl⟩) ?_
  refine y_put (pc := 14) (k1 := 1) xy_Sheet dc_Sheet_14 (by decide) (by decide) rfl rfl xi_Sheet xy_Sheet_ok xn_Sheet (by decide) cw_318 rfl (xy_Sheet_ok 1 (by decide)) rfl ?_
  refine y_ret (pc := 17) dc_Sheet_17 (by decide) (by decide) (yfl_of (by decide +kernel)) (ycs_of (by decide +kernel)) (fun q hq => ?_) (by decide)
  simp only [List.mem_cons, List.not_mem_nil, or_false] at hq
  rcases hq with rfl | rfl <;> (funext k; simp [hu, hrow, Hi])
set_option maxHeartbeats 4000000 in
set_option maxRecDepth 20000 in
theorem k_Sheet_1 (l : Launch) (cid : Nat → ClassId) (D : va_G) : Mk l cid D ⟨"ThreePoints$Sheet", "<init>", "()V"⟩ prog_6_method_1_code 1 16 1 [(16, 1), (17, 1)] (yrm 1 1 40) (fun H2 => ∀ q ∈ ([(16, 1), (17, 1)] : List (Nat × Nat)), H2 q.1 q.2 = Hi q.1 q.2) := by
  refine mk_of (HI := Hi) (ls := []) (by decide +kernel) rfl (by decide) (by decide) (by simp) ?_
  refine y_aload (pc := 0) dc_Sheet_0 rfl rfl ?_
  refine y_objInit (pc := 1) dc_Sheet_1 cw_315 cw_90 cw_91 rfl (by decide) ?_
  refine y_aload (pc := 4) dc_Sheet_4 rfl rfl ?_
  refine y_push (pc := 5) (v := 40) (n := 2) (Or.inr (Or.inl ⟨_, dc_Sheet_5, by decide, rfl⟩)) ?_
  refine y_newI (pc := 7) (kt := 17) (it := 1) dc_Sheet_7 cw_207 (by decide) (by decide) rfl (by decide) rfl (by decide) (by decide) (by decide) (by decide) (by decide) ?_
  refine y_putF (pc := 9) (k1 := 0) (ty := xy_Sheet 0) xy_Sheet _ dc_Sheet_9 (by decide) rfl rfl xi_Sheet xy_Sheet_ok xn_Sheet (by decide) cw_316 rfl rfl (xy_Sheet_ok 0 (by decide)) (fun _ => rfl) (fun _ => rfl) rfl rfl rfl (by decide) rfl ?_
  refine y_aload (pc := 12) dc_Sheet_12 rfl rfl ?_
  refine y_push (pc := 13) (v := (-1)) (n := 1) (Or.inl ⟨_, dc_Sheet_13, by decide, rfl⟩) ?_
  refine y_put (pc := 14) (k1 := 1) xy_Sheet dc_Sheet_14 (by decide) (by decide) rfl rfl xi_Sheet xy_Sheet_ok xn_Sheet (by decide) cw_318 rfl (xy_Sheet_ok 1 (by decide)) rfl ?_
  refine y_ret (pc := 17) dc_Sheet_17 (by decide) (by decide) (yfl_of (by decide +kernel)) (ycs_of (by decide +kernel)) (fun q hq => ?_) (by decide)
  simp only [List.mem_cons, List.not_mem_nil, or_false] at hq
  rcases hq with rfl | rfl <;> (funext k; simp [hu, hrow, Hi])
set_option maxHeartbeats 4000000 in
set_option maxRecDepth 20000 in
theorem k_Sheet_2 (l : Launch) (cid : Nat → ClassId) (D : va_G) : Mk l cid D ⟨"ThreePoints$Sheet", "<init>", "()V"⟩ prog_6_method_1_code 1 16 2 [(16, 2), (17, 2)] (yrm 1 1 40) (fun H2 => ∀ q ∈ ([(16, 2), (17, 2)] : List (Nat × Nat)), H2 q.1 q.2 = Hi q.1 q.2) := by
  refine mk_of (HI := Hi) (ls := []) (by decide +kernel) rfl (by decide) (by decide) (by simp) ?_
  refine y_aload (pc := 0) dc_Sheet_0 rfl rfl ?_
  refine y_objInit (pc := 1) dc_Sheet_1 cw_315 cw_90 cw_91 rfl (by decide) ?_
  refine y_aload (pc := 4) dc_Sheet_4 rfl rfl ?_
  refine y_push (pc := 5) (v := 40) (n := 2) (Or.inr (Or.inl ⟨_, dc_Sheet_5, by decide, rfl⟩)) ?_
  refine y_newI (pc := 7) (kt := 17) (it := 2) dc_Sheet_7 cw_207 (by decide) (by decide) rfl (by decide) rfl (by decide) (by decide) (by decide) (by decide) (by decide) ?_
  refine y_putF (pc := 9) (k1 := 0) (ty := xy_Sheet 0) xy_Sheet _ dc_Sheet_9 (by decide) rfl rfl xi_Sheet xy_Sheet_ok xn_Sheet (by decide) cw_316 rfl rfl (xy_Sheet_ok 0 (by decide)) (fun _ => rfl) (fun _ => rfl) rfl rfl rfl (by decide) rfl ?_
  refine y_aload (pc := 12) dc_Sheet_12 rfl rfl ?_
  refine y_push (pc := 13) (v := (-1)) (n := 1) (Or.inl ⟨_, dc_Sheet_13, by decide, rfl⟩) ?_
  refine y_put (pc := 14) (k1 := 1) xy_Sheet dc_Sheet_14 (by decide) (by decide) rfl rfl xi_Sheet xy_Sheet_ok xn_Sheet (by decide) cw_318 rfl (xy_Sheet_ok 1 (by decide)) rfl ?_
  refine y_ret (pc := 17) dc_Sheet_17 (by decide) (by decide) (yfl_of (by decide +kernel)) (ycs_of (by decide +kernel)) (fun q hq => ?_) (by decide)
  simp only [List.mem_cons, List.not_mem_nil, or_false] at hq
  rcases hq with rfl | rfl <;> (funext k; simp [hu, hrow, Hi])
set_option maxHeartbeats 4000000 in
set_option maxRecDepth 20000 in
theorem k_Sheet_3 (l : Launch) (cid : Nat → ClassId) (D : va_G) : Mk l cid D ⟨"ThreePoints$Sheet", "<init>", "()V"⟩ prog_6_method_1_code 1 16 3 [(16, 3), (17, 3)] (yrm 1 1 40) (fun H2 => ∀ q ∈ ([(16, 3), (17, 3)] : List (Nat × Nat)), H2 q.1 q.2 = Hi q.1 q.2) := by
  refine mk_of (HI := Hi) (ls := []) (by decide +kernel) rfl (by decide) (by decide) (by simp) ?_
  refine y_aload (pc := 0) dc_Sheet_0 rfl rfl ?_
  refine y_objInit (pc := 1) dc_Sheet_1 cw_315 cw_90 cw_91 rfl (by decide) ?_
  refine y_aload (pc := 4) dc_Sheet_4 rfl rfl ?_
  refine y_push (pc := 5) (v := 40) (n := 2) (Or.inr (Or.inl ⟨_, dc_Sheet_5, by decide, rfl⟩)) ?_
  refine y_newI (pc := 7) (kt := 17) (it := 3) dc_Sheet_7 cw_207 (by decide) (by decide) rfl (by decide) rfl (by decide) (by decide) (by decide) (by decide) (by decide) ?_
  refine y_putF (pc := 9) (k1 := 0) (ty := xy_Sheet 0) xy_Sheet _ dc_Sheet_9 (by decide) rfl rfl xi_Sheet xy_Sheet_ok xn_Sheet (by decide) cw_316 rfl rfl (xy_Sheet_ok 0 (by decide)) (fun _ => rfl) (fun _ => rfl) rfl rfl rfl (by decide) rfl ?_
  refine y_aload (pc := 12) dc_Sheet_12 rfl rfl ?_
  refine y_push (pc := 13) (v := (-1)) (n := 1) (Or.inl ⟨_, dc_Sheet_13, by decide, rfl⟩) ?_
  refine y_put (pc := 14) (k1 := 1) xy_Sheet dc_Sheet_14 (by decide) (by decide) rfl rfl xi_Sheet xy_Sheet_ok xn_Sheet (by decide) cw_318 rfl (xy_Sheet_ok 1 (by decide)) rfl ?_
  refine y_ret (pc := 17) dc_Sheet_17 (by decide) (by decide) (yfl_of (by decide +kernel)) (ycs_of (by decide +kernel)) (fun q hq => ?_) (by decide)
  simp only [List.mem_cons, List.not_mem_nil, or_false] at hq
  rcases hq with rfl | rfl <;> (funext k; simp [hu, hrow, Hi])
theorem dc_Text_0 : decode prog_8_method_1_code 0 = .ok (.aload_n 0, 1) := by decide +kernel
theorem dc_Text_1 : decode prog_8_method_1_code 1 = .ok (.invokespecial 1, 3) := by decide +kernel
theorem dc_Text_4 : decode prog_8_method_1_code 4 = .ok (.aload_n 0, 1) := by decide +kernel
theorem dc_Text_5 : decode prog_8_method_1_code 5 = .ok (.sipush 160, 3) := by decide +kernel
theorem dc_Text_8 : decode prog_8_method_1_code 8 = .ok (.newarray .int, 2) := by decide +kernel
theorem dc_Text_10 : decode prog_8_method_1_code 10 = .ok (.putfield 9, 3) := by decide +kernel
theorem dc_Text_13 : decode prog_8_method_1_code 13 = .ok (.aload_n 0, 1) := by decide +kernel
theorem dc_Text_14 : decode prog_8_method_1_code 14 = .ok (.iconst 3, 1) := by decide +kernel
theorem dc_Text_15 : decode prog_8_method_1_code 15 = .ok (.newarray .int, 2) := by decide +kernel
theorem dc_Text_17 : decode prog_8_method_1_code 17 = .ok (.putfield 15, 3) := by decide +kernel
theorem dc_Text_20 : decode prog_8_method_1_code 20 = .ok (.aload_n 0, 1) := by decide +kernel
theorem dc_Text_21 : decode prog_8_method_1_code 21 = .ok (.sipush 160, 3) := by decide +kernel
theorem dc_Text_24 : decode prog_8_method_1_code 24 = .ok (.newarray .int, 2) := by decide +kernel
theorem dc_Text_26 : decode prog_8_method_1_code 26 = .ok (.putfield 18, 3) := by decide +kernel
theorem dc_Text_29 : decode prog_8_method_1_code 29 = .ok (.return_, 1) := by decide +kernel
theorem ym_Text : yM ⟨"ThreePoints$Text", "<init>", "()V"⟩ prog_8_method_1_code 1 := ⟨cw_212, cw_71, cw_211, rfl, by decide +kernel, by decide⟩
theorem yf_Text : ∀ j, j < 4 → defaultValue (xy_Text j) = yz 11 j := by
  intro j hj
  match j, hj with
  | 0, _ => rfl
  | 1, _ => rfl
  | 2, _ => rfl
  | 3, _ => rfl
  | j + 4, h => exact absurd h (by omega)
set_option maxHeartbeats 4000000 in
set_option maxRecDepth 20000 in
theorem k_Text_0 (l : Launch) (cid : Nat → ClassId) (D : va_G) : Mk l cid D ⟨"ThreePoints$Text", "<init>", "()V"⟩ prog_8_method_1_code 1 11 0 [(11, 0), (12, 0), (13, 0), (14, 0)] (yrm 1 3 323) (fun H2 => ∀ q ∈ ([(11, 0), (12, 0), (13, 0), (14, 0)] : List (Nat × Nat)), H2 q.1 q.2 = Hi q.1 q.2) := by
  refine mk_of (HI := Hi) (ls := []) (by decide +kernel) rfl (by decide) (by decide) (by simp) ?_
  refine y_aload (pc := 0) dc_Text_0 rfl rfl ?_
  refine y_objInit (pc := 1) dc_Text_1 cw_213 cw_90 cw_91 rfl (by decide) ?_
  refine y_aload (pc := 4) dc_Text_4 rfl rfl ?_
  refine y_push (pc := 5) (v := 160) (n := 3) (Or.inr (Or.inr ⟨_, dc_Text_5, by decide, rfl⟩)) ?_
  refine y_newI (pc := 8) (kt := 12) (it := 0) dc_Text_8 cw_207 (by decide) (by decide) rfl (by decide) rfl (by decide) (by decide) (by decide) (by decide) (by decide) ?_
  refine y_putF (pc := 10) (k1 := 0) (ty := xy_Text 0) xy_Text _ dc_Text_10 (by decide) rfl rfl xi_Text xy_Text_ok xn_Text (by decide) cw_214 rfl rfl (xy_Text_ok 0 (by decide)) (fun _ => rfl) (fun _ => rfl) rfl rfl rfl (by decide) rfl ?_
  refine y_aload (pc := 13) dc_Text_13 rfl rfl ?_
  refine y_push (pc := 14) (v := 3) (n := 1) (Or.inl ⟨_, dc_Text_14, by decide, rfl⟩) ?_
  refine y_newI (pc := 15) (kt := 13) (it := 0) dc_Text_15 cw_207 (by decide) (by decide) rfl (by decide) rfl (by decide) (by decide) (by decide) (by decide) (by decide) ?_
  refine y_putF (pc := 17) (k1 := 2) (ty := xy_Text 2) xy_Text _ dc_Text_17 (by decide) rfl rfl xi_Text xy_Text_ok xn_Text (by decide) cw_216 rfl rfl (xy_Text_ok 2 (by decide)) (fun _ => rfl) (fun _ => rfl) rfl rfl rfl (by decide) rfl ?_
  refine y_aload (pc := 20) dc_Text_20 rfl rfl ?_
  refine y_push (pc := 21) (v := 160) (n := 3) (Or.inr (Or.inr ⟨_, dc_Text_21, by decide, rfl⟩)) ?_
  refine y_newI (pc := 24) (kt := 14) (it := 0) dc_Text_24 cw_207 (by decide) (by decide) rfl (by decide) rfl (by decide) (by decide) (by decide) (by decide) (by decide) ?_
  refine y_putF (pc := 26) (k1 := 3) (ty := xy_Text 3) xy_Text _ dc_Text_26 (by decide) rfl rfl xi_Text xy_Text_ok xn_Text (by decide) cw_217 rfl rfl (xy_Text_ok 3 (by decide)) (fun _ => rfl) (fun _ => rfl) rfl rfl rfl (by decide) rfl ?_
  refine y_ret (pc := 29) dc_Text_29 (by decide) (by decide) (yfl_of (by decide +kernel)) (ycs_of (by decide +kernel)) (fun q hq => ?_) (by decide)
  simp only [List.mem_cons, List.not_mem_nil, or_false] at hq
  rcases hq with rfl | rfl | rfl | rfl <;> (funext k; simp [hu, hrow, Hi])
set_option maxHeartbeats 4000000 in
set_option maxRecDepth 20000 in
theorem k_Text_1 (l : Launch) (cid : Nat → ClassId) (D : va_G) : Mk l cid D ⟨"ThreePoints$Text", "<init>", "()V"⟩ prog_8_method_1_code 1 11 1 [(11, 1), (12, 1), (13, 1), (14, 1)] (yrm 1 3 323) (fun H2 => ∀ q ∈ ([(11, 1), (12, 1), (13, 1), (14, 1)] : List (Nat × Nat)), H2 q.1 q.2 = Hi q.1 q.2) := by
  refine mk_of (HI := Hi) (ls := []) (by decide +kernel) rfl (by decide) (by decide) (by simp) ?_
  refine y_aload (pc := 0) dc_Text_0 rfl rfl ?_
  refine y_objInit (pc := 1) dc_Text_1 cw_213 cw_90 cw_91 rfl (by decide) ?_
  refine y_aload (pc := 4) dc_Text_4 rfl rfl ?_
  refine y_push (pc := 5) (v := 160) (n := 3) (Or.inr (Or.inr ⟨_, dc_Text_5, by decide, rfl⟩)) ?_
  refine y_newI (pc := 8) (kt := 12) (it := 1) dc_Text_8 cw_207 (by decide) (by decide) rfl (by decide) rfl (by decide) (by decide) (by decide) (by decide) (by decide) ?_
  refine y_putF (pc := 10) (k1 := 0) (ty := xy_Text 0) xy_Text _ dc_Text_10 (by decide) rfl rfl xi_Text xy_Text_ok xn_Text (by decide) cw_214 rfl rfl (xy_Text_ok 0 (by decide)) (fun _ => rfl) (fun _ => rfl) rfl rfl rfl (by decide) rfl ?_
  refine y_aload (pc := 13) dc_Text_13 rfl rfl ?_
  refine y_push (pc := 14) (v := 3) (n := 1) (Or.inl ⟨_, dc_Text_14, by decide, rfl⟩) ?_
  refine y_newI (pc := 15) (kt := 13) (it := 1) dc_Text_15 cw_207 (by decide) (by decide) rfl (by decide) rfl (by decide) (by decide) (by decide) (by decide) (by decide) ?_
  refine y_putF (pc := 17) (k1 := 2) (ty := xy_Text 2) xy_Text _ dc_Text_17 (by decide) rfl rfl xi_Text xy_Text_ok xn_Text (by decide) cw_216 rfl rfl (xy_Text_ok 2 (by decide)) (fun _ => rfl) (fun _ => rfl) rfl rfl rfl (by decide) rfl ?_
  refine y_aload (pc := 20) dc_Text_20 rfl rfl ?_
  refine y_push (pc := 21) (v := 160) (n := 3) (Or.inr (Or.inr ⟨_, dc_Text_21, by decide, rfl⟩)) ?_
  refine y_newI (pc := 24) (kt := 14) (it := 1) dc_Text_24 cw_207 (by decide) (by decide) rfl (by decide) rfl (by decide) (by decide) (by decide) (by decide) (by decide) ?_
  refine y_putF (pc := 26) (k1 := 3) (ty := xy_Text 3) xy_Text _ dc_Text_26 (by decide) rfl rfl xi_Text xy_Text_ok xn_Text (by decide) cw_217 rfl rfl (xy_Text_ok 3 (by decide)) (fun _ => rfl) (fun _ => rfl) rfl rfl rfl (by decide) rfl ?_
  refine y_ret (pc := 29) dc_Text_29 (by decide) (by decide) (yfl_of (by decide +kernel)) (ycs_of (by decide +kernel)) (fun q hq => ?_) (by decide)
  simp only [List.mem_cons, List.not_mem_nil, or_false] at hq
  rcases hq with rfl | rfl | rfl | rfl <;> (funext k; simp [hu, hrow, Hi])
set_option maxHeartbeats 4000000 in
set_option maxRecDepth 20000 in
theorem k_Text_2 (l : Launch) (cid : Nat → ClassId) (D : va_G) : Mk l cid D ⟨"ThreePoints$Text", "<init>", "()V"⟩ prog_8_method_1_code 1 11 2 [(11, 2), (12, 2), (13, 2), (14, 2)] (yrm 1 3 323) (fun H2 => ∀ q ∈ ([(11, 2), (12, 2), (13, 2), (14, 2)] : List (Nat × Nat)), H2 q.1 q.2 = Hi q.1 q.2) := by
  refine mk_of (HI := Hi) (ls := []) (by decide +kernel) rfl (by decide) (by decide) (by simp) ?_
  refine y_aload (pc := 0) dc_Text_0 rfl rfl ?_
  refine y_objInit (pc := 1) dc_Text_1 cw_213 cw_90 cw_91 rfl (by decide) ?_
  refine y_aload (pc := 4) dc_Text_4 rfl rfl ?_
  refine y_push (pc := 5) (v := 160) (n := 3) (Or.inr (Or.inr ⟨_, dc_Text_5, by decide, rfl⟩)) ?_
  refine y_newI (pc := 8) (kt := 12) (it := 2) dc_Text_8 cw_207 (by decide) (by decide) rfl (by decide) rfl (by decide) (by decide) (by decide) (by decide) (by decide) ?_
  refine y_putF (pc := 10) (k1 := 0) (ty := xy_Text 0) xy_Text _ dc_Text_10 (by decide) rfl rfl xi_Text xy_Text_ok xn_Text (by decide) cw_214 rfl rfl (xy_Text_ok 0 (by decide)) (fun _ => rfl) (fun _ => rfl) rfl rfl rfl (by decide) rfl ?_
  refine y_aload (pc := 13) dc_Text_13 rfl rfl ?_
  refine y_push (pc := 14) (v := 3) (n := 1) (Or.inl ⟨_, dc_Text_14, by decide, rfl⟩) ?_
  refine y_newI (pc := 15) (kt := 13) (it := 2) dc_Text_15 cw_207 (by decide) (by decide) rfl (by decide) rfl (by decide) (by decide) (by decide) (by decide) (by decide) ?_
  refine y_putF (pc := 17) (k1 := 2) (ty := xy_Text 2) xy_Text _ dc_Text_17 (by decide) rfl rfl xi_Text xy_Text_ok xn_Text (by decide) cw_216 rfl rfl (xy_Text_ok 2 (by decide)) (fun _ => rfl) (fun _ => rfl) rfl rfl rfl (by decide) rfl ?_
  refine y_aload (pc := 20) dc_Text_20 rfl rfl ?_
  refine y_push (pc := 21) (v := 160) (n := 3) (Or.inr (Or.inr ⟨_, dc_Text_21, by decide, rfl⟩)) ?_
  refine y_newI (pc := 24) (kt := 14) (it := 2) dc_Text_24 cw_207 (by decide) (by decide) rfl (by decide) rfl (by decide) (by decide) (by decide) (by decide) (by decide) ?_
  refine y_putF (pc := 26) (k1 := 3) (ty := xy_Text 3) xy_Text _ dc_Text_26 (by decide) rfl rfl xi_Text xy_Text_ok xn_Text (by decide) cw_217 rfl rfl (xy_Text_ok 3 (by decide)) (fun _ => rfl) (fun _ => rfl) rfl rfl rfl (by decide) rfl ?_
  refine y_ret (pc := 29) dc_Text_29 (by decide) (by decide) (yfl_of (by decide +kernel)) (ycs_of (by decide +kernel)) (fun q hq => ?_) (by decide)
  simp only [List.mem_cons, List.not_mem_nil, or_false] at hq
  rcases hq with rfl | rfl | rfl | rfl <;> (funext k; simp [hu, hrow, Hi])
set_option maxHeartbeats 4000000 in
set_option maxRecDepth 20000 in
theorem k_Text_3 (l : Launch) (cid : Nat → ClassId) (D : va_G) : Mk l cid D ⟨"ThreePoints$Text", "<init>", "()V"⟩ prog_8_method_1_code 1 11 3 [(11, 3), (12, 3), (13, 3), (14, 3)] (yrm 1 3 323) (fun H2 => ∀ q ∈ ([(11, 3), (12, 3), (13, 3), (14, 3)] : List (Nat × Nat)), H2 q.1 q.2 = Hi q.1 q.2) := by
  refine mk_of (HI := Hi) (ls := []) (by decide +kernel) rfl (by decide) (by decide) (by simp) ?_
  refine y_aload (pc := 0) dc_Text_0 rfl rfl ?_
  refine y_objInit (pc := 1) dc_Text_1 cw_213 cw_90 cw_91 rfl (by decide) ?_
  refine y_aload (pc := 4) dc_Text_4 rfl rfl ?_
  refine y_push (pc := 5) (v := 160) (n := 3) (Or.inr (Or.inr ⟨_, dc_Text_5, by decide, rfl⟩)) ?_
  refine y_newI (pc := 8) (kt := 12) (it := 3) dc_Text_8 cw_207 (by decide) (by decide) rfl (by decide) rfl (by decide) (by decide) (by decide) (by decide) (by decide) ?_
  refine y_putF (pc := 10) (k1 := 0) (ty := xy_Text 0) xy_Text _ dc_Text_10 (by decide) rfl rfl xi_Text xy_Text_ok xn_Text (by decide) cw_214 rfl rfl (xy_Text_ok 0 (by decide)) (fun _ => rfl) (fun _ => rfl) rfl rfl rfl (by decide) rfl ?_
  refine y_aload (pc := 13) dc_Text_13 rfl rfl ?_
  refine y_push (pc := 14) (v := 3) (n := 1) (Or.inl ⟨_, dc_Text_14, by decide, rfl⟩) ?_
  refine y_newI (pc := 15) (kt := 13) (it := 3) dc_Text_15 cw_207 (by decide) (by decide) rfl (by decide) rfl (by decide) (by decide) (by decide) (by decide) (by decide) ?_
  refine y_putF (pc := 17) (k1 := 2) (ty := xy_Text 2) xy_Text _ dc_Text_17 (by decide) rfl rfl xi_Text xy_Text_ok xn_Text (by decide) cw_216 rfl rfl (xy_Text_ok 2 (by decide)) (fun _ => rfl) (fun _ => rfl) rfl rfl rfl (by decide) rfl ?_
  refine y_aload (pc := 20) dc_Text_20 rfl rfl ?_
  refine y_push (pc := 21) (v := 160) (n := 3) (Or.inr (Or.inr ⟨_, dc_Text_21, by decide, rfl⟩)) ?_
  refine y_newI (pc := 24) (kt := 14) (it := 3) dc_Text_24 cw_207 (by decide) (by decide) rfl (by decide) rfl (by decide) (by decide) (by decide) (by decide) (by decide) ?_
  refine y_putF (pc := 26) (k1 := 3) (ty := xy_Text 3) xy_Text _ dc_Text_26 (by decide) rfl rfl xi_Text xy_Text_ok xn_Text (by decide) cw_217 rfl rfl (xy_Text_ok 3 (by decide)) (fun _ => rfl) (fun _ => rfl) rfl rfl rfl (by decide) rfl ?_
  refine y_ret (pc := 29) dc_Text_29 (by decide) (by decide) (yfl_of (by decide +kernel)) (ycs_of (by decide +kernel)) (fun q hq => ?_) (by decide)
  simp only [List.mem_cons, List.not_mem_nil, or_false] at hq
  rcases hq with rfl | rfl | rfl | rfl <;> (funext k; simp [hu, hrow, Hi])
set_option maxHeartbeats 4000000 in
set_option maxRecDepth 20000 in
theorem k_Text_4 (l : Launch) (cid : Nat → ClassId) (D : va_G) : Mk l cid D ⟨"ThreePoints$Text", "<init>", "()V"⟩ prog_8_method_1_code 1 11 4 [(11, 4), (12, 4), (13, 4), (14, 4)] (yrm 1 3 323) (fun H2 => ∀ q ∈ ([(11, 4), (12, 4), (13, 4), (14, 4)] : List (Nat × Nat)), H2 q.1 q.2 = Hi q.1 q.2) := by
  refine mk_of (HI := Hi) (ls := []) (by decide +kernel) rfl (by decide) (by decide) (by simp) ?_
  refine y_aload (pc := 0) dc_Text_0 rfl rfl ?_
  refine y_objInit (pc := 1) dc_Text_1 cw_213 cw_90 cw_91 rfl (by decide) ?_
  refine y_aload (pc := 4) dc_Text_4 rfl rfl ?_
  refine y_push (pc := 5) (v := 160) (n := 3) (Or.inr (Or.inr ⟨_, dc_Text_5, by decide, rfl⟩)) ?_
  refine y_newI (pc := 8) (kt := 12) (it := 4) dc_Text_8 cw_207 (by decide) (by decide) rfl (by decide) rfl (by decide) (by decide) (by decide) (by decide) (by decide) ?_
  refine y_putF (pc := 10) (k1 := 0) (ty := xy_Text 0) xy_Text _ dc_Text_10 (by decide) rfl rfl xi_Text xy_Text_ok xn_Text (by decide) cw_214 rfl rfl (xy_Text_ok 0 (by decide)) (fun _ => rfl) (fun _ => rfl) rfl rfl rfl (by decide) rfl ?_
  refine y_aload (pc := 13) dc_Text_13 rfl rfl ?_
  refine y_push (pc := 14) (v := 3) (n := 1) (Or.inl ⟨_, dc_Text_14, by decide, rfl⟩) ?_
  refine y_newI (pc := 15) (kt := 13) (it := 4) dc_Text_15 cw_207 (by decide) (by decide) rfl (by decide) rfl (by decide) (by decide) (by decide) (by decide) (by decide) ?_
  refine y_putF (pc := 17) (k1 := 2) (ty := xy_Text 2) xy_Text _ dc_Text_17 (by decide) rfl rfl xi_Text xy_Text_ok xn_Text (by decide) cw_216 rfl rfl (xy_Text_ok 2 (by decide)) (fun _ => rfl) (fun _ => rfl) rfl rfl rfl (by decide) rfl ?_
  refine y_aload (pc := 20) dc_Text_20 rfl rfl ?_
  refine y_push (pc := 21) (v := 160) (n := 3) (Or.inr (Or.inr ⟨_, dc_Text_21, by decide, rfl⟩)) ?_
  refine y_newI (pc := 24) (kt := 14) (it := 4) dc_Text_24 cw_207 (by decide) (by decide) rfl (by decide) rfl (by decide) (by decide) (by decide) (by decide) (by decide) ?_
  refine y_putF (pc := 26) (k1 := 3) (ty := xy_Text 3) xy_Text _ dc_Text_26 (by decide) rfl rfl xi_Text xy_Text_ok xn_Text (by decide) cw_217 rfl rfl (xy_Text_ok 3 (by decide)) (fun _ => rfl) (fun _ => rfl) rfl rfl rfl (by decide) rfl ?_
  refine y_ret (pc := 29) dc_Text_29 (by decide) (by decide) (yfl_of (by decide +kernel)) (ycs_of (by decide +kernel)) (fun q hq => ?_) (by decide)
  simp only [List.mem_cons, List.not_mem_nil, or_false] at hq
  rcases hq with rfl | rfl | rfl | rfl <;> (funext k; simp [hu, hrow, Hi])
set_option maxHeartbeats 4000000 in
set_option maxRecDepth 20000 in
theorem k_Text_5 (l : Launch) (cid : Nat → ClassId) (D : va_G) : Mk l cid D ⟨"ThreePoints$Text", "<init>", "()V"⟩ prog_8_method_1_code 1 11 5 [(11, 5), (12, 5), (13, 5), (14, 5)] (yrm 1 3 323) (fun H2 => ∀ q ∈ ([(11, 5), (12, 5), (13, 5), (14, 5)] : List (Nat × Nat)), H2 q.1 q.2 = Hi q.1 q.2) := by
  refine mk_of (HI := Hi) (ls := []) (by decide +kernel) rfl (by decide) (by decide) (by simp) ?_
  refine y_aload (pc := 0) dc_Text_0 rfl rfl ?_
  refine y_objInit (pc := 1) dc_Text_1 cw_213 cw_90 cw_91 rfl (by decide) ?_
  refine y_aload (pc := 4) dc_Text_4 rfl rfl ?_
  refine y_push (pc := 5) (v := 160) (n := 3) (Or.inr (Or.inr ⟨_, dc_Text_5, by decide, rfl⟩)) ?_
  refine y_newI (pc := 8) (kt := 12) (it := 5) dc_Text_8 cw_207 (by decide) (by decide) rfl (by decide) rfl (by decide) (by decide) (by decide) (by decide) (by decide) ?_
  refine y_putF (pc := 10) (k1 := 0) (ty := xy_Text 0) xy_Text _ dc_Text_10 (by decide) rfl rfl xi_Text xy_Text_ok xn_Text (by decide) cw_214 rfl rfl (xy_Text_ok 0 (by decide)) (fun _ => rfl) (fun _ => rfl) rfl rfl rfl (by decide) rfl ?_
  refine y_aload (pc := 13) dc_Text_13 rfl rfl ?_
  refine y_push (pc := 14) (v := 3) (n := 1) (Or.inl ⟨_, dc_Text_14, by decide, rfl⟩) ?_
  refine y_newI (pc := 15) (kt := 13) (it := 5) dc_Text_15 cw_207 (by decide) (by decide) rfl (by decide) rfl (by decide) (by decide) (by decide) (by decide) (by decide) ?_
  refine y_putF (pc := 17) (k1 := 2) (ty := xy_Text 2) xy_Text _ dc_Text_17 (by decide) rfl rfl xi_Text xy_Text_ok xn_Text (by decide) cw_216 rfl rfl (xy_Text_ok 2 (by decide)) (fun _ => rfl) (fun _ => rfl) rfl rfl rfl (by decide) rfl ?_
  refine y_aload (pc := 20) dc_Text_20 rfl rfl ?_
  refine y_push (pc := 21) (v := 160) (n := 3) (Or.inr (Or.inr ⟨_, dc_Text_21, by decide, rfl⟩)) ?_
  refine y_newI (pc := 24) (kt := 14) (it := 5) dc_Text_24 cw_207 (by decide) (by decide) rfl (by decide) rfl (by decide) (by decide) (by decide) (by decide) (by decide) ?_
  refine y_putF (pc := 26) (k1 := 3) (ty := xy_Text 3) xy_Text _ dc_Text_26 (by decide) rfl rfl xi_Text xy_Text_ok xn_Text (by decide) cw_217 rfl rfl (xy_Text_ok 3 (by decide)) (fun _ => rfl) (fun _ => rfl) rfl rfl rfl (by decide) rfl ?_
  refine y_ret (pc := 29) dc_Text_29 (by decide) (by decide) (yfl_of (by decide +kernel)) (ycs_of (by decide +kernel)) (fun q hq => ?_) (by decide)
  simp only [List.mem_cons, List.not_mem_nil, or_false] at hq
  rcases hq with rfl | rfl | rfl | rfl <;> (funext k; simp [hu, hrow, Hi])
set_option maxHeartbeats 4000000 in
set_option maxRecDepth 20000 in
theorem k_Text_6 (l : Launch) (cid : Nat → ClassId) (D : va_G) : Mk l cid D ⟨"ThreePoints$Text", "<init>", "()V"⟩ prog_8_method_1_code 1 11 6 [(11, 6), (12, 6), (13, 6), (14, 6)] (yrm 1 3 323) (fun H2 => ∀ q ∈ ([(11, 6), (12, 6), (13, 6), (14, 6)] : List (Nat × Nat)), H2 q.1 q.2 = Hi q.1 q.2) := by
  refine mk_of (HI := Hi) (ls := []) (by decide +kernel) rfl (by decide) (by decide) (by simp) ?_
  refine y_aload (pc := 0) dc_Text_0 rfl rfl ?_
  refine y_objInit (pc := 1) dc_Text_1 cw_213 cw_90 cw_91 rfl (by decide) ?_
  refine y_aload (pc := 4) dc_Text_4 rfl rfl ?_
  refine y_push (pc := 5) (v := 160) (n := 3) (Or.inr (Or.inr ⟨_, dc_Text_5, by decide, rfl⟩)) ?_
  refine y_newI (pc := 8) (kt := 12) (it := 6) dc_Text_8 cw_207 (by decide) (by decide) rfl (by decide) rfl (by decide) (by decide) (by decide) (by decide) (by decide) ?_
  refine y_putF (pc := 10) (k1 := 0) (ty := xy_Text 0) xy_Text _ dc_Text_10 (by decide) rfl rfl xi_Text xy_Text_ok xn_Text (by decide) cw_214 rfl rfl (xy_Text_ok 0 (by decide)) (fun _ => rfl) (fun _ => rfl) rfl rfl rfl (by decide) rfl ?_
  refine y_aload (pc := 13) dc_Text_13 rfl rfl ?_
  refine y_push (pc := 14) (v := 3) (n := 1) (Or.inl ⟨_, dc_Text_14, by decide, rfl⟩) ?_
  refine y_newI (pc := 15) (kt := 13) (it := 6) dc_Text_15 cw_207 (by decide) (by decide) rfl (by decide) rfl (by decide) (by decide) (by decide) (by decide) (by decide) ?_
  refine y_putF (pc := 17) (k1 := 2) (ty := xy_Text 2) xy_Text _ dc_Text_17 (by decide) rfl rfl xi_Text xy_Text_ok xn_Text (by decide) cw_216 rfl rfl (xy_Text_ok 2 (by decide)) (fun _ => rfl) (fun _ => rfl) rfl rfl rfl (by decide) rfl ?_
  refine y_aload (pc := 20) dc_Text_20 rfl rfl ?_
  refine y_push (pc := 21) (v := 160) (n := 3) (Or.inr (Or.inr ⟨_, dc_Text_21, by decide, rfl⟩)) ?_
  refine y_newI (pc := 24) (kt := 14) (it := 6) dc_Text_24 cw_207 (by decide) (by decide) rfl (by decide) rfl (by decide) (by decide) (by decide) (by decide) (by decide) ?_
  refine y_putF (pc := 26) (k1 := 3) (ty := xy_Text 3) xy_Text _ dc_Text_26 (by decide) rfl rfl xi_Text xy_Text_ok xn_Text (by decide) cw_217 rfl rfl (xy_Text_ok 3 (by decide)) (fun _ => rfl) (fun _ => rfl) rfl rfl rfl (by decide) rfl ?_
  refine y_ret (pc := 29) dc_Text_29 (by decide) (by decide) (yfl_of (by decide +kernel)) (ycs_of (by decide +kernel)) (fun q hq => ?_) (by decide)
  simp only [List.mem_cons, List.not_mem_nil, or_false] at hq
  rcases hq with rfl | rfl | rfl | rfl <;> (funext k; simp [hu, hrow, Hi])
theorem dc_Tape_0 : decode prog_7_method_1_code 0 = .ok (.aload_n 0, 1) := by decide +kernel
theorem dc_Tape_1 : decode prog_7_method_1_code 1 = .ok (.invokespecial 3, 3) := by decide +kernel
theorem dc_Tape_4 : decode prog_7_method_1_code 4 = .ok (.aload_n 0, 1) := by decide +kernel
theorem dc_Tape_5 : decode prog_7_method_1_code 5 = .ok (.sipush 160, 3) := by decide +kernel
theorem dc_Tape_8 : decode prog_7_method_1_code 8 = .ok (.newarray .int, 2) := by decide +kernel
theorem dc_Tape_10 : decode prog_7_method_1_code 10 = .ok (.putfield 11, 3) := by decide +kernel
theorem dc_Tape_13 : decode prog_7_method_1_code 13 = .ok (.aload_n 0, 1) := by decide +kernel
theorem dc_Tape_14 : decode prog_7_method_1_code 14 = .ok (.sipush 160, 3) := by decide +kernel
theorem dc_Tape_17 : decode prog_7_method_1_code 17 = .ok (.newarray .int, 2) := by decide +kernel
theorem dc_Tape_19 : decode prog_7_method_1_code 19 = .ok (.putfield 15, 3) := by decide +kernel
theorem dc_Tape_22 : decode prog_7_method_1_code 22 = .ok (.aload_n 0, 1) := by decide +kernel
theorem dc_Tape_23 : decode prog_7_method_1_code 23 = .ok (.sipush 160, 3) := by decide +kernel
theorem dc_Tape_26 : decode prog_7_method_1_code 26 = .ok (.newarray .int, 2) := by decide +kernel
theorem dc_Tape_28 : decode prog_7_method_1_code 28 = .ok (.putfield 18, 3) := by decide +kernel
theorem dc_Tape_31 : decode prog_7_method_1_code 31 = .ok (.aload_n 0, 1) := by decide +kernel
theorem dc_Tape_32 : decode prog_7_method_1_code 32 = .ok (.sipush 160, 3) := by decide +kernel
theorem dc_Tape_35 : decode prog_7_method_1_code 35 = .ok (.newarray .int, 2) := by decide +kernel
theorem dc_Tape_37 : decode prog_7_method_1_code 37 = .ok (.putfield 21, 3) := by decide +kernel
theorem dc_Tape_40 : decode prog_7_method_1_code 40 = .ok (.return_, 1) := by decide +kernel
theorem ym_Tape : yM ⟨"ThreePoints$Tape", "<init>", "()V"⟩ prog_7_method_1_code 1 := ⟨cw_185, cw_70, cw_184, rfl, by decide +kernel, by decide⟩
theorem yf_Tape : ∀ j, j < 6 → defaultValue (xy_Tape j) = yz 6 j := by
  intro j hj
  match j, hj with
  | 0, _ => rfl
  | 1, _ => rfl
  | 2, _ => rfl
  | 3, _ => rfl
  | 4, _ => rfl
  | 5, _ => rfl
  | j + 6, h => exact absurd h (by omega)
set_option maxHeartbeats 4000000 in
set_option maxRecDepth 20000 in
theorem k_Tape_0 (l : Launch) (cid : Nat → ClassId) (D : va_G) : Mk l cid D ⟨"ThreePoints$Tape", "<init>", "()V"⟩ prog_7_method_1_code 1 6 0 [(6, 0), (7, 0), (8, 0), (9, 0), (10, 0)] (yrm 1 4 640) (fun H2 => ∀ q ∈ ([(6, 0), (7, 0), (8, 0), (9, 0), (10, 0)] : List (Nat × Nat)), H2 q.1 q.2 = Hi q.1 q.2) := by
  refine mk_of (HI := Hi) (ls := []) (by decide +kernel) rfl (by decide) (by decide) (by simp) ?_
  refine y_aload (pc := 0) dc_Tape_0 rfl rfl ?_
  refine y_objInit (pc := 1) dc_Tape_1 cw_186 cw_90 cw_91 rfl (by decide) ?_
  refine y_aload (pc := 4) dc_Tape_4 rfl rfl ?_
  refine y_push (pc := 5) (v := 160) (n := 3) (Or.inr (Or.inr ⟨_, dc_Tape_5, by decide, rfl⟩)) ?_
  refine y_newI (pc := 8) (kt := 7) (it := 0) dc_Tape_8 cw_207 (by decide) (by decide) rfl (by decide) rfl (by decide) (by decide) (by decide) (by decide) (by decide) ?_
  refine y_putF (pc := 10) (k1 := 0) (ty := xy_Tape 0) xy_Tape _ dc_Tape_10 (by decide) rfl rfl xi_Tape xy_Tape_ok xn_Tape (by decide) cw_187 rfl rfl (xy_Tape_ok 0 (by decide)) (fun _ => rfl) (fun _ => rfl) rfl rfl rfl (by decide) rfl ?_
  refine y_aload (pc := 13) dc_Tape_13 rfl rfl ?_
  refine y_push (pc := 14) (v := 160) (n := 3) (Or.inr (Or.inr ⟨_, dc_Tape_14, by decide, rfl⟩)) ?_
  refine y_newI (pc := 17) (kt := 8) (it := 0) dc_Tape_17 cw_207 (by decide) (by decide) rfl (by decide) rfl (by decide) (by decide) (by decide) (by decide) (by decide) ?_
  refine y_putF (pc := 19) (k1 := 2) (ty := xy_Tape 2) xy_Tape _ dc_Tape_19 (by decide) rfl rfl xi_Tape xy_Tape_ok xn_Tape (by decide) cw_190 rfl rfl (xy_Tape_ok 2 (by decide)) (fun _ => rfl) (fun _ => rfl) rfl rfl rfl (by decide) rfl ?_
  refine y_aload (pc := 22) dc_Tape_22 rfl rfl ?_
  refine y_push (pc := 23) (v := 160) (n := 3) (Or.inr (Or.inr ⟨_, dc_Tape_23, by decide, rfl⟩)) ?_
  refine y_newI (pc := 26) (kt := 9) (it := 0) dc_Tape_26 cw_207 (by decide) (by decide) rfl (by decide) rfl (by decide) (by decide) (by decide) (by decide) (by decide) ?_
  refine y_putF (pc := 28) (k1 := 3) (ty := xy_Tape 3) xy_Tape _ dc_Tape_28 (by decide) rfl rfl xi_Tape xy_Tape_ok xn_Tape (by decide) cw_191 rfl rfl (xy_Tape_ok 3 (by decide)) (fun _ => rfl) (fun _ => rfl) rfl rfl rfl (by decide) rfl ?_
  refine y_aload (pc := 31) dc_Tape_31 rfl rfl ?_
  refine y_push (pc := 32) (v := 160) (n := 3) (Or.inr (Or.inr ⟨_, dc_Tape_32, by decide, rfl⟩)) ?_
  refine y_newI (pc := 35) (kt := 10) (it := 0) dc_Tape_35 cw_207 (by decide) (by decide) rfl (by decide) rfl (by decide) (by decide) (by decide) (by decide) (by decide) ?_
  refine y_putF (pc := 37) (k1 := 4) (ty := xy_Tape 4) xy_Tape _ dc_Tape_37 (by decide) rfl rfl xi_Tape xy_Tape_ok xn_Tape (by decide) cw_192 rfl rfl (xy_Tape_ok 4 (by decide)) (fun _ => rfl) (fun _ => rfl) rfl rfl rfl (by decide) rfl ?_
  refine y_ret (pc := 40) dc_Tape_40 (by decide) (by decide) (yfl_of (by decide +kernel)) (ycs_of (by decide +kernel)) (fun q hq => ?_) (by decide)
  simp only [List.mem_cons, List.not_mem_nil, or_false] at hq
  rcases hq with rfl | rfl | rfl | rfl | rfl <;> (funext k; simp [hu, hrow, Hi])
theorem dc_Search_0 : decode prog_5_method_1_code 0 = .ok (.aload_n 0, 1) := by decide +kernel
theorem dc_Search_1 : decode prog_5_method_1_code 1 = .ok (.invokespecial 5, 3) := by decide +kernel
theorem dc_Search_4 : decode prog_5_method_1_code 4 = .ok (.aload_n 0, 1) := by decide +kernel
theorem dc_Search_5 : decode prog_5_method_1_code 5 = .ok (.sipush 976, 3) := by decide +kernel
theorem dc_Search_8 : decode prog_5_method_1_code 8 = .ok (.newarray .boolean, 2) := by decide +kernel
theorem dc_Search_10 : decode prog_5_method_1_code 10 = .ok (.putfield 11, 3) := by decide +kernel
theorem dc_Search_13 : decode prog_5_method_1_code 13 = .ok (.aload_n 0, 1) := by decide +kernel
theorem dc_Search_14 : decode prog_5_method_1_code 14 = .ok (.sipush 1952, 3) := by decide +kernel
theorem dc_Search_17 : decode prog_5_method_1_code 17 = .ok (.newarray .int, 2) := by decide +kernel
theorem dc_Search_19 : decode prog_5_method_1_code 19 = .ok (.putfield 15, 3) := by decide +kernel
theorem dc_Search_22 : decode prog_5_method_1_code 22 = .ok (.aload_n 0, 1) := by decide +kernel
theorem dc_Search_23 : decode prog_5_method_1_code 23 = .ok (.sipush 128, 3) := by decide +kernel
theorem dc_Search_26 : decode prog_5_method_1_code 26 = .ok (.newarray .int, 2) := by decide +kernel
theorem dc_Search_28 : decode prog_5_method_1_code 28 = .ok (.putfield 19, 3) := by decide +kernel
theorem dc_Search_31 : decode prog_5_method_1_code 31 = .ok (.aload_n 0, 1) := by decide +kernel
theorem dc_Search_32 : decode prog_5_method_1_code 32 = .ok (.sipush 1952, 3) := by decide +kernel
theorem dc_Search_35 : decode prog_5_method_1_code 35 = .ok (.newarray .int, 2) := by decide +kernel
theorem dc_Search_37 : decode prog_5_method_1_code 37 = .ok (.putfield 22, 3) := by decide +kernel
theorem dc_Search_40 : decode prog_5_method_1_code 40 = .ok (.aload_n 0, 1) := by decide +kernel
theorem dc_Search_41 : decode prog_5_method_1_code 41 = .ok (.sipush 1952, 3) := by decide +kernel
theorem dc_Search_44 : decode prog_5_method_1_code 44 = .ok (.newarray .int, 2) := by decide +kernel
theorem dc_Search_46 : decode prog_5_method_1_code 46 = .ok (.putfield 25, 3) := by decide +kernel
theorem dc_Search_49 : decode prog_5_method_1_code 49 = .ok (.return_, 1) := by decide +kernel
theorem ym_Search : yM ⟨"ThreePoints$Search", "<init>", "()V"⟩ prog_5_method_1_code 1 := ⟨cw_281, cw_73, cw_280, rfl, by decide +kernel, by decide⟩
theorem yf_Search : ∀ j, j < 8 → defaultValue (xy_Search j) = yz 21 j := by
  intro j hj
  match j, hj with
  | 0, _ => rfl
  | 1, _ => rfl
  | 2, _ => rfl
  | 3, _ => rfl
  | 4, _ => rfl
  | 5, _ => rfl
  | 6, _ => rfl
  | 7, _ => rfl
  | j + 8, h => exact absurd h (by omega)
set_option maxHeartbeats 4000000 in
set_option maxRecDepth 20000 in
theorem k_Search_0 (l : Launch) (cid : Nat → ClassId) (D : va_G) : Mk l cid D ⟨"ThreePoints$Search", "<init>", "()V"⟩ prog_5_method_1_code 1 21 0 [(21, 0), (22, 0), (23, 0), (24, 0), (25, 0), (26, 0)] (yrm 1 5 6960) (fun H2 => ∀ q ∈ ([(21, 0), (22, 0), (23, 0), (24, 0), (25, 0), (26, 0)] : List (Nat × Nat)), H2 q.1 q.2 = Hi q.1 q.2) := by
  refine mk_of (HI := Hi) (ls := []) (by decide +kernel) rfl (by decide) (by decide) (by simp) ?_
  refine y_aload (pc := 0) dc_Search_0 rfl rfl ?_
  refine y_objInit (pc := 1) dc_Search_1 cw_282 cw_90 cw_91 rfl (by decide) ?_
  refine y_aload (pc := 4) dc_Search_4 rfl rfl ?_
  refine y_push (pc := 5) (v := 976) (n := 3) (Or.inr (Or.inr ⟨_, dc_Search_5, by decide, rfl⟩)) ?_
  refine y_newZ (pc := 8) (kt := 22) (it := 0) dc_Search_8 cw_309 (by decide) (by decide) rfl (by decide) rfl (by decide) (by decide) (by decide) (by decide) (by decide) ?_
  refine y_putF (pc := 10) (k1 := 1) (ty := xy_Search 1) xy_Search _ dc_Search_10 (by decide) rfl rfl xi_Search xy_Search_ok xn_Search (by decide) cw_284 rfl rfl (xy_Search_ok 1 (by decide)) (fun _ => rfl) (fun _ => rfl) rfl rfl rfl (by decide) rfl ?_
  refine y_aload (pc := 13) dc_Search_13 rfl rfl ?_
  refine y_push (pc := 14) (v := 1952) (n := 3) (Or.inr (Or.inr ⟨_, dc_Search_14, by decide, rfl⟩)) ?_
  refine y_newI (pc := 17) (kt := 23) (it := 0) dc_Search_17 cw_207 (by decide) (by decide) rfl (by decide) rfl (by decide) (by decide) (by decide) (by decide) (by decide) ?_
  refine y_putF (pc := 19) (k1 := 2) (ty := xy_Search 2) xy_Search _ dc_Search_19 (by decide) rfl rfl xi_Search xy_Search_ok xn_Search (by decide) cw_285 rfl rfl (xy_Search_ok 2 (by decide)) (fun _ => rfl) (fun _ => rfl) rfl rfl rfl (by decide) rfl ?_
  refine y_aload (pc := 22) dc_Search_22 rfl rfl ?_
  refine y_push (pc := 23) (v := 128) (n := 3) (Or.inr (Or.inr ⟨_, dc_Search_23, by decide, rfl⟩)) ?_
  refine y_newI (pc := 26) (kt := 24) (it := 0) dc_Search_26 cw_207 (by decide) (by decide) rfl (by decide) rfl (by decide) (by decide) (by decide) (by decide) (by decide) ?_
  refine y_putF (pc := 28) (k1 := 3) (ty := xy_Search 3) xy_Search _ dc_Search_28 (by decide) rfl rfl xi_Search xy_Search_ok xn_Search (by decide) cw_286 rfl rfl (xy_Search_ok 3 (by decide)) (fun _ => rfl) (fun _ => rfl) rfl rfl rfl (by decide) rfl ?_
  refine y_aload (pc := 31) dc_Search_31 rfl rfl ?_
  refine y_push (pc := 32) (v := 1952) (n := 3) (Or.inr (Or.inr ⟨_, dc_Search_32, by decide, rfl⟩)) ?_
  refine y_newI (pc := 35) (kt := 25) (it := 0) dc_Search_35 cw_207 (by decide) (by decide) rfl (by decide) rfl (by decide) (by decide) (by decide) (by decide) (by decide) ?_
  refine y_putF (pc := 37) (k1 := 4) (ty := xy_Search 4) xy_Search _ dc_Search_37 (by decide) rfl rfl xi_Search xy_Search_ok xn_Search (by decide) cw_287 rfl rfl (xy_Search_ok 4 (by decide)) (fun _ => rfl) (fun _ => rfl) rfl rfl rfl (by decide) rfl ?_
  refine y_aload (pc := 40) dc_Search_40 rfl rfl ?_
  refine y_push (pc := 41) (v := 1952) (n := 3) (Or.inr (Or.inr ⟨_, dc_Search_41, by decide, rfl⟩)) ?_
  refine y_newI (pc := 44) (kt := 26) (it := 0) dc_Search_44 cw_207 (by decide) (by decide) rfl (by decide) rfl (by decide) (by decide) (by decide) (by decide) (by decide) ?_
  refine y_putF (pc := 46) (k1 := 5) (ty := xy_Search 5) xy_Search _ dc_Search_46 (by decide) rfl rfl xi_Search xy_Search_ok xn_Search (by decide) cw_288 rfl rfl (xy_Search_ok 5 (by decide)) (fun _ => rfl) (fun _ => rfl) rfl rfl rfl (by decide) rfl ?_
  refine y_ret (pc := 49) dc_Search_49 (by decide) (by decide) (yfl_of (by decide +kernel)) (ycs_of (by decide +kernel)) (fun q hq => ?_) (by decide)
  simp only [List.mem_cons, List.not_mem_nil, or_false] at hq
  rcases hq with rfl | rfl | rfl | rfl | rfl | rfl <;> (funext k; simp [hu, hrow, Hi])
