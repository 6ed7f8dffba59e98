/-! MAKING 5: the constructors that make objects. Printed by wip/gen/gen95.py. -/
set_option maxRecDepth 20000 in
theorem cw_66 : Cond.initialized "ThreePoints$Yard" ∈ xtbl := xtbl_at 66 (by decide +kernel) (by decide +kernel)
set_option maxRecDepth 20000 in
theorem cw_69 : Cond.initialized "ThreePoints$Reader" ∈ xtbl := xtbl_at 69 (by decide +kernel) (by decide +kernel)
set_option maxRecDepth 20000 in
theorem cw_72 : Cond.initialized "ThreePoints$Ride" ∈ xtbl := xtbl_at 72 (by decide +kernel) (by decide +kernel)
set_option maxRecDepth 20000 in
theorem cw_95 : Cond.instanceMethod ⟨"ThreePoints$Yard", "<init>", "()V"⟩ ∈ xtbl := xtbl_at 95 (by decide +kernel) (by decide +kernel)
set_option maxRecDepth 20000 in
theorem cw_96 : Cond.code ⟨"ThreePoints$Yard", "<init>", "()V"⟩ prog_10_method_1_code 2 none ∈ xtbl := xtbl_at 96 rfl rfl
set_option maxRecDepth 20000 in
theorem cw_97 : Cond.methodLink "ThreePoints$Yard" 3 ⟨"java/lang/Object", "<init>", "()V"⟩ ∈ xtbl := xtbl_at 97 (by decide +kernel) (by decide +kernel)
set_option maxRecDepth 20000 in
theorem cw_98 : Cond.classLink "ThreePoints$Yard" 9 "ThreePoints$Lane" ∈ xtbl := xtbl_at 98 (by decide +kernel) (by decide +kernel)
set_option maxRecDepth 20000 in
theorem cw_99 : Cond.instantiable "ThreePoints$Lane" 3 ∈ xtbl := xtbl_at 99 (by decide +kernel) (by decide +kernel)
set_option maxRecDepth 20000 in
theorem cw_120 : Cond.classLink "ThreePoints$Yard" 18 "ThreePoints$Vehicle" ∈ xtbl := xtbl_at 120 (by decide +kernel) (by decide +kernel)
set_option maxRecDepth 20000 in
theorem cw_122 : Cond.instantiable "ThreePoints$Vehicle" 7 ∈ xtbl := xtbl_at 122 (by decide +kernel) (by decide +kernel)
set_option maxRecDepth 20000 in
theorem cw_162 : Cond.fieldLink "ThreePoints$Yard" 12 "ThreePoints$Yard" "lane" "LThreePoints$Lane;" ∈ xtbl := xtbl_at 162 (by decide +kernel) (by decide +kernel)
set_option maxRecDepth 20000 in
theorem cw_164 : Cond.fieldLink "ThreePoints$Yard" 20 "ThreePoints$Yard" "vehicles" "[LThreePoints$Vehicle;" ∈ xtbl := xtbl_at 164 (by decide +kernel) (by decide +kernel)
set_option maxRecDepth 20000 in
theorem cw_178 : Cond.instanceMethod ⟨"ThreePoints$Reader", "<init>", "()V"⟩ ∈ xtbl := xtbl_at 178 (by decide +kernel) (by decide +kernel)
set_option maxRecDepth 20000 in
theorem cw_179 : Cond.code ⟨"ThreePoints$Reader", "<init>", "()V"⟩ prog_3_method_1_code 1 none ∈ xtbl := xtbl_at 179 rfl rfl
set_option maxRecDepth 20000 in
theorem cw_180 : Cond.methodLink "ThreePoints$Reader" 3 ⟨"java/lang/Object", "<init>", "()V"⟩ ∈ xtbl := xtbl_at 180 (by decide +kernel) (by decide +kernel)
set_option maxRecDepth 20000 in
theorem cw_181 : Cond.classLink "ThreePoints$Reader" 9 "ThreePoints$Tape" ∈ xtbl := xtbl_at 181 (by decide +kernel) (by decide +kernel)
set_option maxRecDepth 20000 in
theorem cw_182 : Cond.instantiable "ThreePoints$Tape" 6 ∈ xtbl := xtbl_at 182 (by decide +kernel) (by decide +kernel)
set_option maxRecDepth 20000 in
theorem cw_208 : Cond.classLink "ThreePoints$Reader" 18 "ThreePoints$Text" ∈ xtbl := xtbl_at 208 (by decide +kernel) (by decide +kernel)
set_option maxRecDepth 20000 in
theorem cw_209 : Cond.instantiable "ThreePoints$Text" 4 ∈ xtbl := xtbl_at 209 (by decide +kernel) (by decide +kernel)
set_option maxRecDepth 20000 in
theorem cw_227 : Cond.fieldLink "ThreePoints$Reader" 12 "ThreePoints$Reader" "tape" "LThreePoints$Tape;" ∈ xtbl := xtbl_at 227 (by decide +kernel) (by decide +kernel)
set_option maxRecDepth 20000 in
theorem cw_229 : Cond.fieldLink "ThreePoints$Reader" 21 "ThreePoints$Reader" "draft" "LThreePoints$Text;" ∈ xtbl := xtbl_at 229 (by decide +kernel) (by decide +kernel)
set_option maxRecDepth 20000 in
theorem cw_252 : Cond.instanceMethod ⟨"ThreePoints$Ride", "<init>", "()V"⟩ ∈ xtbl := xtbl_at 252 (by decide +kernel) (by decide +kernel)
set_option maxRecDepth 20000 in
theorem cw_253 : Cond.code ⟨"ThreePoints$Ride", "<init>", "()V"⟩ prog_4_method_1_code 1 none ∈ xtbl := xtbl_at 253 rfl rfl
set_option maxRecDepth 20000 in
theorem cw_254 : Cond.methodLink "ThreePoints$Ride" 3 ⟨"java/lang/Object", "<init>", "()V"⟩ ∈ xtbl := xtbl_at 254 (by decide +kernel) (by decide +kernel)
set_option maxRecDepth 20000 in
theorem cw_255 : Cond.classLink "ThreePoints$Ride" 9 "ThreePoints$Lane" ∈ xtbl := xtbl_at 255 (by decide +kernel) (by decide +kernel)
set_option maxRecDepth 20000 in
theorem cw_257 : Cond.classLink "ThreePoints$Ride" 18 "ThreePoints$Vehicle" ∈ xtbl := xtbl_at 257 (by decide +kernel) (by decide +kernel)
set_option maxRecDepth 20000 in
theorem cw_259 : Cond.fieldLink "ThreePoints$Ride" 12 "ThreePoints$Ride" "lane" "LThreePoints$Lane;" ∈ xtbl := xtbl_at 259 (by decide +kernel) (by decide +kernel)
set_option maxRecDepth 20000 in
theorem cw_262 : Cond.fieldLink "ThreePoints$Ride" 21 "ThreePoints$Ride" "vehicle" "LThreePoints$Vehicle;" ∈ xtbl := xtbl_at 262 (by decide +kernel) (by decide +kernel)
set_option maxRecDepth 20000 in
theorem cw_267 : Cond.fieldLink "ThreePoints$Ride" 27 "ThreePoints$Ride" "names" "[I" ∈ xtbl := xtbl_at 267 (by decide +kernel) (by decide +kernel)
theorem dc_Ride_0 : decode prog_4_method_1_code 0 = .ok (.aload_n 0, 1) := by decide +kernel
theorem dc_Ride_1 : decode prog_4_method_1_code 1 = .ok (.invokespecial 3, 3) := by decide +kernel
theorem dc_Ride_4 : decode prog_4_method_1_code 4 = .ok (.aload_n 0, 1) := by decide +kernel
theorem dc_Ride_5 : decode prog_4_method_1_code 5 = .ok (.new 9, 3) := by decide +kernel
theorem dc_Ride_8 : decode prog_4_method_1_code 8 = .ok (.dup, 1) := by decide +kernel
theorem dc_Ride_9 : decode prog_4_method_1_code 9 = .ok (.invokespecial 11, 3) := by decide +kernel
theorem dc_Ride_12 : decode prog_4_method_1_code 12 = .ok (.putfield 12, 3) := by decide +kernel
theorem dc_Ride_15 : decode prog_4_method_1_code 15 = .ok (.aload_n 0, 1) := by decide +kernel
theorem dc_Ride_16 : decode prog_4_method_1_code 16 = .ok (.new 18, 3) := by decide +kernel
theorem dc_Ride_19 : decode prog_4_method_1_code 19 = .ok (.dup, 1) := by decide +kernel
theorem dc_Ride_20 : decode prog_4_method_1_code 20 = .ok (.invokespecial 20, 3) := by decide +kernel
theorem dc_Ride_23 : decode prog_4_method_1_code 23 = .ok (.putfield 21, 3) := by decide +kernel
theorem dc_Ride_26 : decode prog_4_method_1_code 26 = .ok (.aload_n 0, 1) := by decide +kernel
theorem dc_Ride_27 : decode prog_4_method_1_code 27 = .ok (.bipush 6, 2) := by decide +kernel
theorem dc_Ride_29 : decode prog_4_method_1_code 29 = .ok (.newarray .int, 2) := by decide +kernel
theorem dc_Ride_31 : decode prog_4_method_1_code 31 = .ok (.putfield 27, 3) := by decide +kernel
theorem dc_Ride_34 : decode prog_4_method_1_code 34 = .ok (.return_, 1) := by decide +kernel
theorem ym_Ride : yM ⟨"ThreePoints$Ride", "<init>", "()V"⟩ prog_4_method_1_code 1 := ⟨cw_253, cw_72, cw_252, rfl, by decide +kernel, by decide⟩
theorem yf_Ride : ∀ j, j < 4 → defaultValue (xy_Ride j) = yz 19 j := by
  intro j hj
  match j, hj with
  | 0, _ => rfl
  | 1, _ => rfl
  | 2, _ => rfl
  | 3, _ => rfl
  | j + 4, h => exact absurd h (by omega)
set_option maxHeartbeats 4000000 in
set_option maxRecDepth 20000 in
theorem k_Ride_0 (l : Launch) (cid : Nat → ClassId) (D : va_G) : Mk l cid D ⟨"ThreePoints$Ride", "<init>", "()V"⟩ prog_4_method_1_code 1 19 0 [(19, 0), (2, 2), (3, 8), (20, 0)] (yrm 2 3 16) (fun H2 => ∀ q ∈ ([(19, 0), (2, 2), (3, 8), (20, 0)] : List (Nat × Nat)), H2 q.1 q.2 = Hi q.1 q.2) := by
  refine mk_of (HI := Hi) (ls := []) (by decide +kernel) rfl (by decide) (by decide) (by simp) ?_
  refine y_aload (pc := 0) dc_Ride_0 rfl rfl ?_
  refine y_objInit (pc := 1) dc_Ride_1 cw_254 cw_90 cw_91 rfl (by decide) ?_
  refine y_aload (pc := 4) dc_Ride_4 rfl rfl ?_
  refine y_ctor (pc := 5) xy_Lane dc_Ride_5 dc_Ride_8 dc_Ride_9 (k_Lane_2 l cid D) ym_Lane (Or.inr (by decide)) cw_255 cw_99 rfl rfl xi_Lane xy_Lane_ok yf_Lane (by decide) (by decide) (by decide) (by decide) (fun _ => rfl) (by decide) (by decide) (by decide) (by decide) ?_
  refine y_putF (pc := 12) (k1 := 0) (ty := xy_Ride 0) xy_Ride _ dc_Ride_12 (by decide) rfl rfl xi_Ride xy_Ride_ok xn_Ride (by decide) cw_259 rfl rfl (xy_Ride_ok 0 (by decide)) (fun _ => rfl) (fun _ => rfl) rfl rfl rfl (by decide) rfl ?_
  refine y_aload (pc := 15) dc_Ride_15 rfl rfl ?_
  refine y_ctor (pc := 16) xy_Vehicle dc_Ride_16 dc_Ride_19 dc_Ride_20 (k_Vehicle_8 l cid D) ym_Vehicle (Or.inr (by decide)) cw_257 cw_122 rfl rfl xi_Vehicle xy_Vehicle_ok yf_Vehicle (by decide) (by decide) (by decide) (by decide) (fun _ => rfl) (by decide) (by decide) (by decide) (by decide) ?_
  refine y_putF (pc := 23) (k1 := 1) (ty := xy_Ride 1) xy_Ride _ dc_Ride_23 (by decide) rfl rfl xi_Ride xy_Ride_ok xn_Ride (by decide) cw_262 rfl rfl (xy_Ride_ok 1 (by decide)) (fun _ => rfl) (fun _ => rfl) rfl rfl rfl (by decide) rfl ?_
  refine y_aload (pc := 26) dc_Ride_26 rfl rfl ?_
  refine y_push (pc := 27) (v := 6) (n := 2) (Or.inr (Or.inl ⟨_, dc_Ride_27, by decide, rfl⟩)) ?_
  refine y_newI (pc := 29) (kt := 20) (it := 0) dc_Ride_29 cw_207 (by decide) (by decide) rfl (by decide) rfl (by decide) (by decide) (by decide) (by decide) (by decide) ?_
  refine y_putF (pc := 31) (k1 := 3) (ty := xy_Ride 3) xy_Ride _ dc_Ride_31 (by decide) rfl rfl xi_Ride xy_Ride_ok xn_Ride (by decide) cw_267 rfl rfl (xy_Ride_ok 3 (by decide)) (fun _ => rfl) (fun _ => rfl) rfl rfl rfl (by decide) rfl ?_
  refine y_ret (pc := 34) dc_Ride_34 (by decide) (by decide) (yfl_of (by decide +kernel)) (ycs_of (by decide +kernel)) (fun q hq => ?_) (by decide)
  simp only [List.mem_cons, List.not_mem_nil, or_false] at hq
  rcases hq with rfl | rfl | rfl | rfl <;> (funext k; simp [hu, hrow, Hi])
theorem dc_Reader_0 : decode prog_3_method_1_code 0 = .ok (.aload_n 0, 1) := by decide +kernel
theorem dc_Reader_1 : decode prog_3_method_1_code 1 = .ok (.invokespecial 3, 3) := by decide +kernel
theorem dc_Reader_4 : decode prog_3_method_1_code 4 = .ok (.aload_n 0, 1) := by decide +kernel
theorem dc_Reader_5 : decode prog_3_method_1_code 5 = .ok (.new 9, 3) := by decide +kernel
theorem dc_Reader_8 : decode prog_3_method_1_code 8 = .ok (.dup, 1) := by decide +kernel
theorem dc_Reader_9 : decode prog_3_method_1_code 9 = .ok (.invokespecial 11, 3) := by decide +kernel
theorem dc_Reader_12 : decode prog_3_method_1_code 12 = .ok (.putfield 12, 3) := by decide +kernel
theorem dc_Reader_15 : decode prog_3_method_1_code 15 = .ok (.aload_n 0, 1) := by decide +kernel
theorem dc_Reader_16 : decode prog_3_method_1_code 16 = .ok (.new 18, 3) := by decide +kernel
theorem dc_Reader_19 : decode prog_3_method_1_code 19 = .ok (.dup, 1) := by decide +kernel
theorem dc_Reader_20 : decode prog_3_method_1_code 20 = .ok (.invokespecial 20, 3) := by decide +kernel
theorem dc_Reader_23 : decode prog_3_method_1_code 23 = .ok (.putfield 21, 3) := by decide +kernel
theorem dc_Reader_26 : decode prog_3_method_1_code 26 = .ok (.return_, 1) := by decide +kernel
theorem ym_Reader : yM ⟨"ThreePoints$Reader", "<init>", "()V"⟩ prog_3_method_1_code 1 := ⟨cw_179, cw_69, cw_178, rfl, by decide +kernel, by decide⟩
theorem yf_Reader : ∀ j, j < 5 → defaultValue (xy_Reader j) = yz 5 j := by
  intro j hj
  match j, hj with
  | 0, _ => rfl
  | 1, _ => rfl
  | 2, _ => rfl
  | 3, _ => rfl
  | 4, _ => rfl
  | j + 5, h => exact absurd h (by omega)
set_option maxHeartbeats 4000000 in
set_option maxRecDepth 20000 in
theorem k_Reader_0 (l : Launch) (cid : Nat → ClassId) (D : va_G) : Mk l cid D ⟨"ThreePoints$Reader", "<init>", "()V"⟩ prog_3_method_1_code 1 5 0 [(5, 0), (6, 0), (7, 0), (8, 0), (9, 0), (10, 0), (11, 6), (12, 6), (13, 6), (14, 6)] (yrm 2 9 973) (fun H2 => ∀ q ∈ ([(5, 0), (6, 0), (7, 0), (8, 0), (9, 0), (10, 0), (11, 6), (12, 6), (13, 6), (14, 6)] : List (Nat × Nat)), H2 q.1 q.2 = Hi q.1 q.2) := by
  refine mk_of (HI := Hi) (ls := []) (by decide +kernel) rfl (by decide) (by decide) (by simp) ?_
  refine y_aload (pc := 0) dc_Reader_0 rfl rfl ?_
  refine y_objInit (pc := 1) dc_Reader_1 cw_180 cw_90 cw_91 rfl (by decide) ?_
  refine y_aload (pc := 4) dc_Reader_4 rfl rfl ?_
  refine y_ctor (pc := 5) xy_Tape dc_Reader_5 dc_Reader_8 dc_Reader_9 (k_Tape_0 l cid D) ym_Tape (Or.inr (by decide)) cw_181 cw_182 rfl rfl xi_Tape xy_Tape_ok yf_Tape (by decide) (by decide) (by decide) (by decide) (fun _ => rfl) (by decide) (by decide) (by decide) (by decide) ?_
  refine y_putF (pc := 12) (k1 := 0) (ty := xy_Reader 0) xy_Reader _ dc_Reader_12 (by decide) rfl rfl xi_Reader xy_Reader_ok xn_Reader (by decide) cw_227 rfl rfl (xy_Reader_ok 0 (by decide)) (fun _ => rfl) (fun _ => rfl) rfl rfl rfl (by decide) rfl ?_
  refine y_aload (pc := 15) dc_Reader_15 rfl rfl ?_
  refine y_ctor (pc := 16) xy_Text dc_Reader_16 dc_Reader_19 dc_Reader_20 (k_Text_6 l cid D) ym_Text (Or.inr (by decide)) cw_208 cw_209 rfl rfl xi_Text xy_Text_ok yf_Text (by decide) (by decide) (by decide) (by decide) (fun _ => rfl) (by decide) (by decide) (by decide) (by decide) ?_
  refine y_putF (pc := 23) (k1 := 1) (ty := xy_Reader 1) xy_Reader _ dc_Reader_23 (by decide) rfl rfl xi_Reader xy_Reader_ok xn_Reader (by decide) cw_229 rfl rfl (xy_Reader_ok 1 (by decide)) (fun _ => rfl) (fun _ => rfl) rfl rfl rfl (by decide) rfl ?_
  refine y_ret (pc := 26) dc_Reader_26 (by decide) (by decide) (yfl_of (by decide +kernel)) (ycs_of (by decide +kernel)) (fun q hq => ?_) (by decide)
  simp only [List.mem_cons, List.not_mem_nil, or_false] at hq
  rcases hq with rfl | rfl | rfl | rfl | rfl | rfl | rfl | rfl | rfl | rfl <;> (funext k; simp [hu, hrow, Hi])
theorem dc_Yard_0 : decode prog_10_method_1_code 0 = .ok (.aload_n 0, 1) := by decide +kernel
theorem dc_Yard_1 : decode prog_10_method_1_code 1 = .ok (.invokespecial 3, 3) := by decide +kernel
theorem dc_Yard_4 : decode prog_10_method_1_code 4 = .ok (.aload_n 0, 1) := by decide +kernel
theorem dc_Yard_5 : decode prog_10_method_1_code 5 = .ok (.new 9, 3) := by decide +kernel
theorem dc_Yard_8 : decode prog_10_method_1_code 8 = .ok (.dup, 1) := by decide +kernel
theorem dc_Yard_9 : decode prog_10_method_1_code 9 = .ok (.invokespecial 11, 3) := by decide +kernel
theorem dc_Yard_12 : decode prog_10_method_1_code 12 = .ok (.putfield 12, 3) := by decide +kernel
theorem dc_Yard_15 : decode prog_10_method_1_code 15 = .ok (.aload_n 0, 1) := by decide +kernel
theorem dc_Yard_16 : decode prog_10_method_1_code 16 = .ok (.iconst 4, 1) := by decide +kernel
theorem dc_Yard_17 : decode prog_10_method_1_code 17 = .ok (.anewarray 18, 3) := by decide +kernel
theorem dc_Yard_20 : decode prog_10_method_1_code 20 = .ok (.putfield 20, 3) := by decide +kernel
theorem dc_Yard_23 : decode prog_10_method_1_code 23 = .ok (.iconst 0, 1) := by decide +kernel
theorem dc_Yard_24 : decode prog_10_method_1_code 24 = .ok (.istore_n 1, 1) := by decide +kernel
theorem dc_Yard_25 : decode prog_10_method_1_code 25 = .ok (.iload_n 1, 1) := by decide +kernel
theorem dc_Yard_26 : decode prog_10_method_1_code 26 = .ok (.iconst 4, 1) := by decide +kernel
theorem dc_Yard_27 : decode prog_10_method_1_code 27 = .ok (.if_icmp .ge 22, 3) := by decide +kernel
theorem dc_Yard_30 : decode prog_10_method_1_code 30 = .ok (.aload_n 0, 1) := by decide +kernel
theorem dc_Yard_31 : decode prog_10_method_1_code 31 = .ok (.getfield 20, 3) := by decide +kernel
theorem dc_Yard_34 : decode prog_10_method_1_code 34 = .ok (.iload_n 1, 1) := by decide +kernel
theorem dc_Yard_35 : decode prog_10_method_1_code 35 = .ok (.new 18, 3) := by decide +kernel
theorem dc_Yard_38 : decode prog_10_method_1_code 38 = .ok (.dup, 1) := by decide +kernel
theorem dc_Yard_39 : decode prog_10_method_1_code 39 = .ok (.invokespecial 24, 3) := by decide +kernel
theorem dc_Yard_42 : decode prog_10_method_1_code 42 = .ok (.aastore, 1) := by decide +kernel
theorem dc_Yard_43 : decode prog_10_method_1_code 43 = .ok (.iinc 1 1, 3) := by decide +kernel
theorem dc_Yard_46 : decode prog_10_method_1_code 46 = .ok (.goto (-21), 3) := by decide +kernel
theorem dc_Yard_49 : decode prog_10_method_1_code 49 = .ok (.return_, 1) := by decide +kernel
theorem ym_Yard : yM ⟨"ThreePoints$Yard", "<init>", "()V"⟩ prog_10_method_1_code 2 := ⟨cw_96, cw_66, cw_95, rfl, by decide +kernel, by decide⟩
theorem yf_Yard : ∀ j, j < 3 → defaultValue (xy_Yard j) = yz 1 j := by
  intro j hj
  match j, hj with
  | 0, _ => rfl
  | 1, _ => rfl
  | 2, _ => rfl
  | j + 3, h => exact absurd h (by omega)
set_option maxHeartbeats 4000000 in
set_option maxRecDepth 20000 in
theorem k_Yard_0 (l : Launch) (cid : Nat → ClassId) (D : va_G) : Mk l cid D ⟨"ThreePoints$Yard", "<init>", "()V"⟩ prog_10_method_1_code 2 1 0 [(1, 0), (2, 0), (4, 0), (3, 0), (3, 1), (3, 2), (3, 3)] (yrm 2 6 35) (fun H2 => ∀ q ∈ ([(1, 0), (2, 0), (4, 0), (3, 0), (3, 1), (3, 2), (3, 3)] : List (Nat × Nat)), H2 q.1 q.2 = Hi q.1 q.2) := by
  refine mk_of (HI := Hi) (ls := [none]) (by decide +kernel) rfl (by decide) (by decide) (by simp) ?_
  refine y_aload (pc := 0) dc_Yard_0 rfl rfl ?_
  refine y_objInit (pc := 1) dc_Yard_1 cw_97 cw_90 cw_91 rfl (by decide) ?_
  refine y_aload (pc := 4) dc_Yard_4 rfl rfl ?_
  refine y_ctor (pc := 5) xy_Lane dc_Yard_5 dc_Yard_8 dc_Yard_9 (k_Lane_0 l cid D) ym_Lane (Or.inr (by decide)) cw_98 cw_99 rfl rfl xi_Lane xy_Lane_ok yf_Lane (by decide) (by decide) (by decide) (by decide) (fun _ => rfl) (by decide) (by decide) (by decide) (by decide) ?_
  refine y_putF (pc := 12) (k1 := 0) (ty := xy_Yard 0) xy_Yard _ dc_Yard_12 (by decide) rfl rfl xi_Yard xy_Yard_ok xn_Yard (by decide) cw_162 rfl rfl (xy_Yard_ok 0 (by decide)) (fun _ => rfl) (fun _ => rfl) rfl rfl rfl (by decide) rfl ?_
  refine y_aload (pc := 15) dc_Yard_15 rfl rfl ?_
  refine y_push (pc := 16) (v := 4) (n := 1) (Or.inl ⟨_, dc_Yard_16, by decide, rfl⟩) ?_
  refine y_newQ (pc := 17) (kt := 4) (it := 0) (t := 0) dc_Yard_17 cw_120 (fun _ h => h.2.1) (by decide) (by decide) (by decide) rfl (fun _ => rfl) (by decide) (by decide) (by decide) (by decide) (by decide) (by decide) ?_
  refine y_putF (pc := 20) (k1 := 1) (ty := xy_Yard 1) xy_Yard _ dc_Yard_20 (by decide) rfl rfl xi_Yard xy_Yard_ok xn_Yard (by decide) cw_164 rfl rfl (xy_Yard_ok 1 (by decide)) (fun _ => rfl) (fun _ => rfl) rfl rfl rfl (by decide) rfl ?_
  refine y_push (pc := 23) (v := 0) (n := 1) (Or.inl ⟨_, dc_Yard_23, by decide, rfl⟩) ?_
  refine y_istore (pc := 24) dc_Yard_24 rfl (by decide) rfl rfl ?_
  refine y_iload (pc := 25) dc_Yard_25 rfl rfl ?_
  refine y_push (pc := 26) (v := 4) (n := 1) (Or.inl ⟨_, dc_Yard_26, by decide, rfl⟩) ?_
  refine y_icmp_ge (pc := 27) (tgt := 49) dc_Yard_27 (by decide) (fun z => absurd z (by decide)) (fun _ => ?_)
  refine y_aload (pc := 30) dc_Yard_30 rfl rfl ?_
  refine y_getQ (pc := 31) (kd := 1) (k1 := 1) (kt := 4) (it := 0) dc_Yard_31 (by decide) rfl rfl xi_Yard (by decide) cw_164 rfl (by decide +kernel) rfl rfl ?_
  refine y_iload (pc := 34) dc_Yard_34 rfl rfl ?_
  refine y_ctor (pc := 35) xy_Vehicle dc_Yard_35 dc_Yard_38 dc_Yard_39 (k_Vehicle_0 l cid D) ym_Vehicle (Or.inr (by decide)) cw_120 cw_122 rfl rfl xi_Vehicle xy_Vehicle_ok yf_Vehicle (by decide) (by decide) (by decide) (by decide) (fun _ => rfl) (by decide) (by decide) (by decide) (by decide) ?_
  refine y_aast (pc := 42) (T := xT_Vehicle) dc_Yard_42 (by decide) rfl (fun _ => rfl) (by decide) rfl rfl rfl rfl (vp_lit (by decide)) (fun _ => rfl) ?_
  refine y_iinc (pc := 43) (v := 1) dc_Yard_43 rfl (by decide) (by decide) rfl rfl ?_
  refine y_goto (pc := 46) (tgt := 25) dc_Yard_46 (by decide) ?_
  refine y_iload (pc := 25) dc_Yard_25 rfl rfl ?_
  refine y_push (pc := 26) (v := 4) (n := 1) (Or.inl ⟨_, dc_Yard_26, by decide, rfl⟩) ?_
  refine y_icmp_ge (pc := 27) (tgt := 49) dc_Yard_27 (by decide) (fun z => absurd z (by decide)) (fun _ => ?_)
  refine y_aload (pc := 30) dc_Yard_30 rfl rfl ?_
  refine y_getQ (pc := 31) (kd := 1) (k1 := 1) (kt := 4) (it := 0) dc_Yard_31 (by decide) rfl rfl xi_Yard (by decide) cw_164 rfl (by decide +kernel) rfl rfl ?_
  refine y_iload (pc := 34) dc_Yard_34 rfl rfl ?_
  refine y_ctor (pc := 35) xy_Vehicle dc_Yard_35 dc_Yard_38 dc_Yard_39 (k_Vehicle_1 l cid D) ym_Vehicle (Or.inr (by decide)) cw_120 cw_122 rfl rfl xi_Vehicle xy_Vehicle_ok yf_Vehicle (by decide) (by decide) (by decide) (by decide) (fun _ => rfl) (by decide) (by decide) (by decide) (by decide) ?_
  refine y_aast (pc := 42) (T := xT_Vehicle) dc_Yard_42 (by decide) rfl (fun _ => rfl) (by decide) rfl rfl rfl rfl (vp_lit (by decide)) (fun _ => rfl) ?_
  refine y_iinc (pc := 43) (v := 2) dc_Yard_43 rfl (by decide) (by decide) rfl rfl ?_
  refine y_goto (pc := 46) (tgt := 25) dc_Yard_46 (by decide) ?_
  refine y_iload (pc := 25) dc_Yard_25 rfl rfl ?_
  refine y_push (pc := 26) (v := 4) (n := 1) (Or.inl ⟨_, dc_Yard_26, by decide, rfl⟩) ?_
  refine y_icmp_ge (pc := 27) (tgt := 49) dc_Yard_27 (by decide) (fun z => absurd z (by decide)) (fun _ => ?_)
  refine y_aload (pc := 30) dc_Yard_30 rfl rfl ?_
  refine y_getQ (pc := 31) (kd := 1) (k1 := 1) (kt := 4) (it := 0) dc_Yard_31 (by decide) rfl rfl xi_Yard (by decide) cw_164 rfl (by decide +kernel) rfl rfl ?_
  refine y_iload (pc := 34) dc_Yard_34 rfl rfl ?_
  refine y_ctor (pc := 35) xy_Vehicle dc_Yard_35 dc_Yard_38 dc_Yard_39 (k_Vehicle_2 l cid D) ym_Vehicle (Or.inr (by decide)) cw_120 cw_122 rfl rfl xi_Vehicle xy_Vehicle_ok yf_Vehicle (by decide) (by decide) (by decide) (by decide) (fun _ => rfl) (by decide) (by decide) (by decide) (by decide) ?_
  refine y_aast (pc := 42) (T := xT_Vehicle) dc_Yard_42 (by decide) rfl (fun _ => rfl) (by decide) rfl rfl rfl rfl (vp_lit (by decide)) (fun _ => rfl) ?_
  refine y_iinc (pc := 43) (v := 3) dc_Yard_43 rfl (by decide) (by decide) rfl rfl ?_
  refine y_goto (pc := 46) (tgt := 25) dc_Yard_46 (by decide) ?_
  refine y_iload (pc := 25) dc_Yard_25 rfl rfl ?_
  refine y_push (pc := 26) (v := 4) (n := 1) (Or.inl ⟨_, dc_Yard_26, by decide, rfl⟩) ?_
  refine y_icmp_ge (pc := 27) (tgt := 49) dc_Yard_27 (by decide) (fun z => absurd z (by decide)) (fun _ => ?_)
  refine y_aload (pc := 30) dc_Yard_30 rfl rfl ?_
  refine y_getQ (pc := 31) (kd := 1) (k1 := 1) (kt := 4) (it := 0) dc_Yard_31 (by decide) rfl rfl xi_Yard (by decide) cw_164 rfl (by decide +kernel) rfl rfl ?_
  refine y_iload (pc := 34) dc_Yard_34 rfl rfl ?_
  refine y_ctor (pc := 35) xy_Vehicle dc_Yard_35 dc_Yard_38 dc_Yard_39 (k_Vehicle_3 l cid D) ym_Vehicle (Or.inr (by decide)) cw_120 cw_122 rfl rfl xi_Vehicle xy_Vehicle_ok yf_Vehicle (by decide) (by decide) (by decide) (by decide) (fun _ => rfl) (by decide) (by decide) (by decide) (by decide) ?_
  refine y_aast (pc := 42) (T := xT_Vehicle) dc_Yard_42 (by decide) rfl (fun _ => rfl) (by decide) rfl rfl rfl rfl (vp_lit (by decide)) (fun _ => rfl) ?_
  refine y_iinc (pc := 43) (v := 4) dc_Yard_43 rfl (by decide) (by decide) rfl rfl ?_
  refine y_goto (pc := 46) (tgt := 25) dc_Yard_46 (by decide) ?_
  refine y_iload (pc := 25) dc_Yard_25 rfl rfl ?_
  refine y_push (pc := 26) (v := 4) (n := 1) (Or.inl ⟨_, dc_Yard_26, by decide, rfl⟩) ?_
  refine y_icmp_ge (pc := 27) (tgt := 49) dc_Yard_27 (by decide) (fun _ => ?_) (fun z => absurd (by decide) z)
  refine y_ret (pc := 49) dc_Yard_49 (by decide) (by decide) (yfl_of (by decide +kernel)) (ycs_of (by decide +kernel)) (fun q hq => ?_) (by decide)
  simp only [List.mem_cons, List.not_mem_nil, or_false] at hq
  rcases hq with rfl | rfl | rfl | rfl | rfl | rfl | rfl <;> (funext k; simp [hu, hrow, Hi])
set_option maxHeartbeats 4000000 in
set_option maxRecDepth 20000 in
theorem k_Yard_1 (l : Launch) (cid : Nat → ClassId) (D : va_G) : Mk l cid D ⟨"ThreePoints$Yard", "<init>", "()V"⟩ prog_10_method_1_code 2 1 1 [(1, 1), (2, 1), (4, 1), (3, 4), (3, 5), (3, 6), (3, 7)] (yrm 2 6 35) (fun H2 => ∀ q ∈ ([(1, 1), (2, 1), (4, 1), (3, 4), (3, 5), (3, 6), (3, 7)] : List (Nat × Nat)), H2 q.1 q.2 = Hi q.1 q.2) := by
  refine mk_of (HI := Hi) (ls := [none]) (by decide +kernel) rfl (by decide) (by decide) (by simp) ?_
  refine y_aload (pc := 0) dc_Yard_0 rfl rfl ?_
  refine y_objInit (pc := 1) dc_Yard_1 cw_97 cw_90 cw_91 rfl (by decide) ?_
  refine y_aload (pc := 4) dc_Yard_4 rfl rfl ?_
  refine y_ctor (pc := 5) xy_Lane dc_Yard_5 dc_Yard_8 dc_Yard_9 (k_Lane_1 l cid D) ym_Lane (Or.inr (by decide)) cw_98 cw_99 rfl rfl xi_Lane xy_Lane_ok yf_Lane (by decide) (by decide) (by decide) (by decide) (fun _ => rfl) (by decide) (by decide) (by decide) (by decide) ?_
  refine y_putF (pc := 12) (k1 := 0) (ty := xy_Yard 0) xy_Yard _ dc_Yard_12 (by decide) rfl rfl xi_Yard xy_Yard_ok xn_Yard (by decide) cw_162 rfl rfl (xy_Yard_ok 0 (by decide)) (fun _ => rfl) (fun _ => rfl) rfl rfl rfl (by decide) rfl ?_
  refine y_aload (pc := 15) dc_Yard_15 rfl rfl ?_
  refine y_push (pc := 16) (v := 4) (n := 1) (Or.inl ⟨_, dc_Yard_16, by decide, rfl⟩) ?_
  refine y_newQ (pc := 17) (kt := 4) (it := 1) (t := 0) dc_Yard_17 cw_120 (fun _ h => h.2.1) (by decide) (by decide) (by decide) rfl (fun _ => rfl) (by decide) (by decide) (by decide) (by decide) (by decide) (by decide) ?_
  refine y_putF (pc := 20) (k1 := 1) (ty := xy_Yard 1) xy_Yard _ dc_Yard_20 (by decide) rfl rfl xi_Yard xy_Yard_ok xn_Yard (by decide) cw_164 rfl rfl (xy_Yard_ok 1 (by decide)) (fun _ => rfl) (fun _ => rfl) rfl rfl rfl (by decide) rfl ?_
  refine y_push (pc := 23) (v := 0) (n := 1) (Or.inl ⟨_, dc_Yard_23, by decide, rfl⟩) ?_
  refine y_istore (pc := 24) dc_Yard_24 rfl (by decide) rfl rfl ?_
  refine y_iload (pc := 25) dc_Yard_25 rfl rfl ?_
  refine y_push (pc := 26) (v := 4) (n := 1) (Or.inl ⟨_, dc_Yard_26, by decide, rfl⟩) ?_
  refine y_icmp_ge (pc := 27) (tgt := 49) dc_Yard_27 (by decide) (fun z => absurd z (by decide)) (fun _ => ?_)
  refine y_aload (pc := 30) dc_Yard_30 rfl rfl ?_
  refine y_getQ (pc := 31) (kd := 1) (k1 := 1) (kt := 4) (it := 1) dc_Yard_31 (by decide) rfl rfl xi_Yard (by decide) cw_164 rfl (by decide +kernel) rfl rfl ?_
  refine y_iload (pc := 34) dc_Yard_34 rfl rfl ?_
  refine y_ctor (pc := 35) xy_Vehicle dc_Yard_35 dc_Yard_38 dc_Yard_39 (k_Vehicle_4 l cid D) ym_Vehicle (Or.inr (by decide)) cw_120 cw_122 rfl rfl xi_Vehicle xy_Vehicle_ok yf_Vehicle (by decide) (by decide) (by decide) (by decide) (fun _ => rfl) (by decide) (by decide) (by decide) (by decide) ?_
  refine y_aast (pc := 42) (T := xT_Vehicle) dc_Yard_42 (by decide) rfl (fun _ => rfl) (by decide) rfl rfl rfl rfl (vp_lit (by decide)) (fun _ => rfl) ?_
  refine y_iinc (pc := 43) (v := 1) dc_Yard_43 rfl (by decide) (by decide) rfl rfl ?_
  refine y_goto (pc := 46) (tgt := 25) dc_Yard_46 (by decide) ?_
  refine y_iload (pc := 25) dc_Yard_25 rfl rfl ?_
  refine y_push (pc := 26) (v := 4) (n := 1) (Or.inl ⟨_, dc_Yard_26, by decide, rfl⟩) ?_
  refine y_icmp_ge (pc := 27) (tgt := 49) dc_Yard_27 (by decide) (fun z => absurd z (by decide)) (fun _ => ?_)
  refine y_aload (pc := 30) dc_Yard_30 rfl rfl ?_
  refine y_getQ (pc := 31) (kd := 1) (k1 := 1) (kt := 4) (it := 1) dc_Yard_31 (by decide) rfl rfl xi_Yard (by decide) cw_164 rfl (by decide +kernel) rfl rfl ?_
  refine y_iload (pc := 34) dc_Yard_34 rfl rfl ?_
  refine y_ctor (pc := 35) xy_Vehicle dc_Yard_35 dc_Yard_38 dc_Yard_39 (k_Vehicle_5 l cid D) ym_Vehicle (Or.inr (by decide)) cw_120 cw_122 rfl rfl xi_Vehicle xy_Vehicle_ok yf_Vehicle (by decide) (by decide) (by decide) (by decide) (fun _ => rfl) (by decide) (by decide) (by decide) (by decide) ?_
  refine y_aast (pc := 42) (T := xT_Vehicle) dc_Yard_42 (by decide) rfl (fun _ => rfl) (by decide) rfl rfl rfl rfl (vp_lit (by decide)) (fun _ => rfl) ?_
  refine y_iinc (pc := 43) (v := 2) dc_Yard_43 rfl (by decide) (by decide) rfl rfl ?_
  refine y_goto (pc := 46) (tgt := 25) dc_Yard_46 (by decide) ?_
  refine y_iload (pc := 25) dc_Yard_25 rfl rfl ?_
  refine y_push (pc := 26) (v := 4) (n := 1) (Or.inl ⟨_, dc_Yard_26, by decide, rfl⟩) ?_
  refine y_icmp_ge (pc := 27) (tgt := 49) dc_Yard_27 (by decide) (fun z => absurd z (by decide)) (fun _ => ?_)
  refine y_aload (pc := 30) dc_Yard_30 rfl rfl ?_
  refine y_getQ (pc := 31) (kd := 1) (k1 := 1) (kt := 4) (it := 1) dc_Yard_31 (by decide) rfl rfl xi_Yard (by decide) cw_164 rfl (by decide +kernel) rfl rfl ?_
  refine y_iload (pc := 34) dc_Yard_34 rfl rfl ?_
  refine y_ctor (pc := 35) xy_Vehicle dc_Yard_35 dc_Yard_38 dc_Yard_39 (k_Vehicle_6 l cid D) ym_Vehicle (Or.inr (by decide)) cw_120 cw_122 rfl rfl xi_Vehicle xy_Vehicle_ok yf_Vehicle (by decide) (by decide) (by decide) (by decide) (fun _ => rfl) (by decide) (by decide) (by decide) (by decide) ?_
  refine y_aast (pc := 42) (T := xT_Vehicle) dc_Yard_42 (by decide) rfl (fun _ => rfl) (by decide) rfl rfl rfl rfl (vp_lit (by decide)) (fun _ => rfl) ?_
  refine y_iinc (pc := 43) (v := 3) dc_Yard_43 rfl (by decide) (by decide) rfl rfl ?_
  refine y_goto (pc := 46) (tgt := 25) dc_Yard_46 (by decide) ?_
  refine y_iload (pc := 25) dc_Yard_25 rfl rfl ?_
  refine y_push (pc := 26) (v := 4) (n := 1) (Or.inl ⟨_, dc_Yard_26, by decide, rfl⟩) ?_
  refine y_icmp_ge (pc := 27) (tgt := 49) dc_Yard_27 (by decide) (fun z => absurd z (by decide)) (fun _ => ?_)
  refine y_aload (pc := 30) dc_Yard_30 rfl rfl ?_
  refine y_getQ (pc := 31) (kd := 1) (k1 := 1) (kt := 4) (it := 1) dc_Yard_31 (by decide) rfl rfl xi_Yard (by decide) cw_164 rfl (by decide +kernel) rfl rfl ?_
  refine y_iload (pc := 34) dc_Yard_34 rfl rfl ?_
  refine y_ctor (pc := 35) xy_Vehicle dc_Yard_35 dc_Yard_38 dc_Yard_39 (k_Vehicle_7 l cid D) ym_Vehicle (Or.inr (by decide)) cw_120 cw_122 rfl rfl xi_Vehicle xy_Vehicle_ok yf_Vehicle (by decide) (by decide) (by decide) (by decide) (fun _ => rfl) (by decide) (by decide) (by decide) (by decide) ?_
  refine y_aast (pc := 42) (T := xT_Vehicle) dc_Yard_42 (by decide) rfl (fun _ => rfl) (by decide) rfl rfl rfl rfl (vp_lit (by decide)) (fun _ => rfl) ?_
  refine y_iinc (pc := 43) (v := 4) dc_Yard_43 rfl (by decide) (by decide) rfl rfl ?_
  refine y_goto (pc := 46) (tgt := 25) dc_Yard_46 (by decide) ?_
  refine y_iload (pc := 25) dc_Yard_25 rfl rfl ?_
  refine y_push (pc := 26) (v := 4) (n := 1) (Or.inl ⟨_, dc_Yard_26, by decide, rfl⟩) ?_
  refine y_icmp_ge (pc := 27) (tgt := 49) dc_Yard_27 (by decide) (fun _ => ?_) (fun z => absurd (by decide) z)
  refine y_ret (pc := 49) dc_Yard_49 (by decide) (by decide) (yfl_of (by decide +kernel)) (ycs_of (by decide +kernel)) (fun q hq => ?_) (by decide)
  simp only [List.mem_cons, List.not_mem_nil, or_false] at hq
  rcases hq with rfl | rfl | rfl | rfl | rfl | rfl | rfl <;> (funext k; simp [hu, hrow, Hi])
