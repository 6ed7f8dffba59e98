/-! MAKING 8: ThreePointsModel(). Printed by wip/gen/gen99.py. -/
def HM : HH := fun a _ => match a with
  | 7 => T39
  | _ => fun _ => 0
theorem fillOK_app {b : ByteArray} {ys : List Int32} {pm pe : Nat} : ∀ (xs : List Int32) (j pc : Nat), fillOK b j xs pc pm = true → fillOK b (j + xs.length) ys pm pe = true → fillOK b j (xs ++ ys) pc pe = true := by
  intro xs
  induction xs with
  | nil =>
    intro j pc h1 h2
    have e : pc = pm := Nat.eq_of_beq_eq_true h1
    subst e
    exact h2
  | cons v r ih =>
    intro j pc h1 h2
    have h0 : (isI b pc true && (!Nat.beq (psz b (pc + 1) (nI j)) 0 && (!Nat.beq (psz b (pc + 1 + psz b (pc + 1) (nI j)) v) 0 && (isI b (pc + 1 + psz b (pc + 1) (nI j) + psz b (pc + 1 + psz b (pc + 1) (nI j)) v) false && fillOK b (j + 1) r (pc + 1 + psz b (pc + 1) (nI j) + psz b (pc + 1 + psz b (pc + 1) (nI j)) v + 1) pm)))) = true := h1
    show (isI b pc true && (!Nat.beq (psz b (pc + 1) (nI j)) 0 && (!Nat.beq (psz b (pc + 1 + psz b (pc + 1) (nI j)) v) 0 && (isI b (pc + 1 + psz b (pc + 1) (nI j) + psz b (pc + 1 + psz b (pc + 1) (nI j)) v) false && fillOK b (j + 1) (r ++ ys) (pc + 1 + psz b (pc + 1) (nI j) + psz b (pc + 1 + psz b (pc + 1) (nI j)) v + 1) pe)))) = true
    simp only [Bool.and_eq_true] at h0 ⊢
    obtain ⟨q1, q2, q3, q4, q5⟩ := h0
    exact ⟨q1, q2, q3, q4, ih (j + 1) _ q5 (by rw [List.length_cons] at h2; rw [show j + 1 + r.length = j + (r.length + 1) by omega]; exact h2)⟩
abbrev lw39 : List Int32 := [99, 108, 101, 97, 114, 115, 32, 49, 32, 59, 32, 119, 101, 97, 114, 115, 32, 49, 32, 43, 32, 115, 116, 101, 101, 114, 115, 32, 59, 32, 115, 117, 114, 101, 32, 57, 48, 32, 59]
theorem lw39_T : ∀ i, i < 39 → lw39.getD i 0 = T39 i := by decide +kernel
/-- what the reference has made -/
def QR (H : HH) : Prop := H 30 0 3 = 0 ∧ H 30 0 1 = 40 ∧ H 30 0 2 = 0 ∧ H 30 0 12 = 0 ∧ H 30 0 11 = 1 ∧ H 30 0 8 = 0 ∧ H 30 0 13 = 0 ∧ (∀ k, k < 16 → H 31 0 k = xACR.getD k 0) ∧ (∀ k, k < 96 → H 44 0 k = wdsL.getD k 0) ∧ (∀ u, u < 4 → H 40 0 u = -1 ∧ H 41 0 u = 0) ∧ (∀ k, H 42 0 k = 0) ∧ H 37 0 0 = 0 ∧ H 37 0 1 = 1 ∧ H 37 0 2 = 4 ∧ H 37 0 3 = 5 ∧ ∀ i, i < 5 → H 36 0 i = mcv (cO3.getD i 0)
/-- what stands ahead of the text -/
def QS (H : HH) : Prop := H 30 0 3 = 0 ∧ H 30 0 1 = 40 ∧ H 30 0 2 = 0 ∧ H 30 0 12 = 0 ∧ H 30 0 11 = 0 ∧ H 30 0 13 = 0 ∧ (∀ k, k < 16 → H 31 0 k = xACR.getD k 0) ∧ (∀ k, k < 96 → H 44 0 k = wdsL.getD k 0) ∧ (∀ u, u < 4 → H 40 0 u = -1 ∧ H 41 0 u = 0) ∧ (∀ k, H 42 0 k = 0) ∧ (∀ i, i < 39 → H 35 0 i = T39 i) ∧ H 7 0 = T39
theorem s_text0 {E : XE} {d : Nat} {H : HH} (h : QS H) : c_Model_text E (d + 5) (hu H 30 0 8 39) (fun _ G => QR G) := by
  obtain ⟨a1, a2, a3, a4, a5, a6, a7, a8, a9, a10, a11, a12⟩ := h
  have z30 : ∀ k, k ≠ 8 → hu H 30 0 8 39 30 0 k = H 30 0 k := fun k hk => hu_ne (fun z => hk z.2.2)
  have zk : ∀ a, a ≠ 30 → hu H 30 0 8 39 a = H a := fun a ha => hu_kd _ _ _ _ ha
  have z7 : hu H 30 0 8 39 7 0 = T39 := by rw [zk 7 (by decide)]; exact a12
  refine s_Model_text (d := d) (n := 39) (nt := 0) (by rw [z30 11 (by decide)]; exact a5) (by decide) (hu_at _ _ _ _ _) (by decide) (fun k hk => by rw [zk 44 (by decide)]; exact a8 k hk) (fun i hi => by rw [z7, zk 35 (by decide)]; exact a11 i hi) ?_ ?_
  · intro G o1 o2 o3 ty hf g8 g11 g0 g1 g2 g3 gc
    rw [z7] at ty
    obtain ⟨rfl, rfl, rfl⟩ := txY_det tx0 ty
    have f30 : ∀ k, k ≠ 8 → k ≠ 11 → k < 20 → G 30 0 k = H 30 0 k := fun k h1 h2 h3 => by rw [hf 30 0 k (by unfold txF erF; omega) (by omega)]; exact z30 k h1
    have fk : ∀ a i k, a ≠ 30 → a ≠ 45 → a ≠ 36 → a ≠ 37 → G a i k = H a i k := fun a i k h1 h2 h3 h4 => by rw [hf a i k (by unfold txF erF; omega) (by omega), zk a h1]
    exact ⟨by rw [f30 3 (by decide) (by decide) (by decide)]; exact a1, by rw [f30 1 (by decide) (by decide) (by decide)]; exact a2, by rw [f30 2 (by decide) (by decide) (by decide)]; exact a3, by rw [f30 12 (by decide) (by decide) (by decide)]; exact a4, g11, g8, by rw [f30 13 (by decide) (by decide) (by decide)]; exact a6, fun k hk => by rw [fk 31 0 k (by decide) (by decide) (by decide) (by decide)]; exact a7 k hk, fun k hk => by rw [fk 44 0 k (by decide) (by decide) (by decide) (by decide)]; exact a8 k hk, fun u hu4 => by rw [fk 40 0 u (by decide) (by decide) (by decide) (by decide), fk 41 0 u (by decide) (by decide) (by decide) (by decide)]; exact a9 u hu4, fun k => by rw [fk 42 0 k (by decide) (by decide) (by decide) (by decide)]; exact a10 k, g0, g1, g2, g3, fun i hi => by
      have := gc i hi
      rw [Nat.mul_zero, Nat.zero_add] at this
      exact this⟩
  · intro G tf tn _ _ _
    rw [z7] at tn
    exact absurd tn (fun z => txYN tx0 z)
set_option maxRecDepth 20000 in
theorem cw_83 : Cond.initialized "ThreePointsModel" ∈ xtbl := xtbl_at 83 (by decide +kernel) (by decide +kernel)
set_option maxRecDepth 20000 in
theorem cw_976 : Cond.instanceMethod ⟨"ThreePointsModel", "<init>", "()V"⟩ ∈ xtbl := xtbl_at 976 (by decide +kernel) (by decide +kernel)
set_option maxRecDepth 20000 in
theorem cw_977 : Cond.code ⟨"ThreePointsModel", "<init>", "()V"⟩ prog_12_method_1_code 2 none ∈ xtbl := xtbl_at 977 rfl rfl
set_option maxRecDepth 20000 in
theorem cw_978 : Cond.methodLink "ThreePointsModel" 1 ⟨"java/lang/Object", "<init>", "()V"⟩ ∈ xtbl := xtbl_at 978 (by decide +kernel) (by decide +kernel)
set_option maxRecDepth 20000 in
theorem cw_979 : Cond.methodLink "ThreePointsModel" 90 ⟨"ThreePointsModel", "text", "()I"⟩ ∈ xtbl := xtbl_at 979 (by decide +kernel) (by decide +kernel)
set_option maxRecDepth 20000 in
theorem cw_980 : Cond.instanceMethod ⟨"ThreePointsModel", "text", "()I"⟩ ∈ xtbl := xtbl_at 980 (by decide +kernel) (by decide +kernel)
set_option maxRecDepth 20000 in
theorem cw_981 : Cond.selects "ThreePointsModel" ⟨"ThreePointsModel", "text", "()I"⟩ ⟨"ThreePointsModel", "text", "()I"⟩ ∈ xtbl := xtbl_at 981 (by decide +kernel) (by decide +kernel)
set_option maxRecDepth 20000 in
theorem cw_1026 : Cond.fieldLink "ThreePointsModel" 7 "ThreePointsModel" "across" "[I" ∈ xtbl := xtbl_at 1026 (by decide +kernel) (by decide +kernel)
set_option maxRecDepth 20000 in
theorem cw_1027 : Cond.fieldLink "ThreePointsModel" 13 "ThreePointsModel" "width" "I" ∈ xtbl := xtbl_at 1027 (by decide +kernel) (by decide +kernel)
set_option maxRecDepth 20000 in
theorem cw_1030 : Cond.fieldLink "ThreePointsModel" 17 "ThreePointsModel" "kind" "[I" ∈ xtbl := xtbl_at 1030 (by decide +kernel) (by decide +kernel)
set_option maxRecDepth 20000 in
theorem cw_1031 : Cond.fieldLink "ThreePointsModel" 20 "ThreePointsModel" "moreOf" "[I" ∈ xtbl := xtbl_at 1031 (by decide +kernel) (by decide +kernel)
set_option maxRecDepth 20000 in
theorem cw_1032 : Cond.fieldLink "ThreePointsModel" 23 "ThreePointsModel" "rows" "[I" ∈ xtbl := xtbl_at 1032 (by decide +kernel) (by decide +kernel)
set_option maxRecDepth 20000 in
theorem cw_1033 : Cond.fieldLink "ThreePointsModel" 26 "ThreePointsModel" "tape" "[I" ∈ xtbl := xtbl_at 1033 (by decide +kernel) (by decide +kernel)
set_option maxRecDepth 20000 in
theorem cw_1034 : Cond.fieldLink "ThreePointsModel" 87 "ThreePointsModel" "taped" "I" ∈ xtbl := xtbl_at 1034 (by decide +kernel) (by decide +kernel)
set_option maxRecDepth 20000 in
theorem cw_1035 : Cond.fieldLink "ThreePointsModel" 29 "ThreePointsModel" "codes" "[I" ∈ xtbl := xtbl_at 1035 (by decide +kernel) (by decide +kernel)
set_option maxRecDepth 20000 in
theorem cw_1036 : Cond.fieldLink "ThreePointsModel" 32 "ThreePointsModel" "starts" "[I" ∈ xtbl := xtbl_at 1036 (by decide +kernel) (by decide +kernel)
set_option maxRecDepth 20000 in
theorem cw_1040 : Cond.fieldLink "ThreePointsModel" 35 "ThreePointsModel" "imageRows" "[I" ∈ xtbl := xtbl_at 1040 (by decide +kernel) (by decide +kernel)
set_option maxRecDepth 20000 in
theorem cw_1041 : Cond.fieldLink "ThreePointsModel" 38 "ThreePointsModel" "imageHeld" "[I" ∈ xtbl := xtbl_at 1041 (by decide +kernel) (by decide +kernel)
set_option maxRecDepth 20000 in
theorem cw_1042 : Cond.fieldLink "ThreePointsModel" 41 "ThreePointsModel" "sheetSort" "[I" ∈ xtbl := xtbl_at 1042 (by decide +kernel) (by decide +kernel)
set_option maxRecDepth 20000 in
theorem cw_1043 : Cond.fieldLink "ThreePointsModel" 44 "ThreePointsModel" "sheetSize" "[I" ∈ xtbl := xtbl_at 1043 (by decide +kernel) (by decide +kernel)
set_option maxRecDepth 20000 in
theorem cw_1044 : Cond.fieldLink "ThreePointsModel" 47 "ThreePointsModel" "cells" "[I" ∈ xtbl := xtbl_at 1044 (by decide +kernel) (by decide +kernel)
set_option maxRecDepth 20000 in
theorem cw_1045 : Cond.fieldLink "ThreePointsModel" 50 "ThreePointsModel" "law" "[I" ∈ xtbl := xtbl_at 1045 (by decide +kernel) (by decide +kernel)
set_option maxRecDepth 20000 in
theorem cw_1050 : Cond.fieldLink "ThreePointsModel" 53 "ThreePointsModel" "words" "[I" ∈ xtbl := xtbl_at 1050 (by decide +kernel) (by decide +kernel)
set_option maxRecDepth 20000 in
theorem cw_1051 : Cond.fieldLink "ThreePointsModel" 56 "ThreePointsModel" "held" "[I" ∈ xtbl := xtbl_at 1051 (by decide +kernel) (by decide +kernel)
set_option maxRecDepth 20000 in
theorem cw_1055 : Cond.fieldLink "ThreePointsModel" 59 "ThreePointsModel" "stack" "[I" ∈ xtbl := xtbl_at 1055 (by decide +kernel) (by decide +kernel)
set_option maxRecDepth 20000 in
theorem cw_1056 : Cond.fieldLink "ThreePointsModel" 62 "ThreePointsModel" "named" "[I" ∈ xtbl := xtbl_at 1056 (by decide +kernel) (by decide +kernel)
set_option maxRecDepth 20000 in
theorem cw_1057 : Cond.fieldLink "ThreePointsModel" 65 "ThreePointsModel" "fitsIn" "[Z" ∈ xtbl := xtbl_at 1057 (by decide +kernel) (by decide +kernel)
set_option maxRecDepth 20000 in
theorem cw_1058 : Cond.fieldLink "ThreePointsModel" 69 "ThreePointsModel" "wearIn" "[I" ∈ xtbl := xtbl_at 1058 (by decide +kernel) (by decide +kernel)
set_option maxRecDepth 20000 in
theorem cw_1059 : Cond.fieldLink "ThreePointsModel" 72 "ThreePointsModel" "dist" "[I" ∈ xtbl := xtbl_at 1059 (by decide +kernel) (by decide +kernel)
set_option maxRecDepth 20000 in
theorem cw_1060 : Cond.fieldLink "ThreePointsModel" 75 "ThreePointsModel" "queued" "[Z" ∈ xtbl := xtbl_at 1060 (by decide +kernel) (by decide +kernel)
set_option maxRecDepth 20000 in
theorem cw_1061 : Cond.fieldLink "ThreePointsModel" 78 "ThreePointsModel" "queue" "[I" ∈ xtbl := xtbl_at 1061 (by decide +kernel) (by decide +kernel)
set_option maxRecDepth 20000 in
theorem cw_1062 : Cond.fieldLink "ThreePointsModel" 81 "ThreePointsModel" "kept" "[I" ∈ xtbl := xtbl_at 1062 (by decide +kernel) (by decide +kernel)
set_option maxRecDepth 20000 in
theorem cw_1063 : Cond.fieldLink "ThreePointsModel" 84 "ThreePointsModel" "last" "[I" ∈ xtbl := xtbl_at 1063 (by decide +kernel) (by decide +kernel)
theorem dc_Model_0 : decode prog_12_method_1_code 0 = .ok (.aload_n 0, 1) := by decide +kernel
theorem dc_Model_1 : decode prog_12_method_1_code 1 = .ok (.invokespecial 1, 3) := by decide +kernel
theorem dc_Model_4 : decode prog_12_method_1_code 4 = .ok (.aload_n 0, 1) := by decide +kernel
theorem dc_Model_5 : decode prog_12_method_1_code 5 = .ok (.bipush 16, 2) := by decide +kernel
theorem dc_Model_7 : decode prog_12_method_1_code 7 = .ok (.newarray .int, 2) := by decide +kernel
theorem dc_Model_95 : decode prog_12_method_1_code 95 = .ok (.putfield 7, 3) := by decide +kernel
theorem dc_Model_98 : decode prog_12_method_1_code 98 = .ok (.aload_n 0, 1) := by decide +kernel
theorem dc_Model_99 : decode prog_12_method_1_code 99 = .ok (.bipush 40, 2) := by decide +kernel
theorem dc_Model_101 : decode prog_12_method_1_code 101 = .ok (.putfield 13, 3) := by decide +kernel
theorem dc_Model_104 : decode prog_12_method_1_code 104 = .ok (.aload_n 0, 1) := by decide +kernel
theorem dc_Model_105 : decode prog_12_method_1_code 105 = .ok (.iconst 4, 1) := by decide +kernel
theorem dc_Model_106 : decode prog_12_method_1_code 106 = .ok (.newarray .int, 2) := by decide +kernel
theorem dc_Model_108 : decode prog_12_method_1_code 108 = .ok (.putfield 17, 3) := by decide +kernel
theorem dc_Model_111 : decode prog_12_method_1_code 111 = .ok (.aload_n 0, 1) := by decide +kernel
theorem dc_Model_112 : decode prog_12_method_1_code 112 = .ok (.iconst 4, 1) := by decide +kernel
theorem dc_Model_113 : decode prog_12_method_1_code 113 = .ok (.newarray .int, 2) := by decide +kernel
theorem dc_Model_115 : decode prog_12_method_1_code 115 = .ok (.putfield 20, 3) := by decide +kernel
theorem dc_Model_118 : decode prog_12_method_1_code 118 = .ok (.aload_n 0, 1) := by decide +kernel
theorem dc_Model_119 : decode prog_12_method_1_code 119 = .ok (.bipush 20, 2) := by decide +kernel
theorem dc_Model_121 : decode prog_12_method_1_code 121 = .ok (.newarray .int, 2) := by decide +kernel
theorem dc_Model_123 : decode prog_12_method_1_code 123 = .ok (.putfield 23, 3) := by decide +kernel
theorem dc_Model_126 : decode prog_12_method_1_code 126 = .ok (.aload_n 0, 1) := by decide +kernel
theorem dc_Model_127 : decode prog_12_method_1_code 127 = .ok (.sipush 160, 3) := by decide +kernel
theorem dc_Model_130 : decode prog_12_method_1_code 130 = .ok (.newarray .int, 2) := by decide +kernel
theorem dc_Model_132 : decode prog_12_method_1_code 132 = .ok (.putfield 26, 3) := by decide +kernel
theorem dc_Model_135 : decode prog_12_method_1_code 135 = .ok (.aload_n 0, 1) := by decide +kernel
theorem dc_Model_136 : decode prog_12_method_1_code 136 = .ok (.sipush 1200, 3) := by decide +kernel
theorem dc_Model_139 : decode prog_12_method_1_code 139 = .ok (.newarray .int, 2) := by decide +kernel
theorem dc_Model_141 : decode prog_12_method_1_code 141 = .ok (.putfield 29, 3) := by decide +kernel
theorem dc_Model_144 : decode prog_12_method_1_code 144 = .ok (.aload_n 0, 1) := by decide +kernel
theorem dc_Model_145 : decode prog_12_method_1_code 145 = .ok (.bipush 24, 2) := by decide +kernel
theorem dc_Model_147 : decode prog_12_method_1_code 147 = .ok (.newarray .int, 2) := by decide +kernel
theorem dc_Model_149 : decode prog_12_method_1_code 149 = .ok (.putfield 32, 3) := by decide +kernel
theorem dc_Model_152 : decode prog_12_method_1_code 152 = .ok (.aload_n 0, 1) := by decide +kernel
theorem dc_Model_153 : decode prog_12_method_1_code 153 = .ok (.bipush 20, 2) := by decide +kernel
theorem dc_Model_155 : decode prog_12_method_1_code 155 = .ok (.newarray .int, 2) := by decide +kernel
theorem dc_Model_157 : decode prog_12_method_1_code 157 = .ok (.putfield 35, 3) := by decide +kernel
theorem dc_Model_160 : decode prog_12_method_1_code 160 = .ok (.aload_n 0, 1) := by decide +kernel
theorem dc_Model_161 : decode prog_12_method_1_code 161 = .ok (.iconst 4, 1) := by decide +kernel
theorem dc_Model_162 : decode prog_12_method_1_code 162 = .ok (.newarray .int, 2) := by decide +kernel
theorem dc_Model_164 : decode prog_12_method_1_code 164 = .ok (.putfield 38, 3) := by decide +kernel
theorem dc_Model_167 : decode prog_12_method_1_code 167 = .ok (.aload_n 0, 1) := by decide +kernel
theorem dc_Model_168 : decode prog_12_method_1_code 168 = .ok (.iconst 4, 1) := by decide +kernel
theorem dc_Model_169 : decode prog_12_method_1_code 169 = .ok (.newarray .int, 2) := by decide +kernel
theorem dc_Model_187 : decode prog_12_method_1_code 187 = .ok (.putfield 41, 3) := by decide +kernel
theorem dc_Model_190 : decode prog_12_method_1_code 190 = .ok (.aload_n 0, 1) := by decide +kernel
theorem dc_Model_191 : decode prog_12_method_1_code 191 = .ok (.iconst 4, 1) := by decide +kernel
theorem dc_Model_192 : decode prog_12_method_1_code 192 = .ok (.newarray .int, 2) := by decide +kernel
theorem dc_Model_194 : decode prog_12_method_1_code 194 = .ok (.putfield 44, 3) := by decide +kernel
theorem dc_Model_197 : decode prog_12_method_1_code 197 = .ok (.aload_n 0, 1) := by decide +kernel
theorem dc_Model_198 : decode prog_12_method_1_code 198 = .ok (.sipush 160, 3) := by decide +kernel
theorem dc_Model_201 : decode prog_12_method_1_code 201 = .ok (.newarray .int, 2) := by decide +kernel
theorem dc_Model_203 : decode prog_12_method_1_code 203 = .ok (.putfield 47, 3) := by decide +kernel
theorem dc_Model_206 : decode prog_12_method_1_code 206 = .ok (.aload_n 0, 1) := by decide +kernel
theorem dc_Model_207 : decode prog_12_method_1_code 207 = .ok (.bipush 39, 2) := by decide +kernel
theorem dc_Model_209 : decode prog_12_method_1_code 209 = .ok (.newarray .int, 2) := by decide +kernel
theorem dc_Model_439 : decode prog_12_method_1_code 439 = .ok (.putfield 50, 3) := by decide +kernel
theorem dc_Model_442 : decode prog_12_method_1_code 442 = .ok (.aload_n 0, 1) := by decide +kernel
theorem dc_Model_443 : decode prog_12_method_1_code 443 = .ok (.bipush 96, 2) := by decide +kernel
theorem dc_Model_445 : decode prog_12_method_1_code 445 = .ok (.newarray .int, 2) := by decide +kernel
theorem dc_Model_1017 : decode prog_12_method_1_code 1017 = .ok (.putfield 53, 3) := by decide +kernel
theorem dc_Model_1020 : decode prog_12_method_1_code 1020 = .ok (.aload_n 0, 1) := by decide +kernel
theorem dc_Model_1021 : decode prog_12_method_1_code 1021 = .ok (.sipush 200, 3) := by decide +kernel
theorem dc_Model_1024 : decode prog_12_method_1_code 1024 = .ok (.newarray .int, 2) := by decide +kernel
theorem dc_Model_1026 : decode prog_12_method_1_code 1026 = .ok (.putfield 56, 3) := by decide +kernel
theorem dc_Model_1029 : decode prog_12_method_1_code 1029 = .ok (.aload_n 0, 1) := by decide +kernel
theorem dc_Model_1030 : decode prog_12_method_1_code 1030 = .ok (.sipush 200, 3) := by decide +kernel
theorem dc_Model_1033 : decode prog_12_method_1_code 1033 = .ok (.newarray .int, 2) := by decide +kernel
theorem dc_Model_1035 : decode prog_12_method_1_code 1035 = .ok (.putfield 59, 3) := by decide +kernel
theorem dc_Model_1038 : decode prog_12_method_1_code 1038 = .ok (.aload_n 0, 1) := by decide +kernel
theorem dc_Model_1039 : decode prog_12_method_1_code 1039 = .ok (.bipush 6, 2) := by decide +kernel
theorem dc_Model_1041 : decode prog_12_method_1_code 1041 = .ok (.newarray .int, 2) := by decide +kernel
theorem dc_Model_1043 : decode prog_12_method_1_code 1043 = .ok (.putfield 62, 3) := by decide +kernel
theorem dc_Model_1046 : decode prog_12_method_1_code 1046 = .ok (.aload_n 0, 1) := by decide +kernel
theorem dc_Model_1047 : decode prog_12_method_1_code 1047 = .ok (.sipush 976, 3) := by decide +kernel
theorem dc_Model_1050 : decode prog_12_method_1_code 1050 = .ok (.newarray .boolean, 2) := by decide +kernel
theorem dc_Model_1052 : decode prog_12_method_1_code 1052 = .ok (.putfield 65, 3) := by decide +kernel
theorem dc_Model_1055 : decode prog_12_method_1_code 1055 = .ok (.aload_n 0, 1) := by decide +kernel
theorem dc_Model_1056 : decode prog_12_method_1_code 1056 = .ok (.sipush 1952, 3) := by decide +kernel
theorem dc_Model_1059 : decode prog_12_method_1_code 1059 = .ok (.newarray .int, 2) := by decide +kernel
theorem dc_Model_1061 : decode prog_12_method_1_code 1061 = .ok (.putfield 69, 3) := by decide +kernel
theorem dc_Model_1064 : decode prog_12_method_1_code 1064 = .ok (.aload_n 0, 1) := by decide +kernel
theorem dc_Model_1065 : decode prog_12_method_1_code 1065 = .ok (.sipush 2928, 3) := by decide +kernel
theorem dc_Model_1068 : decode prog_12_method_1_code 1068 = .ok (.newarray .int, 2) := by decide +kernel
theorem dc_Model_1070 : decode prog_12_method_1_code 1070 = .ok (.putfield 72, 3) := by decide +kernel
theorem dc_Model_1073 : decode prog_12_method_1_code 1073 = .ok (.aload_n 0, 1) := by decide +kernel
theorem dc_Model_1074 : decode prog_12_method_1_code 1074 = .ok (.sipush 2928, 3) := by decide +kernel
theorem dc_Model_1077 : decode prog_12_method_1_code 1077 = .ok (.newarray .boolean, 2) := by decide +kernel
theorem dc_Model_1079 : decode prog_12_method_1_code 1079 = .ok (.putfield 75, 3) := by decide +kernel
theorem dc_Model_1082 : decode prog_12_method_1_code 1082 = .ok (.aload_n 0, 1) := by decide +kernel
theorem dc_Model_1083 : decode prog_12_method_1_code 1083 = .ok (.sipush 2928, 3) := by decide +kernel
theorem dc_Model_1086 : decode prog_12_method_1_code 1086 = .ok (.newarray .int, 2) := by decide +kernel
theorem dc_Model_1088 : decode prog_12_method_1_code 1088 = .ok (.putfield 78, 3) := by decide +kernel
theorem dc_Model_1091 : decode prog_12_method_1_code 1091 = .ok (.aload_n 0, 1) := by decide +kernel
theorem dc_Model_1092 : decode prog_12_method_1_code 1092 = .ok (.iconst 5, 1) := by decide +kernel
theorem dc_Model_1093 : decode prog_12_method_1_code 1093 = .ok (.newarray .int, 2) := by decide +kernel
theorem dc_Model_1095 : decode prog_12_method_1_code 1095 = .ok (.putfield 81, 3) := by decide +kernel
theorem dc_Model_1098 : decode prog_12_method_1_code 1098 = .ok (.aload_n 0, 1) := by decide +kernel
theorem dc_Model_1099 : decode prog_12_method_1_code 1099 = .ok (.iconst 5, 1) := by decide +kernel
theorem dc_Model_1100 : decode prog_12_method_1_code 1100 = .ok (.newarray .int, 2) := by decide +kernel
theorem dc_Model_1102 : decode prog_12_method_1_code 1102 = .ok (.putfield 84, 3) := by decide +kernel
theorem dc_Model_1105 : decode prog_12_method_1_code 1105 = .ok (.iconst 0, 1) := by decide +kernel
theorem dc_Model_1106 : decode prog_12_method_1_code 1106 = .ok (.istore_n 1, 1) := by decide +kernel
theorem dc_Model_1107 : decode prog_12_method_1_code 1107 = .ok (.iload_n 1, 1) := by decide +kernel
theorem dc_Model_1108 : decode prog_12_method_1_code 1108 = .ok (.bipush 39, 2) := by decide +kernel
theorem dc_Model_1110 : decode prog_12_method_1_code 1110 = .ok (.if_icmp .ge 21, 3) := by decide +kernel
theorem dc_Model_1113 : decode prog_12_method_1_code 1113 = .ok (.aload_n 0, 1) := by decide +kernel
theorem dc_Model_1114 : decode prog_12_method_1_code 1114 = .ok (.getfield 26, 3) := by decide +kernel
theorem dc_Model_1117 : decode prog_12_method_1_code 1117 = .ok (.iload_n 1, 1) := by decide +kernel
theorem dc_Model_1118 : decode prog_12_method_1_code 1118 = .ok (.aload_n 0, 1) := by decide +kernel
theorem dc_Model_1119 : decode prog_12_method_1_code 1119 = .ok (.getfield 50, 3) := by decide +kernel
theorem dc_Model_1122 : decode prog_12_method_1_code 1122 = .ok (.iload_n 1, 1) := by decide +kernel
theorem dc_Model_1123 : decode prog_12_method_1_code 1123 = .ok (.iaload, 1) := by decide +kernel
theorem dc_Model_1124 : decode prog_12_method_1_code 1124 = .ok (.iastore, 1) := by decide +kernel
theorem dc_Model_1125 : decode prog_12_method_1_code 1125 = .ok (.iinc 1 1, 3) := by decide +kernel
theorem dc_Model_1128 : decode prog_12_method_1_code 1128 = .ok (.goto (-21), 3) := by decide +kernel
theorem dc_Model_1131 : decode prog_12_method_1_code 1131 = .ok (.aload_n 0, 1) := by decide +kernel
theorem dc_Model_1132 : decode prog_12_method_1_code 1132 = .ok (.bipush 39, 2) := by decide +kernel
theorem dc_Model_1134 : decode prog_12_method_1_code 1134 = .ok (.putfield 87, 3) := by decide +kernel
theorem dc_Model_1137 : decode prog_12_method_1_code 1137 = .ok (.aload_n 0, 1) := by decide +kernel
theorem dc_Model_1138 : decode prog_12_method_1_code 1138 = .ok (.invokevirtual 90, 3) := by decide +kernel
theorem dc_Model_1141 : decode prog_12_method_1_code 1141 = .ok (.pop, 1) := by decide +kernel
theorem dc_Model_1142 : decode prog_12_method_1_code 1142 = .ok (.return_, 1) := by decide +kernel
theorem fl_31_0 : fillOK prog_12_method_1_code 0 [0, 3, 6, 7, 8, 7] 9 37 = true := by decide +kernel
theorem fl_31_1 : fillOK prog_12_method_1_code 6 [6, 3, 0, -3, -6, -7] 37 71 = true := by decide +kernel
theorem fl_31_2 : fillOK prog_12_method_1_code 12 [-8, -7, -6, -3] 71 95 = true := by decide +kernel
set_option maxRecDepth 20000 in
theorem fl_31 : fillOK prog_12_method_1_code 0 xACR 9 95 = true := fillOK_app [0, 3, 6, 7, 8, 7] 0 9 fl_31_0 (fillOK_app [6, 3, 0, -3, -6, -7] 6 37 fl_31_1 (fl_31_2))
theorem fl_40_0 : fillOK prog_12_method_1_code 0 [-1, -1, -1, -1] 171 187 = true := by decide +kernel
set_option maxRecDepth 20000 in
theorem fl_40 : fillOK prog_12_method_1_code 0 [-1, -1, -1, -1] 171 187 = true := fl_40_0
theorem fl_43_0 : fillOK prog_12_method_1_code 0 [99, 108, 101, 97, 114, 115] 211 241 = true := by decide +kernel
theorem fl_43_1 : fillOK prog_12_method_1_code 6 [32, 49, 32, 59, 32, 119] 241 277 = true := by decide +kernel
theorem fl_43_2 : fillOK prog_12_method_1_code 12 [101, 97, 114, 115, 32, 49] 277 313 = true := by decide +kernel
theorem fl_43_3 : fillOK prog_12_method_1_code 18 [32, 43, 32, 115, 116, 101] 313 349 = true := by decide +kernel
theorem fl_43_4 : fillOK prog_12_method_1_code 24 [101, 114, 115, 32, 59, 32] 349 385 = true := by decide +kernel
theorem fl_43_5 : fillOK prog_12_method_1_code 30 [115, 117, 114, 101, 32, 57] 385 421 = true := by decide +kernel
theorem fl_43_6 : fillOK prog_12_method_1_code 36 [48, 32, 59] 421 439 = true := by decide +kernel
set_option maxRecDepth 20000 in
theorem fl_43 : fillOK prog_12_method_1_code 0 lw39 211 439 = true := fillOK_app [99, 108, 101, 97, 114, 115] 0 211 fl_43_0 (fillOK_app [32, 49, 32, 59, 32, 119] 6 241 fl_43_1 (fillOK_app [101, 97, 114, 115, 32, 49] 12 277 fl_43_2 (fillOK_app [32, 43, 32, 115, 116, 101] 18 313 fl_43_3 (fillOK_app [101, 114, 115, 32, 59, 32] 24 349 fl_43_4 (fillOK_app [115, 117, 114, 101, 32, 57] 30 385 fl_43_5 (fl_43_6))))))
theorem fl_44_0 : fillOK prog_12_method_1_code 0 [99, 108, 101, 97, 114, 115] 447 477 = true := by decide +kernel
theorem fl_44_1 : fillOK prog_12_method_1_code 6 [32, 32, 119, 101, 97, 114] 477 513 = true := by decide +kernel
theorem fl_44_2 : fillOK prog_12_method_1_code 12 [115, 32, 32, 32, 115, 117] 513 549 = true := by decide +kernel
theorem fl_44_3 : fillOK prog_12_method_1_code 18 [114, 101, 32, 32, 32, 32] 549 585 = true := by decide +kernel
theorem fl_44_4 : fillOK prog_12_method_1_code 24 [109, 111, 114, 101, 32, 32] 585 621 = true := by decide +kernel
theorem fl_44_5 : fillOK prog_12_method_1_code 30 [32, 32, 119, 97, 108, 108] 621 657 = true := by decide +kernel
theorem fl_44_6 : fillOK prog_12_method_1_code 36 [32, 32, 32, 32, 104, 101] 657 693 = true := by decide +kernel
theorem fl_44_7 : fillOK prog_12_method_1_code 42 [97, 100, 105, 110, 103, 32] 693 729 = true := by decide +kernel
theorem fl_44_8 : fillOK prog_12_method_1_code 48 [112, 108, 97, 99, 101, 32] 729 765 = true := by decide +kernel
theorem fl_44_9 : fillOK prog_12_method_1_code 54 [32, 32, 119, 105, 100, 116] 765 801 = true := by decide +kernel
theorem fl_44_10 : fillOK prog_12_method_1_code 60 [104, 32, 32, 32, 115, 116] 801 837 = true := by decide +kernel
theorem fl_44_11 : fillOK prog_12_method_1_code 66 [101, 101, 114, 115, 32, 32] 837 873 = true := by decide +kernel
theorem fl_44_12 : fillOK prog_12_method_1_code 72 [111, 114, 32, 32, 32, 32] 873 909 = true := by decide +kernel
theorem fl_44_13 : fillOK prog_12_method_1_code 78 [32, 32, 97, 110, 100, 32] 909 945 = true := by decide +kernel
theorem fl_44_14 : fillOK prog_12_method_1_code 84 [32, 32, 32, 32, 110, 111] 945 981 = true := by decide +kernel
theorem fl_44_15 : fillOK prog_12_method_1_code 90 [116, 32, 32, 32, 32, 32] 981 1017 = true := by decide +kernel
set_option maxRecDepth 20000 in
theorem fl_44 : fillOK prog_12_method_1_code 0 wdsL 447 1017 = true := fillOK_app [99, 108, 101, 97, 114, 115] 0 447 fl_44_0 (fillOK_app [32, 32, 119, 101, 97, 114] 6 477 fl_44_1 (fillOK_app [115, 32, 32, 32, 115, 117] 12 513 fl_44_2 (fillOK_app [114, 101, 32, 32, 32, 32] 18 549 fl_44_3 (fillOK_app [109, 111, 114, 101, 32, 32] 24 585 fl_44_4 (fillOK_app [32, 32, 119, 97, 108, 108] 30 621 fl_44_5 (fillOK_app [32, 32, 32, 32, 104, 101] 36 657 fl_44_6 (fillOK_app [97, 100, 105, 110, 103, 32] 42 693 fl_44_7 (fillOK_app [112, 108, 97, 99, 101, 32] 48 729 fl_44_8 (fillOK_app [32, 32, 119, 105, 100, 116] 54 765 fl_44_9 (fillOK_app [104, 32, 32, 32, 115, 116] 60 801 fl_44_10 (fillOK_app [101, 101, 114, 115, 32, 32] 66 837 fl_44_11 (fillOK_app [111, 114, 32, 32, 32, 32] 72 873 fl_44_12 (fillOK_app [32, 32, 97, 110, 100, 32] 78 909 fl_44_13 (fillOK_app [32, 32, 32, 32, 110, 111] 84 945 fl_44_14 (fl_44_15)))))))))))))))
theorem ym_Model : yM ⟨"ThreePointsModel", "<init>", "()V"⟩ prog_12_method_1_code 2 := ⟨cw_977, cw_83, cw_976, rfl, by decide +kernel, by decide⟩
theorem yf_Model : ∀ j, j < 39 → defaultValue (xy_Model j) = yz 30 j := by
  intro j hj
  match j, hj with
  | 0, _ => rfl
  | 1, _ => rfl
  | 2, _ => rfl
  | 3, _ => rfl
  | 4, _ => rfl
  | 5, _ => rfl
  | 6, _ => rfl
  | 7, _ => rfl
  | 8, _ => rfl
  | 9, _ => rfl
  | 10, _ => rfl
  | 11, _ => rfl
  | 12, _ => rfl
  | 13, _ => rfl
  | 14, _ => rfl
  | 15, _ => rfl
  | 16, _ => rfl
  | 17, _ => rfl
  | 18, _ => rfl
  | 19, _ => rfl
  | 20, _ => rfl
  | 21, _ => rfl
  | 22, _ => rfl
  | 23, _ => rfl
  | 24, _ => rfl
  | 25, _ => rfl
  | 26, _ => rfl
  | 27, _ => rfl
  | 28, _ => rfl
  | 29, _ => rfl
  | 30, _ => rfl
  | 31, _ => rfl
  | 32, _ => rfl
  | 33, _ => rfl
  | 34, _ => rfl
  | 35, _ => rfl
  | 36, _ => rfl
  | 37, _ => rfl
  | 38, _ => rfl
  | j + 39, h => exact absurd h (by omega)
set_option maxHeartbeats 4000000 in
theorem md_loop {l : Launch} {cid : Nat → ClassId} {D : va_G} {R : Room} {L : List (Nat × Nat)} {B : YB} {cells slots : Nat} (b7 : B 30 0 7 = true) (b19 : B 30 0 19 = true) : ∀ (n i : Nat) (H : HH), i + n = 39 → Gc l cid D HM R "ThreePointsModel" prog_12_method_1_code 2 30 0 xLM QR 1131 [some (vr 30 0), some (vi (nI 39))] [] L B (hrow H 35 0 (fun k => if i ≤ k ∧ k < 39 then H 43 0 k else H 35 0 k)) cells slots → Gc l cid D HM R "ThreePointsModel" prog_12_method_1_code 2 30 0 xLM QR 1107 [some (vr 30 0), some (vi (nI i))] [] L B H cells slots := by
  intro n
  induction n with
  | zero =>
    intro i H e k
    have e2 : i = 39 := by omega
    subst e2
    rw [show hrow H 35 0 (fun k => if 39 ≤ k ∧ k < 39 then H 43 0 k else H 35 0 k) = H from (congrArg (hrow H 35 0) (funext fun k => if_neg (by omega))).trans (hrow_same H 35 0)] at k
    refine y_iload (pc := 1107) dc_Model_1107 rfl rfl ?_
    refine y_push (pc := 1108) (v := 39) (n := 2) (Or.inr (Or.inl ⟨_, dc_Model_1108, by decide, rfl⟩)) ?_
    exact y_icmp_ge (pc := 1110) (tgt := 1131) dc_Model_1110 (by decide) (fun _ => k) (fun z => absurd (by decide) z)
  | succ n ih =>
    intro i H e k
    refine y_iload (pc := 1107) dc_Model_1107 rfl rfl ?_
    refine y_push (pc := 1108) (v := 39) (n := 2) (Or.inr (Or.inl ⟨_, dc_Model_1108, by decide, rfl⟩)) ?_
    refine y_icmp_ge (pc := 1110) (tgt := 1131) dc_Model_1110 (by decide) (fun z => absurd ((nI_leI (a := 39) (by decide) (by omega)).mp z) (by omega)) (fun _ => ?_)
    refine y_aload (pc := 1113) dc_Model_1113 rfl rfl ?_
    refine y_getQ (pc := 1114) (kd := 30) (k1 := 7) (kt := 35) (it := 0) dc_Model_1114 (by decide) rfl rfl xi_Model (by decide) cw_1033 rfl b7 rfl rfl ?_
    refine y_iload (pc := 1117) dc_Model_1117 rfl rfl ?_
    refine y_aload (pc := 1118) dc_Model_1118 rfl rfl ?_
    refine y_getQ (pc := 1119) (kd := 30) (k1 := 19) (kt := 43) (it := 0) dc_Model_1119 (by decide) rfl rfl xi_Model (by decide) cw_1045 rfl b19 rfl rfl ?_
    refine y_iload (pc := 1122) dc_Model_1122 rfl rfl ?_
    refine y_iald (pc := 1123) dc_Model_1123 (by decide) rfl (vp_in_nI (by omega) (by omega)) ?_
    refine y_iast (pc := 1124) dc_Model_1124 (by decide) (by decide) rfl (vp_in_nI (by omega) (by omega)) ?_
    rw [nI_clamp (by omega)]
    refine y_iinc (pc := 1125) (v := nI (i + 1)) dc_Model_1125 rfl (nI_1 i) (by decide) rfl rfl ?_
    refine y_goto (pc := 1128) (tgt := 1107) dc_Model_1128 (by decide) ?_
    refine ih (i + 1) _ (by omega) ?_
    have e1 : hrow (hu H 35 0 i (H 43 0 i)) 35 0 (fun k => if i + 1 ≤ k ∧ k < 39 then hu H 35 0 i (H 43 0 i) 43 0 k else hu H 35 0 i (H 43 0 i) 35 0 k) = hrow H 35 0 (fun k => if i ≤ k ∧ k < 39 then H 43 0 k else H 35 0 k) := by
      funext a j c
      show (if a = 35 ∧ j = 0 then _ else hu H 35 0 i (H 43 0 i) a j) c = (if a = 35 ∧ j = 0 then _ else H a j) c
      by_cases q : a = 35 ∧ j = 0
      · rw [if_pos q, if_pos q]
        show (if i + 1 ≤ c ∧ c < 39 then hu H 35 0 i (H 43 0 i) 43 0 c else hu H 35 0 i (H 43 0 i) 35 0 c) = if i ≤ c ∧ c < 39 then H 43 0 c else H 35 0 c
        by_cases q2 : c = i
        · subst q2
          rw [if_neg (by omega), hu_at, if_pos (by omega)]
        · rw [hu_ne (by omega), hu_ne (fun z => q2 z.2.2)]
          by_cases q3 : i + 1 ≤ c ∧ c < 39
          · rw [if_pos q3, if_pos (by omega)]
          · rw [if_neg q3, if_neg (by omega)]
      · rw [if_neg q, if_neg q, hu_ne (fun z => q ⟨z.1, z.2.1⟩)]
    rw [e1]
    exact k
set_option maxHeartbeats 4000000 in
set_option maxRecDepth 20000 in
theorem md_tail {l : Launch} {cid : Nat → ClassId} {D : va_G} {L : List (Nat × Nat)} {B : YB} {H : HH} {cells slots : Nat} (hs : ∀ q ∈ xLM, q ∈ L) (hs2 : ∀ q ∈ L, q ∈ xLM) (hB : ∀ q ∈ xLM, yfl B q) (hc : cells ≤ 24 ∧ slots ≤ 13883) (hq : QS H) : Gc l cid D HM (yrm 110 24 13883) "ThreePointsModel" prog_12_method_1_code 2 30 0 xLM QR 1131 [some (vr 30 0), some (vi (nI 39))] [] L B H cells slots := by
  refine y_perm (L2 := xLM) hs hs2 xclo_LM.1 hB ycs_LM ?_
  refine y_aload (pc := 1131) dc_Model_1131 rfl rfl ?_
  refine y_push (pc := 1132) (v := 39) (n := 2) (Or.inr (Or.inl ⟨_, dc_Model_1132, by decide, rfl⟩)) ?_
  refine y_put (pc := 1134) (k1 := 8) xy_Model dc_Model_1134 (by decide) (by decide) rfl rfl xi_Model xy_Model_ok xn_Model (by decide) cw_1034 rfl (xy_Model_ok 8 (by decide)) rfl ?_
  refine y_aload (pc := 1137) dc_Model_1137 rfl rfl ?_
  refine y_callV (pc := 1138) (kd := 30) (ix := 0) (d := 15) (st := []) (vs := []) (Q2 := qi fun _ G => QR G) dc_Model_1138 xm_Model_text cw_979 cw_980 cw_981 (by decide) rfl rfl rfl rfl (by decide) (by decide) xclo_LM (by decide) hc (fun ad => s_text0 (E := (l, cid, D, ad)) (d := 10) hq) (fun v G hg => ?_)
  obtain ⟨r, rfl, hG⟩ := hg
  refine y_pop (pc := 1141) (x := r) dc_Model_1141 ?_
  exact y_ret (pc := 1142) dc_Model_1142 (fun _ q => q) xclo_LM.1 (fun q hq => fB_fl hq) ycs_LM hG hc
set_option maxHeartbeats 16000000 in
set_option maxRecDepth 20000 in
theorem k_Model_0 (l : Launch) (cid : Nat → ClassId) (D : va_G) : Mk l cid D ⟨"ThreePointsModel", "<init>", "()V"⟩ prog_12_method_1_code 2 30 0 xLM (yrm 110 24 13883) QR := by
  refine mk_of (HI := HM) (ls := [none]) (by decide +kernel) rfl (by decide) (by decide) (by simp) ?_
  refine y_aload (pc := 0) dc_Model_0 rfl rfl ?_
  refine y_objInit (pc := 1) dc_Model_1 cw_978 cw_90 cw_91 rfl (by decide) ?_
  refine y_aload (pc := 4) dc_Model_4 rfl rfl ?_
  refine y_push (pc := 5) (v := 16) (n := 2) (Or.inr (Or.inl ⟨_, dc_Model_5, by decide, rfl⟩)) ?_
  refine y_newI (pc := 7) (kt := 31) (it := 0) dc_Model_7 cw_207 (by decide) (by decide) rfl (by decide) rfl (by decide) (by decide) (by decide) (by decide) (by decide) ?_
  refine y_fill (kt := 31) (pe := 95) (by decide) (by decide) rfl (by decide) xACR 0 9 _ fl_31 (by decide) ?_
  refine y_putF (pc := 95) (k1 := 0) (ty := xy_Model 0) xy_Model _ dc_Model_95 (by decide) rfl rfl xi_Model xy_Model_ok xn_Model (by decide) cw_1026 rfl rfl (xy_Model_ok 0 (by decide)) (fun _ => rfl) (fun _ => rfl) rfl rfl rfl (by decide) rfl ?_
  refine y_aload (pc := 98) dc_Model_98 rfl rfl ?_
  refine y_push (pc := 99) (v := 40) (n := 2) (Or.inr (Or.inl ⟨_, dc_Model_99, by decide, rfl⟩)) ?_
  refine y_put (pc := 101) (k1 := 1) xy_Model dc_Model_101 (by decide) (by decide) rfl rfl xi_Model xy_Model_ok xn_Model (by decide) cw_1027 rfl (xy_Model_ok 1 (by decide)) rfl ?_
  refine y_aload (pc := 104) dc_Model_104 rfl rfl ?_
  refine y_push (pc := 105) (v := 4) (n := 1) (Or.inl ⟨_, dc_Model_105, by decide, rfl⟩) ?_
  refine y_newI (pc := 106) (kt := 32) (it := 0) dc_Model_106 cw_207 (by decide) (by decide) rfl (by decide) rfl (by decide) (by decide) (by decide) (by decide) (by decide) ?_
  refine y_putF (pc := 108) (k1 := 4) (ty := xy_Model 4) xy_Model _ dc_Model_108 (by decide) rfl rfl xi_Model xy_Model_ok xn_Model (by decide) cw_1030 rfl rfl (xy_Model_ok 4 (by decide)) (fun _ => rfl) (fun _ => rfl) rfl rfl rfl (by decide) rfl ?_
  refine y_aload (pc := 111) dc_Model_111 rfl rfl ?_
  refine y_push (pc := 112) (v := 4) (n := 1) (Or.inl ⟨_, dc_Model_112, by decide, rfl⟩) ?_
  refine y_newI (pc := 113) (kt := 33) (it := 0) dc_Model_113 cw_207 (by decide) (by decide) rfl (by decide) rfl (by decide) (by decide) (by decide) (by decide) (by decide) ?_
  refine y_putF (pc := 115) (k1 := 5) (ty := xy_Model 5) xy_Model _ dc_Model_115 (by decide) rfl rfl xi_Model xy_Model_ok xn_Model (by decide) cw_1031 rfl rfl (xy_Model_ok 5 (by decide)) (fun _ => rfl) (fun _ => rfl) rfl rfl rfl (by decide) rfl ?_
  refine y_aload (pc := 118) dc_Model_118 rfl rfl ?_
  refine y_push (pc := 119) (v := 20) (n := 2) (Or.inr (Or.inl ⟨_, dc_Model_119, by decide, rfl⟩)) ?_
  refine y_newI (pc := 121) (kt := 34) (it := 0) dc_Model_121 cw_207 (by decide) (by decide) rfl (by decide) rfl (by decide) (by decide) (by decide) (by decide) (by decide) ?_
  refine y_putF (pc := 123) (k1 := 6) (ty := xy_Model 6) xy_Model _ dc_Model_123 (by decide) rfl rfl xi_Model xy_Model_ok xn_Model (by decide) cw_1032 rfl rfl (xy_Model_ok 6 (by decide)) (fun _ => rfl) (fun _ => rfl) rfl rfl rfl (by decide) rfl ?_
  refine y_aload (pc := 126) dc_Model_126 rfl rfl ?_
  refine y_push (pc := 127) (v := 160) (n := 3) (Or.inr (Or.inr ⟨_, dc_Model_127, by decide, rfl⟩)) ?_
  refine y_newI (pc := 130) (kt := 35) (it := 0) dc_Model_130 cw_207 (by decide) (by decide) rfl (by decide) rfl (by decide) (by decide) (by decide) (by decide) (by decide) ?_
  refine y_putF (pc := 132) (k1 := 7) (ty := xy_Model 7) xy_Model _ dc_Model_132 (by decide) rfl rfl xi_Model xy_Model_ok xn_Model (by decide) cw_1033 rfl rfl (xy_Model_ok 7 (by decide)) (fun _ => rfl) (fun _ => rfl) rfl rfl rfl (by decide) rfl ?_
  refine y_aload (pc := 135) dc_Model_135 rfl rfl ?_
  refine y_push (pc := 136) (v := 1200) (n := 3) (Or.inr (Or.inr ⟨_, dc_Model_136, by decide, rfl⟩)) ?_
  refine y_newI (pc := 139) (kt := 36) (it := 0) dc_Model_139 cw_207 (by decide) (by decide) rfl (by decide) rfl (by decide) (by decide) (by decide) (by decide) (by decide) ?_
  refine y_putF (pc := 141) (k1 := 9) (ty := xy_Model 9) xy_Model _ dc_Model_141 (by decide) rfl rfl xi_Model xy_Model_ok xn_Model (by decide) cw_1035 rfl rfl (xy_Model_ok 9 (by decide)) (fun _ => rfl) (fun _ => rfl) rfl rfl rfl (by decide) rfl ?_
  refine y_aload (pc := 144) dc_Model_144 rfl rfl ?_
  refine y_push (pc := 145) (v := 24) (n := 2) (Or.inr (Or.inl ⟨_, dc_Model_145, by decide, rfl⟩)) ?_
  refine y_newI (pc := 147) (kt := 37) (it := 0) dc_Model_147 cw_207 (by decide) (by decide) rfl (by decide) rfl (by decide) (by decide) (by decide) (by decide) (by decide) ?_
  refine y_putF (pc := 149) (k1 := 10) (ty := xy_Model 10) xy_Model _ dc_Model_149 (by decide) rfl rfl xi_Model xy_Model_ok xn_Model (by decide) cw_1036 rfl rfl (xy_Model_ok 10 (by decide)) (fun _ => rfl) (fun _ => rfl) rfl rfl rfl (by decide) rfl ?_
  refine y_aload (pc := 152) dc_Model_152 rfl rfl ?_
  refine y_push (pc := 153) (v := 20) (n := 2) (Or.inr (Or.inl ⟨_, dc_Model_153, by decide, rfl⟩)) ?_
  refine y_newI (pc := 155) (kt := 38) (it := 0) dc_Model_155 cw_207 (by decide) (by decide) rfl (by decide) rfl (by decide) (by decide) (by decide) (by decide) (by decide) ?_
  refine y_putF (pc := 157) (k1 := 14) (ty := xy_Model 14) xy_Model _ dc_Model_157 (by decide) rfl rfl xi_Model xy_Model_ok xn_Model (by decide) cw_1040 rfl rfl (xy_Model_ok 14 (by decide)) (fun _ => rfl) (fun _ => rfl) rfl rfl rfl (by decide) rfl ?_
  refine y_aload (pc := 160) dc_Model_160 rfl rfl ?_
  refine y_push (pc := 161) (v := 4) (n := 1) (Or.inl ⟨_, dc_Model_161, by decide, rfl⟩) ?_
  refine y_newI (pc := 162) (kt := 39) (it := 0) dc_Model_162 cw_207 (by decide) (by decide) rfl (by decide) rfl (by decide) (by decide) (by decide) (by decide) (by decide) ?_
  refine y_putF (pc := 164) (k1 := 15) (ty := xy_Model 15) xy_Model _ dc_Model_164 (by decide) rfl rfl xi_Model xy_Model_ok xn_Model (by decide) cw_1041 rfl rfl (xy_Model_ok 15 (by decide)) (fun _ => rfl) (fun _ => rfl) rfl rfl rfl (by decide) rfl ?_
  refine y_aload (pc := 167) dc_Model_167 rfl rfl ?_
  refine y_push (pc := 168) (v := 4) (n := 1) (Or.inl ⟨_, dc_Model_168, by decide, rfl⟩) ?_
  refine y_newI (pc := 169) (kt := 40) (it := 0) dc_Model_169 cw_207 (by decide) (by decide) rfl (by decide) rfl (by decide) (by decide) (by decide) (by decide) (by decide) ?_
  refine y_fill (kt := 40) (pe := 187) (by decide) (by decide) rfl (by decide) [-1, -1, -1, -1] 0 171 _ fl_40 (by decide) ?_
  refine y_putF (pc := 187) (k1 := 16) (ty := xy_Model 16) xy_Model _ dc_Model_187 (by decide) rfl rfl xi_Model xy_Model_ok xn_Model (by decide) cw_1042 rfl rfl (xy_Model_ok 16 (by decide)) (fun _ => rfl) (fun _ => rfl) rfl rfl rfl (by decide) rfl ?_
  refine y_aload (pc := 190) dc_Model_190 rfl rfl ?_
  refine y_push (pc := 191) (v := 4) (n := 1) (Or.inl ⟨_, dc_Model_191, by decide, rfl⟩) ?_
  refine y_newI (pc := 192) (kt := 41) (it := 0) dc_Model_192 cw_207 (by decide) (by decide) rfl (by decide) rfl (by decide) (by decide) (by decide) (by decide) (by decide) ?_
  refine y_putF (pc := 194) (k1 := 17) (ty := xy_Model 17) xy_Model _ dc_Model_194 (by decide) rfl rfl xi_Model xy_Model_ok xn_Model (by decide) cw_1043 rfl rfl (xy_Model_ok 17 (by decide)) (fun _ => rfl) (fun _ => rfl) rfl rfl rfl (by decide) rfl ?_
  refine y_aload (pc := 197) dc_Model_197 rfl rfl ?_
  refine y_push (pc := 198) (v := 160) (n := 3) (Or.inr (Or.inr ⟨_, dc_Model_198, by decide, rfl⟩)) ?_
  refine y_newI (pc := 201) (kt := 42) (it := 0) dc_Model_201 cw_207 (by decide) (by decide) rfl (by decide) rfl (by decide) (by decide) (by decide) (by decide) (by decide) ?_
  refine y_putF (pc := 203) (k1 := 18) (ty := xy_Model 18) xy_Model _ dc_Model_203 (by decide) rfl rfl xi_Model xy_Model_ok xn_Model (by decide) cw_1044 rfl rfl (xy_Model_ok 18 (by decide)) (fun _ => rfl) (fun _ => rfl) rfl rfl rfl (by decide) rfl ?_
  refine y_aload (pc := 206) dc_Model_206 rfl rfl ?_
  refine y_push (pc := 207) (v := 39) (n := 2) (Or.inr (Or.inl ⟨_, dc_Model_207, by decide, rfl⟩)) ?_
  refine y_newI (pc := 209) (kt := 43) (it := 0) dc_Model_209 cw_207 (by decide) (by decide) rfl (by decide) rfl (by decide) (by decide) (by decide) (by decide) (by decide) ?_
  refine y_fill (kt := 43) (pe := 439) (by decide) (by decide) rfl (by decide) lw39 0 211 _ fl_43 (by decide) ?_
  refine y_putF (pc := 439) (k1 := 19) (ty := xy_Model 19) xy_Model _ dc_Model_439 (by decide) rfl rfl xi_Model xy_Model_ok xn_Model (by decide) cw_1045 rfl rfl (xy_Model_ok 19 (by decide)) (fun _ => rfl) (fun _ => rfl) rfl rfl rfl (by decide) rfl ?_
  refine y_aload (pc := 442) dc_Model_442 rfl rfl ?_
  refine y_push (pc := 443) (v := 96) (n := 2) (Or.inr (Or.inl ⟨_, dc_Model_443, by decide, rfl⟩)) ?_
  refine y_newI (pc := 445) (kt := 44) (it := 0) dc_Model_445 cw_207 (by decide) (by decide) rfl (by decide) rfl (by decide) (by decide) (by decide) (by decide) (by decide) ?_
  refine y_fill (kt := 44) (pe := 1017) (by decide) (by decide) rfl (by decide) wdsL 0 447 _ fl_44 (by decide) ?_
  refine y_putF (pc := 1017) (k1 := 24) (ty := xy_Model 24) xy_Model _ dc_Model_1017 (by decide) rfl rfl xi_Model xy_Model_ok xn_Model (by decide) cw_1050 rfl rfl (xy_Model_ok 24 (by decide)) (fun _ => rfl) (fun _ => rfl) rfl rfl rfl (by decide) rfl ?_
  refine y_aload (pc := 1020) dc_Model_1020 rfl rfl ?_
  refine y_push (pc := 1021) (v := 200) (n := 3) (Or.inr (Or.inr ⟨_, dc_Model_1021, by decide, rfl⟩)) ?_
  refine y_newI (pc := 1024) (kt := 45) (it := 0) dc_Model_1024 cw_207 (by decide) (by decide) rfl (by decide) rfl (by decide) (by decide) (by decide) (by decide) (by decide) ?_
  refine y_putF (pc := 1026) (k1 := 25) (ty := xy_Model 25) xy_Model _ dc_Model_1026 (by decide) rfl rfl xi_Model xy_Model_ok xn_Model (by decide) cw_1051 rfl rfl (xy_Model_ok 25 (by decide)) (fun _ => rfl) (fun _ => rfl) rfl rfl rfl (by decide) rfl ?_
  refine y_aload (pc := 1029) dc_Model_1029 rfl rfl ?_
  refine y_push (pc := 1030) (v := 200) (n := 3) (Or.inr (Or.inr ⟨_, dc_Model_1030, by decide, rfl⟩)) ?_
  refine y_newI (pc := 1033) (kt := 46) (it := 0) dc_Model_1033 cw_207 (by decide) (by decide) rfl (by decide) rfl (by decide) (by decide) (by decide) (by decide) (by decide) ?_
  refine y_putF (pc := 1035) (k1 := 29) (ty := xy_Model 29) xy_Model _ dc_Model_1035 (by decide) rfl rfl xi_Model xy_Model_ok xn_Model (by decide) cw_1055 rfl rfl (xy_Model_ok 29 (by decide)) (fun _ => rfl) (fun _ => rfl) rfl rfl rfl (by decide) rfl ?_
  refine y_aload (pc := 1038) dc_Model_1038 rfl rfl ?_
  refine y_push (pc := 1039) (v := 6) (n := 2) (Or.inr (Or.inl ⟨_, dc_Model_1039, by decide, rfl⟩)) ?_
  refine y_newI (pc := 1041) (kt := 47) (it := 0) dc_Model_1041 cw_207 (by decide) (by decide) rfl (by decide) rfl (by decide) (by decide) (by decide) (by decide) (by decide) ?_
  refine y_putF (pc := 1043) (k1 := 30) (ty := xy_Model 30) xy_Model _ dc_Model_1043 (by decide) rfl rfl xi_Model xy_Model_ok xn_Model (by decide) cw_1056 rfl rfl (xy_Model_ok 30 (by decide)) (fun _ => rfl) (fun _ => rfl) rfl rfl rfl (by decide) rfl ?_
  refine y_aload (pc := 1046) dc_Model_1046 rfl rfl ?_
  refine y_push (pc := 1047) (v := 976) (n := 3) (Or.inr (Or.inr ⟨_, dc_Model_1047, by decide, rfl⟩)) ?_
  refine y_newZ (pc := 1050) (kt := 48) (it := 0) dc_Model_1050 cw_309 (by decide) (by decide) rfl (by decide) rfl (by decide) (by decide) (by decide) (by decide) (by decide) ?_
  refine y_putF (pc := 1052) (k1 := 31) (ty := xy_Model 31) xy_Model _ dc_Model_1052 (by decide) rfl rfl xi_Model xy_Model_ok xn_Model (by decide) cw_1057 rfl rfl (xy_Model_ok 31 (by decide)) (fun _ => rfl) (fun _ => rfl) rfl rfl rfl (by decide) rfl ?_
  refine y_aload (pc := 1055) dc_Model_1055 rfl rfl ?_
  refine y_push (pc := 1056) (v := 1952) (n := 3) (Or.inr (Or.inr ⟨_, dc_Model_1056, by decide, rfl⟩)) ?_
  refine y_newI (pc := 1059) (kt := 49) (it := 0) dc_Model_1059 cw_207 (by decide) (by decide) rfl (by decide) rfl (by decide) (by decide) (by decide) (by decide) (by decide) ?_
  refine y_putF (pc := 1061) (k1 := 32) (ty := xy_Model 32) xy_Model _ dc_Model_1061 (by decide) rfl rfl xi_Model xy_Model_ok xn_Model (by decide) cw_1058 rfl rfl (xy_Model_ok 32 (by decide)) (fun _ => rfl) (fun _ => rfl) rfl rfl rfl (by decide) rfl ?_
  refine y_aload (pc := 1064) dc_Model_1064 rfl rfl ?_
  refine y_push (pc := 1065) (v := 2928) (n := 3) (Or.inr (Or.inr ⟨_, dc_Model_1065, by decide, rfl⟩)) ?_
  refine y_newI (pc := 1068) (kt := 50) (it := 0) dc_Model_1068 cw_207 (by decide) (by decide) rfl (by decide) rfl (by decide) (by decide) (by decide) (by decide) (by decide) ?_
  refine y_putF (pc := 1070) (k1 := 33) (ty := xy_Model 33) xy_Model _ dc_Model_1070 (by decide) rfl rfl xi_Model xy_Model_ok xn_Model (by decide) cw_1059 rfl rfl (xy_Model_ok 33 (by decide)) (fun _ => rfl) (fun _ => rfl) rfl rfl rfl (by decide) rfl ?_
  refine y_aload (pc := 1073) dc_Model_1073 rfl rfl ?_
  refine y_push (pc := 1074) (v := 2928) (n := 3) (Or.inr (Or.inr ⟨_, dc_Model_1074, by decide, rfl⟩)) ?_
  refine y_newZ (pc := 1077) (kt := 51) (it := 0) dc_Model_1077 cw_309 (by decide) (by decide) rfl (by decide) rfl (by decide) (by decide) (by decide) (by decide) (by decide) ?_
  refine y_putF (pc := 1079) (k1 := 34) (ty := xy_Model 34) xy_Model _ dc_Model_1079 (by decide) rfl rfl xi_Model xy_Model_ok xn_Model (by decide) cw_1060 rfl rfl (xy_Model_ok 34 (by decide)) (fun _ => rfl) (fun _ => rfl) rfl rfl rfl (by decide) rfl ?_
  refine y_aload (pc := 1082) dc_Model_1082 rfl rfl ?_
  refine y_push (pc := 1083) (v := 2928) (n := 3) (Or.inr (Or.inr ⟨_, dc_Model_1083, by decide, rfl⟩)) ?_
  refine y_newI (pc := 1086) (kt := 52) (it := 0) dc_Model_1086 cw_207 (by decide) (by decide) rfl (by decide) rfl (by decide) (by decide) (by decide) (by decide) (by decide) ?_
  refine y_putF (pc := 1088) (k1 := 35) (ty := xy_Model 35) xy_Model _ dc_Model_1088 (by decide) rfl rfl xi_Model xy_Model_ok xn_Model (by decide) cw_1061 rfl rfl (xy_Model_ok 35 (by decide)) (fun _ => rfl) (fun _ => rfl) rfl rfl rfl (by decide) rfl ?_
  refine y_aload (pc := 1091) dc_Model_1091 rfl rfl ?_
  refine y_push (pc := 1092) (v := 5) (n := 1) (Or.inl ⟨_, dc_Model_1092, by decide, rfl⟩) ?_
  refine y_newI (pc := 1093) (kt := 53) (it := 0) dc_Model_1093 cw_207 (by decide) (by decide) rfl (by decide) rfl (by decide) (by decide) (by decide) (by decide) (by decide) ?_
  refine y_putF (pc := 1095) (k1 := 36) (ty := xy_Model 36) xy_Model _ dc_Model_1095 (by decide) rfl rfl xi_Model xy_Model_ok xn_Model (by decide) cw_1062 rfl rfl (xy_Model_ok 36 (by decide)) (fun _ => rfl) (fun _ => rfl) rfl rfl rfl (by decide) rfl ?_
  refine y_aload (pc := 1098) dc_Model_1098 rfl rfl ?_
  refine y_push (pc := 1099) (v := 5) (n := 1) (Or.inl ⟨_, dc_Model_1099, by decide, rfl⟩) ?_
  refine y_newI (pc := 1100) (kt := 54) (it := 0) dc_Model_1100 cw_207 (by decide) (by decide) rfl (by decide) rfl (by decide) (by decide) (by decide) (by decide) (by decide) ?_
  refine y_putF (pc := 1102) (k1 := 37) (ty := xy_Model 37) xy_Model _ dc_Model_1102 (by decide) rfl rfl xi_Model xy_Model_ok xn_Model (by decide) cw_1063 rfl rfl (xy_Model_ok 37 (by decide)) (fun _ => rfl) (fun _ => rfl) rfl rfl rfl (by decide) rfl ?_
  refine y_push (pc := 1105) (v := 0) (n := 1) (Or.inl ⟨_, dc_Model_1105, by decide, rfl⟩) ?_
  refine y_istore (pc := 1106) dc_Model_1106 rfl (by decide) rfl rfl ?_
  refine md_loop (by decide) (by decide) 39 0 _ rfl ?_
  refine md_tail (by decide +kernel) (by decide +kernel) (yfl_of (by decide +kernel)) (by decide) ?_
  have fz : ∀ {xs : List Int32} {k : Nat}, k < xs.length → fillF 0 xs (fun _ => 0) k = xs.getD k 0 := fun {xs k} h => by rw [fillF_get, if_pos ⟨Nat.zero_le _, by omega⟩, Nat.sub_zero]
  refine ⟨rfl, rfl, rfl, rfl, rfl, rfl, fun k hk => ?_, fun k hk => ?_, fun u hu4 => ⟨?_, rfl⟩, fun k => rfl, fun i hi => ?_, rfl⟩
  · exact fz (xs := xACR) hk
  · exact fz (xs := wdsL) hk
  · refine (fz (xs := [-1, -1, -1, -1]) hu4).trans ?_
    rcases (show u = 0 ∨ u = 1 ∨ u = 2 ∨ u = 3 by omega) with rfl | rfl | rfl | rfl <;> rfl
  · refine (if_pos ⟨Nat.zero_le _, hi⟩).trans ?_
    exact (fz (xs := lw39) hi).trans (lw39_T i hi)
