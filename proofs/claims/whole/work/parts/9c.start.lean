/-! THE LAW 3: what the Statement gives of the start. Printed by wip/gen/gen9c.py. -/
def fl : List Cond := flatC (Jvm.Cond.and given_1 narrow_1)
def tmS (i : Nat) : Term := .string (xRF.getD i ("", 0, "")).1 (xRF.getD i ("", 0, "")).2.1
def posS (i : Nat) : Nat := [76, 119, 128, 138, 152, 165, 179, 195, 212, 229, 246, 262, 280, 299].getD i 0
def posR (i : Nat) : Nat := [329, 419, 424, 425, 426, 427, 428, 437, 438, 439, 440, 441, 442, 443].getD i 0
def lnS (i : Nat) : Nat := (xTX.map List.length).getD i 0
set_option maxRecDepth 20000 in
theorem fS_ex : ∀ i, i < 14 → fl[posS i]? = some (Cond.exactly (tmS i) "java/lang/String") := by decide +kernel
set_option maxRecDepth 20000 in
theorem fS_co : ∀ i, i < 14 → fl[posS i + 1]? = some (Cond.eq (.field (tmS i) "java/lang/String" "coder" "B") (.int 0)) := by decide +kernel
set_option maxRecDepth 20000 in
theorem fS_ar : ∀ i, i < 14 → fl[posS i + 2]? = some (Cond.arrayOf (.field (tmS i) "java/lang/String" "value" "[B") .byte) := by decide +kernel
set_option maxRecDepth 20000 in
theorem fS_le : ∀ i, i < 14 → fl[posS i + 3]? = some (Cond.eq (.length (.field (tmS i) "java/lang/String" "value" "[B")) (.int (Int32.ofNat (lnS i)))) := by decide +kernel
set_option maxRecDepth 20000 in
theorem fS_el : ∀ i, i < 14 → ∀ j, j < lnS i → fl[posS i + 4 + j]? = some (Cond.eq (.elem (.field (tmS i) "java/lang/String" "value" "[B") (.int (Int32.ofNat j))) (.int ((xTX.getD i []).getD j 0))) := by decide +kernel
set_option maxRecDepth 20000 in
theorem fS_ne : ∀ j, j < 14 → ∀ i, i < j → fl[posS j + 4 + lnS j + i]? = some (Cond.not (Cond.eq (tmS i) (tmS j))) := by decide +kernel
set_option maxRecDepth 20000 in
theorem fR_in : ∀ i, i < 14 → lw_tbl[posR i]? = some (Cond.stringRef (xRF.getD i ("", 0, "")).1 (xRF.getD i ("", 0, "")).2.1 (xRF.getD i ("", 0, "")).2.2) := by decide +kernel
theorem lnS_lt : ∀ i, i < 14 → lnS i < 2 ^ 31 := by decide +kernel
set_option maxRecDepth 20000 in
theorem fA_ACROSS : ∀ j, j < 16 → fl[12 + j]? = some (Cond.eq (.elem (.static "ThreePoints" "ACROSS" "[I") (.int (Int32.ofNat j))) (.int (xACR.getD j 0))) := by decide +kernel
set_option maxRecDepth 20000 in
theorem fA_BOUNDS : ∀ j, j < 3 → fl[31 + j]? = some (Cond.eq (.elem (.static "ThreePoints$Text" "BOUNDS" "[I") (.int (Int32.ofNat j))) (.int (xBND.getD j 0))) := by decide +kernel
set_option maxRecDepth 20000 in
theorem fA_ABOVE : ∀ j, j < 6 → fl[37 + j]? = some (Cond.eq (.elem (.static "ThreePoints$Vehicle" "ABOVE" "[I") (.int (Int32.ofNat j))) (.int (xABV.getD j 0))) := by decide +kernel
set_option maxRecDepth 20000 in
theorem nst_x : ∀ q ∈ xNST, Cond.methodLinkNest q.1 q.2.1 q.2.2.1 q.2.2.2 ∈ lw_tbl := List.forall_mem_cons.mpr ⟨List.mem_of_getElem? (i := 646) (by decide +kernel), List.forall_mem_cons.mpr ⟨List.mem_of_getElem? (i := 861) (by decide +kernel), fun _ h => absurd h List.not_mem_nil⟩⟩
set_option maxRecDepth 20000 in
theorem nst_y : ∀ q ∈ yNST, Cond.methodLinkNest q.1 q.2.1 q.2.2.1 q.2.2.2 ∈ lw_tbl := List.forall_mem_cons.mpr ⟨List.mem_of_getElem? (i := 177) (by decide +kernel), List.forall_mem_cons.mpr ⟨List.mem_of_getElem? (i := 251) (by decide +kernel), List.forall_mem_cons.mpr ⟨List.mem_of_getElem? (i := 279) (by decide +kernel), List.forall_mem_cons.mpr ⟨List.mem_of_getElem? (i := 310) (by decide +kernel), List.forall_mem_cons.mpr ⟨List.mem_of_getElem? (i := 312) (by decide +kernel), List.forall_mem_cons.mpr ⟨List.mem_of_getElem? (i := 183) (by decide +kernel), List.forall_mem_cons.mpr ⟨List.mem_of_getElem? (i := 210) (by decide +kernel), List.forall_mem_cons.mpr ⟨List.mem_of_getElem? (i := 256) (by decide +kernel), List.forall_mem_cons.mpr ⟨List.mem_of_getElem? (i := 258) (by decide +kernel), List.forall_mem_cons.mpr ⟨List.mem_of_getElem? (i := 100) (by decide +kernel), List.forall_mem_cons.mpr ⟨List.mem_of_getElem? (i := 123) (by decide +kernel), fun _ h => absurd h List.not_mem_nil⟩⟩⟩⟩⟩⟩⟩⟩⟩⟩⟩
set_option maxHeartbeats 8000000 in
set_option maxRecDepth 20000 in
theorem st_stat {s : State} {b : Nat} (hts : ∀ w ∈ lw_tbl, w.before #[Value.ref b] s = true) (hgv : (Jvm.Cond.and given_1 narrow_1).before #[Value.ref b] s = true) : ∃ ad : Nat → Nat → Nat, xStat ad xTX (lwA s) s s.heap ∧ xRefs ad xRF s ∧ yWd s := by
  have hf := flat_of_before _ hgv
  have hA : ∀ a : Nat, a < s.heap.size → ¬ lwA s a := fun a h => Nat.not_le.mpr h
  have g : ∀ {i : Nat} {c : Cond}, fl[i]? = some c → c.before #[Value.ref b] s = true := fun h => hf _ (List.mem_of_getElem? h)
  obtain ⟨adK, adV, hS, hE⟩ := vk_Sof (N := 14) (tm := tmS) (len := xTX.map List.length) (byt := xTX) (A := lwA s) (s := s) (args := #[Value.ref b]) lnS_lt (fun i hi => g (fS_ex i hi)) (fun i hi => g (fS_co i hi)) (fun i hi => g (fS_ar i hi)) (fun i hi => g (fS_le i hi)) (fun i hi j hj => g (fS_el i hi j hj)) (fun i j hi hj hij => by
    rcases Nat.lt_or_gt_of_ne hij with q | q
    · exact Or.inl (g (fS_ne j hj i q))
    · exact Or.inr (g (fS_ne i hi j q))) hA
  obtain ⟨t62, e62, h62⟩ := va_Tof (args := #[Value.ref b]) (s := s) (tm := (.static "ThreePoints" "ACROSS" "[I")) (ty := .int) (N := 16) (f := fun j => .int (xACR.getD j 0)) (A := lwA s) (by decide) (g (i := 10) (by decide +kernel)) (va_eqt (g (i := 11) (by decide +kernel))) (fun j hj => va_eqt (g (fA_ACROSS j hj))) hA
  have z62 : va_Z "ThreePoints" "ACROSS" "[I" (.ref t62) (lwA s) s s.heap := va_Zof (hts _ (List.mem_of_getElem? (i := 650) (by decide +kernel))) (hts _ (List.mem_of_getElem? (i := 65) (by decide +kernel))) e62 hA
  obtain ⟨t63, e63, h63⟩ := va_Tof (args := #[Value.ref b]) (s := s) (tm := (.static "ThreePoints$Text" "BOUNDS" "[I")) (ty := .int) (N := 3) (f := fun j => .int (xBND.getD j 0)) (A := lwA s) (by decide) (g (i := 29) (by decide +kernel)) (va_eqt (g (i := 30) (by decide +kernel))) (fun j hj => va_eqt (g (fA_BOUNDS j hj))) hA
  have z63 : va_Z "ThreePoints$Text" "BOUNDS" "[I" (.ref t63) (lwA s) s s.heap := va_Zof (hts _ (List.mem_of_getElem? (i := 675) (by decide +kernel))) (hts _ (List.mem_of_getElem? (i := 71) (by decide +kernel))) e63 hA
  obtain ⟨t64, e64, h64⟩ := va_Tof (args := #[Value.ref b]) (s := s) (tm := (.static "ThreePoints$Vehicle" "ABOVE" "[I")) (ty := .int) (N := 6) (f := fun j => .int (xABV.getD j 0)) (A := lwA s) (by decide) (g (i := 35) (by decide +kernel)) (va_eqt (g (i := 36) (by decide +kernel))) (fun j hj => va_eqt (g (fA_ABOVE j hj))) hA
  have z64 : va_Z "ThreePoints$Vehicle" "ABOVE" "[I" (.ref t64) (lwA s) s s.heap := va_Zof (hts _ (List.mem_of_getElem? (i := 972) (by decide +kernel))) (hts _ (List.mem_of_getElem? (i := 68) (by decide +kernel))) e64 hA
  have zC : va_Z "java/lang/String" "COMPACT_STRINGS" "Z" (.int 1) (lwA s) s s.heap := va_Zof (hts _ (List.mem_of_getElem? (i := 343) (by decide +kernel))) (hts _ (List.mem_of_getElem? (i := 75) (by decide +kernel))) (va_eqt (g (i := 4) (by decide +kernel))) hA
  have zS : va_Zq "jdk/internal/util/Preconditions" "SIOOBE_FORMATTER" "Ljava/util/function/BiFunction;" (lwA s) s s.heap := va_Zqof (hts _ (List.mem_of_getElem? (i := 359) (by decide +kernel))) (hts _ (List.mem_of_getElem? (i := 77) (by decide +kernel))) (g (i := 5) (by decide +kernel)) hA
  obtain ⟨t65, zS⟩ : ∃ t65 : Nat, va_Z "jdk/internal/util/Preconditions" "SIOOBE_FORMATTER" "Ljava/util/function/BiFunction;" .null (lwA s) s s.heap ∨ va_Z "jdk/internal/util/Preconditions" "SIOOBE_FORMATTER" "Ljava/util/function/BiFunction;" (.ref t65) (lwA s) s s.heap := by
    rcases zS with z | ⟨t, z⟩
    · exact ⟨0, Or.inl z⟩
    · exact ⟨t, Or.inr z⟩
  refine ⟨fun k i => match k with
    | 60 => adK i
    | 61 => adV i
    | 62 => t62
    | 63 => t63
    | 64 => t64
    | _ => t65, ⟨z62, h62, z63, h63, z64, h64, zC, hS, zS⟩, ⟨fun i r h => ?_, fun q hq => va_Nw.of rfl (hts _ (nst_x q hq))⟩, fun q hq => va_Nw.of rfl (hts _ (nst_y q hq)), va_AO.of (hts _ (List.mem_of_getElem? (i := 121) (by decide +kernel))), va_AO.of (hts _ (List.mem_of_getElem? (i := 246) (by decide +kernel))), va_AO.of (hts _ (List.mem_of_getElem? (i := 248) (by decide +kernel)))⟩
  have hi : i < 14 := by
    have := (List.getElem?_eq_some_iff.mp h).1
    exact this
  have er : xRF.getD i ("", 0, "") = r := by rw [List.getD_eq_getElem?_getD, h]; rfl
  have h1 := hts _ (List.mem_of_getElem? (fR_in i hi))
  have h2 := hE i hi
  unfold tmS at h2
  rw [er] at h1 h2
  exact vk_R.of h1 h2
set_option maxHeartbeats 8000000 in
set_option maxRecDepth 20000 in
theorem st_known {s : State} {b : Nat} (hts : ∀ w ∈ lw_tbl, w.before #[Value.ref b] s = true) : ∃ (cid : Nat → ClassId) (D : va_G), va_K D xcl (xtys cid) s := by
  have htx : ∀ w ∈ xtbl, w.before #[Value.ref b] s = true := fun w h => hts w (xtbl_in h)
  have prim : ∀ {ty : FieldType} (h : (Cond.arrayClass ty).before #[Value.ref b] s = true), (ty = .int ∨ ty = .boolean) → ∃ cA, ArrOfT s cA ty ∧ va_RA s cA ty := by
    intro ty h hty
    obtain ⟨cA, kA, comp, h1, h2, h3⟩ := Cond.arrayClass_spec h
    rcases hty with rfl | rfl
    · exact ⟨cA, fun n z => ⟨fun k h => (by cases h), kA, h2, comp, h3⟩, h1⟩
    · exact ⟨cA, fun n z => ⟨fun k h => (by cases h), kA, h2, comp, h3⟩, h1⟩
  have over : ∀ {C : String} (h : (Cond.arrayOver (.object C)).before #[Value.ref b] s = true), ∃ cA, ArrOfT s cA (.object C) ∧ va_RA s cA (.object C) := by
    intro C h
    obtain ⟨comp, cA, kA, f4, -, f2, f3, f1⟩ := Cond.arrayOver_spec h
    exact ⟨cA, fun n z => ⟨fun k h => (by cases h), kA, f2, comp, f3⟩, kA, comp, f2, f3, f4, f1⟩
  obtain ⟨c0, i0, k0⟩ := u_known (C := "ThreePoints") (T := xT_Main) (N := 9) (n := 9) htx xi_Main (hts _ (List.mem_of_getElem? (i := 85) (by decide +kernel)))
  obtain ⟨c1, i1, k1⟩ := u_known (C := "ThreePoints$Yard") (T := xT_Yard) (N := 3) (n := 3) htx xi_Yard (hts _ (List.mem_of_getElem? (i := 93) (by decide +kernel)))
  obtain ⟨c2, i2, k2⟩ := u_known (C := "ThreePoints$Lane") (T := xT_Lane) (N := 3) (n := 3) htx xi_Lane (hts _ (List.mem_of_getElem? (i := 99) (by decide +kernel)))
  obtain ⟨c3, i3, k3⟩ := u_known (C := "ThreePoints$Vehicle") (T := xT_Vehicle) (N := 7) (n := 7) htx xi_Vehicle (hts _ (List.mem_of_getElem? (i := 122) (by decide +kernel)))
  obtain ⟨c4, i4, k4⟩ := u_known (C := "ThreePoints$Reader") (T := xT_Reader) (N := 5) (n := 5) htx xi_Reader (hts _ (List.mem_of_getElem? (i := 176) (by decide +kernel)))
  obtain ⟨c5, i5, k5⟩ := u_known (C := "ThreePoints$Tape") (T := xT_Tape) (N := 6) (n := 6) htx xi_Tape (hts _ (List.mem_of_getElem? (i := 182) (by decide +kernel)))
  obtain ⟨c6, i6, k6⟩ := u_known (C := "ThreePoints$Text") (T := xT_Text) (N := 4) (n := 4) htx xi_Text (hts _ (List.mem_of_getElem? (i := 209) (by decide +kernel)))
  obtain ⟨c7, i7, k7⟩ := u_known (C := "ThreePoints$Sheet") (T := xT_Sheet) (N := 3) (n := 3) htx xi_Sheet (hts _ (List.mem_of_getElem? (i := 311) (by decide +kernel)))
  obtain ⟨c8, i8, k8⟩ := u_known (C := "ThreePoints$Ride") (T := xT_Ride) (N := 4) (n := 4) htx xi_Ride (hts _ (List.mem_of_getElem? (i := 250) (by decide +kernel)))
  obtain ⟨c9, i9, k9⟩ := u_known (C := "ThreePoints$Search") (T := xT_Search) (N := 8) (n := 8) htx xi_Search (hts _ (List.mem_of_getElem? (i := 278) (by decide +kernel)))
  obtain ⟨c10, i10, k10⟩ := u_known (C := "ThreePointsModel") (T := xT_Model) (N := 39) (n := 39) htx xi_Model (hts _ (List.mem_of_getElem? (i := 974) (by decide +kernel)))
  obtain ⟨a0, r0⟩ := prim (hts _ (List.mem_of_getElem? (i := 207) (by decide +kernel))) (Or.inl rfl)
  obtain ⟨a1, r1⟩ := prim (hts _ (List.mem_of_getElem? (i := 309) (by decide +kernel))) (Or.inr rfl)
  obtain ⟨a2, r2⟩ := over (C := "ThreePoints$Vehicle") (hts _ (List.mem_of_getElem? (i := 121) (by decide +kernel)))
  obtain ⟨a3, r3⟩ := over (C := "ThreePoints$Text") (hts _ (List.mem_of_getElem? (i := 246) (by decide +kernel)))
  obtain ⟨a4, r4⟩ := over (C := "ThreePoints$Sheet") (hts _ (List.mem_of_getElem? (i := 248) (by decide +kernel)))
  refine ⟨fun k => match k with | 0 => a0 | 1 => a1 | 2 => a2 | 3 => a3 | _ => a4, (fun k => match k with | 0 => c0 | 1 => c1 | 2 => c2 | 3 => c3 | 4 => c4 | 5 => c5 | 6 => c6 | 7 => c7 | 8 => c8 | 9 => c9 | _ => c10, fun k => match k with | 0 => i0 | 1 => i1 | 2 => i2 | 3 => i3 | 4 => i4 | 5 => i5 | 6 => i6 | 7 => i7 | 8 => i8 | 9 => i9 | _ => i10), fun k q hq => ?_, fun k q hq => ?_⟩
  · match k, hq with
    | 0, hq => cases hq; exact k0
    | 1, hq => cases hq; exact k1
    | 2, hq => cases hq; exact k2
    | 3, hq => cases hq; exact k3
    | 4, hq => cases hq; exact k4
    | 5, hq => cases hq; exact k5
    | 6, hq => cases hq; exact k6
    | 7, hq => cases hq; exact k7
    | 8, hq => cases hq; exact k8
    | 9, hq => cases hq; exact k9
    | 10, hq => cases hq; exact k10
    | k + 11, hq => exact absurd (List.getElem?_eq_some_iff.mp hq).1 (by show ¬ k + 11 < 11; omega)
  · match k, hq with
    | 0, hq => cases hq; exact r0
    | 1, hq => cases hq; exact r1
    | 2, hq => cases hq; exact r2
    | 3, hq => cases hq; exact r3
    | 4, hq => cases hq; exact r4
    | k + 5, hq => exact absurd (List.getElem?_eq_some_iff.mp hq).1 (by show ¬ k + 5 < 5; omega)
