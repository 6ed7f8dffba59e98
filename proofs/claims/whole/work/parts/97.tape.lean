/-! MAKING 6: the first text, as THE TAPE has it. -/
def tpW (i : Nat) : Int32 := xchr 0 i
def tpH (H : HH) (k : Nat) : HH := hu (hrow H 7 0 (fun i => if i < k then tpW i else 0)) 6 0 1 (nI k)
def T39 : Nat → Int32 := fun i => if i < 39 then tpW i else 0
theorem tpH_s (H : HH) (k : Nat) : hu (hu (tpH H k) 7 0 k (tpW k)) 6 0 1 (nI (k + 1)) = tpH H (k + 1) := by
  funext a i c
  by_cases c6 : a = 6 ∧ i = 0 ∧ c = 1
  · obtain ⟨rfl, rfl, rfl⟩ := c6
    unfold tpH
    rw [hu_at, hu_at]
  · rw [hu_ne c6]
    unfold tpH
    rw [hu_ne (H := hrow H 7 0 _) c6]
    by_cases c7 : a = 7 ∧ i = 0
    · obtain ⟨rfl, rfl⟩ := c7
      rw [hrow_at]
      by_cases ck : c = k
      · subst ck
        rw [hu_at, if_pos (Nat.lt_succ_self c)]
      · rw [hu_ne (fun z => ck z.2.2), hu_ne (by omega), hrow_at]
        by_cases cl : c < k
        · rw [if_pos cl, if_pos (by omega)]
        · rw [if_neg cl, if_neg (by omega)]
    · rw [hu_ne (fun z => c7 ⟨z.1, z.2.1⟩), hu_ne c6]
      show (if a = 7 ∧ i = 0 then _ else H a i) c = (if a = 7 ∧ i = 0 then _ else H a i) c
      rw [if_neg c7, if_neg c7]
theorem s_Tape_write0 {E : XE} {d : Nat} {H : HH} {Q : HH → Prop} (h6 : H 6 0 1 = 0) (h7 : H 7 0 = fun _ => 0) (h : Q (tpH H 39)) : c_Tape_write E (d + 4) 0 H Q := by
  refine l_Tape_write (d := d + 3) ?_
  refine ⟨fun z G => ∃ k, k ≤ 39 ∧ z = nI k ∧ G = tpH H k, fun z _ => 39 - z.toNatClampNeg, ⟨0, by omega, rfl, ?_⟩, ?_⟩
  · unfold tpH
    funext a i c
    by_cases c6 : a = 6 ∧ i = 0 ∧ c = 1
    · obtain ⟨rfl, rfl, rfl⟩ := c6
      rw [hu_at, h6]; rfl
    · rw [hu_ne c6]
      by_cases c7 : a = 7 ∧ i = 0
      · obtain ⟨rfl, rfl⟩ := c7
        rw [hrow_at, h7, if_neg (Nat.not_lt_zero c)]
      · exact (congrFun (if_neg c7 : hrow H 7 0 (fun i => if i < 0 then tpW i else 0) a i = H a i) c).symm
  · rintro z G ⟨k, hk, rfl, rfl⟩
    refine s_String_length (d := d + 2) (by decide) ?_
    refine ⟨fun q => ?_, fun q => ?_⟩
    · have q2 : (xTX.getD 0 []).length ≤ k := (nI_leI (by decide) (by omega)).mp q
      have e : k = 39 := by
        have : (xTX.getD 0 []).length = 39 := by decide
        omega
      subst e
      exact h
    · have q2 : ¬ (xTX.getD 0 []).length ≤ k := fun z => q ((nI_leI (by decide) (by omega)).mpr z)
      have hl : (xTX.getD 0 []).length = 39 := by decide
      refine s_String_charAt (d := d) (by decide) (by omega) ?_
      have e6 : tpH H k 6 0 1 = nI k := hu_at _ _ _ _ _
      refine l_Tape_add ⟨fun _ => ⟨?_, fun H1 g1 H2 g2 => ?_⟩, fun z => ?_⟩
      · rw [e6]; exact vp_in_nI (by omega) (by omega)
      · rw [e6, nI_clamp (by omega)] at g1
        have e7 : H1 6 0 1 = nI k := by rw [g1, hu_ne (by omega)]; exact e6
        rw [e7, nI_1, g1] at g2
        refine ⟨⟨k + 1, by omega, nI_1 k, by rw [g2]; exact tpH_s H k⟩, ?_⟩
        show 39 - (nI k + 1).toNatClampNeg < 39 - (nI k).toNatClampNeg
        rw [nI_1, nI_clamp (by omega), nI_clamp (by omega)]
        omega
      · rw [e6, show (160 : Int32) = nI 160 from rfl, nI_ltI (by omega) (by omega)] at z
        omega
-- its tokens
theorem tkc {t p s e : Nat} (hp : tP T39 39 t = p) (hs : tS T39 39 p = s) (hl : s < 39) (he : tEnd T39 39 s = e) : sT T39 39 t = s ∧ tP T39 39 (t + 1) = e := by
  have h1 : sT T39 39 t = s := by unfold sT; rw [hp, hs]
  exact ⟨h1, by rw [tP_in (by rw [h1]; exact hl), h1, he]⟩
theorem tc0 : sT T39 39 0 = 0 ∧ tP T39 39 1 = 6 := tkc rfl (by decide +kernel) (by decide) (by decide +kernel)
theorem tc1 : sT T39 39 1 = 7 ∧ tP T39 39 2 = 8 := tkc tc0.2 (by decide +kernel) (by decide) (by decide +kernel)
theorem tc2 : sT T39 39 2 = 9 ∧ tP T39 39 3 = 10 := tkc tc1.2 (by decide +kernel) (by decide) (by decide +kernel)
theorem tc3 : sT T39 39 3 = 11 ∧ tP T39 39 4 = 16 := tkc tc2.2 (by decide +kernel) (by decide) (by decide +kernel)
theorem tc4 : sT T39 39 4 = 17 ∧ tP T39 39 5 = 18 := tkc tc3.2 (by decide +kernel) (by decide) (by decide +kernel)
theorem tc5 : sT T39 39 5 = 19 ∧ tP T39 39 6 = 20 := tkc tc4.2 (by decide +kernel) (by decide) (by decide +kernel)
theorem tc6 : sT T39 39 6 = 21 ∧ tP T39 39 7 = 27 := tkc tc5.2 (by decide +kernel) (by decide) (by decide +kernel)
theorem tc7 : sT T39 39 7 = 28 ∧ tP T39 39 8 = 29 := tkc tc6.2 (by decide +kernel) (by decide) (by decide +kernel)
theorem tc8 : sT T39 39 8 = 30 ∧ tP T39 39 9 = 34 := tkc tc7.2 (by decide +kernel) (by decide) (by decide +kernel)
theorem tc9 : sT T39 39 9 = 35 ∧ tP T39 39 10 = 37 := tkc tc8.2 (by decide +kernel) (by decide) (by decide +kernel)
theorem tc10 : sT T39 39 10 = 38 ∧ tP T39 39 11 = 39 := tkc tc9.2 (by decide +kernel) (by decide) (by decide +kernel)
theorem kof {t s : Nat} {v : Int32} (h : sT T39 39 t = s) (hl : s < 39) (hv : tKd T39 39 s = v) : kT T39 39 t = v := by unfold kT; rw [h, if_pos hl, hv]
theorem vof {t s : Nat} {v : Int32} (h : sT T39 39 t = s) (hv : tVl T39 39 s = v) : vT T39 39 t = v := by unfold vT; rw [h, hv]
theorem tk0 : kT T39 39 0 = 256 := kof tc0.1 (by decide) (by decide +kernel)
theorem tk1 : kT T39 39 1 = 263 := kof tc1.1 (by decide) (by decide +kernel)
theorem tk2 : kT T39 39 2 = 59 := kof tc2.1 (by decide) (by decide +kernel)
theorem tk3 : kT T39 39 3 = 257 := kof tc3.1 (by decide) (by decide +kernel)
theorem tk4 : kT T39 39 4 = 263 := kof tc4.1 (by decide) (by decide +kernel)
theorem tk5 : kT T39 39 5 = 43 := kof tc5.1 (by decide) (by decide +kernel)
theorem tk6 : kT T39 39 6 = 262 := kof tc6.1 (by decide) (by decide +kernel)
theorem tk7 : kT T39 39 7 = 59 := kof tc7.1 (by decide) (by decide +kernel)
theorem tk8 : kT T39 39 8 = 258 := kof tc8.1 (by decide) (by decide +kernel)
theorem tk9 : kT T39 39 9 = 263 := kof tc9.1 (by decide) (by decide +kernel)
theorem tk10 : kT T39 39 10 = 59 := kof tc10.1 (by decide) (by decide +kernel)
theorem tk11 : kT T39 39 11 = 264 := by
  have h : sT T39 39 11 = 39 := by
    unfold sT
    rw [tc10.2]
    decide +kernel
  unfold kT
  rw [h]
  exact if_neg (by decide)
theorem tv1 : vT T39 39 1 = 1 := vof tc1.1 (by decide +kernel)
theorem tv4 : vT T39 39 4 = 1 := vof tc4.1 (by decide +kernel)
theorem tv6 : vT T39 39 6 = 5 := vof tc6.1 (by decide +kernel)
theorem tv9 : vT T39 39 9 = 90 := vof tc9.1 (by decide +kernel)
abbrev cO1 : List Int32 := [1]
abbrev cO2 : List Int32 := [1, 1, 10005, 20005]
abbrev cO3 : List Int32 := [1, 1, 10005, 20005, 90]
theorem mst_semi {K V : Nat → Int32} {t : Nat} {mn : Bool} {hs : List Nat} {o : List Int32} (h : K t = 59) : mst K V (t, false, mn, hs, o) = none := by
  unfold mst; rw [if_neg Bool.false_ne_true, if_pos h]
theorem tx0 : txY (kT T39 39) (vT T39 39) cO1 cO2 cO3 := by
  refine ⟨3, 8, 11, ⟨tk0, (2, false, true, [], [1]), ⟨1, _, ?_, rfl⟩, mst_semi tk2, ⟨rfl, tk2, rfl⟩, rfl, rfl⟩, ⟨tk3, (7, false, false, [16], [1, 1, 10005]), ⟨3, (5, false, true, [], [1, 1]), ?_, (6, true, false, [16], [1, 1]), ?_, _, ?_, rfl⟩, mst_semi tk7, ⟨rfl, tk7, by decide⟩, rfl, by decide⟩, ⟨tk8, (10, false, true, [], cO3), ⟨1, _, ?_, rfl⟩, mst_semi tk10, ⟨rfl, tk10, rfl⟩, rfl, rfl⟩, tk11⟩
  · have h := mst_num (K := kT T39 39) (V := vT T39 39) (t := 1) (mn := true) (hs := []) (o := []) tk1
    rw [tv1] at h
    exact h
  · have h := mst_num (K := kT T39 39) (V := vT T39 39) (t := 4) (mn := true) (hs := []) (o := [1]) tk4
    rw [tv4] at h
    exact h
  · exact mst_two (K := kT T39 39) (V := vT T39 39) (t := 5) (s := 16) (l := 5) (hs1 := []) (o1 := [1, 1]) ⟨by rw [tk5]; decide, by rw [tk5]; decide⟩ (by rw [tk5]; decide) (by decide) (by decide) (by decide) rfl
  · have h := mst_nam (K := kT T39 39) (V := vT T39 39) (t := 6) (mn := false) (hs := [16]) (o := [1, 1]) tk6
    rw [tv6] at h
    exact h
  · have h := mst_num (K := kT T39 39) (V := vT T39 39) (t := 9) (mn := true) (hs := []) (o := cO2) tk9
    rw [tv9] at h
    exact h
theorem T39_b : ∀ i, i < 39 → 0 ≤ (T39 i).toInt ∧ (T39 i).toInt ≤ 255 := by decide +kernel
theorem gdS_c {ys : List Int32} (h : ∀ D, lds D ys = some (D + 1)) : gdS ys := h
/-- what the class has made -/
def fpM (G : HH) : Prop := drS G cO1 cO2 cO3 ∧ ∀ a i k, ¬ fpF a i k → G a i k = tpH Hi 39 a i k
theorem s_fault0 {E : XE} {d : Nat} : c_Reader_faultOfTape E (d + 47) (tpH Hi 39) (fun _ G => fpM G) := by
  have h7 : tpH Hi 39 7 0 = T39 := by unfold tpH; rw [hu_kd _ _ _ _ (by decide), hrow_at]; rfl
  refine s_Reader_faultOfTape (d := d) (n := 39) (hu_at _ _ _ _ _) (by decide) (fun i hi => by rw [h7]; exact T39_b i hi) ?_ ?_
  · intro G o1 o2 o3 ty hf hd
    rw [h7] at ty
    obtain ⟨rfl, rfl, rfl⟩ := txY_det tx0 ty
    exact ⟨hd, hf⟩
  · intro G tf tn _ _
    rw [h7] at tn
    exact absurd tn (fun z => txYN tx0 z)
def QM (H : HH) : Prop := H 0 0 5 = 1 ∧ H 6 0 1 = 0 ∧ (∀ a i k, (a = 0 ∨ a = 1 ∨ a = 2 ∨ a = 3 ∨ a = 16 ∨ a = 17) → ¬ (a = 0 ∧ i = 0 ∧ k = 5) → H a i k = Hi a i k) ∧ (∀ i, i < 5 → H 12 0 i = cO3.getD i 0) ∧ H 13 0 0 = 1 ∧ H 13 0 1 = 4 ∧ H 13 0 2 = 5
theorem QM_of {G H1 H2 H3 : HH} (h : fpM G) (e1 : H1 = hu G 11 0 1 (G 11 6 1)) (e2 : H2 = hrow H1 12 0 (va_cpy (H1 12 6) (H1 12 0) 0 0 160)) (e3 : H3 = hrow H2 13 0 (va_cpy (H2 13 6) (H2 13 0) 0 0 3)) : QM (hu (hu H3 6 0 1 0) 0 0 5 1) := by
  obtain ⟨⟨k11, k12, k0, k1, k2, -, -, -⟩, hf⟩ := h
  refine ⟨hu_at _ _ _ _ _, by rw [hu_ne (by omega), hu_at], fun a i k ha hn => ?_, fun i hi => ?_, ?_, ?_, ?_⟩
  · rw [hu_ne hn, hu_ne (by omega), e3, hrow_kd _ _ _ (by omega), e2, hrow_kd _ _ _ (by omega), e1, hu_ne (by omega), hf a i k (by unfold fpF tkF rdF; omega)]
    unfold tpH
    rw [hu_ne (by omega), hrow_kd _ _ _ (by omega)]
  · rw [hu_ne (by omega), hu_ne (by omega), e3, hrow_kd _ _ _ (by decide), e2, hrow_at, sb_cpy0 (by omega), e1, hu_ne (by omega)]
    exact k12 i hi
  · rw [hu_ne (by omega), hu_ne (by omega), e3, hrow_at, sb_cpy0 (by decide), e2, hrow_kd _ _ _ (by decide), e1, hu_ne (by omega)]
    exact k0
  · rw [hu_ne (by omega), hu_ne (by omega), e3, hrow_at, sb_cpy0 (by decide), e2, hrow_kd _ _ _ (by decide), e1, hu_ne (by omega)]
    exact k1
  · rw [hu_ne (by omega), hu_ne (by omega), e3, hrow_at, sb_cpy0 (by decide), e2, hrow_kd _ _ _ (by decide), e1, hu_ne (by omega)]
    exact k2
