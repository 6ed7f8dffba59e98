/-! SPECS 10 (the reference): told moves, drives by lots. -/
theorem i5_00 (j : Nat) : 5 * nI j + 0 = nI (5 * j) := by rw [i5_0, Int32.add_zero]
theorem nI_n1 {n : Nat} (h : n < 2147483648) : ¬ nI n = -1 := by
  intro e
  have := congrArg Int32.toInt e
  rw [ti_nI h] at this
  have z : (-1 : Int32).toInt = -1 := rfl
  omega
theorem s_Model_keeps {E : XE} {d j : Nat} {H : HH} {Q : HH → Prop} (hj : j < 4) (h : ∀ H1, hfr [53] H H1 → (∀ k, k < 5 → H1 53 0 k = H 34 0 (5 * j + k)) → Q H1) : c_Model_keeps E d (nI j) H Q := by
  refine l_Model_keeps ?_
  unfold p_Model_keeps
  rw [i5_00, i5_1, i5_2, i5_3, i5_4, nI_clamp (n := 5 * j) (by omega), nI_clamp (n := 5 * j + 1) (by omega), nI_clamp (n := 5 * j + 2) (by omega), nI_clamp (n := 5 * j + 3) (by omega), nI_clamp (n := 5 * j + 4) (by omega)]
  refine ⟨vp_in_nI (by omega) (by omega), vp_in_nI (by omega) (by omega), fun H1 e1 => ⟨vp_in_nI (by omega) (by omega), fun H2 e2 => ⟨vp_in_nI (by omega) (by omega), fun H3 e3 => ⟨vp_in_nI (by omega) (by omega), fun H4 e4 H5 e5 => ?_⟩⟩⟩⟩
  have f1 : hfr [53] H H1 := by rw [e1]; exact hfr.rf.hu (by decide)
  have f2 : hfr [53] H H2 := by rw [e2]; exact f1.hu (by decide)
  have f3 : hfr [53] H H3 := by rw [e3]; exact f2.hu (by decide)
  have f4 : hfr [53] H H4 := by rw [e4]; exact f3.hu (by decide)
  have f5 : hfr [53] H H5 := by rw [e5]; exact f4.hu (by decide)
  refine h H5 f5 (fun k hk => ?_)
  rw [e5, f4 34 (by decide), e4, f3 34 (by decide), e3, f2 34 (by decide), e2, f1 34 (by decide), e1]
  rcases (show k = 0 ∨ k = 1 ∨ k = 2 ∨ k = 3 ∨ k = 4 by omega) with rfl | rfl | rfl | rfl | rfl <;> simp [hu]
theorem s_Model_laysBack {E : XE} {d j : Nat} {H : HH} {Q : HH → Prop} (hj : j < 4) (h : ∀ H1, hfr [34, 54] H H1 → (∀ k, k < 5 → H1 54 0 k = H 34 0 (5 * j + k)) → (∀ k, H1 34 0 k = if 5 * j ≤ k ∧ k < 5 * j + 5 then H 53 0 (k - 5 * j) else H 34 0 k) → (∀ i, i ≠ 0 → H1 34 i = H 34 i) → Q H1) : c_Model_laysBack E d (nI j) H Q := by
  refine l_Model_laysBack ?_
  unfold p_Model_laysBack
  rw [i5_00, i5_1, i5_2, i5_3, i5_4, nI_clamp (n := 5 * j) (by omega), nI_clamp (n := 5 * j + 1) (by omega), nI_clamp (n := 5 * j + 2) (by omega), nI_clamp (n := 5 * j + 3) (by omega), nI_clamp (n := 5 * j + 4) (by omega)]
  have v0 : vp_in (nI (5 * j)) 20 := vp_in_nI (by omega) (by omega)
  have v1 : vp_in (nI (5 * j + 1)) 20 := vp_in_nI (by omega) (by omega)
  have v2 : vp_in (nI (5 * j + 2)) 20 := vp_in_nI (by omega) (by omega)
  have v3 : vp_in (nI (5 * j + 3)) 20 := vp_in_nI (by omega) (by omega)
  have v4 : vp_in (nI (5 * j + 4)) 20 := vp_in_nI (by omega) (by omega)
  refine ⟨v0, fun H1 e1 => ⟨v0, v1, fun H2 e2 H3 e3 => ⟨v1, v2, fun H4 e4 H5 e5 => ⟨v2, v3, fun H6 e6 H7 e7 => ⟨v3, v4, fun H8 e8 H9 e9 => ⟨v4, fun H10 e10 => ?_⟩⟩⟩⟩⟩⟩
  have f1 : hfr [34, 54] H H1 := by rw [e1]; exact hfr.rf.hu (by decide)
  have f2 : hfr [34, 54] H H2 := by rw [e2]; exact f1.hu (by decide)
  have f3 : hfr [34, 54] H H3 := by rw [e3]; exact f2.hu (by decide)
  have f4 : hfr [34, 54] H H4 := by rw [e4]; exact f3.hu (by decide)
  have f5 : hfr [34, 54] H H5 := by rw [e5]; exact f4.hu (by decide)
  have f6 : hfr [34, 54] H H6 := by rw [e6]; exact f5.hu (by decide)
  have f7 : hfr [34, 54] H H7 := by rw [e7]; exact f6.hu (by decide)
  have f8 : hfr [34, 54] H H8 := by rw [e8]; exact f7.hu (by decide)
  have f9 : hfr [34, 54] H H9 := by rw [e9]; exact f8.hu (by decide)
  have f10 : hfr [34, 54] H H10 := by rw [e10]; exact f9.hu (by decide)
  rw [f1 53 (by decide)] at e2
  rw [f3 53 (by decide)] at e4
  rw [f5 53 (by decide)] at e6
  rw [f7 53 (by decide)] at e8
  rw [f9 53 (by decide)] at e10
  have a1 : ∀ k, H2 34 0 k = if k = 5 * j then H 53 0 0 else H 34 0 k := by intro k; rw [e2, e1]; simp [hu]
  have a2 : ∀ k, H4 34 0 k = if k = 5 * j + 1 then H 53 0 1 else H2 34 0 k := by intro k; rw [e4, e3]; simp [hu]
  have a3 : ∀ k, H6 34 0 k = if k = 5 * j + 2 then H 53 0 2 else H4 34 0 k := by intro k; rw [e6, e5]; simp [hu]
  have a4 : ∀ k, H8 34 0 k = if k = 5 * j + 3 then H 53 0 3 else H6 34 0 k := by intro k; rw [e8, e7]; simp [hu]
  have a5 : ∀ k, H10 34 0 k = if k = 5 * j + 4 then H 53 0 4 else H8 34 0 k := by intro k; rw [e10, e9]; simp [hu]
  refine h H10 f10 (fun k hk => ?_) (fun k => ?_) (fun i hi => ?_)
  · have b1 : H2 34 0 (5 * j + 1) = H 34 0 (5 * j + 1) := by rw [a1, if_neg (by omega)]
    have b2 : H4 34 0 (5 * j + 2) = H 34 0 (5 * j + 2) := by rw [a2, if_neg (by omega), a1, if_neg (by omega)]
    have b3 : H6 34 0 (5 * j + 3) = H 34 0 (5 * j + 3) := by rw [a3, if_neg (by omega), a2, if_neg (by omega), a1, if_neg (by omega)]
    have b4 : H8 34 0 (5 * j + 4) = H 34 0 (5 * j + 4) := by rw [a4, if_neg (by omega), a3, if_neg (by omega), a2, if_neg (by omega), a1, if_neg (by omega)]
    rw [e10, e9, b4, e8, e7, b3, e6, e5, b2, e4, e3, b1, e2, e1]
    rcases (show k = 0 ∨ k = 1 ∨ k = 2 ∨ k = 3 ∨ k = 4 by omega) with rfl | rfl | rfl | rfl | rfl <;> simp [hu]
  · rw [a5, a4, a3, a2, a1]
    by_cases c : 5 * j ≤ k ∧ k < 5 * j + 5
    · rw [if_pos c]
      rcases (show k = 5 * j ∨ k = 5 * j + 1 ∨ k = 5 * j + 2 ∨ k = 5 * j + 3 ∨ k = 5 * j + 4 by omega) with rfl | rfl | rfl | rfl | rfl
      · simp
      · simp
      · simp
      · simp
      · simp
    · rw [if_neg c, if_neg (by omega), if_neg (by omega), if_neg (by omega), if_neg (by omega), if_neg (by omega)]
  · rw [e10, hu_ix _ _ _ hi, e9, hu_kd _ _ _ _ (by decide), e8, hu_ix _ _ _ hi, e7, hu_kd _ _ _ _ (by decide), e6, hu_ix _ _ _ hi, e5, hu_kd _ _ _ _ (by decide), e4, hu_ix _ _ _ hi, e3, hu_kd _ _ _ _ (by decide), e2, hu_ix _ _ _ hi, e1, hu_kd _ _ _ _ (by decide)]
/-- sheet u of the reference's tells n rows of moves -/
def mmOK (H : HH) (u n : Nat) : Prop := n < 14 ∧ H 41 0 u = nI (3 * n) ∧ ∀ r, r < n → (H 42 0 (40 * u + (3 * r + 1)) = -1 ∨ H 42 0 (40 * u + (3 * r + 1)) = 0 ∨ H 42 0 (40 * u + (3 * r + 1)) = 1) ∧ 1 ≤ H 42 0 (40 * u + (3 * r + 2)) ∧ H 42 0 (40 * u + (3 * r + 2)) ≤ 30
theorem mat.back {H H1 H5 H6 : HH} {j : Nat} {v : VV} (hj : j < 4) (f1 : hfr [53] H H1) (k1 : ∀ k, k < 5 → H1 53 0 k = H 34 0 (5 * j + k)) (ha : mat H1 H5 j v) (f6 : hfr [34, 54] H5 H6) (r6 : ∀ k, H6 34 0 k = if 5 * j ≤ k ∧ k < 5 * j + 5 then H5 53 0 (k - 5 * j) else H5 34 0 k) (i6 : ∀ i, i ≠ 0 → H6 34 i = H5 34 i) : hfr [46, 47, 53, 54] H H6 := by
  intro a hna
  simp only [List.mem_cons, List.not_mem_nil, or_false, not_or] at hna
  by_cases h34 : a = 34
  · subst h34
    funext i k
    by_cases hi : i = 0
    · subst hi
      rw [r6, ha.1 53 (by decide)]
      by_cases c : 5 * j ≤ k ∧ k < 5 * j + 5
      · rw [if_pos c, k1 _ (by omega), show 5 * j + (k - 5 * j) = k by omega]
      · rw [if_neg c, ha.2.1, rowsV, if_neg (by omega), if_neg (by omega), if_neg (by omega), if_neg (by omega), if_neg (by omega), f1 34 (by decide)]
    · rw [i6 i hi, ha.2.2.1 i hi, f1 34 (by decide)]
  · rw [f6 a (by simp [h34, hna]), ha.1 a (by simp [h34, hna]), f1 a (by simp [hna])]
theorem mat.five {H1 H5 H6 : HH} {j : Nat} {v : VV} (ha : mat H1 H5 j v) (k6 : ∀ k, k < 5 → H6 54 0 k = H5 34 0 (5 * j + k)) : ∀ k, k < 5 → H6 54 0 k = v (k + 2) := by
  intro k hk
  rw [k6 k hk, ha.2.1]
  rcases (show k = 0 ∨ k = 1 ∨ k = 2 ∨ k = 3 ∨ k = 4 by omega) with rfl | rfl | rfl | rfl | rfl <;> simp [rowsV]
theorem s_Model_firstWrong {E : XE} {d t j u n : Nat} {code ends : Nat → Int32} {H : HH} {Q : Int32 → HH → Prop} (hr : mlOK H t code ends) (hj : j < 4) (hu4 : u < 4) (hm : mmOK H u n) (ho : vOK (vM H j))
    (h : ∀ r v2, thrF (stF (lwF code ends) (H 30 0 1) (H 30 0 2)) (fun i => H 42 0 (40 * u + i)) n 0 (vM H j) = (r, v2) → ∀ H1, hfr [46, 47, 53, 54] H H1 → (∀ k, k < 5 → H1 54 0 k = v2 (k + 2)) → Q r H1) : c_Model_firstWrong E (d + 5) (nI u) (nI j) H Q := by
  have hn := hm.1
  refine l_Model_firstWrong (s_Model_keeps hj (fun H1 f1 k1 => ?_))
  have hr1 : mlOK H1 t code ends := hr.fr f1 (by decide) (by decide) (by decide) (by decide)
  have hv1 : vM H1 j = vM H j := by
    funext k
    have a32 := f1 32 (by decide)
    have a33 := f1 33 (by decide)
    have a34 := f1 34 (by decide)
    match k with
    | 0 => show H1 32 0 j = H 32 0 j; rw [a32]
    | 1 => show H1 33 0 j = H 33 0 j; rw [a33]
    | 2 => show H1 34 0 _ = H 34 0 _; rw [a34]
    | 3 => show H1 34 0 _ = H 34 0 _; rw [a34]
    | 4 => show H1 34 0 _ = H 34 0 _; rw [a34]
    | 5 => show H1 34 0 _ = H 34 0 _; rw [a34]
    | 6 => show H1 34 0 _ = H 34 0 _; rw [a34]
    | k + 7 => rfl
  have e30 := f1 30 (by decide)
  have e42 := f1 42 (by decide)
  have e41 := f1 41 (by decide)
  rw [← e30, ← e42, ← hv1] at h
  rw [← hv1] at ho
  have hm1 : mmOK H1 u n := by unfold mmOK; rw [e41, e42]; exact hm
  have ms : mat H1 H1 j (vM H1 j) := mat.self
  generalize hst : stF (lwF code ends) (H1 30 0 1) (H1 30 0 2) = st at h
  generalize hmv : (fun i => H1 42 0 (40 * u + i)) = mv at h
  have emv : ∀ i, H1 42 0 (40 * u + i) = mv i := fun i => by rw [← hmv]
  generalize vM H1 j = v0 at *
  have fin : ∀ H5 v2 r, mat H1 H5 j v2 → thrF st mv n 0 v0 = (r, v2) → c_Model_laysBack E (d + 4) (nI j) H5 (fun H6 => Q r H6) := by
    intro H5 v2 r ha he
    refine s_Model_laysBack hj (fun H6 f6 k6 r6 i6 => ?_)
    exact h r v2 he H6 (mat.back hj f1 k1 ha f6 r6 i6) (ha.five k6)
  refine ⟨fun z3 z4 H5 => ∃ r, r ≤ n ∧ z4 = nI r ∧ ∃ v2, mat H1 H5 j v2 ∧ vOK v2 ∧ ((z3 = -1 ∧ thrF st mv n 0 v0 = thrF st mv (n - r) r v2) ∨ (∃ r2, r2 < n ∧ z3 = nI r2 ∧ thrF st mv n 0 v0 = (nI r2, v2))), fun _ z4 _ => n - z4.toNatClampNeg, ⟨0, Nat.zero_le _, rfl, v0, ms, ho, Or.inl ⟨rfl, by rw [Nat.sub_zero]⟩⟩, fun z3 z4 H5 hI => ?_⟩
  obtain ⟨r, hrn, rfl, v2, ha, hv2, hcase⟩ := hI
  rw [nI_clamp (n := u) (by omega), ha.1 41 (by decide), hm1.2.1, div3_all n hn]
  refine ⟨vp_in_nI hu4 (by omega), fun q => ?_, fun q => ⟨fun q2 => ?_, fun q2 => ?_⟩⟩
  · have er : r = n := by rw [nI_leI (by omega) (by omega)] at q; omega
    subst er
    rcases hcase with ⟨e3, he⟩ | ⟨r2, hr2, e3, he⟩
    · rw [Nat.sub_self] at he
      rw [e3]
      exact fin H5 v2 _ ha he
    · rw [e3]; exact fin H5 v2 _ ha he
  · rcases hcase with ⟨e3, he⟩ | ⟨r2, hr2, e3, he⟩
    · exact absurd e3 q2
    · rw [e3]; exact fin H5 v2 _ ha he
  · have hlt : r < n := by rw [nI_leI (by omega) (by omega)] at q; omega
    rcases hcase with ⟨e3, he⟩ | ⟨r2, hr2, e3, he⟩
    · refine fun v8 e8 => ?_
      have e8' : v8 = nI (40 * u + 3 * r) := by rw [e8, show (40 : Int32) = nI 40 from rfl, show (3 : Int32) = nI 3 from rfl, nI_mul, nI_mul, nI_add]
      subst e8'
      have i1 : nI (40 * u + 3 * r) + 1 = nI (40 * u + (3 * r + 1)) := by rw [nI_1]; rfl
      have i2 : nI (40 * u + 3 * r) + 2 = nI (40 * u + (3 * r + 2)) := by rw [show (2 : Int32) = nI 2 from rfl, nI_add]; rfl
      obtain ⟨cw, c1, c2⟩ := hm1.2.2 r hlt
      rw [emv] at cw
      rw [emv] at c1 c2
      obtain ⟨cnt, hcl, ec⟩ := nI_of (x := mv (3 * r + 2)) (by simp only [ti_le, ti_lt] at *; have z : (1 : Int32).toInt = 1 := rfl; have z0 : (0 : Int32).toInt = 0 := rfl; omega)
      have hc30 : cnt ≤ 30 := by
        rw [ec, show (30 : Int32) = nI 30 from rfl, nI_leI (by omega) (by omega)] at c2; exact c2
      have he' : thrF st mv n 0 v0 = match repF (fun v => st v (mv (3 * r)) (mv (3 * r + 1))) cnt v2 with
        | (true, v3) => thrF st mv (n - (r + 1)) (r + 1) v3
        | (false, v3) => (nI r, v3) := by
        have ecc : (mv (3 * r + 2)).toNatClampNeg = cnt := by rw [ec, nI_clamp (by omega)]
        rw [he, show n - r = (n - (r + 1)) + 1 by omega, ← ecc]
        rfl
      have hmu2 : n - (nI (r + 1)).toNatClampNeg < n - (nI r).toNatClampNeg := by
        rw [nI_clamp (by omega), nI_clamp (by omega)]; omega
      refine ⟨fun z10 z11 H12 => ∃ i w, i ≤ cnt ∧ z11 = nI i ∧ mat H1 H12 j w ∧ vOK w ∧ ((z10 = -1 ∧ repF (fun v => st v (mv (3 * r)) (mv (3 * r + 1))) cnt v2 = repF (fun v => st v (mv (3 * r)) (mv (3 * r + 1))) (cnt - i) w) ∨ (z10 = nI r ∧ repF (fun v => st v (mv (3 * r)) (mv (3 * r + 1))) cnt v2 = (false, w))), fun _ z11 _ => cnt - z11.toNatClampNeg, ⟨0, v2, Nat.zero_le _, rfl, ha, hv2, Or.inl ⟨e3, by rw [Nat.sub_zero]⟩⟩, fun z10 z11 H12 hI2 => ?_⟩
      obtain ⟨i, w, hic, rfl, ha12, hw, hc2⟩ := hI2
      rw [i1, i2, nI_clamp (n := 40 * u + (3 * r + 2)) (by omega), nI_clamp (n := 40 * u + (3 * r + 1)) (by omega), nI_clamp (n := 40 * u + 3 * r) (by omega), ha12.1 42 (by decide), show H1 42 0 (40 * u + (3 * r + 2)) = nI cnt by rw [emv, ec], show H1 42 0 (40 * u + (3 * r + 1)) = mv (3 * r + 1) from emv _, show H1 42 0 (40 * u + 3 * r) = mv (3 * r) from emv _]
      have out : ∀ q3 : (nI cnt ≤ nI i) ∨ ¬ z10 = -1, (∃ r', r' ≤ n ∧ nI r + 1 = nI r' ∧ ∃ v2, mat H1 H12 j v2 ∧ vOK v2 ∧ ((z10 = -1 ∧ thrF st mv n 0 v0 = thrF st mv (n - r') r' v2) ∨ (∃ r2, r2 < n ∧ z10 = nI r2 ∧ thrF st mv n 0 v0 = (nI r2, v2)))) ∧ n - (nI r + 1).toNatClampNeg < n - (nI r).toNatClampNeg := by
        intro q3
        refine ⟨⟨r + 1, hlt, by rw [nI_1], w, ha12, hw, ?_⟩, by rw [nI_1]; exact hmu2⟩
        rcases hc2 with ⟨e10, hrep⟩ | ⟨e10, hrep⟩
        · rcases q3 with q3 | q3
          · have ei : i = cnt := by rw [nI_leI (by omega) (by omega)] at q3; omega
            subst ei
            rw [Nat.sub_self] at hrep
            rw [hrep] at he'
            exact Or.inl ⟨e10, he'⟩
          · exact absurd e10 q3
        · rw [hrep] at he'
          exact Or.inr ⟨r, hlt, e10, he'⟩
      refine ⟨vp_in_nI (by omega) (by omega), fun q3 => out (Or.inl q3), fun q3 => ⟨fun q4 => out (Or.inr q4), fun q4 => ⟨vp_in_nI (by omega) (by omega), vp_in_nI (by omega) (by omega), ?_⟩⟩⟩
      have hic2 : i < cnt := by rw [nI_leI (by omega) (by omega)] at q3; omega
      have hmu3 : cnt - (nI i + 1).toNatClampNeg < cnt - (nI i).toNatClampNeg := by
        rw [nI_1, nI_clamp (by omega), nI_clamp (by omega)]; omega
      rcases hc2 with ⟨e10, hrep⟩ | ⟨e10, hrep⟩
      · have hrep' : repF (fun v => st v (mv (3 * r)) (mv (3 * r + 1))) cnt v2 = match st w (mv (3 * r)) (mv (3 * r + 1)) with
          | some w3 => repF (fun v => st v (mv (3 * r)) (mv (3 * r + 1))) (cnt - (i + 1)) w3
          | none => (false, w) := by
          rw [hrep, show cnt - i = (cnt - (i + 1)) + 1 by omega]
          rfl
        refine s_Model_canGo hr1 hj cw hw ha12 (fun hs H13 ha13 => ?_) (fun hs H13 ha13 => ?_)
        · rw [hst] at hs
          rw [hs] at hrep'
          refine ⟨fun k => absurd k (by decide), fun _ => ⟨vp_in_nI (by omega) (by omega), vp_in_nI (by omega) (by omega), ?_⟩⟩
          rw [ha13.1 42 (by decide), show H1 42 0 (40 * u + (3 * r + 1)) = mv (3 * r + 1) from emv _, show H1 42 0 (40 * u + 3 * r) = mv (3 * r) from emv _]
          refine s_Model_goes hr1 hj cw hw ha13 (fun H15 ha15 => ?_)
          exact ⟨⟨i + 1, _, hic2, by rw [nI_1], ha15, gsF_ok hw, Or.inl ⟨e10, hrep'⟩⟩, hmu3⟩
        · rw [hst] at hs
          rw [hs] at hrep'
          exact ⟨fun _ => ⟨⟨i + 1, w, hic2, by rw [nI_1], ha13, hw, Or.inr ⟨rfl, hrep'⟩⟩, hmu3⟩, fun k => absurd rfl k⟩
      · exact absurd q4 (by rw [e10]; exact nI_n1 (by omega))
    · exact absurd q2 (by rw [e3]; exact nI_n1 (by omega))
