/-! THE CALLS 15: sheet, cell, copy, taken. -/
theorem INV.shs {H H1 : HH} {s : SN} (h : INV H s) (hf : ∀ a i k, ¬ scr a i k → ¬ (a = 16 ∨ a = 17 ∨ a = 40 ∨ a = 41 ∨ a = 42) → H1 a i k = H a i k) (hS : piS H1) : INV H1 s := by
  -- by way of a heap with the old sheets
  have key : INV (fun a => if a = 16 ∨ a = 17 ∨ a = 40 ∨ a = 41 ∨ a = 42 then H a else H1 a) s := by
    refine h.sc (fun a i k q => ?_)
    by_cases c : a = 16 ∨ a = 17 ∨ a = 40 ∨ a = 41 ∨ a = 42
    · show (if a = 16 ∨ a = 17 ∨ a = 40 ∨ a = 41 ∨ a = 42 then H a else H1 a) i k = _
      rw [if_pos c]
    · show (if a = 16 ∨ a = 17 ∨ a = 40 ∨ a = 41 ∨ a = 42 then H a else H1 a) i k = _
      rw [if_neg c]; exact hf a i k q c
  obtain ⟨i1, i2, i3, i4, i5, i6, i7, i8, i9⟩ := key
  exact ⟨i1, i2, i3, i4, i5, i6, i7, hS, i9⟩
theorem INV.shx {H H1 : HH} {s : SN} {u : Nat} (h : INV H s) (hu4 : u < 4) (hf : ∀ a i k, ¬ (a = 16 ∧ i = u) → ¬ (a = 17 ∧ i = u) → ¬ ((a = 40 ∨ a = 41) ∧ i = 0 ∧ k = u) → ¬ (a = 42 ∧ i = 0 ∧ 40 * u ≤ k ∧ k < 40 * u + 40) → H1 a i k = H a i k) (hS : shI H1 u) : INV H1 s := by
  refine h.shs (fun a i k q1 q2 => hf a i k (by omega) (by omega) (by omega) (by omega)) (fun u2 hu2 => ?_)
  by_cases e : u2 = u
  · rw [e]; exact hS
  · exact (h.2.2.2.2.2.2.2.1 u2 hu2).pt (fun k => hf _ _ _ (by omega) (by omega) (by omega) (by omega)) (fun k => hf _ _ _ (by omega) (by omega) (by omega) (by omega)) (hf _ _ _ (by omega) (by omega) (by omega) (by omega)) (hf _ _ _ (by omega) (by omega) (by omega) (by omega)) (fun k hk => hf _ _ _ (by omega) (by omega) (by omega) (by omega))
theorem s_Sheet_renew {E : XE} {d u n : Nat} {so x : Int32} {H : HH} {Q : HH → Prop} (hx : so = -1 ∧ n = 0 ∨ ¬ so = -1 ∧ x = nI n ∧ n ≤ 40)
    (h : ∀ H1, H1 16 u 1 = so → H1 16 u 2 = nI n → (∀ k, k < 40 → H1 17 u k = 0) → (∀ a i k, ¬ (a = 16 ∧ i = u) → ¬ (a = 17 ∧ i = u) → H1 a i k = H a i k) → Q H1) : c_Sheet_renew E (d + 1) u so x H Q := by
  refine l_Sheet_renew (fun H1 e1 => ?_)
  have fin : ∀ H2 : HH, H2 = hu H1 16 u 2 (nI n) → c_fill E d 17 40 u 0 H2 (fun H3 => Q H3) := by
    intro H2 e2
    refine s_fill (a := 0) (by decide) rfl (by decide) (h _ ?_ ?_ (fun k hk => ?_) (fun a i k q1 q2 => ?_))
    · rw [hrow_kd _ _ _ (by decide), e2, hu_ne (by omega), e1, hu_at]
    · rw [hrow_kd _ _ _ (by decide), e2, hu_at]
    · rw [hrow_at, if_pos hk]
    · unfold hrow
      rw [if_neg q2, e2, hu_ne (by omega), e1, hu_ne (by omega)]
  refine ⟨fun q H2 e2 => ?_, fun q H4 e4 => ?_⟩
  · rcases hx with ⟨e, -⟩ | ⟨e, ex, hn⟩
    · exact absurd e q
    · refine fin H2 ?_
      rw [e2]
      congr 1
      rw [ex]
      unfold xmax xmin
      rw [if_neg (show ¬ (40 : Int32) < nI n by rw [show (40 : Int32) = nI 40 from rfl, nI_ltI (by omega) (by omega)]; omega)]
      by_cases c : (0 : Int32) < nI n
      · rw [if_pos c]
      · rw [if_neg c]
        rw [show (0 : Int32) = nI 0 from rfl, nI_ltI (by omega) (by omega)] at c
        have : n = 0 := by omega
        rw [this]; rfl
  · rcases hx with ⟨-, en⟩ | ⟨e, -⟩
    · refine fin H4 ?_
      rw [e4, en]; rfl
    · exact absurd q e
theorem m_sheet {E : XE} {d d2 : Nat} {x1 x2 x3 : Int32} {s : SN} {H : HH} (hI : INV H s) : c_Main_sheet E (d + 20) x1 x2 x3 H (fun r H1 => c_Model_sheet E (d2 + 20) x1 x2 x3 H1 (eqI r)) := by
  -- the reference's side, when all is well
  have md : ∀ (u n : Nat) (H1 : HH), u < 4 → x1 = nI u → (-1 ≤ x2 ∧ x2 ≤ 2) → (x2 = -1 ∧ n = 0 ∨ ¬ x2 = -1 ∧ x3 = nI n ∧ n ≤ 40) → H1 16 u 1 = x2 → H1 16 u 2 = nI n → (∀ k, k < 40 → H1 17 u k = 0) → (∀ a i k, ¬ (a = 16 ∧ i = u) → ¬ (a = 17 ∧ i = u) → H1 a i k = H a i k) → c_Model_sheet E (d2 + 20) x1 x2 x3 H1 (eqI 1) := by
    intro u n H1 hu4 eu hx2 hx g1 g2 g3 g4
    have vin4 : vp_in x1 4 := by rw [eu]; exact vp_in_nI hu4 (by omega)
    have cu : x1.toNatClampNeg = u := by rw [eu, nI_clamp (by omega)]
    have hn40 : n ≤ 40 := by rcases hx with ⟨-, e⟩ | ⟨-, -, e⟩ <;> omega
    -- the loop
    have lp : ∀ H6 : HH, H6 = (hu (hu H1 40 0 u x2) 41 0 u (if x2 = (-1) then 0 else x3 : Int32)) → ∃ (I7 : Int32 → HH → Prop) (μ7 : Int32 → HH → Nat), I7 0 H6 ∧ ∀ (z8 : Int32) (H9 : HH), I7 z8 H9 → ((40 ≤ z8 → (eqI 1 1 H9)) ∧ (¬ 40 ≤ z8 → (vp_in ((40 * x1) + z8) 160 ∧ (∀ H10 : HH, H10 = (hu H9 42 0 (((40 * x1) + z8).toNatClampNeg) 0) → (I7 (z8 + 1) H10 ∧ μ7 (z8 + 1) H10 < μ7 z8 H9))))) := by
      intro H6 e6
      refine ⟨fun z G => ∃ c, c ≤ 40 ∧ z = nI c ∧ (∀ k, k < c → G 42 0 (40 * u + k) = 0) ∧ ∀ a i k, ¬ (a = 42 ∧ i = 0 ∧ 40 * u ≤ k ∧ k < 40 * u + 40) → G a i k = H6 a i k, fun z _ => 40 - z.toNatClampNeg, ⟨0, by omega, rfl, fun k hk => absurd hk (Nat.not_lt_zero _), fun _ _ _ _ => rfl⟩, fun z8 G hJ => ?_⟩
      obtain ⟨c, hc, rfl, h1, h2⟩ := hJ
      refine ⟨fun q => ?_, fun q => ?_⟩
      · rw [show (40 : Int32) = nI 40 from rfl, nI_leI (by omega) (by omega)] at q
        have e : c = 40 := by omega
        subst e
        refine ⟨rfl, s, hI.shx hu4 (fun a i k q1 q2 q3 q4 => ?_) ⟨?_, ?_, ⟨n, hn40, ?_, ?_⟩, fun i hi => ?_⟩⟩
        · rw [h2 a i k q4, e6, hu_ne (by omega), hu_ne (by omega)]; exact g4 a i k q1 q2
        · rw [h2 40 0 u (by omega), h2 16 u 1 (by omega), e6, hu_ne (by omega), hu_at, hu_ne (by omega), hu_ne (by omega), g1]
        · rw [h2 16 u 1 (by omega), e6, hu_ne (by omega), hu_ne (by omega), g1]
          have z : (-1 : Int32).toInt = -1 := rfl
          have z0 : (0 : Int32).toInt = 0 := rfl
          have z1 : (1 : Int32).toInt = 1 := rfl
          have z2 : (2 : Int32).toInt = 2 := rfl
          simp only [ti_le, ti_eq] at hx2 ⊢
          omega
        · rw [h2 16 u 2 (by omega), e6, hu_ne (by omega), hu_ne (by omega), g2]
        · rw [h2 41 0 u (by omega), e6, hu_at]
          rcases hx with ⟨e, en⟩ | ⟨e, ex, -⟩
          · rw [if_pos e, en]; rfl
          · rw [if_neg e, ex]
        · rw [h1 i hi, h2 17 u i (by omega), e6, hu_ne (by omega), hu_ne (by omega), g3 i hi]
      · rw [show (40 : Int32) = nI 40 from rfl, nI_leI (by omega) (by omega)] at q
        have ei : (40 : Int32) * x1 + nI c = nI (40 * u + c) := by rw [eu, show (40 : Int32) = nI 40 from rfl, nI_mul, nI_add]
        rw [ei]
        refine ⟨vp_in_nI (by omega) (by omega), fun H10 e10 => ⟨⟨c + 1, by omega, nI_1 c, fun k hk => ?_, fun a i k q => ?_⟩, ?_⟩⟩
        · rw [e10, nI_clamp (by omega)]
          by_cases e : k = c
          · rw [e, hu_at]
          · rw [hu_k _ _ (by omega)]; exact h1 k (by omega)
        · rw [e10, nI_clamp (by omega), hu_ne (by omega)]; exact h2 a i k q
        · show 40 - (nI c + 1).toNatClampNeg < 40 - (nI c).toNatClampNeg
          rw [nI_1, nI_clamp (by omega), nI_clamp (by omega)]; omega
    refine l_Model_sheet ?_
    unfold p_Model_sheet
    rw [cu]
    refine s_Model_in3 (fun _ _ _ => ?_) (fun no => absurd eu (no u hu4))
    refine ⟨fun z => absurd z (by decide), fun _ => s_Model_in (fun _ _ => ?_) (fun q => absurd hx2 q)⟩
    refine ⟨fun z => absurd z (by decide), fun _ => ?_⟩
    rcases hx with ⟨e, en⟩ | ⟨e, ex, hn⟩
    · refine ⟨fun _ => ⟨fun _ => ⟨vin4, vin4, fun H6 e6 => lp H6 e6⟩, fun z => absurd e z⟩, fun z => absurd e z⟩
    · refine ⟨fun z => absurd z e, fun _ => ⟨fun _ => ⟨fun z => absurd z e, fun _ => ⟨fun _ => ⟨vin4, vin4, fun H6 e6 => lp H6 e6⟩, fun z => absurd (by rw [ex]; exact nI_pos' (by omega)) z⟩⟩, fun z => absurd (by rw [ex]; exact nI_le (b := 40) hn (by omega)) z⟩⟩
  -- when it refuses
  have bad : ∀ r : Int32, ((¬ (∃ u, u < 4 ∧ x1 = nI u) ∨ ¬ (-1 ≤ x2 ∧ x2 ≤ 2) ∨ (¬ x2 = -1 ∧ ¬ x3 ≤ 40)) ∧ r = -2 ∨ (∃ u, u < 4 ∧ x1 = nI u) ∧ (-1 ≤ x2 ∧ x2 ≤ 2) ∧ ¬ x2 = -1 ∧ x3 ≤ 40 ∧ ¬ 0 ≤ x3 ∧ r = -14) → c_Model_sheet E (d2 + 20) x1 x2 x3 H (eqI r) := by
    intro r hr
    refine l_Model_sheet ?_
    unfold p_Model_sheet
    have ok : ∀ r2 : Int32, r2 = r → eqI r r2 H := fun r2 e => eqI_sc hI scF.rf e
    refine s_Model_in3 (fun u hu4 eu => ?_) (fun no => ⟨fun _ => ok _ ?_, fun z => absurd rfl z⟩)
    · refine ⟨fun z => absurd z (by decide), fun _ => s_Model_in (fun q1 q2 => ?_) (fun q => ⟨fun _ => ok _ ?_, fun z => absurd rfl z⟩)⟩
      · refine ⟨fun z => absurd z (by decide), fun _ => ⟨fun e => ?_, fun e => ⟨fun e2 => ?_, fun e2 => ok _ ?_⟩⟩⟩
        · exfalso
          rcases hr with ⟨h1 | h1 | h1, -⟩ | ⟨-, -, h1, -⟩
          · exact h1 ⟨u, hu4, eu⟩
          · exact h1 ⟨q1, q2⟩
          · exact h1.1 e
          · exact h1 e
        · refine ⟨fun z => absurd z e, fun _ => ⟨fun e3 => ?_, fun e3 => ok _ ?_⟩⟩
          · exfalso
            rcases hr with ⟨h1 | h1 | h1, -⟩ | ⟨-, -, -, -, h1, -⟩
            · exact h1 ⟨u, hu4, eu⟩
            · exact h1 ⟨q1, q2⟩
            · exact h1.2 e2
            · exact h1 e3
          · rcases hr with ⟨h1 | h1 | h1, -⟩ | ⟨-, -, -, -, -, h1⟩
            · exact absurd ⟨u, hu4, eu⟩ h1
            · exact absurd ⟨q1, q2⟩ h1
            · exact absurd e2 h1.2
            · exact h1.symm
        · rcases hr with ⟨-, h1⟩ | ⟨-, -, -, h1, -⟩
          · exact h1.symm
          · exact absurd h1 e2
      · rcases hr with ⟨-, h1⟩ | ⟨-, h1, -⟩
        · exact h1.symm
        · exact absurd h1 q
    · rcases hr with ⟨-, h1⟩ | ⟨⟨u, hu4, eu⟩, -⟩
      · exact h1.symm
      · exact absurd eu (no u hu4)
  refine l_Main_sheet (s_Main_isSheetN (fun u hu4 eu => ⟨fun z => absurd z (by decide), fun _ => ?_⟩) (fun no => ⟨fun _ => bad _ (Or.inl ⟨Or.inl (fun z => by obtain ⟨u, h1, h2⟩ := z; exact no u h1 h2), rfl⟩), fun z => absurd rfl z⟩))
  have vin4 : vp_in x1 4 := by rw [eu]; exact vp_in_nI hu4 (by omega)
  have cu : x1.toNatClampNeg = u := by rw [eu, nI_clamp (by omega)]
  rw [cu]
  refine s_Main_isWithin (fun q1 q2 => ⟨fun _ => ⟨fun e => ⟨vin4, ?_⟩, fun e => ⟨fun e2 => ⟨fun e3 => ⟨vin4, ?_⟩, fun e3 => ?_⟩, fun e2 => ?_⟩⟩, fun z => absurd z (by decide)⟩) (fun q => ⟨fun z => absurd rfl z, fun _ => bad _ (Or.inl ⟨Or.inr (Or.inl q), rfl⟩)⟩)
  · exact s_Sheet_renew (n := 0) (Or.inl ⟨e, rfl⟩) (fun H1 g1 g2 g3 g4 => md u 0 H1 hu4 eu ⟨q1, q2⟩ (Or.inl ⟨e, rfl⟩) g1 g2 g3 g4)
  · obtain ⟨n, hn, en⟩ := nat_of (n := 40) (by omega) e3 e2
    exact s_Sheet_renew (n := n) (Or.inr ⟨e, en, hn⟩) (fun H1 g1 g2 g3 g4 => md u n H1 hu4 eu ⟨q1, q2⟩ (Or.inr ⟨e, en, hn⟩) g1 g2 g3 g4)
  · exact bad _ (Or.inr ⟨⟨u, hu4, eu⟩, ⟨q1, q2⟩, e, e2, e3, rfl⟩)
  · exact bad _ (Or.inl ⟨Or.inr (Or.inr ⟨e, e2⟩), rfl⟩)
theorem m_cell {E : XE} {d d2 : Nat} {x1 x2 x3 : Int32} {s : SN} {H : HH} (hI : INV H s) : c_Main_cell E (d + 20) x1 x2 x3 H (fun r H1 => c_Model_cell E (d2 + 20) x1 x2 x3 H1 (eqI r)) := by
  refine l_Main_cell (s_Main_isSheetN (fun u hu4 eu => ?_) (fun no => ⟨fun z => absurd rfl z, fun _ => l_Model_cell (s_Model_in3 (fun u h1 h2 => absurd h2 (no u h1)) (fun _ => ⟨fun z => absurd rfl z, fun _ => eqI_sc hI scF.rf rfl⟩))⟩))
  have vin4 : vp_in x1 4 := by rw [eu]; exact vp_in_nI hu4 (by omega)
  have cu : x1.toNatClampNeg = u := by rw [eu, nI_clamp (by omega)]
  obtain ⟨e40, eso, ⟨n, hn, en, e41⟩, e42⟩ := id (hI.2.2.2.2.2.2.2.1 u hu4)
  rw [cu]
  -- up to the place
  have start : ∀ (H1 : HH) (r : Int32), H1 40 0 u = H 40 0 u → (∀ (K : Prop), K → K) → ((H 16 u 1 = -1 → eqI r (-11) H1) ∧ (¬ H 16 u 1 = -1 → c_Model_in E (d2 + 19) x2 0 ((H1 41 0 u) - 1) H1 (fun r4 H3 => (¬ r4 = 0 → (vp_in x1 4 ∧ ((¬ (H3 40 0 u) = 0 → (vp_in x1 4 ∧ ((¬ (H3 40 0 u) = 1 → (vp_in ((40 * x1) + x2) 160 ∧ (∀ H5 : HH, H5 = (hu H3 42 0 (((40 * x1) + x2).toNatClampNeg) x3) → (eqI r 1 H5)))) ∧ ((H3 40 0 u) = 1 → (vp_in ((40 * x1) + x2) 160 ∧ (∀ H6 : HH, H6 = (hu H3 42 0 (((40 * x1) + x2).toNatClampNeg) (x3.toInt16.toInt32)) → (eqI r 1 H6))))))) ∧ ((H3 40 0 u) = 0 → (vp_in ((40 * x1) + x2) 160 ∧ (∀ H7 : HH, H7 = (hu H3 42 0 (((40 * x1) + x2).toNatClampNeg) (x3.toInt8.toInt32)) → (eqI r 1 H7))))))) ∧ (r4 = 0 → (eqI r (-12) H3))))) → c_Model_cell E (d2 + 20) x1 x2 x3 H1 (eqI r) := by
    intro H1 r h40 _ hh
    refine l_Model_cell ?_
    unfold p_Model_cell
    rw [cu]
    refine s_Model_in3 (fun _ _ _ => ?_) (fun no => absurd eu (no u hu4))
    refine ⟨fun _ => ⟨vin4, ?_⟩, fun z => absurd z (by decide)⟩
    rw [h40, e40]
    exact ⟨fun q => ⟨vin4, hh.2 q⟩, fun q => hh.1 q⟩
  refine ⟨fun _ => ⟨vin4, s_Sheet_isMissing (fun m => ⟨fun z => absurd z (by decide), fun _ => start H _ rfl (fun _ h => h) ⟨fun _ => eqI_sc hI scF.rf rfl, fun z => absurd m z⟩⟩) (fun m => ⟨fun _ => ⟨vin4, ?_⟩, fun z => absurd rfl z⟩)⟩, fun z => absurd z (by decide)⟩
  have inR : ∀ i, i < n → (0 ≤ nI i ∧ nI i ≤ nI n - 1) := by
    intro i hi
    refine ⟨nI_pos' (by omega), ?_⟩
    rw [show n = (n - 1) + 1 by omega, nI_pred]
    exact nI_le (by omega) (by omega)
  refine s_Sheet_has (fun h1 h2 => ⟨fun _ => ⟨vin4, ?_⟩, fun z => absurd z (by decide)⟩) (fun hno => ⟨fun z => absurd rfl z, fun _ => start H _ rfl (fun _ h => h) ⟨fun z => absurd z m, fun _ => ?_⟩⟩)
  · obtain ⟨i, hi, ei⟩ := nI_of (x := x2) (fun z => by simp only [ti_lt, ti_le] at *; omega)
    rw [ei, en, nI_ltI hi (by omega)] at h2
    have c2 : x2.toNatClampNeg = i := by rw [ei, nI_clamp hi]
    have vin40 : vp_in x2 40 := by rw [ei]; exact vp_in_nI (by omega) (by omega)
    have eix : (40 : Int32) * x1 + x2 = nI (40 * u + i) := by rw [eu, ei, show (40 : Int32) = nI 40 from rfl, nI_mul, nI_add]
    have vinx : vp_in ((40 : Int32) * x1 + x2) 160 := by rw [eix]; exact vp_in_nI (by omega) (by omega)
    have cx : ((40 : Int32) * x1 + x2).toNatClampNeg = 40 * u + i := by rw [eix, nI_clamp (by omega)]
    -- both lay the same number
    have fin : ∀ (y : Int32) (H1 H2 : HH), H1 = hu H 17 u i y → H2 = hu H1 42 0 (40 * u + i) y → eqI 1 1 H2 := by
      intro y H1 H2 e1 e2
      have k2 : ∀ a b k, ¬ (a = 17 ∧ b = u ∧ k = i) → ¬ (a = 42 ∧ b = 0 ∧ k = 40 * u + i) → H2 a b k = H a b k := by
        intro a b k q1 q2
        rw [e2, hu_ne q2, e1, hu_ne q1]
      refine ⟨rfl, s, hI.shx hu4 (fun a b k q1 q2 q3 q4 => k2 a b k (by omega) (by omega)) ⟨by rw [k2 _ _ _ (by omega) (by omega), k2 _ _ _ (by omega) (by omega)]; exact e40, by rw [k2 _ _ _ (by omega) (by omega)]; exact eso, ⟨n, hn, by rw [k2 _ _ _ (by omega) (by omega)]; exact en, by rw [k2 _ _ _ (by omega) (by omega)]; exact e41⟩, fun k hk => ?_⟩⟩
      by_cases c : k = i
      · rw [c, e2, hu_at, hu_ne (by omega), e1, hu_at]
      · rw [k2 _ _ _ (by omega) (by omega), k2 _ _ _ (by omega) (by omega)]; exact e42 k hk
    have md : ∀ (y : Int32) (H1 : HH), y = (if H 16 u 1 = 0 then x3.toInt8.toInt32 else if H 16 u 1 = 1 then x3.toInt16.toInt32 else x3) → H1 = hu H 17 u i y → c_Model_cell E (d2 + 20) x1 x2 x3 H1 (eqI 1) := by
      intro y H1 ey e1
      have k40 : H1 40 0 u = H 16 u 1 := by rw [e1, hu_ne (by omega)]; exact e40
      refine start H1 1 (by rw [k40, e40]) (fun _ h => h) ⟨fun z => absurd z m, fun _ => ?_⟩
      rw [e1, hu_ne (by omega), e41, ← e1]
      refine s_Model_in (fun _ _ => ⟨fun _ => ⟨vin4, ?_⟩, fun z => absurd z (by decide)⟩) (fun q => absurd (by rw [ei]; exact inR i h2) q)
      rw [k40, cx]
      refine ⟨fun q => ⟨vin4, fun q2 => ⟨vinx, fun H5 e5 => fin y H1 H5 e1 ?_⟩, fun q2 => ⟨vinx, fun H6 e6 => fin y H1 H6 e1 ?_⟩⟩, fun q => ⟨vinx, fun H7 e7 => fin y H1 H7 e1 ?_⟩⟩
      · rw [e5, ey, if_neg q, if_neg q2]
      · rw [e6, ey, if_neg q, if_pos q2]
      · rw [e7, ey, if_pos q]
    refine l_Sheet_put (s_Sheet_has (fun _ _ => ?_) (fun q => absurd ⟨h1, by rw [ei, en]; exact nI_lt h2 (by omega)⟩ q))
    refine ⟨fun _ => ⟨fun q => ⟨fun q2 => ⟨vin40, fun H3 e3 => md _ H3 rfl ?_⟩, fun q2 => ⟨vin40, fun H4 e4 => md _ H4 rfl ?_⟩⟩, fun q => ⟨vin40, fun H5 e5 => md _ H5 rfl ?_⟩⟩, fun z => absurd z (by decide)⟩
    · rw [e3, c2, if_neg q, if_neg q2]
    · rw [e4, c2, if_neg q, if_pos q2]
    · rw [e5, c2, if_pos q]
  · rw [e41]
    refine s_Model_in (fun a b => ?_) (fun _ => ⟨fun z => absurd rfl z, fun _ => eqI_sc hI scF.rf rfl⟩)
    exfalso
    refine hno ⟨a, ?_⟩
    obtain ⟨i, hi, ei⟩ := nI_of (x := x2) (fun z => by simp only [ti_lt, ti_le] at *; omega)
    rw [ei, en]
    rw [ei] at b
    have bn : (nI n - 1).toInt = (n : Int) - 1 := by
      rw [ti_sub (by rw [ti_nI (by omega)]; have : (1 : Int32).toInt = 1 := rfl; omega) (by rw [ti_nI (by omega)]; have : (1 : Int32).toInt = 1 := rfl; omega), ti_nI (by omega)]; rfl
    simp only [ti_le] at b
    rw [bn, ti_nI hi] at b
    exact nI_lt (by omega) (by omega)
theorem isA_all : ∀ k, k < 6 → ∀ a, a < 6 → (if nI a = 0 then 1 else (if nI k = nI a then 1 else (if nI a = 1 then (if nI k = 3 then 1 else (if nI a = 2 then (if nI k = 4 then 1 else 0 : Int32) else 0 : Int32) : Int32) else (if nI a = 2 then (if nI k = 4 then 1 else 0 : Int32) else 0 : Int32) : Int32) : Int32) : Int32) = isaF (nI k) (nI a) := by decide +kernel
theorem isA6_all : ∀ k, k < 6 → isaF (nI k) 6 = 0 := by decide +kernel
/-- KINDS above a kind, in turn -/
def abvN : Nat → Nat → Int32
  | 0, k => nI k
  | n + 1, k => if 0 ≤ abvN n k ∧ abvN n k < 6 then xABV.getD (abvN n k).toNatClampNeg 0 else abvN n k
theorem abv_3 : ∀ k, k < 6 → abvN 3 k < 0 := by decide +kernel
theorem abv_y : ∀ k, k < 6 → ∀ a, a < 7 → isaF (nI k) (nI a) = 1 → (abvN 0 k = nI a ∨ abvN 1 k = nI a ∨ abvN 2 k = nI a) := by decide +kernel
theorem abv_n : ∀ k, k < 6 → ∀ a, a < 7 → ∀ n, n < 3 → abvN n k = nI a → isaF (nI k) (nI a) = 1 := by decide +kernel
theorem abv_neg {k : Nat} : ∀ {n m : Nat}, abvN n k < 0 → abvN (n + m) k < 0 := by
  intro n m
  induction m with
  | zero => intro h; exact h
  | succ m ih =>
    intro h
    have h1 := ih h
    show (if 0 ≤ abvN (n + m) k ∧ abvN (n + m) k < 6 then _ else abvN (n + m) k) < 0
    rw [if_neg (fun z => by have := z.1; simp only [ti_lt, ti_le] at *; omega)]
    exact h1
theorem abv_rng : ∀ n, n < 4 → ∀ k, k < 6 → abvN n k < 6 ∧ (0 ≤ abvN n k → vp_in (abvN n k) 6) := by
  have h : ∀ n, n < 4 → ∀ k, k < 6 → abvN n k < 6 := by decide +kernel
  intro n hn k hk
  refine ⟨h n hn k hk, fun h0 => ?_⟩
  have := h n hn k hk
  have z : (6 : Int32).toInt = 6 := rfl
  have z0 : (0 : Int32).toInt = 0 := rfl
  simp only [ti_lt, ti_le] at this h0
  exact ti_in (by omega) (by omega)
theorem isaF_01 (k a : Int32) : isaF k a = 0 ∨ isaF k a = 1 := by
  unfold isaF
  split
  · exact Or.inr rfl
  · exact Or.inl rfl
theorem s_Vehicle_isA {E : XE} {d t k a : Nat} {H : HH} {Q : Int32 → HH → Prop} (hk : k < 6) (ha : a < 7) (h0 : H 3 t 0 = nI k) (hq : Q (isaF (nI k) (nI a)) H) : c_Vehicle_isA E d t (nI a) H Q := by
  have n3 := abv_3 k hk
  refine l_Vehicle_isA ⟨fun z2 z3 H1 => ∃ n, n ≤ 3 ∧ z2 = abvN n k ∧ z3 = nI (6 - n) ∧ H1 = H ∧ ∀ m, m < n → ¬ abvN m k = nI a ∧ ¬ abvN m k < 0, fun _ z3 _ => z3.toNatClampNeg, ⟨0, by omega, h0, rfl, rfl, fun m hm => absurd hm (Nat.not_lt_zero _)⟩, fun z2 z3 H4 hJ => ?_⟩
  obtain ⟨n, hn, rfl, rfl, e4, hm⟩ := hJ
  rw [e4]
  have no : (∀ m, m < 3 → abvN m k = nI a → False) → Q 0 H := by
    intro hno
    have e0 : isaF (nI k) (nI a) = 0 := by
      rcases isaF_01 (nI k) (nI a) with e | e
      · exact e
      · exfalso
        rcases abv_y k hk a ha e with h | h | h
        · exact hno 0 (by omega) h
        · exact hno 1 (by omega) h
        · exact hno 2 (by omega) h
    rw [e0] at hq
    exact hq
  obtain ⟨r6, rin⟩ := abv_rng n (by omega) k hk
  refine ⟨fun q => ?_, fun q => ⟨fun q2 => ?_, fun q2 => ⟨fun q3 => ?_, fun q3 => ⟨fun q4 => ⟨rin ?_, fun v5 e5 => ?_⟩, fun q4 => ?_⟩⟩⟩⟩
  · rw [show (0 : Int32) = nI 0 from rfl, nI_leI (by omega) (by omega)] at q; omega
  · refine no (fun m hm3 em => ?_)
    rcases Nat.lt_or_ge m n with c | c
    · exact (hm m c).1 em
    · have := abv_neg (m := m - n) q2
      rw [show n + (m - n) = m by omega, em] at this
      exact nI_pos (by omega) this
  · exfalso
    simp only [ti_lt, ti_le] at *; omega
  · simp only [ti_lt, ti_le] at *; omega
  · have n2 : n < 3 := by
      rcases Nat.lt_or_ge n 3 with c | c
      · exact c
      · have : n = 3 := by omega
        subst this; exact absurd n3 q2
    have h00 : 0 ≤ abvN n k := by simp only [ti_lt, ti_le] at *; omega
    have ev : v5 = abvN (n + 1) k := by
      rw [e5]
      show _ = (if 0 ≤ abvN n k ∧ abvN n k < 6 then _ else _)
      rw [if_pos ⟨h00, r6⟩]
    have em : nI (6 - n) + (-1) = nI (6 - (n + 1)) := by
      obtain ⟨m, hm6⟩ : ∃ m, 6 - n = m + 1 := ⟨5 - n, by omega⟩
      rw [hm6, ← nI_1, Int32.add_assoc, show 6 - (n + 1) = m by omega]; exact Int32.add_zero _
    refine ⟨⟨n + 1, by omega, ev, em, rfl, fun m hm2 => ?_⟩, ?_⟩
    · by_cases c : m = n
      · subst c; exact ⟨q4, q2⟩
      · exact hm m (by omega)
    · show (nI (6 - n) + (-1)).toNatClampNeg < (nI (6 - n)).toNatClampNeg
      rw [em, nI_clamp (by omega), nI_clamp (by omega)]; omega
  · have n2 : n < 3 := by
      rcases Nat.lt_or_ge n 3 with c | c
      · exact c
      · have : n = 3 := by omega
        subst this; exact absurd n3 q2
    have e1 := abv_n k hk a ha n n2 q4
    rw [e1] at hq
    exact hq
theorem m_taken {E : XE} {d d2 : Nat} {x1 x2 : Int32} {s : SN} {H : HH} (hI : INV H s) : c_Main_taken E (d + 20) x1 x2 H (fun r H1 => c_Model_taken E (d2 + 20) x1 x2 H1 (eqI r)) := by
  have nv4 : s.nv ≤ 4 := hI.1.1
  have ok : ∀ r r2 : Int32, r2 = r → eqI r r2 H := fun r r2 e => eqI_sc hI scF.rf e
  have b1 := hI.2.2.1.1
  refine l_Main_taken (s_Main_isWithin (fun q1 q2 => ⟨fun _ => ?_, fun z => absurd z (by decide)⟩) (fun q => ⟨fun z => absurd rfl z, fun _ => l_Model_taken (s_Model_in (fun a b => absurd ⟨a, b⟩ q) (fun _ => ⟨fun z => absurd rfl z, fun _ => ok _ _ rfl⟩))⟩))
  obtain ⟨a, ha, ea⟩ := nat_of (n := 6) (by omega) q1 q2
  refine s_Main_isWithin (fun q3 q4 => ⟨fun _ => ?_, fun z => absurd z (by decide)⟩) (fun q => ⟨fun z => absurd rfl z, fun _ => l_Model_taken (s_Model_in (fun _ _ => ⟨fun _ => s_Model_in (fun a b => absurd ⟨a, b⟩ q) (fun _ => ⟨fun z => absurd rfl z, fun _ => ok _ _ rfl⟩), fun z => absurd z (by decide)⟩) (fun q => absurd ⟨q1, q2⟩ q))⟩)
  obtain ⟨i, hi, ei⟩ := nat_of (n := 19) (by omega) q3 q4
  -- the reference, past what is refused
  have md : ∀ r : Int32, (((x1 < 4 → ((x1 < (H 30 0 3) → ((6 ≤ x2 → (eqI r (-13) H)) ∧ (¬ 6 ≤ x2 → (vp_in x1 4 ∧ (c_Model_isUnder E (d2 + 19) (H 32 0 (x1.toNatClampNeg)) x2 H (fun r6 H5 => eqI r (if r6 = 0 then (-13) else x1 : Int32) H5)))))) ∧ (¬ x1 < (H 30 0 3) → (eqI r (-11) H)))) ∧ (¬ x1 < 4 → ((¬ x2 = 6 → (eqI r (-13) H)) ∧ (x2 = 6 → (vp_in (x1 - 4) 16 ∧ (eqI r ((H 31 0 ((x1 - 4).toNatClampNeg)) + 100) H))))))) → c_Model_taken E (d2 + 20) x1 x2 H (eqI r) :=
    fun r h => l_Model_taken (s_Model_in (fun _ _ => ⟨fun _ => s_Model_in (fun _ _ => ⟨fun _ => h, fun z => absurd z (by decide)⟩) (fun q => absurd ⟨q3, q4⟩ q), fun z => absurd z (by decide)⟩) (fun q => absurd ⟨q1, q2⟩ q))
  refine ⟨fun l4 => ?_, fun l4 => ⟨fun n6 => md _ ⟨fun z => absurd z l4, fun _ => ⟨fun _ => ok _ _ rfl, fun z => absurd z n6⟩⟩, fun y6 => ?_⟩⟩
  · rw [ei, show (4 : Int32) = nI 4 from rfl, nI_ltI (by omega) (by omega)] at l4
    have l4' : x1 < 4 := by rw [ei]; exact nI_lt (b := 4) l4 (by omega)
    refine s_Main_isVehicle hI (fun j hj ej => ⟨fun _ => ⟨by rw [ei]; exact vp_in_nI l4 (by omega), ?_⟩, fun z => absurd z (by decide)⟩) (fun no => ⟨fun z => absurd rfl z, fun _ => md _ ⟨fun _ => ⟨fun z => ?_, fun _ => ok _ _ rfl⟩, fun z => absurd l4' z⟩⟩)
    · have eij : i = j := by rw [ei, nI_eq (by omega) (by omega)] at ej; exact ej
      subst eij
      obtain ⟨k, hk, ek⟩ := (hI.2.2.2.2.2.1 i hj).2.1
      have k3 : H 3 i 0 = nI k := by rw [← (hI.2.2.2.2.2.1 i hj).1 0 (by omega)]; exact ek
      have k32 : H 32 0 i = nI k := ek
      rw [ei, nI_clamp (by omega), show 4 * 0 + i = i by omega, ea]
      refine s_Vehicle_isA hk (by omega) k3 ?_
      rw [← ei, ← ea]
      refine md _ ⟨fun _ => ⟨fun _ => ⟨fun z => ok _ _ ?_, fun z => ⟨by rw [ei]; exact vp_in_nI l4 (by omega), ?_⟩⟩, fun z => absurd (by rw [ei, b1]; exact nI_lt hj (by omega)) z⟩, fun z => absurd l4' z⟩
      · have a6 : a = 6 := by rw [ea, show (6 : Int32) = nI 6 from rfl, nI_leI (by omega) (by omega)] at z; omega
        have : isaF (nI k) x2 = 0 := by rw [ea, a6]; exact isA6_all k hk
        rw [this]; rfl
      · have a6 : a < 6 := by rw [ea, show (6 : Int32) = nI 6 from rfl, nI_leI (by omega) (by omega)] at z; omega
        rw [ei, nI_clamp (by omega), k32, ea]
        refine l_Model_isUnder ?_
        unfold p_Model_isUnder
        rw [isA_all k hk a a6]
        refine ⟨isaF_01 _ _, ok _ _ rfl⟩
    · exfalso
      rw [ei, b1, nI_ltI (by omega) (by omega)] at z
      exact no i z ei
  · have l4' : ¬ i < 4 := fun z => l4 (by rw [ei]; exact nI_lt (b := 4) z (by omega))
    have e4 : x1 - 4 = nI (i - 4) := by
      rw [ei, ti_eq, ti_sub (by rw [ti_nI (by omega)]; have : (4 : Int32).toInt = 4 := rfl; omega) (by rw [ti_nI (by omega)]; have : (4 : Int32).toInt = 4 := rfl; omega), ti_nI (by omega), ti_nI (by omega)]
      have : (4 : Int32).toInt = 4 := rfl
      omega
    refine s_Main_across ?_
    refine md _ ⟨fun z => absurd z l4, fun _ => ⟨fun z => absurd y6 z, fun _ => ?_⟩⟩
    rw [e4, nI_clamp (by omega), hI.2.2.2.2.1.1 (i - 4) (by omega), acr_nI (by omega)]
    exact ⟨vp_in_nI (by omega) (by omega), ok _ _ rfl⟩
