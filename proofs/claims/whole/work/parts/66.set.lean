/-! THE CALLS 6: set. -/
/-- the lane in thought with one number another -/
theorem s_fits_set {E : XE} {d j k : Nat} {x : Int32} {s : SN} {H H14 : HH} {K : Int32 → HH → Prop} (hI : INV H s) (hs : scF H H14) (r14 : rdOK H14 s.lw) (k0 : H14 2 2 0 = nI s.wd) (k1 : H14 2 2 1 = nI s.op) (k8 : H14 3 8 = vM H j) (hk : k = 0 ∨ k = 1)
    (K1 : fitV (lwH H s) (if k = 0 then x else nI s.wd) (if k = 1 then x else nI s.op) (vM H j) (vM H j 2) (vM H j 3) → ∀ H16, scF H H16 → rdOK H16 s.lw → H16 2 2 0 = (if k = 0 then x else nI s.wd) → H16 2 2 1 = (if k = 1 then x else nI s.op) → H16 3 8 = vM H j → K 1 H16)
    (K0 : ¬ fitV (lwH H s) (if k = 0 then x else nI s.wd) (if k = 1 then x else nI s.op) (vM H j) (vM H j 2) (vM H j 3) → ∀ H16, scF H H16 → K 0 H16) : ∀ H15 : HH, H15 = hu H14 2 2 k x → c_Ride_fitsNow E (d + 4) H15 K := by
  intro H15 e15
  have s15 : scF H H15 := by rw [e15]; exact hs.hu (by unfold scr; omega)
  have f15 : hfr [2] H14 H15 := by rw [e15]; exact hfr.rf.hu (by decide)
  have r15 : rdOK H15 s.lw := r14.fr f15 (by decide) (by decide) (by decide)
  have w0 : H15 2 2 0 = (if k = 0 then x else nI s.wd) := by
    rw [e15]
    rcases hk with rfl | rfl
    · rw [hu_at]; rfl
    · rw [hu_ne (by omega), k0]; rfl
  have w1 : H15 2 2 1 = (if k = 1 then x else nI s.op) := by
    rw [e15]
    rcases hk with rfl | rfl
    · rw [hu_ne (by omega), k1]; rfl
    · rw [hu_at]; rfl
  have k815 : H15 3 8 = vM H j := by rw [f15 3 (by decide)]; exact k8
  have ef : ∀ p h, fitR H15 s.lw p h = fitV (lwH H s) (if k = 0 then x else nI s.wd) (if k = 1 then x else nI s.op) (vM H j) p h := by
    intro p h
    rw [(rat.self (H := H15)).fit, w0, w1, k815, think_lw hI s15]
  refine l_Ride_fitsNow ?_
  unfold p_Ride_fitsNow
  rw [k815]
  refine s_Ride_fits r15 (fun hf H16 f16 => ⟨Or.inr rfl, ?_⟩) (fun hf H16 f16 => ⟨Or.inl rfl, ?_⟩)
  · rw [ef] at hf
    exact K1 hf H16 (s15.tr (f16.sc (by decide))) (r15.fr f16 (by decide) (by decide) (by decide)) (by rw [f16 2 (by decide)]; exact w0) (by rw [f16 2 (by decide)]; exact w1) (by rw [f16 3 (by decide)]; exact k815)
  · rw [ef] at hf
    exact K0 hf H16 (s15.tr (f16.sc (by decide)))
theorem s_Model_doAllFit {E : XE} {d t nv wd : Nat} {op : Int32} {code ends : Nat → Int32} {H : HH} {Q : Int32 → HH → Prop} (hr : mlOK H t code ends) (hn : H 30 0 3 = nI nv) (h4 : nv ≤ 4) (hw : H 30 0 1 = nI wd) (hw60 : wd ≤ 60) (ho : H 30 0 2 = op) (hv : ∀ j, j < nv → vOK (vM H j))
    (h1 : (∀ j, j < nv → fitV (lwF code ends) (nI wd) op (vM H j) (vM H j 2) (vM H j 3)) → ∀ H1, hfr [46, 47] H H1 → Q 1 H1)
    (h0 : ¬ (∀ j, j < nv → fitV (lwF code ends) (nI wd) op (vM H j) (vM H j 2) (vM H j 3)) → ∀ H1, hfr [46, 47] H H1 → Q 0 H1) : c_Model_doAllFit E (d + 4) H Q := by
  refine l_Model_doAllFit ⟨fun z2 z3 H4 => ∃ i, i ≤ nv ∧ z3 = nI i ∧ hfr [46, 47] H H4 ∧ ((z2 = 1 ∧ ∀ j, j < i → fitV (lwF code ends) (nI wd) op (vM H j) (vM H j 2) (vM H j 3)) ∨ (z2 = 0 ∧ ∃ j, j < i ∧ ¬ fitV (lwF code ends) (nI wd) op (vM H j) (vM H j 2) (vM H j 3))), fun _ z3 _ => 4 - z3.toNatClampNeg, ⟨0, by omega, rfl, hfr.rf, Or.inl ⟨rfl, fun j hj => absurd hj (Nat.not_lt_zero _)⟩⟩, fun z2 z3 H4 hI => ?_⟩
  obtain ⟨i, hi, rfl, f4, hc⟩ := hI
  have n4 : H4 30 0 3 = nI nv := by rw [f4 30 (by decide)]; exact hn
  refine ⟨fun q => ?_, fun q => ?_⟩
  · rw [n4, nI_leI (by omega) (by omega)] at q
    have e : i = nv := by omega
    subst e
    rcases hc with ⟨rfl, hc⟩ | ⟨rfl, j, hj, hc⟩
    · exact ⟨Or.inr rfl, h1 hc H4 f4⟩
    · exact ⟨Or.inl rfl, h0 (fun z => hc (z j hj)) H4 f4⟩
  · rw [n4, nI_leI (by omega) (by omega)] at q
    have hin : i < nv := by omega
    have mu : 4 - (nI i + 1).toNatClampNeg < 4 - (nI i).toNatClampNeg := by rw [nI_1, nI_clamp (by omega), nI_clamp (by omega)]; omega
    have vm4 : vM H4 i = vM H i := vM_of i (f4 32 (by decide)) (f4 33 (by decide)) (f4 34 (by decide))
    obtain ⟨a, ha, ea⟩ := (hv i hin).1
    have r2 : H4 34 0 (5 * i) = vM H i 2 := congrFun vm4 2
    have r3 : H4 34 0 (5 * i + 1) = nI a := (congrFun vm4 3).trans ea
    have w4 : H4 30 0 1 = nI wd := by rw [f4 30 (by decide)]; exact hw
    have ml4 := hr.fr f4 (by decide) (by decide) (by decide) (by decide)
    rw [i5_1, i5_0, nI_clamp (by omega), nI_clamp (by omega), r2]
    have vin : vp_in (nI (5 * i)) 20 := vp_in_nI (by omega) (by omega)
    have no : ∀ H5, hfr [46, 47] H H5 → ¬ fitV (lwF code ends) (nI wd) op (vM H i) (vM H i 2) (vM H i 3) → ∀ z : Int32, z = 0 → (∃ i', i' ≤ nv ∧ nI i + 1 = nI i' ∧ hfr [46, 47] H H5 ∧ ((z = 1 ∧ ∀ j, j < i' → fitV (lwF code ends) (nI wd) op (vM H j) (vM H j 2) (vM H j 3)) ∨ (z = 0 ∧ ∃ j, j < i' ∧ ¬ fitV (lwF code ends) (nI wd) op (vM H j) (vM H j 2) (vM H j 3)))) ∧ 4 - (nI i + 1).toNatClampNeg < 4 - (nI i).toNatClampNeg :=
      fun H5 f5 hno z ez => ⟨⟨i + 1, hin, nI_1 i, f5, Or.inr ⟨ez, i, by omega, hno⟩⟩, mu⟩
    refine ⟨vin, s_Model_isPlace (fun q1 q2 => ?_) (fun q1 => ?_)⟩
    · rw [w4] at q2
      refine ⟨fun z => absurd z (by decide), fun _ => ⟨vin, vp_in_nI (by omega) (by omega), ?_⟩⟩
      rw [r2, r3]
      have ef : fitM H4 code ends i (vM H i 2) (nI a) = fitV (lwF code ends) (nI wd) op (vM H i) (vM H i 2) (vM H i 3) := by
        unfold fitM
        rw [vm4, w4, f4 30 (by decide), ho, ea]
      refine s_Model_fitsAt ml4 (by omega) ha ⟨q1, by rw [w4]; exact q2⟩ (fun hf H7 f7 v10 e10 => ?_) (fun hf H7 f7 v10 e10 => ?_)
      · rw [ef] at hf
        rcases hc with ⟨rfl, hc⟩ | ⟨rfl, j, hj, hc⟩
        · refine ⟨⟨i + 1, hin, nI_1 i, f4.tr f7, Or.inl ⟨by rw [e10]; decide, fun j hj => ?_⟩⟩, mu⟩
          by_cases e : j = i
          · rw [e]; exact hf
          · exact hc j (by omega)
        · exact ⟨⟨i + 1, hin, nI_1 i, f4.tr f7, Or.inr ⟨by rw [e10]; decide, j, by omega, hc⟩⟩, mu⟩
      · rw [ef] at hf
        refine no H7 (f4.tr f7) hf v10 ?_
        rw [e10, if_pos rfl]
        exact Int32.and_zero
    · refine ⟨fun _ => no H4 f4 (fun z => q1 ⟨z.1, by rw [w4]; exact z.2.1⟩) _ Int32.and_zero, fun z => absurd rfl z⟩
theorem m_set {E : XE} {d d2 : Nat} {x1 x2 : Int32} {s : SN} {H : HH} (hI : INV H s) : c_Main_set E (d + 20) x1 x2 H (fun r H1 => c_Model_set E (d2 + 20) x1 x2 H1 (eqI r)) := by
  have nv4 : s.nv ≤ 4 := hI.1.1
  have w60 : s.wd ≤ 60 := hI.1.2.2.1
  obtain ⟨c1, c2, c3, c4, c5, c6, c7⟩ := hI.1
  obtain ⟨a1, a2, a3, a4, a5, a6⟩ := hI.2.1
  obtain ⟨b1, b2, b3, b4, b5, b6⟩ := hI.2.2.1
  -- the reference's side: k which number, n what it becomes
  have md : ∀ (k n : Nat) (H1 : HH), (k = 0 ∨ k = 1) → x1 = nI k → x2 = nI n → (if k = 0 then 8 ≤ n ∧ n ≤ 60 else n ≤ 20) → scF H H1 →
      ((∀ j, j < s.nv → fitV (lwH H s) (if k = 0 then x2 else nI s.wd) (if k = 1 then x2 else nI s.op) (vM H j) (vM H j 2) (vM H j 3)) → c_Model_set E (d2 + 20) x1 x2 (hu H1 2 0 k x2) (eqI (if k = 0 then nI s.wd else nI s.op))) ∧
      (¬ (∀ j, j < s.nv → fitV (lwH H s) (if k = 0 then x2 else nI s.wd) (if k = 1 then x2 else nI s.op) (vM H j) (vM H j 2) (vM H j 3)) → c_Model_set E (d2 + 20) x1 x2 H1 (eqI (-3))) := by
    intro k n H1 hk ek en hn s1
    have hn60 : n ≤ 60 := by rcases hk with rfl | rfl <;> simp at hn <;> omega
    -- from any heap whose kinds from 30 on are so
    have go : ∀ (H2 : HH) (r : Int32) , (∀ a i c, 30 ≤ a → H2 a i c = H1 a i c) →
        (∀ H3, (∀ a i c, ¬ scr a i c → ¬ (a = 30 ∧ i = 0 ∧ c = k + 1) → H3 a i c = H2 a i c) → H3 30 0 (k + 1) = x2 → (∀ j, j < s.nv → fitV (lwH H s) (if k = 0 then x2 else nI s.wd) (if k = 1 then x2 else nI s.op) (vM H j) (vM H j 2) (vM H j 3)) → eqI r (if k = 0 then nI s.wd else nI s.op) H3) →
        (∀ H3, (∀ a i c, ¬ scr a i c → H3 a i c = H2 a i c) → ¬ (∀ j, j < s.nv → fitV (lwH H s) (if k = 0 then x2 else nI s.wd) (if k = 1 then x2 else nI s.op) (vM H j) (vM H j 2) (vM H j 3)) → eqI r (-3) H3) → c_Model_set E (d2 + 20) x1 x2 H2 (eqI r) := by
      intro H2 r h2 g1 g0
      have e2 : ∀ a i c, 30 ≤ a → ¬ scr a i c → H2 a i c = H a i c := fun a i c q0 q1 => by rw [h2 a i c q0]; exact s1 a i c q1
      refine l_Model_set ?_
      unfold p_Model_set
      refine s_Model_in (fun _ _ => ?_) (fun q => absurd (by rw [ek]; rcases hk with rfl | rfl <;> decide) q)
      refine ⟨fun _ => ?_, fun z => absurd z (by decide)⟩
      have hr : (if x1 = 0 then 8 else 0 : Int32) ≤ x2 ∧ x2 ≤ (if x1 = 0 then 60 else 20 : Int32) := by
        rw [ek, en]
        rcases hk with rfl | rfl
        · simp only [if_true] at hn
          rw [if_pos (show nI 0 = 0 from rfl), if_pos (show nI 0 = 0 from rfl), show (8 : Int32) = nI 8 from rfl, show (60 : Int32) = nI 60 from rfl]
          exact ⟨nI_le hn.1 (by omega), nI_le hn.2 (by omega)⟩
        · simp only [show ¬ (1 : Nat) = 0 by decide, if_false] at hn
          rw [if_neg (show ¬ nI 1 = 0 by decide), if_neg (show ¬ nI 1 = 0 by decide), show (0 : Int32) = nI 0 from rfl, show (20 : Int32) = nI 20 from rfl]
          exact ⟨nI_le (by omega) (by omega), nI_le hn (by omega)⟩
      refine s_Model_in (fun _ _ => ?_) (fun q => absurd hr q)
      refine ⟨fun _ H9 e9 => ?_, fun z => absurd z (by decide)⟩
      have wI : H2 30 0 1 = nI s.wd := by rw [e2 30 0 1 (by omega) (by unfold scr; omega)]; exact b2
      have oI : H2 30 0 2 = nI s.op := by rw [e2 30 0 2 (by omega) (by unfold scr; omega)]; exact b3
      have w9 : H9 30 0 1 = (if k = 0 then x2 else nI s.wd) := by
        rw [e9, hu_ne (by omega), hu_at, wI, ek]
        rcases hk with rfl | rfl <;> rfl
      have o9 : H9 30 0 2 = (if k = 1 then x2 else nI s.op) := by
        rw [e9, hu_at, hu_ne (by omega), oI, ek]
        rcases hk with rfl | rfl <;> rfl
      have k9 : ∀ a i c, ¬ (a = 30 ∧ i = 0 ∧ (c = 1 ∨ c = 2)) → H9 a i c = H2 a i c := by
        intro a i c q
        rw [e9, hu_ne (by omega), hu_ne (by omega)]
      have ml9 : mlOK H9 s.lw (H 12 s.lw) (H 13 s.lw) := by
        obtain ⟨m1, m2, m3, m4⟩ := hI.ml
        refine ⟨by rw [k9 30 0 12 (by omega), e2 30 0 12 (by omega) (by unfold scr; omega)]; exact m1, m2, m3.pt (fun c _ => by rw [k9 37 0 _ (by omega)]; exact e2 37 0 _ (by omega) (by unfold scr; omega)) (fun c _ => by rw [k9 36 0 _ (by omega)]; exact e2 36 0 _ (by omega) (by unfold scr; omega)), fun c hc => ?_⟩
        rw [k9 31 0 c (by omega), e2 31 0 c (by omega) (by unfold scr; omega)]; exact m4 c hc
      have vm9 : ∀ j, vM H9 j = vM H j := fun j => vM_pt (by rw [k9 32 0 j (by omega)]; exact e2 32 0 j (by omega) (by unfold scr; omega)) (by rw [k9 33 0 j (by omega)]; exact e2 33 0 j (by omega) (by unfold scr; omega)) (fun c _ => by rw [k9 34 0 _ (by omega)]; exact e2 34 0 _ (by omega) (by unfold scr; omega))
      have n9 : H9 30 0 3 = nI s.nv := by rw [k9 30 0 3 (by omega), e2 30 0 3 (by omega) (by unfold scr; omega)]; exact b1
      obtain ⟨wn, hwn, ewn⟩ : ∃ wn, wn ≤ 60 ∧ (if k = 0 then x2 else nI s.wd) = nI wn := by
        rcases hk with rfl | rfl
        · exact ⟨n, hn60, by rw [if_pos rfl]; exact en⟩
        · exact ⟨s.wd, w60, rfl⟩
      have ea : (∀ j, j < s.nv → fitV (lwF (H 12 s.lw) (H 13 s.lw)) (nI wn) (H9 30 0 2) (vM H9 j) (vM H9 j 2) (vM H9 j 3)) ↔ (∀ j, j < s.nv → fitV (lwH H s) (if k = 0 then x2 else nI s.wd) (if k = 1 then x2 else nI s.op) (vM H j) (vM H j 2) (vM H j 3)) := by
        rw [o9, ← ewn]
        simp only [vm9]
        exact Iff.rfl
      refine s_Model_doAllFit ml9 n9 nv4 (by rw [w9]; exact ewn) hwn rfl (fun j hj => by rw [vm9]; exact (hI.2.2.2.2.2.1 j hj).2.2.2.2.2) (fun hall H10 f10 => ?_) (fun hall H10 f10 => ?_)
      · rw [ea] at hall
        refine ⟨fun _ => ?_, fun z => absurd z (by decide)⟩
        have er : (if x1 = 0 then H2 30 0 1 else H2 30 0 2 : Int32) = (if k = 0 then nI s.wd else nI s.op) := by
          rw [ek, wI, oI]
          rcases hk with rfl | rfl <;> rfl
        rw [er]
        refine g1 H10 (fun a i c q1 q2 => ?_) ?_ hall
        · by_cases e : a = 46 ∨ a = 47
          · exact absurd (by unfold scr; omega) q1
          · rw [f10 a (by simp only [List.mem_cons, List.not_mem_nil, or_false]; omega)]
            by_cases e2 : a = 30 ∧ i = 0 ∧ (c = 1 ∨ c = 2)
            · obtain ⟨rfl, rfl, e2⟩ := e2
              rcases hk with rfl | rfl
              · have : c = 2 := by omega
                subst this
                rw [o9, oI]; rfl
              · have : c = 1 := by omega
                subst this
                rw [w9, wI]; rfl
            · exact k9 a i c e2
        · rw [f10 30 (by decide)]
          rcases hk with rfl | rfl
          · exact w9
          · exact o9
      · rw [ea] at hall
        refine ⟨fun z => absurd rfl z, fun _ H13 e13 => ?_⟩
        refine g0 H13 (fun a i c q1 => ?_) hall
        rw [e13]
        by_cases e2 : a = 30 ∧ i = 0 ∧ (c = 1 ∨ c = 2)
        · obtain ⟨rfl, rfl, e2⟩ := e2
          rcases e2 with rfl | rfl
          · rw [hu_ne (by omega), hu_at]
          · rw [hu_at]
        · rw [hu_ne (by omega), hu_ne (by omega)]
          by_cases e : a = 46 ∨ a = 47
          · exact absurd (by unfold scr; omega) q1
          · rw [f10 a (by simp only [List.mem_cons, List.not_mem_nil, or_false]; omega)]
            exact k9 a i c e2
    refine ⟨fun hall => ?_, fun hall => ?_⟩
    · refine go _ _ (fun a i c q => hu_ne (by omega)) (fun H3 h3 h3k _ => ⟨rfl, (s.nv, (if k = 0 then n else s.wd), (if k = 1 then n else s.op), s.lw, s.nt, s.ns), ?_⟩) (fun H3 _ hno => absurd hall hno)
      have hk3 : ∀ a i c, ¬ scr a i c → ¬ (a = 30 ∧ i = 0 ∧ c = k + 1) → ¬ (a = 2 ∧ i = 0 ∧ c = k) → H3 a i c = H a i c := fun a i c q1 q2 q3 => by
        rw [h3 a i c q1 q2, hu_ne q3]; exact s1 a i c q1
      have kw : H3 2 0 k = x2 := by rw [h3 2 0 k (by unfold scr; omega) (by omega), hu_at]
      have hnew : ∀ j, j < s.nv → ∃ p, p ≤ (if k = 0 then n else s.wd) ∧ vM H j 2 = nI p := by
        intro j hj
        obtain ⟨p, hp, ep⟩ := (hI.2.2.2.2.2.1 j hj).2.2.2.1
        refine ⟨p, ?_, ep⟩
        rcases hk with rfl | rfl
        · have := (hall j hj).2.1
          rw [if_pos rfl, ep, en, nI_leI (by omega) (by omega)] at this
          rw [if_pos rfl]; exact this
        · exact hp
      refine hI.gen (s2 := (s.nv, (if k = 0 then n else s.wd), (if k = 1 then n else s.op), s.lw, s.nt, s.ns)) (fun a i c q1 q2 => hk3 a i c q1 (fun z => q2 (by unfold gS; omega)) (fun z => q2 (by unfold gS; omega))) ⟨c1, ?_, ?_, ?_, c5, c6, c7⟩ ?_ ?_ ?_ (Nat.le_refl _) rfl (Nat.le_refl _) (fun j hj => ⟨hk3 _ _ _ (by unfold scr; omega) (by omega) (by omega), hk3 _ _ _ (by unfold scr; omega) (by omega) (by omega)⟩)
      · rcases hk with rfl | rfl
        · simp at hn; exact hn.1
        · exact c2
      · rcases hk with rfl | rfl
        · simp at hn; exact hn.2
        · exact c3
      · rcases hk with rfl | rfl
        · exact c4
        · simp at hn; exact hn
      · refine ⟨by rw [hk3 _ _ _ (by unfold scr; omega) (by omega) (by omega)]; exact a1, ?_, ?_, by rw [hk3 2 0 2 (by unfold scr; omega) (by omega) (by omega)]; exact a4, by rw [hk3 0 0 5 (by unfold scr; omega) (by omega) (by omega)]; exact a5, by rw [hk3 6 0 1 (by unfold scr; omega) (by omega) (by omega)]; exact a6⟩
        · rcases hk with rfl | rfl
          · rw [kw]; exact en
          · rw [hk3 2 0 0 (by unfold scr; omega) (by omega) (by omega)]; exact a2
        · rcases hk with rfl | rfl
          · rw [hk3 2 0 1 (by unfold scr; omega) (by omega) (by omega)]; exact a3
          · rw [kw]; exact en
      · refine ⟨by rw [hk3 30 0 3 (by unfold scr; omega) (by omega) (by omega)]; exact b1, ?_, ?_, by rw [hk3 30 0 12 (by unfold scr; omega) (by omega) (by omega)]; exact b4, by rw [hk3 30 0 11 (by unfold scr; omega) (by omega) (by omega)]; exact b5, by rw [hk3 30 0 8 (by unfold scr; omega) (by omega) (by omega)]; exact b6⟩
        · rcases hk with rfl | rfl
          · rw [h3k]; exact en
          · rw [hk3 30 0 1 (by unfold scr; omega) (by omega) (by omega)]; exact b2
        · rcases hk with rfl | rfl
          · rw [hk3 30 0 2 (by unfold scr; omega) (by omega) (by omega)]; exact b3
          · rw [h3k]; exact en
      · intro j hj
        have hv := hI.2.2.2.2.2.1 j hj
        have vm3 : vM H3 j = vM H j := vM_pt (hk3 32 0 j (by unfold scr; omega) (by omega) (by omega)) (hk3 33 0 j (by unfold scr; omega) (by omega) (by omega)) (fun c _ => hk3 34 0 _ (by unfold scr; omega) (by omega) (by omega))
        refine ⟨fun c hc => ?_, ?_⟩
        · have hj4 : j < 4 := by have : j < s.nv := hj; omega
          rw [vm3, hk3 3 j c (by unfold scr; omega) (by omega) (by omega)]; exact hv.1 c hc
        · rw [vm3]
          exact ⟨hv.2.1, hv.2.2.1, hnew j hj, hv.2.2.2.2.1, hv.2.2.2.2.2⟩
    · refine go _ _ (fun a i c q => rfl) (fun H3 _ _ hyes => absurd hyes hall) (fun H3 h3 _ => ⟨rfl, s, hI.sc (fun a i c q => by rw [h3 a i c q]; exact s1 a i c q)⟩)
  -- the class's loop, for number k
  have bad : ∀ r : Int32, ((¬ (0 ≤ x1 ∧ x1 ≤ 1) ∧ r = -5) ∨ ((0 ≤ x1 ∧ x1 ≤ 1) ∧ ¬ ((if x1 = 0 then 8 else 0 : Int32) ≤ x2 ∧ x2 ≤ (if x1 = 0 then 60 else 20 : Int32)) ∧ r = -7)) → c_Model_set E (d2 + 20) x1 x2 H (eqI r) := by
    intro r hr
    refine l_Model_set ?_
    unfold p_Model_set
    rcases hr with ⟨q, rfl⟩ | ⟨q1, q2, rfl⟩
    · exact s_Model_in (fun a b => absurd ⟨a, b⟩ q) (fun _ => ⟨fun z => absurd rfl z, fun _ => eqI_sc hI scF.rf rfl⟩)
    · refine s_Model_in (fun _ _ => ⟨fun _ => ?_, fun z => absurd z (by decide)⟩) (fun q => absurd q1 q)
      exact s_Model_in (fun a b => absurd ⟨a, b⟩ q2) (fun _ => ⟨fun z => absurd rfl z, fun _ => eqI_sc hI scF.rf rfl⟩)
  refine l_Main_set ?_
  unfold p_Main_set
  refine s_Main_isWithin (fun q1 q2 => ?_) (fun q => ⟨fun z => absurd rfl z, fun _ => bad _ (Or.inl ⟨q, rfl⟩)⟩)
  refine ⟨fun _ v4 e4 => ?_, fun z => absurd z (by decide)⟩
  obtain ⟨k, hk, ek⟩ := bit_of q1 q2
  have mu : ∀ i, i < s.nv → 4 - (nI i + 1).toNatClampNeg < 4 - (nI i).toNatClampNeg := by
    intro i hi
    rw [nI_1, nI_clamp (by omega), nI_clamp (by omega)]; omega
  rcases (show k = 0 ∨ k = 1 by omega) with rfl | rfl
  · have x0 : x1 = 0 := ek
    have v41 : v4 = 1 := by rw [e4, if_pos x0]
    subst v41
    refine ⟨fun z => absurd z (by decide), fun _ => s_Main_isWithin (fun q3 q4 => ?_) (fun q => ⟨fun z => absurd rfl z, fun _ => bad _ (Or.inr ⟨⟨q1, q2⟩, by rw [if_pos x0, if_pos x0]; exact q, rfl⟩)⟩)⟩
    refine ⟨fun _ => ?_, fun z => absurd z (by decide)⟩
    obtain ⟨n, hn, en⟩ := nat_of (x := x2) (n := 60) (by omega) (by have z : (8 : Int32).toInt = 8 := rfl; have z0 : (0 : Int32).toInt = 0 := rfl; simp only [ti_le] at *; omega) q4
    have h8 : 8 ≤ n := by rw [en, show (8 : Int32) = nI 8 from rfl, nI_leI (by omega) (by omega)] at q3; exact q3
    have mdk := fun H1 hs => md 0 n H1 (Or.inl rfl) ek en (by simp; omega) hs
    refine ⟨fun z H9 => ∃ i, i ≤ s.nv ∧ z = nI i ∧ scF H H9 ∧ ∀ j, j < i → fitV (lwH H s) x2 (nI s.op) (vM H j) (vM H j 2) (vM H j 3), fun z _ => 4 - z.toNatClampNeg, ⟨0, by omega, rfl, scF.rf, fun j hj => absurd hj (Nat.not_lt_zero _)⟩, fun z8 H9 hJ => ?_⟩
    obtain ⟨i, hi, rfl, s9, hfi⟩ := hJ
    have hI9 := hI.sc s9
    rw [hI9.2.1.1]
    refine ⟨fun q => ?_, fun q => ?_⟩
    · rw [nI_leI (by omega) (by omega)] at q
      have e : i = s.nv := by omega
      subst e
      refine fun v11 e11 => ⟨fun z => absurd z (by decide), fun _ H13 e13 => ?_⟩
      rw [e11, if_neg (by decide), hI9.2.1.2.1, e13]
      exact (mdk H9 s9).1 hfi
    · rw [nI_leI (by omega) (by omega)] at q
      refine s_Main_think hI9 (show i < s.nv by omega) (fun H14 s14 r14 k0 k1 k8 => ⟨fun z => absurd z (by decide), fun _ => ?_⟩)
      rw [INV.vM_sc s9] at k8
      refine s_fits_set (k := 0) hI (s9.tr s14) r14 k0 k1 k8 (Or.inl rfl) (fun hf H16 s16 _ _ _ _ => ?_) (fun hf H16 s16 => ?_)
      · refine ⟨fun _ => ⟨⟨i + 1, by omega, nI_1 i, s16, fun j hj => ?_⟩, mu i (by omega)⟩, fun z => absurd z (by decide)⟩
        by_cases e : j = i
        · rw [e]; exact hf
        · exact hfi j (by omega)
      · exact ⟨fun z => absurd rfl z, fun _ => (mdk H16 s16).2 (fun z => hf (z i (by omega)))⟩
  · have x0 : ¬ x1 = 0 := by rw [ek]; decide
    have v41 : v4 = 0 := by rw [e4, if_neg x0]
    subst v41
    refine ⟨fun _ => s_Main_isWithin (fun q3 q4 => ?_) (fun q => ⟨fun z => absurd rfl z, fun _ => bad _ (Or.inr ⟨⟨q1, q2⟩, by rw [if_neg x0, if_neg x0]; exact q, rfl⟩)⟩), fun z => absurd rfl z⟩
    refine ⟨fun _ => ?_, fun z => absurd z (by decide)⟩
    obtain ⟨n, hn, en⟩ := nat_of (x := x2) (n := 20) (by omega) q3 q4
    have mdk := fun H1 hs => md 1 n H1 (Or.inr rfl) ek en (by simp; omega) hs
    refine ⟨fun z H9 => ∃ i, i ≤ s.nv ∧ z = nI i ∧ scF H H9 ∧ ∀ j, j < i → fitV (lwH H s) (nI s.wd) x2 (vM H j) (vM H j 2) (vM H j 3), fun z _ => 4 - z.toNatClampNeg, ⟨0, by omega, rfl, scF.rf, fun j hj => absurd hj (Nat.not_lt_zero _)⟩, fun z8 H9 hJ => ?_⟩
    obtain ⟨i, hi, rfl, s9, hfi⟩ := hJ
    have hI9 := hI.sc s9
    rw [hI9.2.1.1]
    refine ⟨fun q => ?_, fun q => ?_⟩
    · rw [nI_leI (by omega) (by omega)] at q
      have e : i = s.nv := by omega
      subst e
      refine fun v11 e11 => ⟨fun _ H13 e13 => ?_, fun z => absurd rfl z⟩
      rw [e11, if_pos rfl, hI9.2.1.2.2.1, e13]
      exact (mdk H9 s9).1 hfi
    · rw [nI_leI (by omega) (by omega)] at q
      refine s_Main_think hI9 (show i < s.nv by omega) (fun H14 s14 r14 k0 k1 k8 => ⟨fun _ => ?_, fun z => absurd rfl z⟩)
      rw [INV.vM_sc s9] at k8
      refine s_fits_set (k := 1) hI (s9.tr s14) r14 k0 k1 k8 (Or.inr rfl) (fun hf H16 s16 _ _ _ _ => ?_) (fun hf H16 s16 => ?_)
      · refine ⟨fun _ => ⟨⟨i + 1, by omega, nI_1 i, s16, fun j hj => ?_⟩, mu i (by omega)⟩, fun z => absurd z (by decide)⟩
        by_cases e : j = i
        · rw [e]; exact hf
        · exact hfi j (by omega)
      · exact ⟨fun z => absurd rfl z, fun _ => (mdk H16 s16).2 (fun z => hf (z i (by omega)))⟩
