/-! THE CALLS 5: vehicle, set. -/
theorem addF_ok {lw : LW} {wd op : Nat} {st : VS} {km p : Int32} (hw : wd ≤ 60) (hv : ∀ j, j < st.1 → vhN (st.2 j) wd) (h4 : st.1 ≤ 4) : (∀ j, j < (addF lw wd op st km p).2.1 → vhN ((addF lw wd op st km p).2.2 j) wd) ∧ (addF lw wd op st km p).2.1 ≤ 4 ∧ st.1 ≤ (addF lw wd op st km p).2.1 ∧ ∀ j, j < st.1 → (addF lw wd op st km p).2.2 j = st.2 j := by
  have same : (∀ j, j < st.1 → vhN (st.2 j) wd) ∧ st.1 ≤ 4 ∧ st.1 ≤ st.1 ∧ ∀ j, j < st.1 → st.2 j = st.2 j := ⟨hv, h4, Nat.le_refl _, fun _ _ => rfl⟩
  unfold addF
  by_cases c : (0 ≤ km ∧ km ≤ 59) ∧ (0 ≤ p ∧ p ≤ nI wd)
  · rw [if_pos c]
    by_cases c4 : st.1 = 4
    · rw [if_pos c4]; exact same
    · rw [if_neg c4]
      by_cases cf : fitV lw (nI wd) (nI op) (nwV km p) p 0
      · rw [if_pos cf]
        refine ⟨fun j hj => ?_, by show st.1 + 1 ≤ 4; omega, by show st.1 ≤ st.1 + 1; omega, fun j hj => ?_⟩
        · show vhN (if j = st.1 then nwV km p else st.2 j) wd
          have hj2 : j < st.1 + 1 := hj
          by_cases e : j = st.1
          · rw [if_pos e]
            obtain ⟨pp, hp, ep⟩ := nat_of (by omega) c.2.1 c.2.2
            rw [ep]
            exact nwV_ok c.1.1 c.1.2 hp
          · rw [if_neg e]; exact hv j (by omega)
        · show (if j = st.1 then nwV km p else st.2 j) = _
          rw [if_neg (by omega)]
      · rw [if_neg cf]; exact same
  · rw [if_neg c]; exact same
theorem nwV_k (km p : Int32) : nwV km p 0 = km / 10 ∧ nwV km p 1 = xrem km 10 ∧ nwV km p 2 = p ∧ nwV km p 3 = 0 ∧ nwV km p 4 = 0 ∧ nwV km p 5 = 0 ∧ nwV km p 6 = -1 ∧ ∀ k, nwV km p (k + 7) = 0 := by
  refine ⟨rfl, rfl, rfl, rfl, rfl, rfl, rfl, fun k => ?_⟩
  unfold nwV bgV
  simp only []
  rw [if_neg (by omega), if_neg (by omega), if_neg (by omega), if_neg (by omega), if_neg (by omega), if_neg (by omega), if_neg (by omega)]
theorem s_Model_vehicle {E : XE} {d n0 : Nat} {km p : Int32} {s : SN} {st : VS} {H0 G H : HH} {Q : Int32 → HH → Prop} (hI : INV H0 s) (hg : ∀ a i k, 30 ≤ a → ¬ scr a i k → G a i k = H0 a i k) (hf : vfM n0 G H) (h4 : st.1 ≤ 4) (hn : n0 ≤ st.1) (hV : mdV H st)
    (h : ∀ H1, vfM n0 G H1 → mdV H1 (addF (lwH H0 s) s.wd s.op st km p).2 → Q (addF (lwH H0 s) s.wd s.op st km p).1 H1) : c_Model_vehicle E (d + 5) km p H Q := by
  have w60 : s.wd ≤ 60 := hI.1.2.2.1
  have lwt : s.lw < s.nt := hI.1.2.2.2.2.1
  have nt6 : s.nt ≤ 6 := hI.1.2.2.2.2.2.1
  have kk : ∀ a i k, 30 ≤ a → ¬ scr a i k → ¬ (a = 30 ∧ i = 0 ∧ k = 3) → ¬ (a = 32 ∨ a = 33 ∨ a = 34) → H a i k = H0 a i k := fun a i k q0 q1 q2 q3 => by
    rw [hf a i k q1 q2 (by omega) (by omega)]; exact hg a i k q0 q1
  have kw : H 30 0 1 = nI s.wd := by rw [kk 30 0 1 (by omega) (by unfold scr; omega) (by omega) (by omega)]; exact hI.2.2.1.2.1
  have ko : H 30 0 2 = nI s.op := by rw [kk 30 0 2 (by omega) (by unfold scr; omega) (by omega) (by omega)]; exact hI.2.2.1.2.2.1
  have ml : mlOK H s.lw (H0 12 s.lw) (H0 13 s.lw) := by
    obtain ⟨m1, m2, m3, m4⟩ := hI.ml
    refine ⟨?_, m2, m3.pt (fun k hk => kk 37 0 _ (by omega) (by unfold scr; omega) (by omega) (by omega)) (fun k hk => kk 36 0 _ (by omega) (by unfold scr; omega) (by omega) (by omega)), fun k hk => ?_⟩
    · rw [kk 30 0 12 (by omega) (by unfold scr; omega) (by omega) (by omega)]; exact m1
    · rw [kk 31 0 k (by omega) (by unfold scr; omega) (by omega) (by omega)]; exact m4 k hk
  have hbad : ¬ ((0 ≤ km ∧ km ≤ 59) ∧ (0 ≤ p ∧ p ≤ nI s.wd)) → Q (-2) H := by
    intro c
    have e : addF (lwH H0 s) s.wd s.op st km p = (-2, st) := by unfold addF; rw [if_neg c]
    rw [e] at h
    exact h H hf hV
  refine l_Model_vehicle (s_Model_in (fun q1 q2 => ?_) (fun q => ⟨fun _ => hbad (fun z => q z.1), fun z => absurd rfl z⟩))
  refine ⟨fun z => absurd z (by decide), fun _ => l_Model_isPlace ?_⟩
  unfold p_Model_isPlace
  rw [kw]
  refine s_Model_in (fun q3 q4 => ⟨Or.inr rfl, ?_⟩) (fun q => ⟨Or.inl rfl, fun z => absurd rfl z, fun _ => hbad (fun z => q z.2)⟩)
  refine ⟨fun _ => ?_, fun z => absurd z (by decide)⟩
  have e1 : addF (lwH H0 s) s.wd s.op st km p = (if st.1 = 4 then (-4, st) else @ite _ (fitV (lwH H0 s) (nI s.wd) (nI s.op) (nwV km p) p 0) (Classical.propDecidable _) (nI st.1, (st.1 + 1, fun j => if j = st.1 then nwV km p else st.2 j)) (-3, st)) := by
    unfold addF; rw [if_pos ⟨⟨q1, q2⟩, q3, q4⟩]
  rw [hV.1]
  by_cases c4 : st.1 = 4
  · rw [if_pos c4] at e1
    rw [e1] at h
    refine ⟨fun z => absurd (by rw [c4]; rfl) z, fun _ => h H hf hV⟩
  · rw [if_neg c4] at e1
    refine ⟨fun _ => ?_, fun z => absurd ((nI_eq (by omega) (by omega)).mp (show nI st.1 = nI 4 from z)) c4⟩
    have vin : vp_in (nI st.1) 4 := vp_in_nI (by omega) (by omega)
    refine ⟨vin, fun H5 e5 => ?_⟩
    rw [nI_clamp (by omega)] at e5
    have n5 : H5 30 0 3 = nI st.1 := by rw [e5, hu_kd _ _ _ _ (by decide)]; exact hV.1
    rw [n5]
    refine ⟨vin, fun H6 e6 => ?_⟩
    rw [nI_clamp (by omega)] at e6
    have n6 : H6 30 0 3 = nI st.1 := by rw [e6, hu_kd _ _ _ _ (by decide)]; exact n5
    rw [n6]
    have f6 : ∀ a i k, ¬ ((a = 32 ∨ a = 33) ∧ i = 0 ∧ k = st.1) → H6 a i k = H a i k := by
      intro a i k q
      rw [e6, hu_ne (by omega), e5, hu_ne (by omega)]
    have f6' : hfr [32, 33] H H6 := by rw [e6, e5]; exact (hfr.rf.hu (by decide)).hu (by decide)
    have ml6 := ml.fr f6' (by decide) (by decide) (by decide) (by decide)
    have k6 : H6 32 0 st.1 = km / 10 ∧ H6 33 0 st.1 = xrem km 10 := by
      refine ⟨?_, ?_⟩
      · rw [e6, hu_kd _ _ _ _ (by decide), e5, hu_at]
      · rw [e6, hu_at]
    obtain ⟨w0, w1, w2, w3, w4, w5, w6, w7⟩ := nwV_k km p
    have ffit : fitM H6 (H0 12 s.lw) (H0 13 s.lw) st.1 p 0 = fitV (lwH H0 s) (nI s.wd) (nI s.op) (nwV km p) p 0 := by
      unfold fitM
      rw [f6 30 0 1 (by omega), f6 30 0 2 (by omega), kw, ko]
      exact fitV_base (by rw [w0]; exact k6.1) (by rw [w1]; exact k6.2) p 0
    obtain ⟨pp, hp, ep⟩ := nat_of (by omega) q3 q4
    refine s_Model_fitsAt (a := 0) ml6 (by omega) (by omega) ⟨by rw [ep]; exact nI_pos (by omega), by rw [f6 30 0 1 (by omega), kw]; exact q4⟩ (fun hfit H7 f7 => ?_) (fun hfit H7 f7 => ?_)
    · rw [show nI 0 = 0 from rfl, ffit] at hfit
      rw [if_pos hfit] at e1
      rw [e1] at h
      refine ⟨fun _ => ?_, fun z => absurd z (by decide)⟩
      have n7 : H7 30 0 3 = nI st.1 := by rw [f7 30 (by decide)]; exact n6
      rw [n7, i5_00]
      refine ⟨vp_in_nI (by omega) (by omega), fun H9 e9 => ?_⟩
      have n9 : H9 30 0 3 = nI st.1 := by rw [e9, hu_kd _ _ _ _ (by decide)]; exact n7
      rw [n9, i5_1]
      refine ⟨vp_in_nI (by omega) (by omega), fun H10 e10 => ?_⟩
      have n10 : H10 30 0 3 = nI st.1 := by rw [e10, hu_kd _ _ _ _ (by decide)]; exact n9
      rw [n10, i5_2]
      refine ⟨vp_in_nI (by omega) (by omega), fun H11 e11 => ?_⟩
      have n11 : H11 30 0 3 = nI st.1 := by rw [e11, hu_kd _ _ _ _ (by decide)]; exact n10
      rw [n11, i5_3]
      refine ⟨vp_in_nI (by omega) (by omega), fun H12 e12 => ?_⟩
      have n12 : H12 30 0 3 = nI st.1 := by rw [e12, hu_kd _ _ _ _ (by decide)]; exact n11
      rw [n12, i5_4]
      refine ⟨vp_in_nI (by omega) (by omega), fun H13 e13 H14 e14 => ?_⟩
      have n13 : H13 30 0 3 = nI st.1 := by rw [e13, hu_kd _ _ _ _ (by decide)]; exact n12
      rw [nI_clamp (by omega)] at e9 e10 e11 e12 e13
      rw [n13] at e14
      have er : H14 30 0 3 - 1 = nI st.1 := by rw [e14, hu_at, nI_1, nI_pred]
      rw [er]
      have f14 : ∀ a i k, ¬ (a = 30 ∧ i = 0 ∧ k = 3) → ¬ (a = 34 ∧ i = 0 ∧ 5 * st.1 ≤ k) → ¬ (a = 46 ∨ a = 47) → H14 a i k = H6 a i k := by
        intro a i k q1 q2 q3
        rw [e14, hu_ne q1, e13, hu_ne (by omega), e12, hu_ne (by omega), e11, hu_ne (by omega), e10, hu_ne (by omega), e9, hu_ne (by omega), f7 a (by simp only [List.mem_cons, List.not_mem_nil, or_false]; omega)]
      have r14 : ∀ k, k < 5 → H14 34 0 (5 * st.1 + k) = nwV km p (k + 2) := by
        intro k hk
        rw [e14, hu_kd _ _ _ _ (by decide), e13, e12, e11, e10, e9]
        rcases (show k = 0 ∨ k = 1 ∨ k = 2 ∨ k = 3 ∨ k = 4 by omega) with rfl | rfl | rfl | rfl | rfl
        · rw [w2]; simp [hu]
        · rw [w3]; simp [hu]
        · rw [w4]; simp [hu]
        · rw [w5]; simp [hu]
        · rw [w6]; simp [hu]
      refine h H14 (hf.tr (fun a i k q1 q2 q3 q4 => ?_) hn) ⟨by rw [e14, hu_at, nI_1], fun j hj => ?_⟩
      · by_cases e : a = 46 ∨ a = 47
        · exact absurd (by unfold scr; omega) q1
        · rw [f14 a i k q2 q4 e, f6 a i k (fun z => q3 ⟨z.1, z.2.1, by omega⟩)]
      · have hj2 : j < st.1 + 1 := hj
        show vM H14 j = (if j = st.1 then nwV km p else st.2 j)
        by_cases e : j = st.1
        · rw [if_pos e]
          subst e
          funext k
          match k with
          | 0 => show H14 32 0 st.1 = _; rw [f14 32 0 _ (by omega) (by omega) (by omega), k6.1, w0]
          | 1 => show H14 33 0 st.1 = _; rw [f14 33 0 _ (by omega) (by omega) (by omega), k6.2, w1]
          | 2 => exact r14 0 (by omega)
          | 3 => exact r14 1 (by omega)
          | 4 => exact r14 2 (by omega)
          | 5 => exact r14 3 (by omega)
          | 6 => exact r14 4 (by omega)
          | k + 7 => exact (w7 k).symm
        · rw [if_neg e, ← hV.2 j (by omega)]
          exact vM_pt (by rw [f14 32 0 j (by omega) (by omega) (by omega), f6 32 0 j (by omega)]) (by rw [f14 33 0 j (by omega) (by omega) (by omega), f6 33 0 j (by omega)]) (fun k hk => by rw [f14 34 0 _ (by omega) (by omega) (by omega), f6 34 0 _ (by omega)])
    · rw [show nI 0 = 0 from rfl, ffit] at hfit
      rw [if_neg hfit] at e1
      rw [e1] at h
      refine ⟨fun z => absurd rfl z, fun _ => ?_⟩
      have f7' : ∀ a i k, ¬ ((a = 32 ∨ a = 33) ∧ i = 0 ∧ k = st.1) → ¬ (a = 46 ∨ a = 47) → H7 a i k = H a i k := by
        intro a i k q1 q2
        rw [f7 a (by simp only [List.mem_cons, List.not_mem_nil, or_false]; omega)]
        exact f6 a i k q1
      refine h H7 (hf.tr (fun a i k q1 q2 q3 q4 => ?_) hn) ⟨by rw [f7' 30 0 3 (by omega) (by omega)]; exact hV.1, fun j hj => ?_⟩
      · by_cases e : a = 46 ∨ a = 47
        · exact absurd (by unfold scr; omega) q1
        · exact f7' a i k (fun z => q3 ⟨z.1, z.2.1, by omega⟩) e
      · have hj2 : j < st.1 := hj
        show vM H7 j = st.2 j
        rw [← hV.2 j hj]
        exact vM_pt (f7' 32 0 j (by omega) (by omega)) (f7' 33 0 j (by omega) (by omega)) (fun k hk => f7' 34 0 _ (by omega) (by omega))
/-- both have as many, alike vehicles -/
theorem INV.vend {H H1 H2 : HH} {s : SN} {st : VS} (hI : INV H s) (hc : vfC s.nv H H1) (hm : vfM s.nv H1 H2) (hV1 : clV H1 st) (hV2 : mdV H2 st) (ok : ∀ j, j < st.1 → vhN (st.2 j) s.wd) (h4 : st.1 ≤ 4) (hn : s.nv ≤ st.1) : INV H2 (st.1, s.wd, s.op, s.lw, s.nt, s.ns) := by
  have nv4 : s.nv ≤ 4 := hI.1.1
  obtain ⟨c1, c2, c3, c4, c5, c6, c7⟩ := hI.1
  obtain ⟨a1, a2, a3, a4, a5, a6⟩ := hI.2.1
  obtain ⟨b1, b2, b3, b4, b5, b6⟩ := hI.2.2.1
  have hk : ∀ a i k, ¬ scr a i k → ¬ (a = 1 ∧ i = 0 ∧ k = 2) → ¬ (a = 3 ∧ s.nv ≤ i ∧ i < 4) → ¬ (a = 30 ∧ i = 0 ∧ k = 3) → ¬ ((a = 32 ∨ a = 33) ∧ i = 0 ∧ s.nv ≤ k) → ¬ (a = 34 ∧ i = 0 ∧ 5 * s.nv ≤ k) → H2 a i k = H a i k := fun a i k q1 q2 q3 q4 q5 q6 => by
    rw [hm a i k q1 q4 q5 q6]; exact hc a i k q1 q2 q3
  have hcl : ∀ a i k, a < 30 → ¬ scr a i k → H2 a i k = H1 a i k := fun a i k q0 q1 => hm a i k q1 (by omega) (by omega) (by omega)
  refine hI.gen (s2 := (st.1, s.wd, s.op, s.lw, s.nt, s.ns)) (fun a i k q1 q2 => hk a i k q1 (fun z => q2 (by unfold gS; omega)) (fun z => q2 (by unfold gS; omega)) (fun z => q2 (by unfold gS; omega)) (fun z => q2 (by unfold gS; omega)) (fun z => q2 (by unfold gS; omega))) ⟨h4, c2, c3, c4, c5, c6, c7⟩ ?_ ?_ ?_ hn rfl (Nat.le_refl _) (fun j hj => ?_)
  · refine ⟨?_, by rw [hk 2 0 0 (by unfold scr; omega) (by omega) (by omega) (by omega) (by omega) (by omega)]; exact a2, by rw [hk 2 0 1 (by unfold scr; omega) (by omega) (by omega) (by omega) (by omega) (by omega)]; exact a3, by rw [hk 2 0 2 (by unfold scr; omega) (by omega) (by omega) (by omega) (by omega) (by omega)]; exact a4, by rw [hk 0 0 5 (by unfold scr; omega) (by omega) (by omega) (by omega) (by omega) (by omega)]; exact a5, by rw [hk 6 0 1 (by unfold scr; omega) (by omega) (by omega) (by omega) (by omega) (by omega)]; exact a6⟩
    rw [hcl 1 0 2 (by omega) (by unfold scr; omega)]; exact hV1.1
  · exact ⟨hV2.1, by rw [hk 30 0 1 (by unfold scr; omega) (by omega) (by omega) (by omega) (by omega) (by omega)]; exact b2, by rw [hk 30 0 2 (by unfold scr; omega) (by omega) (by omega) (by omega) (by omega) (by omega)]; exact b3, by rw [hk 30 0 12 (by unfold scr; omega) (by omega) (by omega) (by omega) (by omega) (by omega)]; exact b4, by rw [hk 30 0 11 (by unfold scr; omega) (by omega) (by omega) (by omega) (by omega) (by omega)]; exact b5, by rw [hk 30 0 8 (by unfold scr; omega) (by omega) (by omega) (by omega) (by omega) (by omega)]; exact b6⟩
  · intro j hj
    have hj2 : j < st.1 := hj
    have e := hV2.2 j hj2
    refine ⟨fun k hk7 => ?_, by rw [e]; exact ok j hj2⟩
    rw [e, hcl 3 j k (by omega) (by unfold scr; omega)]
    exact (hV1.2 j hj2 k hk7).symm
  · exact ⟨hk 3 j 0 (by unfold scr; omega) (by omega) (by omega) (by omega) (by omega) (by omega), hk 3 j 1 (by unfold scr; omega) (by omega) (by omega) (by omega) (by omega) (by omega)⟩
def stH (H : HH) (s : SN) : VS := (s.nv, vM H)
theorem INV.clV {H : HH} {s : SN} (hI : INV H s) : clV H (stH H s) := ⟨hI.2.1.1, fun j hj k hk => ((hI.2.2.2.2.2.1 j hj).1 k hk).symm⟩
theorem INV.mdV {H : HH} {s : SN} (hI : INV H s) : mdV H (stH H s) := ⟨hI.2.2.1.1, fun _ _ => rfl⟩
theorem INV.vok {H : HH} {s : SN} (hI : INV H s) : ∀ j, j < (stH H s).1 → vhN ((stH H s).2 j) s.wd := fun j hj => (hI.2.2.2.2.2.1 j hj).2
theorem m_vehicle {E : XE} {d d2 : Nat} {x1 x2 : Int32} {s : SN} {H : HH} (hI : INV H s) : c_Main_vehicle E (d + 20) x1 x2 H (fun r H1 => c_Model_vehicle E (d2 + 20) x1 x2 H1 (eqI r)) := by
  have nv4 : s.nv ≤ 4 := hI.1.1
  have w60 : s.wd ≤ 60 := hI.1.2.2.1
  refine l_Main_vehicle (s_Main_addVehicle (st := stH H s) hI vfC.rf nv4 (Nat.le_refl _) hI.clV (fun H1 f1 v1 => ?_))
  obtain ⟨o1, o2, o3, o4⟩ := addF_ok (lw := lwH H s) (op := s.op) (km := x1) (p := x2) w60 hI.vok nv4
  have m1 : mdV H1 (stH H s) := ⟨by rw [f1 30 0 3 (by unfold scr; omega) (by omega) (by omega)]; exact hI.2.2.1.1, fun j hj => vM_pt (f1 32 0 j (by unfold scr; omega) (by omega) (by omega)) (f1 33 0 j (by unfold scr; omega) (by omega) (by omega)) (fun k _ => f1 34 0 _ (by unfold scr; omega) (by omega) (by omega))⟩
  refine s_Model_vehicle (st := stH H s) (n0 := s.nv) (G := H1) hI (fun a i k q0 q1 => f1 a i k q1 (by omega) (by omega)) vfM.rf nv4 (Nat.le_refl _) m1 (fun H2 f2 v2 => ⟨rfl, _, hI.vend f1 f2 v1 v2 o1 o2 o3⟩)
