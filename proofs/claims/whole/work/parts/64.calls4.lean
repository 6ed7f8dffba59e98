/-! THE CALLS 4: begin, vehicle. -/
def bgV (v : VV) (p : Int32) : VV := fun k => if k = 2 then p else if k = 3 then 0 else if k = 4 then 0 else if k = 5 then 0 else if k = 6 then -1 else v k
theorem bgV_ok {v : VV} {wd p : Nat} (hv : (∃ a, a < 6 ∧ v 0 = nI a) ∧ (∃ a, a < 10 ∧ v 1 = nI a) ∧ ∀ k, 7 ≤ k → v k = 0) (hp : p ≤ wd) : vhN (bgV v (nI p)) wd := by
  obtain ⟨h0, h1, h7⟩ := hv
  refine ⟨?_, ?_, ⟨p, hp, ?_⟩, ⟨2, by omega, ?_⟩, ⟨0, by omega, ?_⟩, ?_, ?_, fun k hk => ?_⟩
  · show ∃ a, a < 6 ∧ bgV v (nI p) 0 = nI a
    exact h0
  · show ∃ a, a < 10 ∧ bgV v (nI p) 1 = nI a
    exact h1
  · rfl
  · rfl
  · rfl
  · show 0 ≤ (0 : Int32).toInt ∧ (0 : Int32).toInt ≤ 9999
    decide
  · show 0 ≤ (0 : Int32).toInt ∧ (0 : Int32).toInt ≤ 9999
    decide
  · unfold bgV
    rw [if_neg (by omega), if_neg (by omega), if_neg (by omega), if_neg (by omega), if_neg (by omega)]
    exact h7 k hk
theorem vh_base {v : VV} {wd : Nat} (h : vhN v wd) : (∃ a, a < 6 ∧ v 0 = nI a) ∧ (∃ a, a < 10 ∧ v 1 = nI a) ∧ ∀ k, 7 ≤ k → v k = 0 := ⟨h.1, h.2.1, h.2.2.2.2.2.2.2⟩
theorem fitV_base {lw : LW} {wd op : Int32} {v w : VV} (h0 : v 0 = w 0) (h1 : v 1 = w 1) (p h : Int32) : fitV lw wd op v p h = fitV lw wd op w p h := by
  unfold fitV
  rw [h0, h1]
theorem m_begin {E : XE} {d d2 : Nat} {x1 x2 : Int32} {s : SN} {H : HH} (hI : INV H s) : c_Main_begin E (d + 20) x1 x2 H (fun r H1 => c_Model_begin E (d2 + 20) x1 x2 H1 (eqI r)) := by
  have nv4 : s.nv ≤ 4 := hI.1.1
  have w60 : s.wd ≤ 60 := hI.1.2.2.1
  refine l_Main_begin (s_Main_isVehicle hI (fun j hj ej => ?_) (fun no => ?_))
  · refine ⟨fun _ => s_Main_isPlace hI (fun p hp ep => ?_) (fun no => ?_), fun z => absurd z (by decide)⟩
    · refine ⟨fun _ => ?_, fun z => absurd z (by decide)⟩
      subst ej; subst ep
      have hv := hI.2.2.2.2.2.1 j hj
      have vin4 : vp_in (nI j) 4 := vp_in_nI (by omega) (by omega)
      refine s_Main_think hI hj (fun H9 s9 r9 k0 k1 k8 => s_Ride_fits r9 (fun hf H10 f10 => ?_) (fun hf H10 f10 => ?_))
      · rw [fitR_th hI s9 k0 k1 k8] at hf
        have s10 : scF H H10 := s9.tr (f10.sc (by decide))
        refine ⟨fun _ => ⟨vin4, fun v8 e8 => ⟨vin4, ?_⟩⟩, fun z => absurd z (by decide)⟩
        rw [nI_clamp (by omega), show 4 * 0 + j = j by omega] at e8 ⊢
        rw [s10 3 j 2 (by unfold scr; omega)] at e8
        refine s_Vehicle_startAt ?_
        generalize hH11 : hu (hu (hu (hu (hu H10 3 j 2 (nI p)) 3 j 3 0) 3 j 4 0) 3 j 5 0) 3 j 6 (-1) = H11
        have f11 : ∀ b i k, ¬ (b = 3 ∧ i = j) → H11 b i k = H10 b i k := by
          intro b i k q
          rw [← hH11, hu_ne (by omega), hu_ne (by omega), hu_ne (by omega), hu_ne (by omega), hu_ne (by omega)]
        have g11 : ∀ k, k < 7 → H11 3 j k = bgV (vM H j) (nI p) k := by
          intro k hk
          have e : ∀ k, k < 7 → H10 3 j k = vM H j k := fun k hk => by rw [s10 3 j k (by unfold scr; omega)]; exact (hv.1 k hk).symm
          rw [← hH11]
          rcases (show k = 0 ∨ k = 1 ∨ k = 2 ∨ k = 3 ∨ k = 4 ∨ k = 5 ∨ k = 6 by omega) with rfl | rfl | rfl | rfl | rfl | rfl | rfl
          · simp [hu, bgV, e 0 (by omega)]
          · simp [hu, bgV, e 1 (by omega)]
          · simp [hu, bgV]
          · simp [hu, bgV]
          · simp [hu, bgV]
          · simp [hu, bgV]
          · simp [hu, bgV]
        have e11 : ∀ b k, ¬ b = 3 → ¬ scr b 0 k → H11 b 0 k = H b 0 k := fun b k q1 q2 => by rw [f11 b 0 k (by omega)]; exact s10 b 0 k q2
        have ml11 : mlOK H11 s.lw (H 12 s.lw) (H 13 s.lw) := by
          have hI10 := hI.sc s10
          have hk11 : hfr [3] H10 H11 := by
            intro a q
            simp only [List.mem_singleton] at q
            funext i k
            exact f11 a i k (fun z => q z.1)
          have := hI10.ml.fr hk11 (by decide) (by decide) (by decide) (by decide)
          have lwt : s.lw < s.nt := hI.1.2.2.2.2.1
          have nt6 : s.nt ≤ 6 := hI.1.2.2.2.2.2.1
          rw [show H10 12 s.lw = H 12 s.lw by funext k; exact s10 12 _ k (by unfold scr; omega), show H10 13 s.lw = H 13 s.lw by funext k; exact s10 13 _ k (by unfold scr; omega)] at this
          exact this
        have vm11 : vM H11 j = vM H j := vM_pt (e11 32 j (by omega) (by unfold scr; omega)) (e11 33 j (by omega) (by unfold scr; omega)) (fun k _ => e11 34 _ (by omega) (by unfold scr; omega))
        have w11 : H11 30 0 1 = nI s.wd := by rw [e11 30 1 (by omega) (by unfold scr; omega)]; exact hI.2.2.1.2.1
        have o11 : H11 30 0 2 = nI s.op := by rw [e11 30 2 (by omega) (by unfold scr; omega)]; exact hI.2.2.1.2.2.1
        have n11 : H11 30 0 3 = nI s.nv := by rw [e11 30 3 (by omega) (by unfold scr; omega)]; exact hI.2.2.1.1
        refine l_Model_begin (l_Model_isVehicle ?_)
        unfold p_Model_isVehicle
        rw [n11]
        have z1 : (nI s.nv - 1).toInt = (s.nv : Int) - 1 := by
          rw [ti_sub (by rw [ti_nI (by omega)]; have : (1 : Int32).toInt = 1 := rfl; omega) (by rw [ti_nI (by omega)]; have : (1 : Int32).toInt = 1 := rfl; omega), ti_nI (by omega)]; rfl
        refine s_Model_in (fun _ _ => ⟨Or.inr rfl, ?_⟩) (fun q => absurd ⟨nI_pos' (by omega), by simp only [ti_le]; rw [ti_nI (by omega), z1]; omega⟩ q)
        refine ⟨fun _ => s_Model_isPlace (fun _ _ => ?_) (fun q => absurd ⟨nI_pos (by omega), by rw [w11]; exact nI_le hp (by omega)⟩ q), fun z => absurd z (by decide)⟩
        refine ⟨fun _ => ?_, fun z => absurd z (by decide)⟩
        have vin20 : vp_in (nI (5 * j)) 20 := vp_in_nI (by omega) (by omega)
        rw [i5_00, i5_1, i5_2, i5_3, i5_4, i5_0]
        have c0 : (nI (5 * j)).toNatClampNeg = 5 * j := nI_clamp (by omega)
        have c1 : (nI (5 * j + 1)).toNatClampNeg = 5 * j + 1 := nI_clamp (by omega)
        have c2 : (nI (5 * j + 2)).toNatClampNeg = 5 * j + 2 := nI_clamp (by omega)
        have c3 : (nI (5 * j + 3)).toNatClampNeg = 5 * j + 3 := nI_clamp (by omega)
        have c4 : (nI (5 * j + 4)).toNatClampNeg = 5 * j + 4 := nI_clamp (by omega)
        refine s_Model_fitsAt (a := 0) ml11 (by omega) (by omega) ⟨nI_pos (by omega), by rw [w11]; exact nI_le hp (by omega)⟩ (fun hf2 H12 f12 => ?_) (fun hf2 H12 f12 => ?_)
        · refine ⟨fun _ => ⟨vin20, fun v7 e7 => ⟨vin20, vp_in_nI (by omega) (by omega), vp_in_nI (by omega) (by omega), vp_in_nI (by omega) (by omega), vp_in_nI (by omega) (by omega), fun H13 e13 => ?_⟩⟩, fun z => absurd z (by decide)⟩
          rw [c0, f12 34 (by decide), e11 34 _ (by omega) (by unfold scr; omega)] at e7
          rw [c0, c1, c2, c3, c4] at e13
          refine ⟨?_, s, ?_⟩
          · rw [e7, e8]; exact (hv.1 2 (by omega))
          · refine hI.vj (v := bgV (vM H j) (nI p)) hj (bgV_ok (vh_base hv.2) hp) rfl rfl (fun b i k q1 q2 q3 => ?_) (fun k hk => ?_) ?_
            · rw [e13, hu_ne (by omega), hu_ne (by omega), hu_ne (by omega), hu_ne (by omega), hu_ne (by omega)]
              by_cases e2 : b = 46 ∨ b = 47
              · exact absurd (by unfold scr; omega) q1
              · rw [f12 b (by simp only [List.mem_cons, List.not_mem_nil, or_false]; omega), f11 b i k q2]
                exact s10 b i k q1
            · rw [e13, hu_kd _ _ _ _ (by decide), hu_kd _ _ _ _ (by decide), hu_kd _ _ _ _ (by decide), hu_kd _ _ _ _ (by decide), hu_kd _ _ _ _ (by decide), f12 3 (by decide)]
              exact g11 k hk
            · funext k
              have hb : H12 34 0 k = H 34 0 k := by rw [f12 34 (by decide)]; exact e11 34 k (by omega) (by unfold scr; omega)
              rw [e13]
              unfold rowsV
              by_cases q0 : k = 5 * j
              · subst q0; simp [hu, bgV]
              · by_cases q1 : k = 5 * j + 1
                · subst q1; simp [hu, bgV]
                · by_cases q2 : k = 5 * j + 2
                  · subst q2; simp [hu, bgV]
                  · by_cases q3 : k = 5 * j + 3
                    · subst q3; simp [hu, bgV]
                    · by_cases q4 : k = 5 * j + 4
                      · subst q4; simp [hu, bgV]
                      · simp [hu, q0, q1, q2, q3, q4, hb]
        · unfold fitM at hf2
          rw [w11, o11, vm11] at hf2
          exact absurd hf hf2
      · rw [fitR_th hI s9 k0 k1 k8] at hf
        have s10 : scF H H10 := s9.tr (f10.sc (by decide))
        have hI10 := hI.sc s10
        refine ⟨fun z => absurd rfl z, fun _ => ?_⟩
        refine l_Model_begin (s_Model_isVehicle hI10 (fun _ _ _ => ?_) (fun no => absurd rfl (no j hj)))
        refine ⟨fun _ => s_Model_isPlaceI hI10 (fun _ _ _ => ?_) (fun no => absurd rfl (no p hp)), fun z => absurd z (by decide)⟩
        refine ⟨fun _ => ?_, fun z => absurd z (by decide)⟩
        refine s_Model_fitsAt (a := 0) hI10.ml (by omega) (by omega) ⟨nI_pos (by omega), by rw [hI10.2.2.1.2.1]; exact nI_le hp (by omega)⟩ (fun hf2 H12 f12 => ?_) (fun hf2 H12 f12 => ?_)
        · rw [fitM_th hI s10] at hf2
          exact absurd hf2 hf
        · exact ⟨fun z => absurd rfl z, fun _ => eqI_sc hI (s10.tr (f12.sc (by decide))) rfl⟩
    · refine ⟨fun z => absurd rfl z, fun _ => ?_⟩
      refine l_Model_begin (s_Model_isVehicle hI (fun _ _ _ => ?_) (fun no2 => absurd ej (no2 j hj)))
      exact ⟨fun _ => s_Model_isPlaceI hI (fun p hp ep => absurd ep (no p hp)) (fun _ => ⟨fun z => absurd rfl z, fun _ => eqI_sc hI scF.rf rfl⟩), fun z => absurd z (by decide)⟩
  · refine ⟨fun z => absurd rfl z, fun _ => ?_⟩
    exact l_Model_begin (s_Model_isVehicle hI (fun j hj ej => absurd ej (no j hj)) (fun _ => ⟨fun z => absurd rfl z, fun _ => eqI_sc hI scF.rf rfl⟩))
/-- a new vehicle -/
def nwV (km p : Int32) : VV := bgV (fun k => if k = 0 then km / 10 else if k = 1 then xrem km 10 else 0) p
/-- what comes of a vehicle that is to come: the answer, how many there are then, who -/
abbrev VS : Type := Nat × (Nat → VV)
noncomputable def addF (lw : LW) (wd op : Nat) (st : VS) (km p : Int32) : Int32 × VS :=
  @ite _ ((0 ≤ km ∧ km ≤ 59) ∧ (0 ≤ p ∧ p ≤ nI wd)) (Classical.propDecidable _)
    (if st.1 = 4 then (-4, st) else @ite _ (fitV lw (nI wd) (nI op) (nwV km p) p 0) (Classical.propDecidable _) (nI st.1, (st.1 + 1, fun j => if j = st.1 then nwV km p else st.2 j)) (-3, st))
    (-2, st)
theorem km_all : ∀ n, n < 60 → (∃ a, a < 6 ∧ nI n / 10 = nI a) ∧ (∃ a, a < 10 ∧ xrem (nI n) 10 = nI a) := by decide +kernel
theorem nwV_ok {km : Int32} {wd p : Nat} (h1 : 0 ≤ km) (h2 : km ≤ 59) (hp : p ≤ wd) : vhN (nwV km (nI p)) wd := by
  obtain ⟨n, hn, e⟩ := nat_of (n := 59) (by omega) h1 h2
  obtain ⟨k1, k2⟩ := km_all n (by omega)
  rw [e]
  refine bgV_ok ⟨k1, k2, fun k hk => ?_⟩ hp
  show (if k = 0 then _ else if k = 1 then _ else (0 : Int32)) = 0
  rw [if_neg (by omega), if_neg (by omega)]
/-- the class's vehicles from n0 on, and their number, have changed -/
def vfC (n0 : Nat) (H H1 : HH) : Prop := ∀ a i k, ¬ scr a i k → ¬ (a = 1 ∧ i = 0 ∧ k = 2) → ¬ (a = 3 ∧ n0 ≤ i ∧ i < 4) → H1 a i k = H a i k
def vfM (n0 : Nat) (H H1 : HH) : Prop := ∀ a i k, ¬ scr a i k → ¬ (a = 30 ∧ i = 0 ∧ k = 3) → ¬ ((a = 32 ∨ a = 33) ∧ i = 0 ∧ n0 ≤ k) → ¬ (a = 34 ∧ i = 0 ∧ 5 * n0 ≤ k) → H1 a i k = H a i k
theorem vfC.rf {n0 : Nat} {H : HH} : vfC n0 H H := fun _ _ _ _ _ _ => rfl
theorem vfM.rf {n0 : Nat} {H : HH} : vfM n0 H H := fun _ _ _ _ _ _ _ => rfl
theorem vfC.tr {n0 n1 : Nat} {H H1 H2 : HH} (h1 : vfC n0 H H1) (h2 : vfC n1 H1 H2) (hn : n0 ≤ n1) : vfC n0 H H2 := fun a i k q1 q2 q3 => (h2 a i k q1 q2 (fun z => q3 ⟨z.1, by omega, z.2.2⟩)).trans (h1 a i k q1 q2 q3)
theorem vfM.tr {n0 n1 : Nat} {H H1 H2 : HH} (h1 : vfM n0 H H1) (h2 : vfM n1 H1 H2) (hn : n0 ≤ n1) : vfM n0 H H2 := fun a i k q1 q2 q3 q4 => (h2 a i k q1 q2 (fun z => q3 ⟨z.1, z.2.1, by omega⟩) (fun z => q4 ⟨z.1, z.2.1, by omega⟩)).trans (h1 a i k q1 q2 q3 q4)
theorem scF.vfC {n0 : Nat} {H H1 : HH} (h : scF H H1) : vfC n0 H H1 := fun a i k q1 _ _ => h a i k q1
theorem scF.vfM {n0 : Nat} {H H1 : HH} (h : scF H H1) : vfM n0 H H1 := fun a i k q1 _ _ _ => h a i k q1
def clV (H : HH) (st : VS) : Prop := H 1 0 2 = nI st.1 ∧ ∀ j, j < st.1 → ∀ k, k < 7 → H 3 j k = st.2 j k
def mdV (H : HH) (st : VS) : Prop := H 30 0 3 = nI st.1 ∧ ∀ j, j < st.1 → vM H j = st.2 j
theorem s_Main_addVehicle {E : XE} {d n0 : Nat} {km p : Int32} {s : SN} {st : VS} {H0 H : HH} {Q : Int32 → HH → Prop} (hI : INV H0 s) (hf : vfC n0 H0 H) (h4 : st.1 ≤ 4) (hn : n0 ≤ st.1) (hV : clV H st)
    (h : ∀ H1, vfC n0 H0 H1 → clV H1 (addF (lwH H0 s) s.wd s.op st km p).2 → Q (addF (lwH H0 s) s.wd s.op st km p).1 H1) : c_Main_addVehicle E (d + 5) km p H Q := by
  have w60 : s.wd ≤ 60 := hI.1.2.2.1
  have lwt : s.lw < s.nt := hI.1.2.2.2.2.1
  have nt6 : s.nt ≤ 6 := hI.1.2.2.2.2.2.1
  have kw : H 2 0 0 = nI s.wd := by rw [hf 2 0 0 (by unfold scr; omega) (by omega) (by omega)]; exact hI.2.1.2.1
  have kl : H 2 0 2 = nI s.lw := by rw [hf 2 0 2 (by unfold scr; omega) (by omega) (by omega)]; exact hI.2.1.2.2.2.1
  have ko : H 2 0 1 = nI s.op := by rw [hf 2 0 1 (by unfold scr; omega) (by omega) (by omega)]; exact hI.2.1.2.2.1
  have hbad : ¬ ((0 ≤ km ∧ km ≤ 59) ∧ (0 ≤ p ∧ p ≤ nI s.wd)) → Q (-2) H := by
    intro c
    have e : addF (lwH H0 s) s.wd s.op st km p = (-2, st) := by unfold addF; rw [if_neg c]
    rw [e] at h
    exact h H hf hV
  refine l_Main_addVehicle (s_Main_isWithin (fun q1 q2 => ?_) (fun q => ⟨fun _ => hbad (fun z => q z.1), fun z => absurd rfl z⟩))
  refine ⟨fun z => absurd z (by decide), fun _ => l_Main_isPlace ?_⟩
  unfold p_Main_isPlace
  rw [kw]
  refine s_Main_isWithin (fun q3 q4 => ⟨Or.inr rfl, ?_⟩) (fun q => ⟨Or.inl rfl, fun z => absurd rfl z, fun _ => hbad (fun z => q z.2)⟩)
  refine ⟨fun _ => ?_, fun z => absurd z (by decide)⟩
  rw [hV.1]
  have e1 : addF (lwH H0 s) s.wd s.op st km p = (if st.1 = 4 then (-4, st) else @ite _ (fitV (lwH H0 s) (nI s.wd) (nI s.op) (nwV km p) p 0) (Classical.propDecidable _) (nI st.1, (st.1 + 1, fun j => if j = st.1 then nwV km p else st.2 j)) (-3, st)) := by
    unfold addF; rw [if_pos ⟨⟨q1, q2⟩, q3, q4⟩]
  by_cases c4 : st.1 = 4
  · rw [if_pos c4] at e1
    rw [e1] at h
    refine s_Main_isWithin (fun _ q6 => ?_) (fun _ => ⟨fun z => absurd rfl z, fun _ => h H hf hV⟩)
    rw [c4] at q6
    exact absurd q6 (by decide)
  · rw [if_neg c4] at e1
    refine s_Main_isWithin (fun _ _ => ?_) (fun q => absurd ⟨nI_pos' (by omega), by rw [show (3 : Int32) = nI 3 from rfl]; exact nI_le (by omega) (by omega)⟩ q)
    refine ⟨fun _ => ?_, fun z => absurd z (by decide)⟩
    -- think of none
    refine l_Main_think (s_Lane_become ?_)
    generalize hH1 : hrow H 2 2 (fun k => if k < 3 then H 2 0 k else H 2 2 k) = H1
    have s1 : scF H H1 := by
      intro a i k q
      rw [← hH1]
      by_cases e : a = 2 ∧ i = 2
      · exact absurd (by unfold scr; omega) q
      · unfold hrow; rw [if_neg e]
    have w0 : H1 2 2 0 = nI s.wd := by rw [← hH1, hrow_at]; exact kw
    have w1 : H1 2 2 1 = nI s.op := by rw [← hH1, hrow_at]; exact ko
    have w2 : H1 2 0 2 = nI s.lw := by rw [s1 2 0 2 (by unfold scr; omega)]; exact kl
    rw [w2]
    refine s_Main_isWithin (fun _ _ => ?_) (fun q => absurd ⟨nI_pos' (by omega), by rw [show (5 : Int32) = nI 5 from rfl]; exact nI_le (by omega) (by omega)⟩ q)
    refine ⟨fun z => absurd z (by decide), fun _ => ?_⟩
    rw [w2]
    refine ⟨vp_in_nI (by omega) (by omega), ?_, fun H8 e8 => ?_⟩
    · rw [nI_clamp (by omega)]; omega
    rw [nI_clamp (by omega)] at e8
    have s8 : scF H H8 := by rw [e8]; exact s1.hu (by unfold scr; omega)
    refine l_Main_isVehicle ?_
    unfold p_Main_isVehicle
    rw [if_pos (show (-1 : Int32) < 0 by decide)]
    refine ⟨Or.inl rfl, fun _ H9 e9 => ?_, fun z => absurd rfl z⟩
    refine s_Vehicle_startAt ?_
    generalize hH10 : hu (hu (hu (hu (hu H9 3 8 2 p) 3 8 3 0) 3 8 4 0) 3 8 5 0) 3 8 6 (-1) = H10
    have f10 : ∀ a i k, ¬ (a = 3 ∧ i = 8) → H10 a i k = H8 a i k := by
      intro a i k q
      rw [← hH10, hu_ne (by omega), hu_ne (by omega), hu_ne (by omega), hu_ne (by omega), hu_ne (by omega), e9, hu_ne (by omega), hu_ne (by omega)]
    have v10 : H10 3 8 = nwV km p := by
      funext k
      rw [← hH10, e9]
      by_cases k6 : k = 6
      · subst k6; simp [hu, nwV, bgV]
      · by_cases k5 : k = 5
        · subst k5; simp [hu, nwV, bgV]
        · by_cases k4 : k = 4
          · subst k4; simp [hu, nwV, bgV]
          · by_cases k3 : k = 3
            · subst k3; simp [hu, nwV, bgV]
            · by_cases k2 : k = 2
              · subst k2; simp [hu, nwV, bgV]
              · by_cases k1 : k = 1
                · subst k1; simp [hu, nwV, bgV]
                · by_cases k0 : k = 0
                  · subst k0; simp [hu, nwV, bgV]
                  · have : H8 3 8 k = 0 := by rw [s8 3 8 k (by unfold scr; omega), hf 3 8 k (by unfold scr; omega) (by omega) (by omega)]; exact hI.2.2.2.2.1.2.2 k (by omega)
                    simp [hu, nwV, bgV, k0, k1, k2, k3, k4, k5, k6, this]
    have s10 : scF H H10 := by
      intro a i k q
      by_cases e : a = 3 ∧ i = 8
      · obtain ⟨rfl, rfl⟩ := e
        have hk : 7 ≤ k := by
          rcases Nat.lt_or_ge k 7 with y | y
          · exact absurd (by unfold scr; omega) q
          · exact y
        rw [← hH10, hu_ne (by omega), hu_ne (by omega), hu_ne (by omega), hu_ne (by omega), hu_ne (by omega), e9, hu_ne (by omega), hu_ne (by omega)]
        exact s8 3 8 k q
      · rw [f10 a i k e]; exact s8 a i k q
    have e12 : H10 12 s.lw = H0 12 s.lw := by funext k; rw [s10 12 _ k (by unfold scr; omega)]; exact hf 12 _ k (by unfold scr; omega) (by omega) (by omega)
    have e13 : H10 13 s.lw = H0 13 s.lw := by funext k; rw [s10 13 _ k (by unfold scr; omega)]; exact hf 13 _ k (by unfold scr; omega) (by omega) (by omega)
    have r10 : rdOK H10 s.lw := by
      refine ⟨?_, by omega, ?_⟩
      · rw [f10 19 0 2 (by omega), e8, hu_at]
      · rw [e12, e13]; exact hI.ml.2.2.1.tx
    have fr10 : fitR H10 s.lw p 0 = fitV (lwH H0 s) (nI s.wd) (nI s.op) (nwV km p) p 0 := by
      rw [(rat.self (H := H10)).fit, v10, e12, e13, f10 2 2 0 (by omega), f10 2 2 1 (by omega), e8, hu_kd _ _ _ _ (by decide), w0, w1]
      rfl
    have p2 : H10 3 8 2 = p := by rw [v10]; rfl
    have p3 : H10 3 8 3 = 0 := by rw [v10]; rfl
    refine l_Ride_fitsNow ?_
    unfold p_Ride_fitsNow
    rw [p2, p3]
    refine s_Ride_fits r10 (fun hfit H11 f11 => ⟨Or.inr rfl, ?_⟩) (fun hfit H11 f11 => ⟨Or.inl rfl, ?_⟩)
    · rw [fr10] at hfit
      rw [if_pos hfit] at e1
      rw [e1] at h
      have s11 : scF H H11 := s10.tr (f11.sc (by decide))
      have n11 : H11 1 0 2 = nI st.1 := by rw [s11 1 0 2 (by unfold scr; omega)]; exact hV.1
      refine ⟨fun _ => ?_, fun z => absurd z (by decide)⟩
      rw [n11]
      refine ⟨vp_in_nI (by omega) (by omega), ?_⟩
      rw [nI_clamp (by omega), show 4 * 0 + st.1 = st.1 by omega]
      refine s_Vehicle_become (fun H13 e13 => ?_)
      have v11 : H11 3 8 = nwV km p := by rw [f11 3 (by decide)]; exact v10
      rw [v11, hrow_kd _ _ _ (by decide), n11] at e13
      have fr13 : ∀ a i k, ¬ (a = 1 ∧ i = 0 ∧ k = 2) → ¬ (a = 3 ∧ i = st.1) → H13 a i k = H11 a i k := by
        intro a i k q1 q2
        rw [e13, hu_ne q1]
        unfold hrow
        rw [if_neg q2]
      have er : H13 1 0 2 - 1 = nI st.1 := by rw [e13, hu_at, nI_1, nI_pred]
      rw [er]
      refine h H13 (hf.tr (fun a i k q1 q2 q3 => ?_) hn) ⟨?_, fun j hj k hk => ?_⟩
      · rw [fr13 a i k q2 (fun z => q3 ⟨z.1, by omega, by omega⟩)]; exact s11 a i k q1
      · rw [e13, hu_at, nI_1]
      · have hj2 : j < st.1 + 1 := hj
        show H13 3 j k = (if j = st.1 then nwV km p else st.2 j) k
        by_cases e : j = st.1
        · rw [if_pos e, e, e13, hu_kd _ _ _ _ (by decide), hrow_at, if_pos hk]
        · rw [if_neg e, fr13 3 j k (by omega) (by omega), s11 3 j k (by unfold scr; omega)]
          exact hV.2 j (by omega) k hk
    · rw [fr10] at hfit
      rw [if_neg hfit] at e1
      rw [e1] at h
      have s11 : scF H H11 := s10.tr (f11.sc (by decide))
      refine ⟨fun z => absurd rfl z, fun _ => h H11 (hf.tr s11.vfC (Nat.le_refl n0)) ⟨by rw [s11 1 0 2 (by unfold scr; omega)]; exact hV.1, fun j hj k hk => ?_⟩⟩
      have hj3 : j < st.1 := hj
      rw [s11 3 j k (by unfold scr; omega)]
      exact hV.2 j hj k hk
