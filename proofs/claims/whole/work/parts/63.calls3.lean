/-! THE CALLS 3: drive, begin, vehicle, set. -/
theorem goV_k (v : VV) (p h way wn : Int32) : goV v p h way wn 0 = v 0 ∧ goV v p h way wn 1 = v 1 ∧ goV v p h way wn 2 = p ∧ goV v p h way wn 6 = way := by
  unfold goV
  refine ⟨?_, ?_, ?_, ?_⟩ <;> simp
theorem stF_vh {code ends : Nat → Int32} {wd a : Nat} {op w : Int32} {v v2 : VV} (hw : wd ≤ 60) (hv : vhN v wd) (ha : a < 2) (h : stF (lwF code ends) (nI wd) op v (nI a) w = some v2) : vhN v2 wd := by
  have e := stF_gs h
  unfold stF at h
  split at h
  · rename_i hf
    obtain ⟨g0, g1, g2, g6⟩ := goV_k v (v 2 + shF (v 3) (nI a)) ((v 3 + tuF (v 0) (v 1) (nI a) w) &&& 15) (nI a) (lwF code ends 1 (v 1) 0 (v 3) (v 2) (nI wd) (if w = 0 then 0 else 1))
    have e2 : v2 = goV v (v 2 + shF (v 3) (nI a)) ((v 3 + tuF (v 0) (v 1) (nI a) w) &&& 15) (nI a) (lwF code ends 1 (v 1) 0 (v 3) (v 2) (nI wd) (if w = 0 then 0 else 1)) := (Option.some.inj h).symm
    obtain ⟨p, hp, ep⟩ := nI_of hf.1
    have hp2 := hf.2.1
    rw [ep, nI_leI hp (by omega)] at hp2
    refine ⟨?_, ?_, ?_, ?_, ?_⟩
    · rw [e2, g0]; exact hv.1
    · rw [e2, g1]; exact hv.2.1
    · rw [e2, g2]; exact ⟨p, hp2, ep⟩
    · rw [e2, g6]; exact ⟨a, by omega, by unfold lI; rw [if_pos ha]⟩
    · rw [e]; exact gsF_ok hv.2.2.2.2
  · cases h
/-- vehicle j of both has become v -/
theorem INV.vj {H H1 : HH} {s : SN} {j : Nat} {v : VV} (hI : INV H s) (hj : j < s.nv) (hv : vhN v s.wd) (h0 : v 0 = H 32 0 j) (h1 : v 1 = H 33 0 j)
    (hf : ∀ a i k, ¬ scr a i k → ¬ (a = 3 ∧ i = j) → ¬ (a = 34 ∧ i = 0) → H1 a i k = H a i k) (h3 : ∀ k, k < 7 → H1 3 j k = v k) (h34 : H1 34 0 = rowsV (H 34 0) j v) : INV H1 s := by
  have nv4 : s.nv ≤ 4 := hI.1.1
  obtain ⟨a1, a2, a3, a4, a5, a6⟩ := hI.2.1
  obtain ⟨b1, b2, b3, b4, b5, b6⟩ := hI.2.2.1
  have vj := hI.2.2.2.2.2.1 j hj
  have e30 : ∀ k, k < 20 → H1 30 0 k = H 30 0 k := fun k hk => hf 30 0 k (by unfold scr; omega) (by omega) (by omega)
  refine hI.gen (s2 := s) (fun a i k q1 q2 => hf a i k q1 (fun z => q2 (by unfold gS; omega)) (fun z => q2 (by unfold gS; omega))) hI.1 ?_ ?_ ?_ (Nat.le_refl _) rfl (Nat.le_refl _) (fun i hi => ?_)
  · exact ⟨by rw [hf 1 0 2 (by unfold scr; omega) (by omega) (by omega)]; exact a1, by rw [hf 2 0 0 (by unfold scr; omega) (by omega) (by omega)]; exact a2, by rw [hf 2 0 1 (by unfold scr; omega) (by omega) (by omega)]; exact a3, by rw [hf 2 0 2 (by unfold scr; omega) (by omega) (by omega)]; exact a4, by rw [hf 0 0 5 (by unfold scr; omega) (by omega) (by omega)]; exact a5, by rw [hf 6 0 1 (by unfold scr; omega) (by omega) (by omega)]; exact a6⟩
  · exact ⟨by rw [e30 _ (by omega)]; exact b1, by rw [e30 _ (by omega)]; exact b2, by rw [e30 _ (by omega)]; exact b3, by rw [e30 _ (by omega)]; exact b4, by rw [e30 _ (by omega)]; exact b5, by rw [e30 _ (by omega)]; exact b6⟩
  · intro i hi
    have c32 : H1 32 0 i = H 32 0 i := hf 32 0 i (by unfold scr; omega) (by omega) (by omega)
    have c33 : H1 33 0 i = H 33 0 i := hf 33 0 i (by unfold scr; omega) (by omega) (by omega)
    by_cases e : i = j
    · subst e
      have hm : mat H1 H1 i v := by
        refine ⟨hfr.rf, ?_, fun _ _ => rfl, by rw [c32]; exact h0, by rw [c33]; exact h1⟩
        funext k
        rw [h34]
        unfold rowsV
        repeat' split
        all_goals rfl
      have hvm := hm.vM hv.2.2.2.2
      exact ⟨fun k hk => by rw [hvm, h3 k hk], by rw [hvm]; exact hv⟩
    · refine (hI.2.2.2.2.2.1 i hi).pt (fun k _ => hf 3 i k (by unfold scr; omega) (by omega) (by omega)) c32 c33 (fun k hk => ?_)
      rw [h34]
      unfold rowsV
      rw [if_neg (by omega), if_neg (by omega), if_neg (by omega), if_neg (by omega), if_neg (by omega)]
  · by_cases e : i = j
    · subst e
      rw [h3 0 (by omega), h3 1 (by omega), h0, h1]
      exact ⟨vj.1 0 (by omega), vj.1 1 (by omega)⟩
    · exact ⟨hf 3 i 0 (by unfold scr; omega) (by omega) (by omega), hf 3 i 1 (by unfold scr; omega) (by omega) (by omega)⟩
theorem bit_of {x : Int32} (h1 : 0 ≤ x) (h2 : x ≤ 1) : ∃ a, a < 2 ∧ x = nI a := by
  obtain ⟨a, ha, e⟩ := nat_of (n := 1) (by omega) h1 h2
  exact ⟨a, by omega, e⟩
theorem whl_of {x : Int32} (h1 : -1 ≤ x) (h2 : x ≤ 1) : x = -1 ∨ x = 0 ∨ x = 1 := by
  have z : (-1 : Int32).toInt = -1 := rfl
  have z0 : (0 : Int32).toInt = 0 := rfl
  have z1 : (1 : Int32).toInt = 1 := rfl
  simp only [ti_le, ti_eq] at *
  omega
theorem mat_th {H H1 : HH} {s : SN} {j : Nat} (hI : INV H s) (hs : scF H H1) (hj : j < s.nv) : mat H1 H1 j (vM H j) := by
  rw [← INV.vM_sc (j := j) hs]; exact mat.self
theorem m_drive {E : XE} {d d2 : Nat} {x1 x2 x3 : Int32} {s : SN} {H : HH} (hI : INV H s) : c_Main_drive E (d + 20) x1 x2 x3 H (fun r H1 => c_Model_drive E (d2 + 20) x1 x2 x3 H1 (eqI r)) := by
  have nv4 : s.nv ≤ 4 := hI.1.1
  have w60 : s.wd ≤ 60 := hI.1.2.2.1
  refine l_Main_drive (s_Main_isVehicle hI (fun j hj ej => ?_) (fun no => ?_))
  · refine ⟨fun _ => s_Main_isWithin (fun q1 q2 => ?_) (fun q => ?_), fun z => absurd z (by decide)⟩
    · refine ⟨fun z => absurd z (by decide), fun _ => s_Main_isWithin (fun q3 q4 => ?_) (fun q => ?_)⟩
      · refine ⟨fun _ => ?_, fun z => absurd z (by decide)⟩
        obtain ⟨a, ha, ea⟩ := bit_of q1 q2
        have hw := whl_of q3 q4
        subst ej; subst ea
        have hv := hI.2.2.2.2.2.1 j hj
        have vin4 : vp_in (nI j) 4 := vp_in_nI (by omega) (by omega)
        refine s_Main_think hI hj (fun H9 s9 r9 k0 k1 k8 => ?_)
        have ra : rat H9 H9 (vM H j) := by rw [← k8]; exact rat.self
        refine s_Ride_go r9 ra (fun v2 hst H10 ra10 => ?_) (fun hst H10 ra10 => ?_)
        · rw [k0, k1, think_lw hI s9] at hst
          have hv2 : vhN v2 s.wd := stF_vh w60 hv.2 ha hst
          have s10 : scF H H10 := s9.tr (ra10.sc (fun k hk => by rw [hv2.2.2.2.2.2.2.2 k hk, s9 3 8 k (by unfold scr; omega), hI.2.2.2.2.1.2.2 k hk]))
          refine ⟨fun _ => ⟨vin4, ?_⟩, fun z => absurd z (by decide)⟩
          rw [nI_clamp (by omega), show 4 * 0 + j = j by omega]
          refine s_Vehicle_become ⟨vin4, ?_⟩
          rw [hrow_at, ra10.v8, if_pos (by decide)]
          generalize hH11 : hrow H10 3 j (fun k => if k < 7 then v2 k else H10 3 j k) = H11
          have f11 : ∀ b i k, ¬ (b = 3 ∧ i = j) → H11 b i k = H10 b i k := by
            intro b i k q
            rw [← hH11]
            unfold hrow
            rw [if_neg q]
          have g11 : ∀ k, k < 7 → H11 3 j k = v2 k := by
            intro k hk
            rw [← hH11, hrow_at, if_pos hk]
          -- the reference over H11
          have ml11 : mlOK H11 s.lw (H 12 s.lw) (H 13 s.lw) := by
            have hI10 := hI.sc s10
            have hk11 : hfr [3] H10 H11 := by rw [← hH11]; exact hfr.rf.hrow (by decide)
            have := hI10.ml.fr hk11 (by decide) (by decide) (by decide) (by decide)
            have lwt : s.lw < s.nt := hI.1.2.2.2.2.1
            have nt6 : s.nt ≤ 6 := hI.1.2.2.2.2.2.1
            rw [show H10 12 s.lw = H 12 s.lw by funext k; exact s10 12 _ k (by unfold scr; omega), show H10 13 s.lw = H 13 s.lw by funext k; exact s10 13 _ k (by unfold scr; omega)] at this
            exact this
          have e11 : ∀ b k, ¬ b = 3 → ¬ scr b 0 k → H11 b 0 k = H b 0 k := fun b k q1 q2 => by rw [f11 b 0 k (by omega)]; exact s10 b 0 k q2
          have vm11 : vM H11 j = vM H j := vM_pt (e11 32 j (by omega) (by unfold scr; omega)) (e11 33 j (by omega) (by unfold scr; omega)) (fun k _ => e11 34 _ (by omega) (by unfold scr; omega))
          have ma11 : mat H11 H11 j (vM H j) := by rw [← vm11]; exact mat.self
          have w11 : H11 30 0 1 = nI s.wd := by rw [e11 30 1 (by omega) (by unfold scr; omega)]; exact hI.2.2.1.2.1
          have o11 : H11 30 0 2 = nI s.op := by rw [e11 30 2 (by omega) (by unfold scr; omega)]; exact hI.2.2.1.2.2.1
          have n11 : H11 30 0 3 = nI s.nv := by rw [e11 30 3 (by omega) (by unfold scr; omega)]; exact hI.2.2.1.1
          refine l_Model_drive (l_Model_isVehicle ?_)
          unfold p_Model_isVehicle
          rw [n11]
          have z1 : (nI s.nv - 1).toInt = (s.nv : Int) - 1 := by
            rw [ti_sub (by rw [ti_nI (by omega)]; have : (1 : Int32).toInt = 1 := rfl; omega) (by rw [ti_nI (by omega)]; have : (1 : Int32).toInt = 1 := rfl; omega), ti_nI (by omega)]; rfl
          refine s_Model_in (fun _ _ => ⟨Or.inr rfl, ?_⟩) (fun q => absurd ⟨nI_pos' (by omega), by simp only [ti_le]; rw [ti_nI (by omega), z1]; omega⟩ q)
          refine ⟨fun _ => s_Model_in (fun _ _ => ?_) (fun q => absurd ⟨q1, q2⟩ q), fun z => absurd z (by decide)⟩
          refine ⟨fun z => absurd z (by decide), fun _ => s_Model_in (fun _ _ => ?_) (fun q => absurd ⟨q3, q4⟩ q)⟩
          refine ⟨fun _ => ?_, fun z => absurd z (by decide)⟩
          refine s_Model_canGo ml11 (by omega) hw hv.2.2.2.2.2 ma11 (fun hs2 H12 ma12 => ?_) (fun hs2 H12 ma12 => ?_)
          · refine ⟨fun _ => ?_, fun z => absurd z (by decide)⟩
            refine s_Model_goes ml11 (by omega) hw hv.2.2.2.2.2 ma12 (fun H13 ma13 => ?_)
            have ev2 : gsF (lwF (H 12 s.lw) (H 13 s.lw)) (H11 30 0 1) (vM H j) (nI a) x3 = v2 := by rw [w11]; exact (stF_gs hst).symm
            rw [ev2] at ma13
            have vin20 : vp_in (5 * nI j) 20 := by rw [i5_0]; exact vp_in_nI (by omega) (by omega)
            refine ⟨vin20, ?_, s, ?_⟩
            · rw [i5_0, nI_clamp (by omega)]
              exact congrFun (ma13.vM hv2.2.2.2.2) 2
            · refine hI.vj (v := v2) hj hv2 ?_ ?_ (fun b i k q1 q2 q3 => ?_) (fun k hk => ?_) ?_
              · rw [ma13.2.2.2.1, e11 32 j (by omega) (by unfold scr; omega)]
              · rw [ma13.2.2.2.2, e11 33 j (by omega) (by unfold scr; omega)]
              · have e13 : H13 b i k = H11 b i k := by
                  by_cases e : b = 34
                  · subst e
                    rw [ma13.2.2.1 i (by omega)]
                  · by_cases e2 : b = 46 ∨ b = 47
                    · exact absurd (by unfold scr; omega) q1
                    · rw [ma13.1 b (by simp only [List.mem_cons, List.not_mem_nil, or_false]; omega)]
                rw [e13, f11 b i k q2]
                exact s10 b i k q1
              · rw [ma13.1 3 (by decide)]; exact g11 k hk
              · rw [ma13.2.1]
                congr 1
                funext k
                exact e11 34 k (by omega) (by unfold scr; omega)
          · rw [w11, o11] at hs2
            have : stF (lwF (H 12 s.lw) (H 13 s.lw)) (nI s.wd) (nI s.op) (vM H j) (nI a) x3 = some v2 := hst
            rw [hs2] at this; cases this
        · rw [k0, k1, think_lw hI s9] at hst
          have s10 : scF H H10 := s9.tr (ra10.sc (fun k hk => by rw [hv.2.2.2.2.2.2.2.2 k hk, s9 3 8 k (by unfold scr; omega), hI.2.2.2.2.1.2.2 k hk]))
          refine ⟨fun z => absurd rfl z, fun _ => ?_⟩
          have hI10 := hI.sc s10
          refine l_Model_drive (s_Model_isVehicle hI10 (fun _ _ _ => ?_) (fun no => absurd rfl (no j hj)))
          refine ⟨fun _ => s_Model_in (fun _ _ => ?_) (fun q => absurd ⟨q1, q2⟩ q), fun z => absurd z (by decide)⟩
          refine ⟨fun z => absurd z (by decide), fun _ => s_Model_in (fun _ _ => ?_) (fun q => absurd ⟨q3, q4⟩ q)⟩
          refine ⟨fun _ => ?_, fun z => absurd z (by decide)⟩
          refine s_Model_canGo hI10.ml (by omega) hw hv.2.2.2.2.2 (mat_th hI s10 hj) (fun hs2 H12 ma12 => ?_) (fun hs2 H12 ma12 => ?_)
          · rw [hI10.2.2.1.2.1, hI10.2.2.1.2.2.1, think_lw hI s10, hst] at hs2; cases hs2
          · refine ⟨fun z => absurd rfl z, fun _ => ⟨rfl, s, hI10.sc ?_⟩⟩
            intro b i k q
            by_cases e : b = 34
            · subst e
              by_cases e2 : i = 0
              · subst e2
                rw [ma12.2.1]
                have := congrFun (rowsV_self (H := H10) (j := j)) k
                rw [INV.vM_sc s10] at this
                exact this
              · rw [ma12.2.2.1 i e2]
            · by_cases e2 : b = 46 ∨ b = 47
              · exact absurd (by unfold scr; omega) q
              · rw [ma12.1 b (by simp only [List.mem_cons, List.not_mem_nil, or_false]; omega)]
      · refine ⟨fun z => absurd rfl z, fun _ => ?_⟩
        refine l_Model_drive (s_Model_isVehicle hI (fun _ _ _ => ?_) (fun no => absurd ej (no j hj)))
        exact ⟨fun _ => s_Model_in (fun _ _ => ⟨fun z => absurd z (by decide), fun _ => s_Model_in (fun q3 q4 => absurd ⟨q3, q4⟩ q) (fun _ => ⟨fun z => absurd rfl z, fun _ => eqI_sc hI scF.rf rfl⟩)⟩) (fun q => absurd ⟨q1, q2⟩ q), fun z => absurd z (by decide)⟩
    · refine ⟨fun _ => ?_, fun z => absurd rfl z⟩
      refine l_Model_drive (s_Model_isVehicle hI (fun _ _ _ => ?_) (fun no => absurd ej (no j hj)))
      exact ⟨fun _ => s_Model_in (fun q1 q2 => absurd ⟨q1, q2⟩ q) (fun _ => ⟨fun _ => eqI_sc hI scF.rf rfl, fun z => absurd rfl z⟩), fun z => absurd z (by decide)⟩
  · refine ⟨fun z => absurd rfl z, fun _ => ?_⟩
    exact l_Model_drive (s_Model_isVehicle hI (fun j hj ej => absurd ej (no j hj)) (fun _ => ⟨fun z => absurd rfl z, fun _ => eqI_sc hI scF.rf rfl⟩))
