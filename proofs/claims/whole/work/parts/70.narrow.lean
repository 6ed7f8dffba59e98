/-! THE CALLS 9: narrow, cut. -/
def fstI (P : Nat → Prop) (a b : Nat) (r : Int32) : Prop := (r = -1 ∧ ∀ w, a ≤ w → w ≤ b → ¬ P w) ∨ ∃ w, r = nI w ∧ a ≤ w ∧ w ≤ b ∧ P w ∧ ∀ w2, a ≤ w2 → w2 < w → ¬ P w2
theorem fstI_uniq {P : Nat → Prop} {a b : Nat} {r r2 : Int32} (h : fstI P a b r) (h2 : fstI P a b r2) : r2 = r := by
  rcases h with ⟨e, h⟩ | ⟨w, e, h3, h4, h5, h6⟩
  · rcases h2 with ⟨e2, -⟩ | ⟨w2, -, g3, g4, g5, -⟩
    · rw [e, e2]
    · exact absurd g5 (h w2 g3 g4)
  · rcases h2 with ⟨-, g⟩ | ⟨w2, e2, g3, g4, g5, g6⟩
    · exact absurd h5 (g w h3 h4)
    · have : w2 = w := by
        rcases Nat.lt_or_ge w2 w with q | q
        · exact absurd g5 (h6 w2 g3 q)
        · rcases Nat.lt_or_ge w w2 with q2 | q2
          · exact absurd h5 (g6 w h3 q2)
          · omega
      rw [e, e2, this]
theorem tells_var {E : XE} {d t j wdn wv : Nat} {op : Int32} {v : VV} {code ends : Nat → Int32} {H1 : HH} {Q : HH → Prop} (ml : mlOK H1 t code ends) (hw : H1 30 0 1 = nI wdn) (hw61 : wdn < 61) (ho : H1 30 0 2 = op) (hv : vM H1 j = v) (hj : j < 4) (hwv : wv < 2)
    (h : ∀ H2, hfr [46, 47, 48, 49] H1 H2 → tbOK H2 j wv (grV (lwF code ends) wdn op v) → Q H2) : c_Model_tellsLane E (d + 4) (nI j) (nI wv) H1 Q := by
  refine s_Model_tellsLane ml hj hw hw61 hwv (fun H2 f2 t2 => ?_)
  rw [grM_V hw ho hv] at t2
  exact h H2 f2 t2
theorem ml_of {H H1 : HH} {s : SN} (hI : INV H s) (h : ∀ a i k, ¬ scr a i k → ¬ (a = 30 ∧ i = 0 ∧ (k = 1 ∨ k = 2)) → H1 a i k = H a i k) : mlOK H1 s.lw (H 12 s.lw) (H 13 s.lw) ∧ ∀ j, vM H1 j = vM H j := by
  obtain ⟨m1, m2, m3, m4⟩ := hI.ml
  refine ⟨⟨by rw [h 30 0 12 (by unfold scr; omega) (by omega)]; exact m1, m2, m3.pt (fun c _ => h 37 0 _ (by unfold scr; omega) (by omega)) (fun c _ => h 36 0 _ (by unfold scr; omega) (by omega)), fun c hc => ?_⟩, fun j => ?_⟩
  · rw [h 31 0 c (by unfold scr; omega) (by omega)]; exact m4 c hc
  · exact vM_pt (h 32 0 j (by unfold scr; omega) (by omega)) (h 33 0 j (by unfold scr; omega) (by omega)) (fun c _ => h 34 0 _ (by unfold scr; omega) (by omega))
theorem half_all : ∀ w, w < 62 → nI w / 2 = nI (w / 2) := by decide +kernel
theorem m_narrow {E : XE} {d d2 : Nat} {x1 x2 : Int32} {s : SN} {H : HH} (hI : INV H s) : c_Main_narrow E (d + 20) x1 x2 H (fun r H1 => c_Model_narrow E (d2 + 20) x1 x2 H1 (eqI r)) := by
  have nv4 : s.nv ≤ 4 := hI.1.1
  have w60 : s.wd ≤ 60 := hI.1.2.2.1
  refine l_Main_narrow (s_Main_isVehicle hI (fun j hj ej => ?_) (fun no => ?_))
  · refine ⟨fun _ => s_Main_isWithin (fun q1 q2 => ?_) (fun q => ?_), fun z => absurd z (by decide)⟩
    · refine ⟨fun _ => ?_, fun z => absurd z (by decide)⟩
      subst ej
      obtain ⟨m, hm, em⟩ := nat_of (x := x2) (n := 99) (by omega) (by have z : (1 : Int32).toInt = 1 := rfl; have z0 : (0 : Int32).toInt = 0 := rfl; simp only [ti_le] at *; omega) q2
      have hv := hI.2.2.2.2.2.1 j hj
      -- the widths that will do
      let P : Nat → Prop := fun w => ∃ k, frO (grV (lwH H s) w (nI s.op) (vM H j)) 0 (w / 2) = some k ∧ k ≤ m
      have md : ∀ H1 r, scF H H1 → fstI P 8 60 r → c_Model_narrow E (d2 + 20) (nI j) x2 H1 (eqI r) := by
        intro H1 r s1 hr
        have hI1 := hI.sc s1
        refine l_Model_narrow (s_Model_isVehicle hI1 (fun _ _ _ => ?_) (fun no => absurd rfl (no j hj)))
        refine ⟨fun _ => s_Model_in (fun _ _ => ?_) (fun q => absurd ⟨q1, q2⟩ q), fun z => absurd z (by decide)⟩
        refine ⟨fun _ => ?_, fun z => absurd z (by decide)⟩
        refine ⟨fun z6 z7 H8 => ∃ w, 8 ≤ w ∧ w ≤ 61 ∧ z7 = nI w ∧ (∀ a i k, ¬ scr a i k → ¬ (a = 30 ∧ i = 0 ∧ k = 1) → H8 a i k = H a i k) ∧ ((z6 = -1 ∧ ∀ w2, 8 ≤ w2 → w2 < w → ¬ P w2) ∨ ∃ w0, z6 = nI w0 ∧ 8 ≤ w0 ∧ w0 ≤ 60 ∧ P w0 ∧ ∀ w2, 8 ≤ w2 → w2 < w0 → ¬ P w2), fun _ z7 _ => 61 - z7.toNatClampNeg, ⟨8, by omega, by omega, rfl, fun a i k q1 q2 => s1 a i k q1, Or.inl ⟨rfl, fun w2 a b => absurd a (by omega)⟩⟩, fun z6 z7 H8 hJ => ?_⟩
        obtain ⟨w, hw8, hw61, rfl, k8, hc⟩ := hJ
        have fin : ∀ (r2 : Int32) (H9 : HH), H9 = hu H8 30 0 1 (H1 30 0 1) → fstI P 8 60 r2 → eqI r r2 H9 := by
          intro r2 H9 e9 hr2
          refine eqI_sc hI (fun a i k q => ?_) (fstI_uniq hr hr2)
          rw [e9]
          by_cases e : a = 30 ∧ i = 0 ∧ k = 1
          · obtain ⟨rfl, rfl, rfl⟩ := e
            rw [hu_at]; exact s1 30 0 1 q
          · rw [hu_ne e]; exact k8 a i k q e
        refine ⟨fun q H9 e9 => ?_, fun q => ⟨fun qz H10 e10 => ?_, fun qz H11 e11 => ?_⟩⟩
        · rw [show (60 : Int32) = nI 60 from rfl, nI_ltI (by omega) (by omega)] at q
          refine fin _ H9 e9 ?_
          rcases hc with ⟨e, hc⟩ | ⟨w0, e, a1, a2, a3, a4⟩
          · exact Or.inl ⟨e, fun w2 b1 b2 => hc w2 b1 (by omega)⟩
          · exact Or.inr ⟨w0, e, a1, a2, a3, a4⟩
        · refine fin _ H10 e10 ?_
          rcases hc with ⟨e, hc⟩ | ⟨w0, e, a1, a2, a3, a4⟩
          · exact absurd e qz
          · exact Or.inr ⟨w0, e, a1, a2, a3, a4⟩
        · rw [show (60 : Int32) = nI 60 from rfl, nI_ltI (by omega) (by omega)] at q
          have hcn : ∀ w2, 8 ≤ w2 → w2 < w → ¬ P w2 := by
            rcases hc with ⟨e, hc⟩ | ⟨w0, e, a1, a2, a3, a4⟩
            · exact hc
            · rw [qz] at e; exact absurd e.symm (nI_n1 (by omega))
          have k11 : ∀ a i k, ¬ scr a i k → ¬ (a = 30 ∧ i = 0 ∧ k = 1) → H11 a i k = H a i k := by
            intro a i k p1 p2
            rw [e11, hu_ne p2]; exact k8 a i k p1 p2
          obtain ⟨ml, vm⟩ := ml_of hI (fun a i k p1 p2 => k11 a i k p1 (fun z => p2 ⟨z.1, z.2.1, Or.inl z.2.2⟩))
          refine tells_var (wv := 0) (op := nI s.op) ml (by rw [e11, hu_at]) (by omega) (by rw [k11 30 0 2 (by unfold scr; omega) (by omega)]; exact hI.2.2.1.2.2.1) (vm j) (by omega) (by decide) (fun H12 f12 t12 => ?_)
          rw [half_all w (by omega)]
          refine s_Model_fromBegin (g := 0) t12 (show w / 2 ≤ w by omega) (fun H13 f13 hb v16 e16 => ?_)
          have mu : 61 - (nI w + 1).toNatClampNeg < 61 - (nI w).toNatClampNeg := by rw [nI_1, nI_clamp (by omega), nI_clamp (by omega)]; omega
          have k13 : ∀ a i k, ¬ scr a i k → ¬ (a = 30 ∧ i = 0 ∧ k = 1) → H13 a i k = H a i k := by
            intro a i k p1 p2
            rw [(f12.sc (by decide)).tr (f13.sc (by decide)) a i k p1]; exact k11 a i k p1 p2
          by_cases c : x2 < oM (frO (grV (lwH H s) w (nI s.op) (vM H j)) 0 (w / 2))
          · have e16' : v16 = -1 := e16.trans (if_pos c)
            have nP : ¬ P w := by
              rintro ⟨k, h1, h2⟩
              rw [h1, em] at c
              rw [show oM (some k) = nI k from rfl, nI_ltI (by omega) (by omega)] at c
              omega
            refine ⟨⟨w + 1, by omega, by omega, nI_1 w, k13, Or.inl ⟨e16', fun w2 b1 b2 => ?_⟩⟩, mu⟩
            by_cases e : w2 = w
            · rw [e]; exact nP
            · exact hcn w2 b1 (by omega)
          · have e16' : v16 = nI w := e16.trans (if_neg c)
            have yP : P w := by
              cases ho : frO (grV (lwH H s) w (nI s.op) (vM H j)) 0 (w / 2) with
              | none =>
                rw [ho, em, show oM none = nI 1000000000 from rfl, nI_ltI (by omega) (by omega)] at c
                omega
              | some k =>
                have hk := hb k ho
                rw [ho, em, show oM (some k) = nI k from rfl, nI_ltI (by omega) (by omega)] at c
                exact ⟨k, ho, by omega⟩
            exact ⟨⟨w + 1, by omega, by omega, nI_1 w, k13, Or.inr ⟨w, e16', by omega, by omega, yP, hcn⟩⟩, mu⟩
      refine s_Main_think hI hj (fun H5 s5 r5 k0 k1 k8 => ?_)
      refine ⟨fun z7 H8 => ∃ w, 8 ≤ w ∧ w ≤ 61 ∧ z7 = nI w ∧ scF H H8 ∧ rdOK H8 s.lw ∧ H8 2 2 1 = nI s.op ∧ H8 3 8 0 = vM H j 0 ∧ H8 3 8 1 = vM H j 1 ∧ ∀ w2, 8 ≤ w2 → w2 < w → ¬ P w2, fun z7 _ => 61 - z7.toNatClampNeg, ⟨8, by omega, by omega, rfl, s5, r5, k1, by rw [k8], by rw [k8], fun w2 a b => absurd a (by omega)⟩, fun z7 H8 hJ => ?_⟩
      obtain ⟨w, hw8, hw61, rfl, s8, r8, o8, b0, b1, hcn⟩ := hJ
      have mu : w ≤ 60 → 61 - (nI w + 1).toNatClampNeg < 61 - (nI w).toNatClampNeg := by intro; rw [nI_1, nI_clamp (by omega), nI_clamp (by omega)]; omega
      refine ⟨fun q => ?_, fun q H9 e9 => ?_⟩
      · rw [show (60 : Int32) = nI 60 from rfl, nI_ltI (by omega) (by omega)] at q
        exact md H8 _ s8 (Or.inl ⟨rfl, fun w2 a b => hcn w2 a (by omega)⟩)
      · rw [show (60 : Int32) = nI 60 from rfl, nI_ltI (by omega) (by omega)] at q
        rw [half_all w (by omega)]
        refine s_Vehicle_startAt ?_
        generalize hH10 : hu (hu (hu (hu (hu H9 3 8 2 (nI (w / 2))) 3 8 3 0) 3 8 4 0) 3 8 5 0) 3 8 6 (-1) = H10
        have f10 : ∀ a i k, ¬ (a = 3 ∧ i = 8) → ¬ (a = 2 ∧ i = 2 ∧ k = 0) → H10 a i k = H8 a i k := by
          intro a i k p1 p2
          rw [← hH10, hu_ne (by omega), hu_ne (by omega), hu_ne (by omega), hu_ne (by omega), hu_ne (by omega), e9, hu_ne p2]
        have v10 : H10 3 8 = bgV (vM H j) (nI (w / 2)) := by
          funext k
          rw [← hH10, e9]
          by_cases k6 : k = 6
          · subst k6; simp [hu, bgV]
          · by_cases k5 : k = 5
            · subst k5; simp [hu, bgV]
            · by_cases k4 : k = 4
              · subst k4; simp [hu, bgV]
              · by_cases k3 : k = 3
                · subst k3; simp [hu, bgV]
                · by_cases k2 : k = 2
                  · subst k2; simp [hu, bgV]
                  · have : H8 3 8 k = vM H j k := by
                      rcases (show k = 0 ∨ k = 1 ∨ 7 ≤ k by omega) with e | e | e
                      · subst e; exact b0
                      · subst e; exact b1
                      · rw [s8 3 8 k (by unfold scr; omega), hI.2.2.2.2.1.2.2 k e]
                        exact (hv.2.2.2.2.2.2.2.2 k e).symm
                    simp [hu, bgV, k2, k3, k4, k5, k6, this]
        have s10 : scF H H10 := by
          intro a i k p
          by_cases e : a = 3 ∧ i = 8
          · obtain ⟨rfl, rfl⟩ := e
            have hk : 7 ≤ k := by
              rcases Nat.lt_or_ge k 7 with y | y
              · exact absurd (by unfold scr; omega) p
              · exact y
            rw [v10, hI.2.2.2.2.1.2.2 k hk]
            unfold bgV
            rw [if_neg (by omega), if_neg (by omega), if_neg (by omega), if_neg (by omega), if_neg (by omega)]
            exact hv.2.2.2.2.2.2.2.2 k hk
          · by_cases e2 : a = 2 ∧ i = 2 ∧ k = 0
            · exact absurd (by unfold scr; omega) p
            · rw [f10 a i k e e2]; exact s8 a i k p
        have e12 : H10 12 = H8 12 := by funext i k; exact f10 12 i k (by omega) (by omega)
        have e13 : H10 13 = H8 13 := by funext i k; exact f10 13 i k (by omega) (by omega)
        have r10 : rdOK H10 s.lw := by
          unfold rdOK
          rw [e12, e13, f10 19 0 2 (by omega) (by omega)]
          exact r8
        have t10 : thk H10 s.lw w (nI s.op) (bgV (vM H j) (nI (w / 2))) (lwH H s) := by
          refine ⟨r10, ?_, ?_, v10, think_lw hI s10⟩
          · rw [← hH10, hu_ne (by omega), hu_ne (by omega), hu_ne (by omega), hu_ne (by omega), hu_ne (by omega), e9, hu_at]
          · rw [f10 2 2 1 (by omega) (by omega)]; exact o8
        have eG : grV (lwH H s) w (nI s.op) (bgV (vM H j) (nI (w / 2))) = grV (lwH H s) w (nI s.op) (vM H j) := grV_base rfl rfl
        have eft : fitR H10 s.lw (nI (w / 2)) 0 = (grV (lwH H s) w (nI s.op) (vM H j)).ft (w / 2) 0 := by
          rw [← eG, (rat.self (H := H10)).fit, t10.2.1, t10.2.2.1, v10, t10.2.2.2.2]; rfl
        have nxt8 : ∀ H18, scF H H18 → rdOK H18 s.lw → H18 2 2 1 = nI s.op → H18 3 8 = bgV (vM H j) (nI (w / 2)) → ¬ P w → (∃ w', 8 ≤ w' ∧ w' ≤ 61 ∧ nI w + 1 = nI w' ∧ scF H H18 ∧ rdOK H18 s.lw ∧ H18 2 2 1 = nI s.op ∧ H18 3 8 0 = vM H j 0 ∧ H18 3 8 1 = vM H j 1 ∧ ∀ w2, 8 ≤ w2 → w2 < w' → ¬ P w2) ∧ 61 - (nI w + 1).toNatClampNeg < 61 - (nI w).toNatClampNeg := by
          intro H18 s18 r18 o18 v18 nP
          refine ⟨⟨w + 1, by omega, by omega, nI_1 w, s18, r18, o18, by rw [v18]; rfl, by rw [v18]; rfl, fun w2 a b => ?_⟩, mu (by omega)⟩
          by_cases e : w2 = w
          · rw [e]; exact nP
          · exact hcn w2 a (by omega)
        refine l_Ride_fitsNow ?_
        unfold p_Ride_fitsNow
        rw [v10]
        show c_Ride_fits _ _ (nI (w / 2)) 0 _ _
        refine s_Ride_fits r10 (fun hfit H11 f11 => ⟨Or.inr rfl, ?_⟩) (fun hfit H11 f11 => ⟨Or.inl rfl, ?_⟩)
        · rw [eft] at hfit
          refine ⟨fun _ => ?_, fun z => absurd z (by decide)⟩
          have t11 := t10.fr f11 (by decide) (by decide) (by decide) (by decide) (by decide)
          have s11 := s10.tr (f11.sc (by decide))
          rw [t11.2.2.2.1]
          refine s_Main_otherHeading ?_
          rw [show (bgV (vM H j) (nI (w / 2)) 3 + 8) &&& 15 = nI 8 from (by show ((0 : Int32) + 8) &&& 15 = nI 8; decide)]
          refine s_cl_toH (g := 0) t11 (by omega) (by decide) (by decide) (fun H15 c s15 t15 sr15 sc15 co15 => ?_)
          refine s_cl_now (l := 2) (h := 0) t15 sr15 sc15 co15 rfl rfl rfl (by omega) (by decide) (by decide) (fun H16 f16 t16 st16 b16 => ?_)
          rw [eG] at b16 ⊢
          have s16 : scF H H16 := (s11.tr s15).tr f16.sc
          have eb : (bestF (stpO (grV (lwH H s) w (nI s.op) (vM H j)) 0 8 (w / 2) 0 2) 6).map Prod.fst = frO (grV (lwH H s) w (nI s.op) (vM H j)) 0 (w / 2) := by
            rw [bst_lst (by decide)]
            unfold frO
            rw [if_pos hfit]
          cases hb : bestF (stpO (grV (lwH H s) w (nI s.op) (vM H j)) 0 8 (w / 2) 0 2) 6 with
          | none =>
            rw [hb] at eb
            refine s_Main_isWithin (fun z _ => absurd z (by decide)) (fun _ => ⟨fun _ => nxt8 H16 s16 t16.1 t16.2.2.1 t16.2.2.2.1 ?_, fun z => absurd rfl z⟩)
            rintro ⟨k, h1, -⟩
            rw [← eb] at h1; cases h1
          | some qq =>
            have hq2 := b16 qq hb
            rw [hb] at eb
            refine s_Main_isWithin (fun _ z => ⟨fun y => absurd y (by decide), fun _ => ?_⟩) (fun z => ⟨fun _ => nxt8 H16 s16 t16.1 t16.2.2.1 t16.2.2.2.1 ?_, fun y => absurd rfl y⟩)
            · rw [em] at z
              have z2 : qq.1 ≤ m := (nI_leI (by omega) (by omega)).mp (show nI qq.1 ≤ nI m from z)
              exact md H16 _ s16 (Or.inr ⟨w, rfl, hw8, by omega, ⟨qq.1, eb.symm, z2⟩, hcn⟩)
            · rintro ⟨k, h1, h2⟩
              rw [← eb] at h1
              have ek : qq.1 = k := Option.some.inj h1
              refine z ⟨nI_pos' (show qq.1 < _ by omega), ?_⟩
              rw [em]
              exact nI_le (show qq.1 ≤ m by omega) (by omega)
        · rw [eft] at hfit
          refine ⟨fun z => absurd rfl z, fun _ => ?_⟩
          have t11 := t10.fr f11 (by decide) (by decide) (by decide) (by decide) (by decide)
          refine nxt8 H11 (s10.tr (f11.sc (by decide))) t11.1 t11.2.2.1 t11.2.2.2.1 ?_
          rintro ⟨k, h1, -⟩
          unfold frO at h1
          rw [if_neg hfit] at h1; cases h1
    · refine ⟨fun z => absurd rfl z, fun _ => ?_⟩
      refine l_Model_narrow (s_Model_isVehicle hI (fun _ _ _ => ?_) (fun no2 => absurd ej (no2 j hj)))
      exact ⟨fun _ => s_Model_in (fun a b => absurd ⟨a, b⟩ q) (fun _ => ⟨fun z => absurd rfl z, fun _ => eqI_sc hI scF.rf rfl⟩), fun z => absurd z (by decide)⟩
  · refine ⟨fun z => absurd rfl z, fun _ => ?_⟩
    exact l_Model_narrow (s_Model_isVehicle hI (fun j hj ej => absurd ej (no j hj)) (fun _ => ⟨fun z => absurd rfl z, fun _ => eqI_sc hI scF.rf rfl⟩))
theorem m_cut {E : XE} {d d2 : Nat} {x1 x2 : Int32} {s : SN} {H : HH} (hI : INV H s) : c_Main_cut E (d + 20) x1 x2 H (fun r H1 => c_Model_cut E (d2 + 20) x1 x2 H1 (eqI r)) := by
  have nv4 : s.nv ≤ 4 := hI.1.1
  have w60 : s.wd ≤ 60 := hI.1.2.2.1
  refine l_Main_cut (s_Main_isVehicle hI (fun j hj ej => ?_) (fun no => ?_))
  · refine ⟨fun _ => s_Main_isWithin (fun q1 q2 => ?_) (fun q => ?_), fun z => absurd z (by decide)⟩
    · refine ⟨fun _ => ?_, fun z => absurd z (by decide)⟩
      subst ej
      obtain ⟨m, hm, em⟩ := nat_of (x := x2) (n := 99) (by omega) q1 q2
      have hv := hI.2.2.2.2.2.1 j hj
      obtain ⟨p, hp, ep⟩ := hv.2.2.2.1
      obtain ⟨l, hl, el⟩ := hv.2.2.2.2.1
      obtain ⟨h, hh, eh⟩ := hv.2.2.2.2.2.1
      have hhd : (h + 8) % 16 < 16 := Nat.mod_lt _ (by decide)
      have hne : ¬ h = (h + 8) % 16 := by omega
      -- the openings that will do
      let P : Nat → Prop := fun o => ∃ k, lstO (grV (lwH H s) s.wd (nI o) (vM H j)) 0 ((h + 8) % 16) p h l = some k ∧ k ≤ m
      have md : ∀ H1 r, scF H H1 → fstI P 0 20 r → c_Model_cut E (d2 + 20) (nI j) x2 H1 (eqI r) := by
        intro H1 r s1 hr
        have hI1 := hI.sc s1
        refine l_Model_cut (s_Model_isVehicle hI1 (fun _ _ _ => ?_) (fun no => absurd rfl (no j hj)))
        refine ⟨fun _ => s_Model_in (fun _ _ => ?_) (fun q => absurd ⟨q1, q2⟩ q), fun z => absurd z (by decide)⟩
        refine ⟨fun _ => ?_, fun z => absurd z (by decide)⟩
        refine ⟨fun z6 z7 H8 => ∃ w, w ≤ 21 ∧ z7 = nI w ∧ (∀ a i k, ¬ scr a i k → ¬ (a = 30 ∧ i = 0 ∧ k = 2) → H8 a i k = H a i k) ∧ ((z6 = -1 ∧ ∀ w2, w2 < w → ¬ P w2) ∨ ∃ w0, z6 = nI w0 ∧ w0 ≤ 20 ∧ P w0 ∧ ∀ w2, w2 < w0 → ¬ P w2), fun _ z7 _ => 21 - z7.toNatClampNeg, ⟨0, by omega, rfl, fun a i k q1 q2 => s1 a i k q1, Or.inl ⟨rfl, fun w2 b => absurd b (Nat.not_lt_zero _)⟩⟩, fun z6 z7 H8 hJ => ?_⟩
        obtain ⟨w, hw21, rfl, k8, hc⟩ := hJ
        have fin : ∀ (r2 : Int32) (H9 : HH), H9 = hu H8 30 0 2 (H1 30 0 2) → fstI P 0 20 r2 → eqI r r2 H9 := by
          intro r2 H9 e9 hr2
          refine eqI_sc hI (fun a i k q => ?_) (fstI_uniq hr hr2)
          rw [e9]
          by_cases e : a = 30 ∧ i = 0 ∧ k = 2
          · obtain ⟨rfl, rfl, rfl⟩ := e
            rw [hu_at]; exact s1 30 0 2 q
          · rw [hu_ne e]; exact k8 a i k q e
        refine ⟨fun q H9 e9 => ?_, fun q => ⟨fun qz H10 e10 => ?_, fun qz H11 e11 => ?_⟩⟩
        · rw [show (20 : Int32) = nI 20 from rfl, nI_ltI (by omega) (by omega)] at q
          refine fin _ H9 e9 ?_
          rcases hc with ⟨e, hc⟩ | ⟨w0, e, a2, a3, a4⟩
          · exact Or.inl ⟨e, fun w2 _ b2 => hc w2 (by omega)⟩
          · exact Or.inr ⟨w0, e, Nat.zero_le _, a2, a3, fun w2 _ b => a4 w2 b⟩
        · refine fin _ H10 e10 ?_
          rcases hc with ⟨e, hc⟩ | ⟨w0, e, a2, a3, a4⟩
          · exact absurd e qz
          · exact Or.inr ⟨w0, e, Nat.zero_le _, a2, a3, fun w2 _ b => a4 w2 b⟩
        · rw [show (20 : Int32) = nI 20 from rfl, nI_ltI (by omega) (by omega)] at q
          have hcn : ∀ w2, w2 < w → ¬ P w2 := by
            rcases hc with ⟨e, hc⟩ | ⟨w0, e, a2, a3, a4⟩
            · exact hc
            · rw [qz] at e; exact absurd e.symm (nI_n1 (by omega))
          have k11 : ∀ a i k, ¬ scr a i k → ¬ (a = 30 ∧ i = 0 ∧ k = 2) → H11 a i k = H a i k := by
            intro a i k p1 p2
            rw [e11, hu_ne p2]; exact k8 a i k p1 p2
          obtain ⟨ml, vm⟩ := ml_of hI (fun a i k p1 p2 => k11 a i k p1 (fun z => p2 ⟨z.1, z.2.1, Or.inr z.2.2⟩))
          refine tells_var (wv := 0) (op := nI w) ml (by rw [k11 30 0 1 (by unfold scr; omega) (by omega)]; exact hI.2.2.1.2.1) (by omega) (by rw [e11, hu_at]) (vm j) (by omega) (by decide) (fun H12 f12 t12 => ?_)
          have vm12 : vM H12 j = vM H j := by rw [vM_of j (f12 32 (by decide)) (f12 33 (by decide)) (f12 34 (by decide))]; exact vm j
          refine s_Model_stateOf (by omega) vm12 ep eh el hl ?_
          refine s_md_seeks t12 (show p ≤ (grV _ s.wd _ _).wdn from hp) hh hl (fun H13 f13 t13 hlt => ?_)
          have vm13 : vM H13 j = vM H j := by rw [vM_of j (f13 32 (by decide)) (f13 33 (by decide)) (f13 34 (by decide))]; exact vm12
          refine s_Model_otherOf (by omega) vm13 eh hh ?_
          refine hlt _ _ _ hhd (fun hb v21 e21 => ?_)
          have mu : 21 - (nI w + 1).toNatClampNeg < 21 - (nI w).toNatClampNeg := by rw [nI_1, nI_clamp (by omega), nI_clamp (by omega)]; omega
          have k13 : ∀ a i k, ¬ scr a i k → ¬ (a = 30 ∧ i = 0 ∧ k = 2) → H13 a i k = H a i k := by
            intro a i k p1 p2
            rw [(f12.sc (by decide)).tr (f13.sc (by decide)) a i k p1]; exact k11 a i k p1 p2
          by_cases c : x2 < oM (lstO (grV (lwH H s) s.wd (nI w) (vM H j)) 0 ((h + 8) % 16) p h l)
          · have e16' : v21 = -1 := e21.trans (if_pos c)
            have nP : ¬ P w := by
              rintro ⟨k, h1, h2⟩
              rw [h1, em] at c
              rw [show oM (some k) = nI k from rfl, nI_ltI (by omega) (by omega)] at c
              omega
            refine ⟨⟨w + 1, by omega, nI_1 w, k13, Or.inl ⟨e16', fun w2 b2 => ?_⟩⟩, mu⟩
            by_cases e : w2 = w
            · rw [e]; exact nP
            · exact hcn w2 (by omega)
          · have e16' : v21 = nI w := e21.trans (if_neg c)
            have yP : P w := by
              cases ho : lstO (grV (lwH H s) s.wd (nI w) (vM H j)) 0 ((h + 8) % 16) p h l with
              | none =>
                rw [ho, em, show oM none = nI 1000000000 from rfl, nI_ltI (by omega) (by omega)] at c
                omega
              | some k =>
                have hk := hb k ho
                rw [ho, em, show oM (some k) = nI k from rfl, nI_ltI (by omega) (by omega)] at c
                exact ⟨k, ho, by omega⟩
            exact ⟨⟨w + 1, by omega, nI_1 w, k13, Or.inr ⟨w, e16', by omega, yP, hcn⟩⟩, mu⟩
      refine s_Main_think hI hj (fun H5 s5 r5 k0 k1 k8 => ?_)
      refine ⟨fun z7 H8 => ∃ w, w ≤ 21 ∧ z7 = nI w ∧ scF H H8 ∧ rdOK H8 s.lw ∧ H8 2 2 0 = nI s.wd ∧ H8 3 8 = vM H j ∧ ∀ w2, w2 < w → ¬ P w2, fun z7 _ => 21 - z7.toNatClampNeg, ⟨0, by omega, rfl, s5, r5, k0, k8, fun w2 b => absurd b (Nat.not_lt_zero _)⟩, fun z7 H8 hJ => ?_⟩
      obtain ⟨w, hw21, rfl, s8, r8, o8, b8, hcn⟩ := hJ
      have mu : w ≤ 20 → 21 - (nI w + 1).toNatClampNeg < 21 - (nI w).toNatClampNeg := by intro; rw [nI_1, nI_clamp (by omega), nI_clamp (by omega)]; omega
      refine ⟨fun q => ?_, fun q H9 e9 => ?_⟩
      · rw [show (20 : Int32) = nI 20 from rfl, nI_ltI (by omega) (by omega)] at q
        exact md H8 _ s8 (Or.inl ⟨rfl, fun w2 _ b => hcn w2 (by omega)⟩)
      · rw [show (20 : Int32) = nI 20 from rfl, nI_ltI (by omega) (by omega)] at q
        have f9 : hfr [2] H8 H9 := by rw [e9]; exact hfr.rf.hu (by decide)
        have s9 : scF H H9 := by rw [e9]; exact s8.hu (by unfold scr; omega)
        have t9 : thk H9 s.lw s.wd (nI w) (vM H j) (lwH H s) := by
          refine ⟨r8.fr f9 (by decide) (by decide) (by decide), ?_, ?_, ?_, think_lw hI s9⟩
          · rw [e9, hu_ne (by omega)]; exact o8
          · rw [e9, hu_at]
          · rw [f9 3 (by decide)]; exact b8
        rw [t9.2.2.2.1, eh]
        refine s_Main_otherHeading ?_
        rw [oth_all h hh]
        refine s_cl_toH (g := 0) t9 (by omega) (by decide) hhd (fun H12 c s12 t12 sr12 sc12 co12 => ?_)
        refine s_cl_now t12 sr12 sc12 co12 ep eh el hp hh hl (fun H13 f13 t13 st13 b13 => ?_)
        have s13 : scF H H13 := (s9.tr s12).tr f13.sc
        have eb := bst_lst (G := grV (lwH H s) s.wd (nI w) (vM H j)) (g := 0) (p := p) (l := l) hne
        have nxt8 : ¬ P w → (∃ w', w' ≤ 21 ∧ nI w + 1 = nI w' ∧ scF H H13 ∧ rdOK H13 s.lw ∧ H13 2 2 0 = nI s.wd ∧ H13 3 8 = vM H j ∧ ∀ w2, w2 < w' → ¬ P w2) ∧ 21 - (nI w + 1).toNatClampNeg < 21 - (nI w).toNatClampNeg := by
          intro nP
          refine ⟨⟨w + 1, by omega, nI_1 w, s13, t13.1, t13.2.1, t13.2.2.2.1, fun w2 b => ?_⟩, mu (by omega)⟩
          by_cases e : w2 = w
          · rw [e]; exact nP
          · exact hcn w2 (by omega)
        cases hb : bestF (stpO (grV (lwH H s) s.wd (nI w) (vM H j)) 0 ((h + 8) % 16) p h l) 6 with
        | none =>
          rw [hb] at eb
          refine s_Main_isWithin (fun z _ => absurd z (by decide)) (fun _ => ⟨fun _ => nxt8 ?_, fun z => absurd rfl z⟩)
          rintro ⟨k, h1, -⟩
          rw [← eb] at h1; cases h1
        | some qq =>
          have hq2 := b13 qq hb
          rw [hb] at eb
          refine s_Main_isWithin (fun _ z => ⟨fun y => absurd y (by decide), fun _ => ?_⟩) (fun z => ⟨fun _ => nxt8 ?_, fun y => absurd rfl y⟩)
          · rw [em] at z
            have z2 : qq.1 ≤ m := (nI_leI (by omega) (by omega)).mp (show nI qq.1 ≤ nI m from z)
            exact md H13 _ s13 (Or.inr ⟨w, rfl, Nat.zero_le _, by omega, ⟨qq.1, eb.symm, z2⟩, fun w2 _ b => hcn w2 b⟩)
          · rintro ⟨k, h1, h2⟩
            rw [← eb] at h1
            have ek : qq.1 = k := Option.some.inj h1
            refine z ⟨nI_pos' (show qq.1 < _ by omega), ?_⟩
            rw [em]
            exact nI_le (show qq.1 ≤ m by omega) (by omega)
    · refine ⟨fun z => absurd rfl z, fun _ => ?_⟩
      refine l_Model_cut (s_Model_isVehicle hI (fun _ _ _ => ?_) (fun no2 => absurd ej (no2 j hj)))
      exact ⟨fun _ => s_Model_in (fun a b => absurd ⟨a, b⟩ q) (fun _ => ⟨fun z => absurd rfl z, fun _ => eqI_sc hI scF.rf rfl⟩), fun z => absurd z (by decide)⟩
  · refine ⟨fun z => absurd rfl z, fun _ => ?_⟩
    exact l_Model_cut (s_Model_isVehicle hI (fun j hj ej => absurd ej (no j hj)) (fun _ => ⟨fun z => absurd rfl z, fun _ => eqI_sc hI scF.rf rfl⟩))
