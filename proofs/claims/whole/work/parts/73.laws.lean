/-! THE CALLS 12: laws, drawn, odds. -/
theorem m_laws {E : XE} {d d2 : Nat} {x1 x2 : Int32} {s : SN} {H : HH} (hI : INV H s) : c_Main_laws E (d + 20) x1 x2 H (fun r H1 => c_Model_laws E (d2 + 20) x1 x2 H1 (eqI r)) := by
  have nv4 : s.nv ≤ 4 := hI.1.1
  have nt6 : s.nt ≤ 6 := hI.1.2.2.2.2.2.1
  refine l_Main_laws (s_Main_refusal hI (fun r hr hb => ?_) (fun u n j hu4 eu hj ej hn en hm mv => ?_))
  · refine ⟨fun z => absurd z hr, fun _ => ?_⟩
    exact l_Model_laws (s_Model_refusal hI hb (fun _ => ⟨fun z => absurd z hr, fun _ => eqI_sc hI scF.rf rfl⟩))
  · refine ⟨fun _ => ?_, fun z => absurd rfl z⟩
    obtain ⟨n3, hn3, e3, hrow⟩ := mv_num mv hn
    subst ej
    have hv := hI.2.2.2.2.2.1 j hj
    have vinu : vp_in x1 4 := by rw [eu]; exact vp_in_nI hu4 (by omega)
    have cu : x1.toNatClampNeg = u := by rw [eu, nI_clamp (by omega)]
    let sb : Nat → Bool := fun t => decide ((thrF (stF (lwF (H 12 t) (H 13 t)) (nI s.wd) (nI s.op)) (H 17 u) n3 0 (vM H j)).1 = -1)
    refine ⟨fun z4 z5 H6 => ∃ t, t ≤ s.nt ∧ z5 = nI t ∧ scF H H6 ∧ z4 = bsF sb t, fun _ z5 _ => 6 - z5.toNatClampNeg, ⟨0, by omega, rfl, scF.rf, rfl⟩, fun z4 z5 H6 hJ => ?_⟩
    obtain ⟨t, ht, rfl, s6, rfl⟩ := hJ
    have hI6 := hI.sc s6
    rw [hI6.2.1.2.2.2.2.1]
    refine ⟨fun q => ?_, fun q => ?_⟩
    · rw [nI_leI (by omega) (by omega)] at q
      have e : t = s.nt := by omega
      subst e
      -- the reference's side
      have f16 : H6 16 u 2 = nI n := by rw [s6 16 u 2 (by unfold scr; omega)]; exact en
      have f17 : H6 17 u = H 17 u := by funext k; exact s6 17 u k (by unfold scr; omega)
      rw [eu]
      refine l_Model_laws (s_Model_fine hI6 hu4 rfl hj rfl hn f16 (by rw [s6 16 u 1 (by unfold scr; omega)]; exact hm) (by rw [f17]; exact mv) ⟨fun _ => ?_, fun z => absurd rfl z⟩)
      refine ⟨fun z4 z5 H7 => ∃ t, t ≤ s.nt ∧ z5 = nI t ∧ (∀ a b k, ¬ scr a b k → ¬ (a = 30 ∧ b = 0 ∧ k = 12) → H7 a b k = H a b k) ∧ z4 = bsF sb t, fun _ z5 _ => 6 - z5.toNatClampNeg, ⟨0, by omega, rfl, fun a b k p _ => s6 a b k p, rfl⟩, fun z4 z5 H7 hJ2 => ?_⟩
      obtain ⟨t, ht, rfl, k7, rfl⟩ := hJ2
      rw [k7 30 0 11 (by unfold scr; omega) (by omega), hI.2.2.1.2.2.2.2.1]
      refine ⟨fun q H8 e8 => ?_, fun q H8 e8 => ?_⟩
      · rw [nI_leI (by omega) (by omega)] at q
        have e : t = s.nt := by omega
        subst e
        refine eqI_sc hI (fun a b k p => ?_) rfl
        rw [e8]
        by_cases c : a = 30 ∧ b = 0 ∧ k = 12
        · obtain ⟨rfl, rfl, rfl⟩ := c
          rw [hu_at]; exact s6 30 0 12 p
        · rw [hu_ne c]; exact k7 a b k p c
      · rw [nI_leI (by omega) (by omega)] at q
        have htn : t < s.nt := by omega
        have mu : 6 - (nI t + 1).toNatClampNeg < 6 - (nI t).toNatClampNeg := by rw [nI_1, nI_clamp (by omega), nI_clamp (by omega)]; omega
        have k8 : ∀ a b k, ¬ scr a b k → ¬ (a = 30 ∧ b = 0 ∧ k = 12) → H8 a b k = H a b k := by
          intro a b k p1 p2
          rw [e8, hu_ne p2]; exact k7 a b k p1 p2
        have ml8 : mlOK H8 t (H 12 t) (H 13 t) := by
          refine ⟨by rw [e8, hu_at], by omega, (hI.2.2.2.2.2.2.1 t htn).pt (fun c _ => k8 37 0 _ (by unfold scr; omega) (by omega)) (fun c _ => k8 36 0 _ (by unfold scr; omega) (by omega)), fun c hc => ?_⟩
          rw [k8 31 0 c (by unfold scr; omega) (by omega)]; exact hI.2.2.2.2.1.1 c hc
        have vm8 : vM H8 j = vM H j := vM_pt (k8 32 0 j (by unfold scr; omega) (by omega)) (k8 33 0 j (by unfold scr; omega) (by omega)) (fun c _ => k8 34 0 _ (by unfold scr; omega) (by omega))
        obtain ⟨t41, t42⟩ := sh_told (H1 := H8) hI hu4 en hn e3 (fun a b k p => k8 a b k (by unfold scr; omega) (by omega))
        refine s_md_thr (wd := nI s.wd) (op := nI s.op) ml8 (by rw [k8 30 0 1 (by unfold scr; omega) (by omega)]; exact hI.2.2.1.2.1) (by rw [k8 30 0 2 (by unfold scr; omega) (by omega)]; exact hI.2.2.1.2.2.1) vm8 hv.2.2.2.2.2 (by omega) hu4 hn3 t41 t42 hrow (fun H9 f9 l9 => ?_)
        have k9 : ∀ a b k, ¬ scr a b k → ¬ (a = 30 ∧ b = 0 ∧ k = 12) → H9 a b k = H a b k := by
          intro a b k p1 p2
          rw [f9.sc (by decide) a b k p1]; exact k8 a b k p1 p2
        refine ⟨fun z => ⟨⟨t + 1, htn, nI_1 t, k9, ?_⟩, mu⟩, fun z v11 e11 => ⟨⟨t + 1, htn, nI_1 t, k9, ?_⟩, mu⟩⟩
        · show _ = (if sb t = true then _ else bsF sb t)
          rw [if_neg (fun hb => z (of_decide_eq_true hb)), Int32.or_zero]
        · show v11 = (if sb t = true then bsF sb t ||| (1 <<< (nI t &&& 31)) else bsF sb t)
          rw [if_pos (decide_eq_true z), e11]
    · rw [nI_leI (by omega) (by omega)] at q
      have htn : t < s.nt := by omega
      have mu : 6 - (nI t + 1).toNatClampNeg < 6 - (nI t).toNatClampNeg := by rw [nI_1, nI_clamp (by omega), nI_clamp (by omega)]; omega
      refine ⟨fun q6 => absurd q6 (by rw [show (6 : Int32) = nI 6 from rfl, nI_leI (by omega) (by omega)]; omega), fun _ => ?_⟩
      refine s_Main_think hI6 hj (fun H7 s7 r7 k0 k1 k8 => ?_)
      rw [INV.vM_sc s6] at k8
      refine ⟨vp_in_nI (by omega) (by omega), by rw [nI_clamp (by omega)]; omega, vinu, fun H8 e8 => ?_⟩
      rw [nI_clamp (by omega)] at e8
      rw [cu]
      have s8 : scF H H8 := by rw [e8]; exact (s6.tr s7).hu (by unfold scr; omega)
      have f8 : hfr [19] H7 H8 := by rw [e8]; exact hfr.rf.hu (by decide)
      have e12 : H8 12 t = H 12 t := by funext k; exact s8 12 t k (by unfold scr; omega)
      have e13 : H8 13 t = H 13 t := by funext k; exact s8 13 t k (by unfold scr; omega)
      have t8 : thk H8 t s.wd (nI s.op) (vM H j) (lwF (H 12 t) (H 13 t)) := by
        refine ⟨⟨by rw [e8, hu_at], by omega, ?_⟩, by rw [f8 2 (by decide)]; exact k0, by rw [f8 2 (by decide)]; exact k1, by rw [f8 3 (by decide)]; exact k8, by rw [e12, e13]⟩
        rw [e12, e13]; exact (hI.2.2.2.2.2.2.1 t htn).tx
      have e17 : H8 17 u = H 17 u := by funext k; exact s8 17 u k (by unfold scr; omega)
      have mo : mvOK H8 u n3 := ⟨hn3, by rw [s8 16 u 2 (by unfold scr; omega), en, e3], fun r hr => by rw [e17]; exact (hrow r hr).2⟩
      refine s_cl_thr t8 mo (fun H9 r9 s9 => ?_)
      rw [e17]
      have s9' := s8.tr s9
      refine ⟨fun z => ⟨⟨t + 1, htn, nI_1 t, s9', ?_⟩, mu⟩, fun z v11 e11 => ⟨⟨t + 1, htn, nI_1 t, s9', ?_⟩, mu⟩⟩
      · show _ = (if sb t = true then _ else bsF sb t)
        rw [if_neg (fun hb => z (of_decide_eq_true hb))]
      · show v11 = (if sb t = true then bsF sb t ||| (1 <<< (nI t &&& 31)) else bsF sb t)
        rw [if_pos (decide_eq_true z), e11]
theorem drv_abs {o : Option VV} {c : Prop} {i : Decidable c} {f : VV → Int32 × VV} {v : VV} {r w : Int32 × VV} (e : w = match o with
    | some v2 => f v2
    | none => @ite _ c i (f v) r) : (∃ v2, o = some v2 ∧ w = f v2) ∨ w = f v ∨ w = r := by
  cases o with
  | none =>
    by_cases h : c
    · exact Or.inr (Or.inl (e.trans (if_pos h)))
    · exact Or.inr (Or.inr (e.trans (if_neg h)))
  | some v2 => exact Or.inl ⟨v2, rfl, e⟩
theorem drvF_step (st : VV → Int32 → Int32 → Option VV) (sure : VV → Int32 → Int32) (n k : Nat) (x : Int64) (v : VV) : (∃ v2, st v (wayF (lotF x)) (whlF (lotF x)) = some v2 ∧ drvF st sure (n + 1) k x v = drvF st sure n (k + 1) (lotF x) v2) ∨ drvF st sure (n + 1) k x v = drvF st sure n (k + 1) (lotF x) v ∨ drvF st sure (n + 1) k x v = (nI k, v) :=
  drv_abs (f := fun v2 => drvF st sure n (k + 1) (lotF x) v2) (v := v) (drvF_s st sure n k x v)
theorem drvF_zero (st : VV → Int32 → Int32 → Option VV) (sure : VV → Int32 → Int32) (k : Nat) (x : Int64) (v : VV) : drvF st sure 0 k x v = (-1, v) := rfl
theorem drvF_pres {st : VV → Int32 → Int32 → Option VV} {sure : VV → Int32 → Int32} {P : VV → Prop} (hf : ∀ v a b v2, P v → st v a b = some v2 → P v2) : ∀ (n k : Nat) (x : Int64) (v : VV), P v → P (drvF st sure n k x v).2 := by
  intro n
  induction n with
  | zero => intro k x v h; rw [drvF_zero]; exact h
  | succ n ih =>
    intro k x v h
    have e := drvF_step st sure n k x v
    generalize lotF x = y at e
    generalize drvF st sure (n + 1) k x v = w at e
    rcases e with ⟨v2, h1, e⟩ | e | e
    · rw [e]; exact ih _ _ _ (hf v _ _ v2 h h1)
    · rw [e]; exact ih _ _ _ h
    · rw [e]; exact h
theorem drv_k {lw : LW} {wd op : Int32} {sure : VV → Int32 → Int32} {n k : Nat} {x : Int64} {v : VV} : ∀ c, 7 ≤ c → (drvF (stF lw wd op) sure n k x v).2 c = v c :=
  drvF_pres (P := fun w => ∀ c, 7 ≤ c → w c = v c) (fun w a b w2 h e c hc => by rw [(stF_k e).2.2 c hc]; exact h c hc) n k x v (fun _ _ => rfl)
/-- a drive by lots -/
def dvF (lw : LW) (wd op : Int32) (n : Nat) (seed : Int32) (v : VV) : Int32 × VV := drvF (stF lw wd op) (surF lw wd) n 0 (seed.toInt64 + 1) v
theorem s_cl_drv {E : XE} {d t wdn n : Nat} {op seed : Int32} {v : VV} {lw : LW} {H : HH} {Q : Int32 → HH → Prop} (ht : thk H t wdn op v lw) (hn : n < 100)
    (hq : ∀ H1, rat H H1 (dvF lw (nI wdn) op n seed v).2 → scF H H1 → Q (dvF lw (nI wdn) op n seed v).1 H1) : c_Ride_byLots E (d + 5) seed (nI n) H Q := by
  obtain ⟨a, b, c, e, f⟩ := ht
  have ra : rat H H v := by rw [← e]; exact rat.self
  refine s_Ride_byLots a hn ra (fun r v2 h H1 r1 => ?_)
  rw [f, b, c] at h
  have h1 : r = (dvF lw (nI wdn) op n seed v).1 := by unfold dvF; rw [h]
  have h2 : v2 = (dvF lw (nI wdn) op n seed v).2 := by unfold dvF; rw [h]
  rw [h1]
  rw [h2] at r1
  exact hq H1 r1 (r1.sc (fun k hk => by unfold dvF; rw [drv_k k hk, e]))
theorem hfx.sc {K : List Nat} {H H1 : HH} (h : hfx K H H1) (hs : ∀ a ∈ K, scK a = true) : scF H H1 := by
  intro a i k q
  by_cases c : a ∈ K
  · have := hs a c
    unfold scK at this
    simp only [decide_eq_true_eq] at this
    exact absurd (by unfold scr; omega) q
  · by_cases c30 : a = 30
    · subst c30
      exact h.2 i k (fun z => q (by unfold scr; omega))
    · rw [h.1 a c c30]
theorem s_md_drv {E : XE} {d j n : Nat} {seed : Int32} {s : SN} {H H1 : HH} {Q : HH → Prop} (hI : INV H s) (hs : scF H H1) (hj : j < s.nv) (hn : n < 100) (hsd : 0 ≤ seed.toInt ∧ seed.toInt < 200000)
    (hq : ∀ H2, scF H H2 → H2 30 0 38 = (dvF (lwH H s) (nI s.wd) (nI s.op) n seed (vM H j)).1 → (∀ k, k < 5 → H2 54 0 k = (dvF (lwH H s) (nI s.wd) (nI s.op) n seed (vM H j)).2 (k + 2)) → Q H2) : c_Model_driveBy E (d + 5) seed (nI n) (nI j) H1 Q := by
  have nv4 : s.nv ≤ 4 := hI.1.1
  have hI1 := hI.sc hs
  refine s_Model_driveBy hI1.ml (by omega) hn (by rw [INV.vM_sc hs]; exact (hI.2.2.2.2.2.1 j hj).2.2.2.2.2) hsd (fun r v2 h H2 f2 e38 l2 => ?_)
  rw [think_lw hI hs, hI1.2.2.1.2.1, hI1.2.2.1.2.2.1, INV.vM_sc hs] at h
  have h1 : r = (dvF (lwH H s) (nI s.wd) (nI s.op) n seed (vM H j)).1 := by unfold dvF; rw [h]
  have h2 : v2 = (dvF (lwH H s) (nI s.wd) (nI s.op) n seed (vM H j)).2 := by unfold dvF; rw [h]
  exact hq H2 (hs.tr (f2.sc (by decide))) (e38.trans h1) (fun k hk => by rw [l2 k hk, h2])
theorem seed_rng {x : Int32} (h1 : 0 ≤ x) (h2 : x ≤ 99999) : ∃ n, n ≤ 99999 ∧ x = nI n := nat_of (n := 99999) (by omega) h1 h2
theorem m_drawn {E : XE} {d d2 : Nat} {x1 x2 x3 x4 : Int32} {s : SN} {H : HH} (hI : INV H s) : c_Main_drawn E (d + 20) x1 x2 x3 x4 H (fun r H1 => c_Model_drawn E (d2 + 20) x1 x2 x3 x4 H1 (eqI r)) := by
  have nv4 : s.nv ≤ 4 := hI.1.1
  refine l_Main_drawn (s_Main_isVehicle hI (fun j hj ej => ?_) (fun no => ?_))
  · subst ej
    have bad : ¬ ((0 ≤ x1 ∧ x1 ≤ 99999) ∧ (0 ≤ x2 ∧ x2 ≤ 60) ∧ (0 ≤ x4 ∧ x4 ≤ 2)) → c_Model_drawn E (d2 + 20) x1 x2 (nI j) x4 H (eqI (-7)) := by
      intro hb
      refine l_Model_drawn (s_Model_isVehicle hI (fun _ _ _ => ⟨fun _ => ?_, fun z => absurd z (by decide)⟩) (fun no => absurd rfl (no j hj)))
      refine s_Model_in (fun a1 a2 => ⟨fun z => absurd z (by decide), fun _ => ?_⟩) (fun _ => ⟨fun _ => eqI_sc hI scF.rf rfl, fun z => absurd rfl z⟩)
      refine s_Model_in (fun b1 b2 => ⟨fun z => absurd z (by decide), fun _ => ?_⟩) (fun _ => ⟨fun _ => eqI_sc hI scF.rf rfl, fun z => absurd rfl z⟩)
      exact s_Model_in (fun c1 c2 => absurd ⟨⟨a1, a2⟩, ⟨b1, b2⟩, c1, c2⟩ hb) (fun _ => ⟨fun z => absurd rfl z, fun _ => eqI_sc hI scF.rf rfl⟩)
    refine ⟨fun _ => s_Main_isWithin (fun a1 a2 => ⟨fun z => absurd z (by decide), fun _ => ?_⟩) (fun a => ⟨fun _ => bad (fun z => a z.1), fun z => absurd rfl z⟩), fun z => absurd z (by decide)⟩
    refine s_Main_isWithin (fun b1 b2 => ⟨fun _ => ?_, fun z => absurd z (by decide)⟩) (fun b => ⟨fun z => absurd rfl z, fun _ => bad (fun z => b z.2.1)⟩)
    refine s_Main_isWithin (fun c1 c2 => ⟨fun _ => ?_, fun z => absurd z (by decide)⟩) (fun c => ⟨fun z => absurd rfl z, fun _ => bad (fun z => c z.2.2)⟩)
    obtain ⟨sd, hsd, esd⟩ := seed_rng a1 a2
    obtain ⟨n, hn, en⟩ := nat_of (n := 60) (by omega) b1 b2
    obtain ⟨w, hw, ew⟩ := nat_of (n := 2) (by omega) c1 c2
    subst en
    have hsr : 0 ≤ x1.toInt ∧ x1.toInt < 200000 := by rw [esd, ti_nI (by omega)]; omega
    refine s_Main_think hI hj (fun H9 s9 r9 k0 k1 k8 => s_cl_drv (thk_of hI s9 r9 k0 k1 k8) (by omega) (fun H10 r10 s10 => ?_))
    have s10' := s9.tr s10
    have hI10 := hI.sc s10'
    have v8 := r10.v8
    have md : ∀ r : Int32, (w = 0 → r = (dvF (lwH H s) (nI s.wd) (nI s.op) n x1 (vM H j)).1) → (w = 1 → r = (dvF (lwH H s) (nI s.wd) (nI s.op) n x1 (vM H j)).2 2) → (w = 2 → r = (dvF (lwH H s) (nI s.wd) (nI s.op) n x1 (vM H j)).2 3) → c_Model_drawn E (d2 + 20) x1 (nI n) (nI j) x4 H10 (eqI r) := by
      intro r r0 r1 r2
      refine l_Model_drawn (s_Model_isVehicle hI10 (fun _ _ _ => ⟨fun _ => ?_, fun z => absurd z (by decide)⟩) (fun no => absurd rfl (no j hj)))
      refine s_Model_in (fun _ _ => ⟨fun z => absurd z (by decide), fun _ => ?_⟩) (fun a => absurd ⟨a1, a2⟩ a)
      refine s_Model_in (fun _ _ => ⟨fun z => absurd z (by decide), fun _ => ?_⟩) (fun b => absurd ⟨b1, b2⟩ b)
      refine s_Model_in (fun _ _ => ⟨fun _ => ?_, fun z => absurd z (by decide)⟩) (fun c => absurd ⟨c1, c2⟩ c)
      refine s_md_drv hI s10' hj (by omega) hsr (fun H11 s11 e38 l11 => ⟨fun z => ?_, fun z => ?_⟩)
      · have e1 : x4 - 1 = nI (w - 1) := by
          rcases (show w = 0 ∨ w = 1 ∨ w = 2 by omega) with e | e | e
          · subst e; exact absurd ew z
          · subst e; rw [ew]; rfl
          · subst e; rw [ew]; rfl
        rw [e1, nI_clamp (by omega)]
        refine ⟨vp_in_nI (by omega) (by omega), eqI_sc hI s11 ?_⟩
        rw [l11 (w - 1) (by omega)]
        rcases (show w = 0 ∨ w = 1 ∨ w = 2 by omega) with e | e | e
        · subst e; exact absurd ew z
        · rw [r1 e, e]
        · rw [r2 e, e]
      · have e0 : w = 0 := by
          rw [ew, show (0 : Int32) = nI 0 from rfl, nI_eq (by omega) (by omega)] at z; exact z
        exact eqI_sc hI s11 (by rw [e38, r0 e0])
    refine ⟨fun z => ?_, fun z => ?_⟩
    · refine md _ (fun e => absurd (by rw [ew, e]; rfl) z) (fun e => ?_) (fun e => ?_)
      · rw [if_pos (by rw [ew, e]; rfl), v8]
      · rw [if_neg (by rw [ew, e]; decide), v8]
    · have e0 : w = 0 := by
        rw [ew, show (0 : Int32) = nI 0 from rfl, nI_eq (by omega) (by omega)] at z; exact z
      exact md _ (fun _ => rfl) (fun e => absurd e (by omega)) (fun e => absurd e (by omega))
  · refine ⟨fun z => absurd rfl z, fun _ => ?_⟩
    exact l_Model_drawn (s_Model_isVehicle hI (fun j hj ej => absurd ej (no j hj)) (fun _ => ⟨fun z => absurd rfl z, fun _ => eqI_sc hI scF.rf rfl⟩))
