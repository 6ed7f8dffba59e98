/-! THE CALLS 2: asks, fit, drive, begin. -/
theorem ph_parts {n : Nat} (hn : n < 2147483648) : nI n / 100 = nI (n / 100) ∧ xrem (nI n) 100 = nI (n % 100) := by
  rw [show (100 : Int32) = nI 100 from rfl]
  exact ⟨div_nI hn (by decide) (by decide), xrem_nI hn (by decide) (by decide)⟩
theorem ph_le {p h wd : Nat} (hw : wd ≤ 60) (hp : p ≤ wd) (hh : h < 16) : 100 * p + h < 2147483648 ∧ (100 * p + h) / 100 = p ∧ (100 * p + h) % 100 = h := by omega
theorem s_Main_isPlaceHeading {E : XE} {d : Nat} {x : Int32} {s : SN} {H : HH} {Q : Int32 → HH → Prop} (hI : INV H s) (h1 : ∀ p h, p ≤ s.wd → h < 16 → x = nI (100 * p + h) → Q 1 H) (h0 : (∀ p h, p ≤ s.wd → h < 16 → ¬ x = nI (100 * p + h)) → Q 0 H) : c_Main_isPlaceHeading E (d + 2) x H Q := by
  have w60 : s.wd ≤ 60 := hI.1.2.2.1
  refine l_Main_isPlaceHeading ⟨fun q => h0 fun p h hp hh e => ?_, fun q => ?_⟩
  · have := (ph_le w60 hp hh).1
    rw [e] at q; exact nI_pos this q
  · obtain ⟨n, hn, en⟩ := nI_of q
    subst en
    rw [(ph_parts hn).1, (ph_parts hn).2]
    refine s_Main_isPlace hI (fun p hp ep => ?_) (fun no => ?_)
    · rw [nI_eq (by omega) (by omega)] at ep
      refine ⟨fun z => absurd z (by decide), fun _ => ?_⟩
      by_cases c : (16 : Int32) ≤ nI (n % 100)
      · rw [if_pos c]
        rw [show (16 : Int32) = nI 16 from rfl, nI_leI (by omega) (by omega)] at c
        refine ⟨Or.inl rfl, h0 fun p2 h2 hp2 hh2 e2 => ?_⟩
        have := ph_le w60 hp2 hh2
        rw [nI_eq hn (by omega)] at e2
        omega
      · rw [if_neg c]
        rw [show (16 : Int32) = nI 16 from rfl, nI_leI (by omega) (by omega)] at c
        exact ⟨Or.inr rfl, h1 p (n % 100) hp (by omega) (by congr 1; omega)⟩
    · refine ⟨fun _ => h0 fun p2 h2 hp2 hh2 e2 => ?_, fun z => absurd rfl z⟩
      have := ph_le w60 hp2 hh2
      rw [nI_eq hn (by omega)] at e2
      exact no p2 hp2 (by congr 1; omega)
theorem s_Model_isBoth {E : XE} {d : Nat} {x : Int32} {s : SN} {H : HH} {Q : Int32 → HH → Prop} (hI : INV H s) (h1 : ∀ p h, p ≤ s.wd → h < 16 → x = nI (100 * p + h) → Q 1 H) (h0 : (∀ p h, p ≤ s.wd → h < 16 → ¬ x = nI (100 * p + h)) → Q 0 H) : c_Model_isBoth E (d + 2) x H Q := by
  have w60 : s.wd ≤ 60 := hI.1.2.2.1
  refine l_Model_isBoth ⟨fun q => h0 fun p h hp hh e => ?_, fun q => ?_⟩
  · have := (ph_le w60 hp hh).1
    rw [e] at q; exact nI_pos this q
  · obtain ⟨n, hn, en⟩ := nI_of q
    subst en
    rw [(ph_parts hn).1, (ph_parts hn).2]
    refine s_Model_isPlaceI hI (fun p hp ep => ?_) (fun no => ?_)
    · rw [nI_eq (by omega) (by omega)] at ep
      refine ⟨fun z => absurd z (by decide), fun _ => ?_⟩
      by_cases c : (16 : Int32) ≤ nI (n % 100)
      · rw [if_pos c]
        rw [show (16 : Int32) = nI 16 from rfl, nI_leI (by omega) (by omega)] at c
        refine ⟨Or.inl rfl, h0 fun p2 h2 hp2 hh2 e2 => ?_⟩
        have := ph_le w60 hp2 hh2
        rw [nI_eq hn (by omega)] at e2
        omega
      · rw [if_neg c]
        rw [show (16 : Int32) = nI 16 from rfl, nI_leI (by omega) (by omega)] at c
        exact ⟨Or.inr rfl, h1 p (n % 100) hp (by omega) (by congr 1; omega)⟩
    · refine ⟨fun _ => h0 fun p2 h2 hp2 hh2 e2 => ?_, fun z => absurd rfl z⟩
      have := ph_le w60 hp2 hh2
      rw [nI_eq hn (by omega)] at e2
      exact no p2 hp2 (by congr 1; omega)
theorem tf_all : ∀ n, n < 12 → ((nI n = 0 ∨ nI n = 1 ∨ nI n = 10 ∨ nI n = 11) ↔ ¬ (2 : Int32) ≤ xrem (nI n) 10) := by decide +kernel
theorem tf_iff {v : Int32} : (v = 0 ∨ v = 1 ∨ v = 10 ∨ v = 11) ↔ (0 ≤ v ∧ v ≤ 11 ∧ ¬ (2 : Int32) ≤ xrem v 10) := by
  constructor
  · rintro (rfl | rfl | rfl | rfl) <;> decide
  · rintro ⟨h1, h2, h3⟩
    obtain ⟨j, hj, e⟩ := nat_of (n := 11) (by omega) h1 h2
    subst e
    exact (tf_all j (by omega)).mpr h3
theorem INV.vM_sc {H H1 : HH} {j : Nat} (hs : scF H H1) : vM H1 j = vM H j := vM_pt (hs 32 0 j (by unfold scr; omega)) (hs 33 0 j (by unfold scr; omega)) (fun k _ => hs 34 0 _ (by unfold scr; omega))
theorem lwH_sc {H H1 : HH} {s : SN} (hI : INV H s) (hs : scF H H1) : lwH H1 s = lwH H s := think_lw hI hs
theorem fitR_th {H H1 : HH} {s : SN} {j : Nat} (hI : INV H s) (hs : scF H H1) (h0 : H1 2 2 0 = nI s.wd) (h1 : H1 2 2 1 = nI s.op) (h8 : H1 3 8 = vM H j) (p h : Int32) : fitR H1 s.lw p h = fitV (lwH H s) (nI s.wd) (nI s.op) (vM H j) p h := by
  rw [(rat.self (H := H1)).fit, h0, h1, h8, think_lw hI hs]
theorem fitM_th {H H1 : HH} {s : SN} {j : Nat} (hI : INV H s) (hs : scF H H1) (p h : Int32) : fitM H1 (H1 12 s.lw) (H1 13 s.lw) j p h = fitV (lwH H s) (nI s.wd) (nI s.op) (vM H j) p h := by
  have hI1 := hI.sc hs
  unfold fitM
  rw [hI1.2.2.1.2.1, hI1.2.2.1.2.2.1, think_lw hI hs, INV.vM_sc hs]
theorem m_asks {E : XE} {d d2 : Nat} {x1 x2 x3 x4 : Int32} {s : SN} {H : HH} (hI : INV H s) : c_Main_asks E (d + 20) x1 x2 x3 x4 H (fun r H1 => c_Model_asks E (d2 + 20) x1 x2 x3 x4 H1 (eqI r)) := by
  have nv4 : s.nv ≤ 4 := hI.1.1
  have w60 : s.wd ≤ 60 := hI.1.2.2.1
  -- when the reference refuses
  have bad : ∀ (hb : ¬ ((0 ≤ x1 ∧ x1 ≤ 2) ∧ (∃ j, j < s.nv ∧ x2 = nI j) ∧ (∃ p h, p ≤ s.wd ∧ h < 16 ∧ x3 = nI (100 * p + h)) ∧ (x4 = 0 ∨ x4 = 1 ∨ x4 = 10 ∨ x4 = 11))), c_Model_asks E (d2 + 20) x1 x2 x3 x4 H (eqI (-2)) := by
    intro hb
    refine l_Model_asks (s_Model_in (fun q1 q2 => ?_) (fun q => ?_))
    · refine ⟨fun y H5 => y = 0 ∧ H = H5, ⟨fun z => absurd z (by decide), fun _ => s_Model_isVehicle hI (fun j hj ej => ?_) (fun no => ?_)⟩, fun y H5 hJ => ?_⟩
      · refine ⟨fun z => absurd z (by decide), fun _ => s_Model_isBoth hI (fun p h hp hh ep => ?_) (fun no => ?_)⟩
        · refine ⟨fun z => absurd z (by decide), fun _ => s_Model_in (fun q3 q4 => ?_) (fun q => ?_)⟩
          · refine ⟨fun z => absurd z (by decide), fun _ => ⟨?_, rfl⟩⟩
            by_cases c : (2 : Int32) ≤ xrem x4 10
            · rw [if_pos c]
            · exact absurd ⟨⟨q1, q2⟩, ⟨j, hj, ej⟩, ⟨p, h, hp, hh, ep⟩, tf_iff.mpr ⟨q3, q4, c⟩⟩ hb
          · exact ⟨fun _ => ⟨rfl, rfl⟩, fun z => absurd rfl z⟩
        · exact ⟨fun _ => ⟨rfl, rfl⟩, fun z => absurd rfl z⟩
      · exact ⟨fun _ => ⟨rfl, rfl⟩, fun z => absurd rfl z⟩
      · obtain ⟨rfl, rfl⟩ := hJ
        exact ⟨fun _ => eqI_sc hI scF.rf rfl, fun z => absurd rfl z⟩
    · refine ⟨fun y H5 => y = 0 ∧ H = H5, ⟨fun _ => ⟨rfl, rfl⟩, fun z => absurd rfl z⟩, fun y H5 hJ => ?_⟩
      obtain ⟨rfl, rfl⟩ := hJ
      exact ⟨fun _ => eqI_sc hI scF.rf rfl, fun z => absurd rfl z⟩
  refine l_Main_asks (s_Main_isWithin (fun q1 q2 => ?_) (fun q => ?_))
  · refine ⟨fun z => absurd z (by decide), fun _ => s_Main_isVehicle hI (fun j hj ej => ?_) (fun no => ?_)⟩
    · refine ⟨fun z => absurd z (by decide), fun _ => s_Main_isPlaceHeading hI (fun p h hp hh ep => ?_) (fun no => ?_)⟩
      · refine ⟨fun _ => s_Main_isTwoFlags (fun hf => ?_) (fun hf => ?_), fun z => absurd z (by decide)⟩
        · refine ⟨fun _ => ?_, fun z => absurd z (by decide)⟩
          obtain ⟨a, ha, ea⟩ := nat_of (n := 2) (by omega) q1 q2
          subst ea; subst ej; subst ep
          have hph := ph_le w60 hp hh
          rw [(ph_parts hph.1).1, (ph_parts hph.1).2, hph.2.1, hph.2.2]
          refine s_Main_think hI hj (fun H9 s9 r9 k0 k1 k8 => s_Ride_says (p := a) r9 (by omega) (fun H10 f10 => ?_))
          have s10 : scF H H10 := s9.tr (f10.sc (by decide))
          have hI10 := hI.sc s10
          refine l_Model_asks (s_Model_in (fun _ _ => ?_) (fun q => absurd ⟨q1, q2⟩ q))
          refine ⟨fun y H5 => y = 1 ∧ H10 = H5, ⟨fun z => absurd z (by decide), fun _ => s_Model_isVehicle hI10 (fun _ _ _ => ?_) (fun no => absurd rfl (no j hj))⟩, fun y H5 hJ => ?_⟩
          · refine ⟨fun z => absurd z (by decide), fun _ => s_Model_isBoth hI10 (fun _ _ _ _ _ => ?_) (fun no => absurd rfl (no p h hp hh))⟩
            refine ⟨fun z => absurd z (by decide), fun _ => s_Model_in (fun _ _ => ?_) (fun q => absurd ⟨(tf_iff.mp hf).1, (tf_iff.mp hf).2.1⟩ q)⟩
            refine ⟨fun z => absurd z (by decide), fun _ => ⟨?_, rfl⟩⟩
            rw [if_neg (tf_iff.mp hf).2.2]
          · obtain ⟨rfl, rfl⟩ := hJ
            refine ⟨fun z => absurd z (by decide), fun _ => ?_⟩
            rw [(ph_parts hph.1).1, (ph_parts hph.1).2, hph.2.1, hph.2.2]
            refine s_Model_asksOf (p := a) hI10.ml (by omega) (by omega) (fun H11 f11 => eqI_sc hI (s10.tr (f11.sc (by decide))) ?_)
            rw [hI10.2.2.1.2.1, think_lw hI s10]
            show _ = lwF (H9 12 s.lw) (H9 13 s.lw) a (H9 3 8 1) (x4 / 10) (nI h) (nI p) (H9 2 2 0) (xrem x4 10)
            rw [think_lw hI s9, k0, k8, s10 33 0 j (by unfold scr; omega)]
            rfl
        · exact ⟨fun z => absurd rfl z, fun _ => bad (fun z => hf z.2.2.2)⟩
      · exact ⟨fun z => absurd rfl z, fun _ => bad (fun z => by obtain ⟨p, h, a1, a2, a3⟩ := z.2.2.1; exact no p h a1 a2 a3)⟩
    · exact ⟨fun _ => bad (fun z => by obtain ⟨j, a1, a2⟩ := z.2.1; exact no j a1 a2), fun z => absurd rfl z⟩
  · exact ⟨fun _ => bad (fun z => q z.1), fun z => absurd rfl z⟩
theorem m_fit {E : XE} {d d2 : Nat} {x1 x2 : Int32} {s : SN} {H : HH} (hI : INV H s) : c_Main_fit E (d + 20) x1 x2 H (fun r H1 => c_Model_fit E (d2 + 20) x1 x2 H1 (eqI r)) := by
  have nv4 : s.nv ≤ 4 := hI.1.1
  have w60 : s.wd ≤ 60 := hI.1.2.2.1
  refine l_Main_fit (s_Main_isVehicle hI (fun j hj ej => ?_) (fun no => ?_))
  · refine ⟨fun _ => s_Main_isPlaceHeading hI (fun p h hp hh ep => ?_) (fun no => ?_), fun z => absurd z (by decide)⟩
    · refine ⟨fun _ => ?_, fun z => absurd z (by decide)⟩
      subst ej; subst ep
      have hph := ph_le w60 hp hh
      rw [(ph_parts hph.1).1, (ph_parts hph.1).2, hph.2.1, hph.2.2]
      -- the reference's side
      have md : ∀ H10, scF H H10 → ∀ r, (fitV (lwH H s) (nI s.wd) (nI s.op) (vM H j) (nI p) (nI h) → r = 1) → (¬ fitV (lwH H s) (nI s.wd) (nI s.op) (vM H j) (nI p) (nI h) → r = 0) → c_Model_fit E (d2 + 20) (nI j) (nI (100 * p + h)) H10 (eqI r) := by
        intro H10 s10 r r1 r0
        have hI10 := hI.sc s10
        refine l_Model_fit (s_Model_isVehicle hI10 (fun _ _ _ => ?_) (fun no => absurd rfl (no j hj)))
        refine ⟨fun _ => s_Model_isBoth hI10 (fun _ _ _ _ _ => ?_) (fun no => absurd rfl (no p h hp hh)), fun z => absurd z (by decide)⟩
        refine ⟨fun _ => ?_, fun z => absurd z (by decide)⟩
        rw [(ph_parts hph.1).1, (ph_parts hph.1).2, hph.2.1, hph.2.2]
        refine s_Model_fitsAt hI10.ml (by omega) hh ⟨nI_pos (by omega), by rw [hI10.2.2.1.2.1]; exact nI_le hp (by omega)⟩ (fun hf H11 f11 => ?_) (fun hf H11 f11 => ?_)
        · rw [fitM_th hI s10] at hf
          exact eqI_sc hI (s10.tr (f11.sc (by decide))) (by rw [r1 hf]; rfl)
        · rw [fitM_th hI s10] at hf
          exact eqI_sc hI (s10.tr (f11.sc (by decide))) (by rw [r0 hf]; rfl)
      refine s_Main_think hI hj (fun H9 s9 r9 k0 k1 k8 => s_Ride_fits r9 (fun hf H10 f10 => ?_) (fun hf H10 f10 => ?_))
      · rw [fitR_th hI s9 k0 k1 k8] at hf
        exact md H10 (s9.tr (f10.sc (by decide))) _ (fun _ => rfl) (fun z => absurd hf z)
      · rw [fitR_th hI s9 k0 k1 k8] at hf
        exact md H10 (s9.tr (f10.sc (by decide))) _ (fun z => absurd z hf) (fun _ => rfl)
    · refine ⟨fun z => absurd rfl z, fun _ => ?_⟩
      refine l_Model_fit (s_Model_isVehicle hI (fun _ _ _ => ?_) (fun no2 => absurd ej (no2 j hj)))
      exact ⟨fun _ => s_Model_isBoth hI (fun p h hp hh ep => absurd ep (no p h hp hh)) (fun _ => ⟨fun z => absurd rfl z, fun _ => eqI_sc hI scF.rf rfl⟩), fun z => absurd z (by decide)⟩
  · refine ⟨fun z => absurd rfl z, fun _ => ?_⟩
    exact l_Model_fit (s_Model_isVehicle hI (fun j hj ej => absurd ej (no j hj)) (fun _ => ⟨fun z => absurd rfl z, fun _ => eqI_sc hI scF.rf rfl⟩))
