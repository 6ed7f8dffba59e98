/-! THE CALLS 13: odds, image, back. -/
theorem s_Main_inLowestTerms {E : XE} {d a b : Nat} {H : HH} {Q : Int32 → HH → Prop} (ha : a ≤ 40) (hb : b ≤ 40) (hq : Q (nI (a / Nat.gcd a b)) H) : c_Main_inLowestTerms E d (nI a) (nI b) H Q := by
  have ga := Nat.gcd_dvd_left a b
  have gb := Nat.gcd_dvd_right a b
  refine l_Main_inLowestTerms ⟨fun z H1 => ∃ e, e ≤ a ∧ z = nI e ∧ H1 = H ∧ (0 < a → Nat.gcd a b ≤ e), fun z _ => z.toNatClampNeg, ⟨a, Nat.le_refl _, rfl, rfl, fun h => Nat.le_of_dvd h ga⟩, fun z2 H3 hJ => ?_⟩
  obtain ⟨e, he, rfl, e3, hg⟩ := hJ
  subst e3
  refine ⟨fun q => ?_, fun q => ?_⟩
  · rw [show (1 : Int32) = nI 1 from rfl, nI_leI (by omega) (by omega)] at q
    rcases Nat.eq_zero_or_pos a with z | p
    · rw [z, Nat.zero_div] at hq
      rw [z]
      exact hq
    · have g1 : Nat.gcd a b = 1 := by
        have h1 := hg p
        have h2 := Nat.gcd_pos_of_pos_left b p
        omega
      rw [g1, Nat.div_one] at hq
      exact hq
  · rw [show (1 : Int32) = nI 1 from rfl, nI_leI (by omega) (by omega)] at q
    have p : 0 < a := by omega
    have g0 : 0 < Nat.gcd a b := Nat.gcd_pos_of_pos_left b p
    have gle := hg p
    have em : nI e + (-1) = nI (e - 1) := by
      obtain ⟨m, rfl⟩ : ∃ m, e = m + 1 := ⟨e - 1, by omega⟩
      rw [← nI_1, Int32.add_assoc]; exact Int32.add_zero _
    have mu : (nI (e - 1)).toNatClampNeg < (nI e).toNatClampNeg := by rw [nI_clamp (by omega), nI_clamp (by omega)]; omega
    have nxt1 : ¬ (e ∣ a ∧ e ∣ b) → (∃ e', e' ≤ a ∧ nI e + (-1) = nI e' ∧ H3 = H3 ∧ (0 < a → Nat.gcd a b ≤ e')) ∧ (nI e + (-1)).toNatClampNeg < (nI e).toNatClampNeg := by
      intro hn
      refine ⟨⟨e - 1, by omega, em, rfl, fun _ => ?_⟩, by rw [em]; exact mu⟩
      by_cases c : Nat.gcd a b = e
      · exact absurd ⟨c ▸ ga, c ▸ gb⟩ hn
      · omega
    have dv : ∀ c : Nat, c ≤ 40 → (nI (c % e) = 0 ↔ e ∣ c) := by
      intro c hc
      have hce : c % e ≤ c := Nat.mod_le _ _
      rw [show (0 : Int32) = nI 0 from rfl, nI_eq (by omega) (by omega)]
      exact ⟨Nat.dvd_of_mod_eq_zero, Nat.mod_eq_zero_of_dvd⟩
    refine ⟨nI_ne0 (by omega) (by omega), ?_⟩
    rw [xrem_nI (by omega) (by omega) (by omega), xrem_nI (by omega) (by omega) (by omega), dv a ha, dv b hb]
    refine ⟨fun z => nxt1 (fun y => z y.1), fun za => ⟨nI_ne0 (by omega) (by omega), fun z => nxt1 (fun y => z y.2), fun zb => ⟨nI_ne0 (by omega) (by omega), ?_⟩⟩⟩
    have h1 := Nat.le_of_dvd g0 (Nat.dvd_gcd za zb)
    have : Nat.gcd a b = e := by omega
    rw [this] at hq
    rw [div_nI (by omega) (by omega) (by omega)]
    exact hq
theorem s_Model_lowest {E : XE} {d a b p : Nat} {H : HH} {Q : Int64 → HH → Prop} (ha : a ≤ 40) (hb1 : 1 ≤ b) (hb : b ≤ 40) (hp : p < 2) (hq : Q (if p = 0 then lN (a / Nat.gcd a b) else lN (b / Nat.gcd a b)) H) : c_Model_lowest E d (lN a) (lN b) (nI p) H Q := by
  refine l_Model_lowest ⟨fun q => ?_, fun q => ?_⟩
  · have ha0 : 0 < a := by
      rcases Nat.eq_zero_or_pos a with e | e
      · subst e; exact absurd ((lg_cmp_eq _ _).mpr rfl) q
      · exact e
    refine ⟨fun z2 z3 H4 => ∃ m n, z2 = lN m ∧ z3 = lN n ∧ 0 < m ∧ m ≤ 40 ∧ n ≤ 40 ∧ Nat.gcd m n = Nat.gcd a b ∧ H4 = H, fun _ z3 _ => z3.toInt.toNat, ⟨a, b, rfl, rfl, ha0, ha, hb, rfl, rfl⟩, fun z2 z3 H4 hJ => ?_⟩
    obtain ⟨m, n, rfl, rfl, hm0, hm, hn, hg, e4⟩ := hJ
    subst e4
    have zero : lg_cmp (lN n) 0 = 0 ↔ n = 0 := by
      rw [lg_cmp_eq, show (0 : Int64) = lN 0 from rfl, lN_eq (by omega) (by omega)]
    have ne0 : ∀ c : Nat, 0 < c → c ≤ 40 → ¬ lN c = 0 := by
      intro c h1 h2
      rw [show (0 : Int64) = lN 0 from rfl, lN_eq (by omega) (by omega)]; omega
    refine ⟨fun z => ?_, fun z => ?_⟩
    · have n0 := zero.mp z
      subst n0
      rw [Nat.gcd_zero_right] at hg
      refine ⟨fun y => ⟨ne0 m hm0 hm, ?_⟩, fun y => ⟨ne0 m hm0 hm, ?_⟩⟩
      · have p1 : ¬ p = 0 := fun e => y (by rw [e]; rfl)
        rw [if_neg p1, ← hg] at hq
        rw [pk_lDiv (by omega) hm0 (by omega)]
        exact hq
      · have p0 : p = 0 := by rw [show (0 : Int32) = nI 0 from rfl, nI_eq (by omega) (by omega)] at y; exact y
        rw [if_pos p0, ← hg] at hq
        rw [pk_lDiv (by omega) hm0 (by omega)]
        exact hq
    · have n1 : ¬ n = 0 := fun e => z (zero.mpr e)
      refine ⟨ne0 n (by omega) hn, fun v5 e5 => ?_⟩
      rw [pk_lRem (by omega) (by omega) (by omega)] at e5
      have hlt : m % n < n := Nat.mod_lt _ (by omega)
      subst e5
      refine ⟨⟨n, m % n, rfl, rfl, by omega, hn, by omega, ?_, rfl⟩, ?_⟩
      · rw [← hg, Nat.gcd_comm m n, Nat.gcd_rec n m, Nat.gcd_comm]
      · show (lN (m % n)).toInt.toNat < (lN n).toInt.toNat
        rw [lN_toInt (by omega), lN_toInt (by omega)]
        omega
  · have ha0 : a = 0 := by
      rw [lg_cmp_eq, show (0 : Int64) = lN 0 from rfl, lN_eq (by omega) (by omega)] at q
      exact q
    subst ha0
    rw [Nat.gcd_zero_left, Nat.zero_div, Nat.div_self hb1] at hq
    rw [nI_l (by omega)]
    rcases (show p = 0 ∨ p = 1 by omega) with e | e
    · subst e; exact hq
    · subst e; exact hq
def eqL (r : Int64) : Int64 → HH → Prop := fun r2 H2 => r2 = r ∧ ∃ s2, INV H2 s2
theorem eqL_sc {H H1 : HH} {s : SN} {r r2 : Int64} (hI : INV H s) (hf : scF H H1) (e : r2 = r) : eqL r r2 H1 := ⟨e, s, hI.sc hf⟩
theorem m_odds {E : XE} {d d2 : Nat} {x1 x2 x3 x4 : Int32} {s : SN} {H : HH} (hI : INV H s) : c_Main_odds E (d + 20) x1 x2 x3 x4 H (fun r H1 => c_Model_odds E (d2 + 20) x1 x2 x3 x4 H1 (eqL r)) := by
  have nv4 : s.nv ≤ 4 := hI.1.1
  have bad : ¬ ((0 ≤ x1 ∧ x1 ≤ 99999) ∧ (0 ≤ x2 ∧ x2 ≤ 6040) ∧ (1 ≤ xrem x2 100 ∧ xrem x2 100 ≤ 40) ∧ (∃ j, j < s.nv ∧ x3 = nI j) ∧ (0 ≤ x4 ∧ x4 ≤ 1)) → c_Model_odds E (d2 + 20) x1 x2 x3 x4 H (eqL (-4611686018427387904)) := by
    intro hb
    have fin : ∀ (y4 : Int32) (H5 : HH), y4 = 0 ∧ H = H5 → y4 = 0 ∧ H = H5 := fun _ _ h => h
    refine l_Model_odds (s_Model_in (fun a1 a2 => ?_) (fun _ => ?_))
    · refine ⟨fun y H5 => y = 0 ∧ H = H5, ⟨fun z => absurd z (by decide), fun _ => s_Model_in (fun b1 b2 => ?_) (fun _ => ⟨fun _ => ⟨rfl, rfl⟩, fun z => absurd rfl z⟩)⟩, fun y H5 hJ => ?_⟩
      · refine ⟨fun z => absurd z (by decide), fun _ => s_Model_in (fun c1 c2 => ?_) (fun _ => ⟨fun _ => ⟨rfl, rfl⟩, fun z => absurd rfl z⟩)⟩
        refine ⟨fun z => absurd z (by decide), fun _ => s_Model_isVehicle hI (fun j hj ej => ?_) (fun _ => ⟨fun _ => ⟨rfl, rfl⟩, fun z => absurd rfl z⟩)⟩
        refine ⟨fun z => absurd z (by decide), fun _ => s_Model_in (fun f1 f2 => absurd ⟨⟨a1, a2⟩, ⟨b1, b2⟩, ⟨c1, c2⟩, ⟨j, hj, ej⟩, f1, f2⟩ hb) (fun _ => ⟨rfl, rfl⟩)⟩
      · obtain ⟨rfl, rfl⟩ := hJ
        exact ⟨fun z => absurd rfl z, fun _ => eqL_sc hI scF.rf rfl⟩
    · refine ⟨fun y H5 => y = 0 ∧ H = H5, ⟨fun _ => ⟨rfl, rfl⟩, fun z => absurd rfl z⟩, fun y H5 hJ => ?_⟩
      obtain ⟨rfl, rfl⟩ := hJ
      exact ⟨fun z => absurd rfl z, fun _ => eqL_sc hI scF.rf rfl⟩
  refine l_Main_odds (s_Main_isWithin (fun a1 a2 => ⟨fun z => absurd z (by decide), fun _ => ?_⟩) (fun a => ⟨fun _ => bad (fun z => a z.1), fun z => absurd rfl z⟩))
  refine s_Main_isVehicle hI (fun j hj ej => ⟨fun z => absurd z (by decide), fun _ => ?_⟩) (fun no => ⟨fun _ => bad (fun z => by obtain ⟨j, hj, ej⟩ := z.2.2.2.1; exact no j hj ej), fun z => absurd rfl z⟩)
  refine s_Main_isWithin (fun f1 f2 => ⟨fun _ => ⟨fun x20 => ?_, fun x20 => bad (fun z => x20 z.2.1.1)⟩, fun z => absurd z (by decide)⟩) (fun dd => ⟨fun z => absurd rfl z, fun _ => bad (fun z => dd z.2.2.2.2)⟩)
  obtain ⟨m, hm, em⟩ := nI_of (x := x2) (fun z => by simp only [ti_lt, ti_le] at *; omega)
  have ep := (ph_parts hm).1
  have er := (ph_parts hm).2
  rw [← em] at ep er
  have b60 : x2 ≤ 6040 → 0 ≤ x2 / 100 ∧ x2 / 100 ≤ 60 := by
    intro h60
    rw [ep]
    rw [em, show (6040 : Int32) = nI 6040 from rfl, nI_leI hm (by omega)] at h60
    exact ⟨nI_pos' (by omega), nI_le (b := 60) (by omega) (by omega)⟩
  refine s_Main_isWithin (fun b1 b2 => ⟨fun z => absurd z (by decide), fun _ => ?_⟩) (fun b => ⟨fun _ => bad (fun z => b (b60 z.2.1.2)), fun z => absurd rfl z⟩)
  refine s_Main_isWithin (fun c1 c2 => ⟨fun _ => ?_, fun z => absurd z (by decide)⟩) (fun c => ⟨fun z => absurd rfl z, fun _ => bad (fun z => c z.2.2.1)⟩)
  rw [ep, show (60 : Int32) = nI 60 from rfl, nI_leI (by omega) (by omega)] at b2
  rw [er, show (1 : Int32) = nI 1 from rfl, nI_leI (by omega) (by omega)] at c1
  rw [er, show (40 : Int32) = nI 40 from rfl, nI_leI (by omega) (by omega)] at c2
  obtain ⟨sd, hsd, esd⟩ := seed_rng a1 a2
  obtain ⟨pt, hpt, ept⟩ := bit_of f1 f2
  generalize hst : m / 100 = st at *
  generalize hse : m % 100 = se at *
  subst ej
  rw [ep, er]
  let cb : Nat → Bool := fun i => decide ((dvF (lwH H s) (nI s.wd) (nI s.op) st (nI (sd + i)) (vM H j)).1 = -1)
  refine ⟨fun z12 z13 H14 => ∃ i, i ≤ se ∧ z13 = nI i ∧ scF H H14 ∧ z12 = nI (cntF cb i), fun _ z13 _ => 40 - z13.toNatClampNeg, ⟨0, by omega, rfl, scF.rf, rfl⟩, fun z12 z13 H14 hJ => ?_⟩
  obtain ⟨i, hi, rfl, s14, rfl⟩ := hJ
  have hI14 := hI.sc s14
  have hci := cntF_le cb i
  refine ⟨fun q => ?_, fun q => ?_⟩
  · rw [nI_leI (by omega) (by omega)] at q
    have e : i = se := by omega
    subst e
    -- the reference's side
    have md : c_Model_odds E (d2 + 20) x1 x2 (nI j) x4 H14 (eqL (if pt = 0 then lN (cntF cb i / Nat.gcd (cntF cb i) i) else lN (i / Nat.gcd (cntF cb i) i))) := by
      refine l_Model_odds (s_Model_in (fun _ _ => ?_) (fun a => absurd ⟨a1, a2⟩ a))
      refine ⟨fun y H5 => y = 1 ∧ H14 = H5, ⟨fun z => absurd z (by decide), fun _ => s_Model_in (fun _ _ => ?_) (fun b => absurd ⟨x20, by rw [em, show (6040 : Int32) = nI 6040 from rfl]; exact nI_le (by omega) (by omega)⟩ b)⟩, fun y H5 hJ => ?_⟩
      · refine ⟨fun z => absurd z (by decide), fun _ => s_Model_in (fun _ _ => ?_) (fun c => absurd ⟨by rw [er]; exact nI_le (a := 1) c1 (by omega), by rw [er]; exact nI_le (b := 40) c2 (by omega)⟩ c)⟩
        refine ⟨fun z => absurd z (by decide), fun _ => s_Model_isVehicle hI14 (fun _ _ _ => ?_) (fun no => absurd rfl (no j hj))⟩
        exact ⟨fun z => absurd z (by decide), fun _ => s_Model_in (fun _ _ => ⟨rfl, rfl⟩) (fun dd => absurd ⟨f1, f2⟩ dd)⟩
      · obtain ⟨rfl, rfl⟩ := hJ
        refine ⟨fun _ => ?_, fun z => absurd z (by decide)⟩
        rw [ep, er]
        refine ⟨fun z7 z8 H9 => ∃ i2, i2 ≤ i ∧ z8 = nI i2 ∧ scF H H9 ∧ z7 = lN (cntF cb i2), fun _ z8 _ => 40 - z8.toNatClampNeg, ⟨0, by omega, rfl, s14, rfl⟩, fun z7 z8 H9 hJ => ?_⟩
        obtain ⟨i2, hi2, rfl, s9, rfl⟩ := hJ
        refine ⟨fun q => ?_, fun q => ?_⟩
        · rw [nI_leI (by omega) (by omega)] at q
          have e : i2 = i := by omega
          subst e
          rw [nI_l (by omega), ept]
          exact s_Model_lowest (by omega) c1 c2 hpt (eqL_sc hI s9 rfl)
        · rw [nI_leI (by omega) (by omega)] at q
          have hi3 : i2 < i := by omega
          have mu : 40 - (nI i2 + 1).toNatClampNeg < 40 - (nI i2).toNatClampNeg := by rw [nI_1, nI_clamp (by omega), nI_clamp (by omega)]; omega
          rw [esd, nI_add]
          refine s_md_drv hI s9 hj (by omega) (by rw [ti_nI (by omega)]; omega) (fun H12 s12 e38 _ => ?_)
          rw [e38]
          refine ⟨fun z => ⟨⟨i2 + 1, hi3, nI_1 i2, s12, ?_⟩, mu⟩, fun z => ⟨⟨i2 + 1, hi3, nI_1 i2, s12, ?_⟩, mu⟩⟩
          · show lN (cntF cb i2) + 0 = lN (cntF cb i2 + (if cb i2 = true then 1 else 0))
            rw [if_neg (fun y => z (of_decide_eq_true y)), Int64.add_zero, Nat.add_zero]
          · show lN (cntF cb i2) + 1 = lN (cntF cb i2 + (if cb i2 = true then 1 else 0))
            rw [if_pos (decide_eq_true z), lN_1]
    have gle : Nat.gcd (cntF cb i) i ≤ i := Nat.le_of_dvd c1 (Nat.gcd_dvd_right _ _)
    have g0 : 0 < Nat.gcd (cntF cb i) i := Nat.gcd_pos_of_pos_right _ c1
    have dle : ∀ c : Nat, c ≤ 40 → c / Nat.gcd (cntF cb i) i < 2147483648 := fun c hc => Nat.lt_of_le_of_lt (Nat.div_le_self _ _) (by omega)
    refine ⟨fun z => ?_, fun z => ?_⟩
    · have p1 : ¬ pt = 0 := fun e => z (by rw [ept, e]; rfl)
      rw [if_neg p1] at md
      refine s_Main_inLowestTerms c2 (by omega) ?_
      rw [Nat.gcd_comm, nI_l (dle _ (by omega))]
      exact md
    · have p0 : pt = 0 := by rw [ept, show (0 : Int32) = nI 0 from rfl, nI_eq (by omega) (by omega)] at z; exact z
      rw [if_pos p0] at md
      refine s_Main_inLowestTerms (by omega) c2 ?_
      rw [nI_l (dle _ (by omega))]
      exact md
  · rw [nI_leI (by omega) (by omega)] at q
    have hi3 : i < se := by omega
    have mu : 40 - (nI i + 1).toNatClampNeg < 40 - (nI i).toNatClampNeg := by rw [nI_1, nI_clamp (by omega), nI_clamp (by omega)]; omega
    refine s_Main_think hI14 hj (fun H17 s17 r17 k0 k1 k8 => ?_)
    rw [INV.vM_sc s14] at k8
    rw [esd, nI_add]
    refine s_cl_drv (thk_of hI (s14.tr s17) r17 k0 k1 k8) (by omega) (fun H18 r18 s18 => ?_)
    have s18' := (s14.tr s17).tr s18
    refine ⟨fun z => ⟨⟨i + 1, hi3, nI_1 i, s18', ?_⟩, mu⟩, fun z => ⟨⟨i + 1, hi3, nI_1 i, s18', ?_⟩, mu⟩⟩
    · show nI (cntF cb i) = nI (cntF cb i + (if cb i = true then 1 else 0))
      rw [if_neg (fun y => z (of_decide_eq_true y)), Nat.add_zero]
    · show nI (cntF cb i) + 1 = nI (cntF cb i + (if cb i = true then 1 else 0))
      rw [if_pos (decide_eq_true z), nI_1]
