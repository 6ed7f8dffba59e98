/-! THE CALLS 1: count, force, told, asks, fit, drive, begin. -/
/-- the reference's answer is the class's, and both go on alike -/
def eqI (r : Int32) : Int32 → HH → Prop := fun r2 H2 => r2 = r ∧ ∃ s2, INV H2 s2
theorem eqI_sc {H H1 : HH} {s : SN} {r r2 : Int32} (hI : INV H s) (hf : scF H H1) (e : r2 = r) : eqI r r2 H1 := ⟨e, s, hI.sc hf⟩
/-- slots of numbers and vehicles -/
def gS (a i k : Nat) : Prop := (a = 1 ∧ i = 0 ∧ k = 2) ∨ (a = 2 ∧ i = 0) ∨ (a = 0 ∧ i = 0 ∧ k = 5) ∨ (a = 6 ∧ i = 0 ∧ k = 1) ∨ (a = 30 ∧ i = 0 ∧ (k = 1 ∨ k = 2 ∨ k = 3 ∨ k = 8 ∨ k = 11 ∨ k = 12)) ∨ (a = 3 ∧ i < 4) ∨ ((a = 32 ∨ a = 33 ∨ a = 34) ∧ i = 0)
theorem INV.gen {H H1 : HH} {s s2 : SN} (h : INV H s) (hf : ∀ a i k, ¬ scr a i k → ¬ gS a i k → H1 a i k = H a i k) (hok : snOK s2) (hC : piC H1 s2) (hR : piR H1 s2) (hV : piV H1 s2.nv s2.wd) (hn : s.nv ≤ s2.nv) (ht : s2.nt = s.nt) (hs : s2.ns ≤ s.ns) (hk : ∀ j, j < s.nv → H1 3 j 0 = H 3 j 0 ∧ H1 3 j 1 = H 3 j 1) : INV H1 s2 := by
  obtain ⟨i1, i2, i3, i4, i5, i6, i7, i8, i9⟩ := h
  obtain ⟨c1, c2, c3, c4, c5, c6, c7⟩ := i1
  have nv4 : s.nv ≤ 4 := c1
  have nt6 : s.nt ≤ 6 := c6
  refine ⟨hok, hC, hR, fun i hi => ?_, ⟨fun k hk => ?_, fun k hk => ?_, fun k hk => ?_⟩, hV, fun t ht2 => ?_, fun u hu => ?_, ?_, ?_⟩
  · rw [hf 35 0 i (by unfold scr; omega) (by unfold gS; omega), hf 7 0 i (by unfold scr; omega) (by unfold gS; omega)]; exact i4 i (by omega)
  · rw [hf 31 0 k (by unfold scr; omega) (by unfold gS; omega)]; exact i5.1 k hk
  · rw [hf 44 0 k (by unfold scr; omega) (by unfold gS; omega)]; exact i5.2.1 k hk
  · rw [hf 3 8 k (by unfold scr; omega) (by unfold gS; omega)]; exact i5.2.2 k hk
  · rw [ht] at ht2
    have e12 : H1 12 t = H 12 t := by funext k; exact hf 12 t k (by unfold scr; omega) (by unfold gS; omega)
    have e13 : H1 13 t = H 13 t := by funext k; exact hf 13 t k (by unfold scr; omega) (by unfold gS; omega)
    rw [e12, e13]
    exact (i7 t ht2).pt (fun k hk => hf 37 0 _ (by unfold scr; omega) (by unfold gS; omega)) (fun k hk => hf 36 0 _ (by unfold scr; omega) (by unfold gS; omega))
  · exact (i8 u hu).pt (fun k => hf 16 u k (by unfold scr; omega) (by unfold gS; omega)) (fun k => hf 17 u k (by unfold scr; omega) (by unfold gS; omega)) (hf 40 0 u (by unfold scr; omega) (by unfold gS; omega)) (hf 41 0 u (by unfold scr; omega) (by unfold gS; omega)) (fun k hk => hf 42 0 _ (by unfold scr; omega) (by unfold gS; omega))
  · rw [hf 0 0 2 (by unfold scr; omega) (by unfold gS; omega), hf 30 0 13 (by unfold scr; omega) (by unfold gS; omega)]; exact i9.1
  · rw [hf 0 0 2 (by unfold scr; omega) (by unfold gS; omega)]
    rcases i9.2 with e | ⟨e, m, hm⟩
    · exact Or.inl e
    · exact Or.inr ⟨e, m, hm.pt hn (Nat.le_of_eq ht.symm) (hf 1 1 2 (by unfold scr; omega) (by unfold gS; omega)) (fun k => hf 2 1 k (by unfold scr; omega) (by unfold gS; omega)) (fun k => hf 39 0 k (by unfold scr; omega) (by unfold gS; omega)) (fun k => hf 38 0 k (by unfold scr; omega) (by unfold gS; omega)) hk (fun j k hj => hf 3 (4 + j) k (by unfold scr; omega) (by unfold gS; omega))⟩
theorem hu_ne {H : HH} {kd ix k a i c : Nat} {x : Int32} (h : ¬ (a = kd ∧ i = ix ∧ c = k)) : hu H kd ix k x a i c = H a i c := by
  show (if a = kd ∧ i = ix ∧ c = k then x else H a i c) = _
  rw [if_neg h]
theorem m_count {E : XE} {d d2 : Nat} {x : Int32} {s : SN} {H : HH} (hI : INV H s) : c_Main_count E d x H (fun r H1 => c_Model_count E d2 x H1 (eqI r)) := by
  obtain ⟨a1, a2, a3, a4, a5, a6⟩ := hI.2.1
  obtain ⟨b1, b2, b3, b4, b5, b6⟩ := hI.2.2.1
  have fin : ∀ r r2 : Int32, r2 = r → eqI r r2 H := fun r r2 e => eqI_sc hI scF.rf e
  refine l_Main_count ⟨fun e => ?_, fun e => ?_, fun e => ?_, fun e => ?_, fun e => ?_, fun e => ?_, fun n0 n1 n2 n3 n4 n5 => ?_⟩
  · subst e; exact l_Model_count ⟨fun _ => fin _ _ (b1.trans a1.symm), fun e => absurd e (by decide), fun e => absurd e (by decide), fun e => absurd e (by decide), fun e => absurd e (by decide), fun e => absurd e (by decide), fun n0 n1 n2 n3 n4 n5 => absurd rfl n0⟩
  · subst e; exact l_Model_count ⟨fun e => absurd e (by decide), fun _ => fin _ _ (b2.trans a2.symm), fun e => absurd e (by decide), fun e => absurd e (by decide), fun e => absurd e (by decide), fun e => absurd e (by decide), fun n0 n1 n2 n3 n4 n5 => absurd rfl n1⟩
  · subst e; exact l_Model_count ⟨fun e => absurd e (by decide), fun e => absurd e (by decide), fun _ => fin _ _ (b3.trans a3.symm), fun e => absurd e (by decide), fun e => absurd e (by decide), fun e => absurd e (by decide), fun n0 n1 n2 n3 n4 n5 => absurd rfl n2⟩
  · subst e; exact l_Model_count ⟨fun e => absurd e (by decide), fun e => absurd e (by decide), fun e => absurd e (by decide), fun _ => fin _ _ (b5.trans a5.symm), fun e => absurd e (by decide), fun e => absurd e (by decide), fun n0 n1 n2 n3 n4 n5 => absurd rfl n3⟩
  · subst e; exact l_Model_count ⟨fun e => absurd e (by decide), fun e => absurd e (by decide), fun e => absurd e (by decide), fun e => absurd e (by decide), fun _ => fin _ _ (b4.trans a4.symm), fun e => absurd e (by decide), fun n0 n1 n2 n3 n4 n5 => absurd rfl n4⟩
  · subst e; exact l_Model_count ⟨fun e => absurd e (by decide), fun e => absurd e (by decide), fun e => absurd e (by decide), fun e => absurd e (by decide), fun e => absurd e (by decide), fun _ => fin _ _ (b6.trans a6.symm), fun n0 n1 n2 n3 n4 n5 => absurd rfl n5⟩
  · exact l_Model_count ⟨fun e => absurd e n0, fun e => absurd e n1, fun e => absurd e n2, fun e => absurd e n3, fun e => absurd e n4, fun e => absurd e n5, fun _ _ _ _ _ _ => fin _ _ rfl⟩
theorem piV_k {H H1 : HH} {nv wd j : Nat} (h : piV H nv wd) (hj : j < nv) (h3 : ∀ k, H1 3 j k = H 3 j k) (h32 : H1 32 0 j = H 32 0 j) (h33 : H1 33 0 j = H 33 0 j) (h34 : ∀ k, k < 5 → H1 34 0 (5 * j + k) = H 34 0 (5 * j + k)) : vhOK H1 wd j := (h j hj).pt (fun k _ => h3 k) h32 h33 h34
theorem m_force {E : XE} {d d2 : Nat} {x : Int32} {s : SN} {H : HH} (hI : INV H s) : c_Main_force E (d + 20) x H (fun r H1 => c_Model_force E (d2 + 20) x H1 (eqI r)) := by
  obtain ⟨c1, c2, c3, c4, c5, c6, c7⟩ := hI.1
  obtain ⟨a1, a2, a3, a4, a5, a6⟩ := hI.2.1
  obtain ⟨b1, b2, b3, b4, b5, b6⟩ := hI.2.2.1
  have n1 : ∀ x : Int32, x = nI s.nt → x - 1 = nI (s.nt - 1) := by
    intro x e
    have : s.lw < s.nt := c5
    rw [e, show s.nt = (s.nt - 1) + 1 by omega, nI_pred]; rfl
  have nt6 : s.nt ≤ 6 := c6
  have lwt : s.lw < s.nt := c5
  refine l_Main_force ?_
  unfold p_Main_force
  rw [n1 _ a5]
  refine s_Main_isWithin (fun q1 q2 => ?_) (fun q => ?_)
  · obtain ⟨t, ht, et⟩ := nat_of (by omega) q1 q2
    refine ⟨fun _ H3 e3 => ?_, fun z => absurd z (by decide)⟩
    refine l_Model_force ?_
    unfold p_Model_force
    rw [n1 (H3 30 0 11) (by rw [e3, hu_kd _ _ _ _ (by decide)]; exact b5)]
    refine s_Model_in (fun _ _ => ⟨fun _ H4 e4 => ?_, fun z => absurd z (by decide)⟩) (fun q => absurd ⟨q1, q2⟩ q)
    refine ⟨?_, (s.nv, s.wd, s.op, t, s.nt, s.ns), ?_⟩
    · rw [e3, hu_kd _ _ _ _ (by decide), b4, a4]
    · have hk : ∀ a i k, ¬ (a = 2 ∧ i = 0 ∧ k = 2) → ¬ (a = 30 ∧ i = 0 ∧ k = 12) → H4 a i k = H a i k := by
        intro a i k q1 q2
        rw [e4, hu_ne q2, e3, hu_ne q1]
      refine hI.gen (s2 := (s.nv, s.wd, s.op, t, s.nt, s.ns)) (fun a i k q1 q2 => hk a i k (fun z => q2 (by unfold gS; omega)) (fun z => q2 (by unfold gS; omega))) ⟨c1, c2, c3, c4, by show t < s.nt; omega, c6, c7⟩ ?_ ?_ ?_ (Nat.le_refl _) rfl (Nat.le_refl _) (fun j hj => ⟨hk _ _ _ (by omega) (by omega), hk _ _ _ (by omega) (by omega)⟩)
      · refine ⟨by rw [hk _ _ _ (by omega) (by omega)]; exact a1, by rw [hk _ _ _ (by omega) (by omega)]; exact a2, by rw [hk _ _ _ (by omega) (by omega)]; exact a3, ?_, by rw [hk _ _ _ (by omega) (by omega)]; exact a5, by rw [hk _ _ _ (by omega) (by omega)]; exact a6⟩
        rw [e4, hu_kd _ _ _ _ (by decide), e3, hu_at, et]
      · refine ⟨by rw [hk _ _ _ (by omega) (by omega)]; exact b1, by rw [hk _ _ _ (by omega) (by omega)]; exact b2, by rw [hk _ _ _ (by omega) (by omega)]; exact b3, ?_, by rw [hk _ _ _ (by omega) (by omega)]; exact b5, by rw [hk _ _ _ (by omega) (by omega)]; exact b6⟩
        rw [e4, hu_at, et]
      · intro j hj
        exact piV_k hI.2.2.2.2.2.1 hj (fun k => hk _ _ _ (by omega) (by omega)) (hk _ _ _ (by omega) (by omega)) (hk _ _ _ (by omega) (by omega)) (fun k _ => hk _ _ _ (by omega) (by omega))
  · refine ⟨fun z => absurd rfl z, fun _ => ?_⟩
    refine l_Model_force ?_
    unfold p_Model_force
    rw [n1 _ b5]
    exact s_Model_in (fun q1 q2 => absurd ⟨q1, q2⟩ q) (fun _ => ⟨fun z => absurd rfl z, fun _ => eqI_sc hI scF.rf rfl⟩)
theorem m_told {E : XE} {d d2 : Nat} {x w : Int32} {s : SN} {H : HH} (hI : INV H s) : c_Main_told E (d + 20) x w H (fun r H1 => c_Model_told E (d2 + 20) x w H1 (eqI r)) := by
  have nv4 : s.nv ≤ 4 := hI.1.1
  have fin : ∀ r r2 : Int32, r2 = r → eqI r r2 H := fun r r2 e => eqI_sc hI scF.rf e
  refine l_Main_told (s_Main_isVehicle hI (fun j hj ej => ?_) (fun no => ?_))
  · subst ej
    refine ⟨fun _ => ⟨vp_in_nI (by omega) (by omega), ?_⟩, fun z => absurd z (by decide)⟩
    rw [nI_clamp (by omega), show 4 * 0 + j = j by omega]
    have hv := hI.2.2.2.2.2.1 j hj
    have v0 : H 32 0 j = H 3 j 0 := hv.1 0 (by omega)
    have v1 : H 33 0 j = H 3 j 1 := hv.1 1 (by omega)
    have vin4 : vp_in (nI j) 4 := vp_in_nI (by omega) (by omega)
    have vk : ∀ k, k < 5 → vp_in ((5 * nI j + nI (k + 2)) - 2) 20 ∧ H 34 0 ((5 * nI j + nI (k + 2)) - 2).toNatClampNeg = H 3 j (k + 2) := by
      intro k hk
      have e : (5 * nI j + nI (k + 2)) - 2 = nI (5 * j + k) := by
        rw [i5_0, nI_add, ti_eq, ti_sub (by rw [ti_nI (by omega)]; have : (2 : Int32).toInt = 2 := rfl; omega) (by rw [ti_nI (by omega)]; have : (2 : Int32).toInt = 2 := rfl; omega), ti_nI (by omega), ti_nI (by omega)]
        have : (2 : Int32).toInt = 2 := rfl
        omega
      rw [e, nI_clamp (by omega)]
      refine ⟨vp_in_nI (by omega) (by omega), ?_⟩
      rw [← hv.1 (k + 2) (by omega)]
      rcases (show k = 0 ∨ k = 1 ∨ k = 2 ∨ k = 3 ∨ k = 4 by omega) with rfl | rfl | rfl | rfl | rfl <;> rfl
    have go : ∀ r, p_Model_told E (d2 + 19) (nI j) w H (eqI r) → c_Model_told E (d2 + 20) (nI j) w H (eqI r) := fun r h => l_Model_told h
    have go2 : ∀ r, ((w = 0 → (vp_in (nI j) 4 ∧ (eqI r (H 32 0 ((nI j).toNatClampNeg)) H))) ∧ (w = 1 → (vp_in (nI j) 4 ∧ (eqI r (H 33 0 ((nI j).toNatClampNeg)) H))) ∧ (w = 2 → (vp_in (((5 * nI j) + w) - 2) 20 ∧ (eqI r (H 34 0 ((((5 * nI j) + w) - 2).toNatClampNeg)) H))) ∧ (w = 3 → (vp_in (((5 * nI j) + w) - 2) 20 ∧ (eqI r (H 34 0 ((((5 * nI j) + w) - 2).toNatClampNeg)) H))) ∧ (w = 4 → (vp_in (((5 * nI j) + w) - 2) 20 ∧ (eqI r (H 34 0 ((((5 * nI j) + w) - 2).toNatClampNeg)) H))) ∧ (w = 5 → (vp_in (((5 * nI j) + w) - 2) 20 ∧ (eqI r (H 34 0 ((((5 * nI j) + w) - 2).toNatClampNeg)) H))) ∧ (w = 6 → (vp_in (((5 * nI j) + w) - 2) 20 ∧ (eqI r (H 34 0 ((((5 * nI j) + w) - 2).toNatClampNeg)) H))) ∧ (w = 7 → (c_Model_frontOf E (d2 + 19) (nI j) H (fun r4 H3 => eqI r r4 H3))) ∧ (w = 8 → (c_Model_backOf E (d2 + 19) (nI j) H (fun r6 H5 => eqI r r6 H5))) ∧ (¬ w = 0 → ¬ w = 1 → ¬ w = 2 → ¬ w = 3 → ¬ w = 4 → ¬ w = 5 → ¬ w = 6 → ¬ w = 7 → ¬ w = 8 → (eqI r (-7) H))) → c_Model_told E (d2 + 20) (nI j) w H (eqI r) := fun r h => go r (s_Model_isVehicle hI (fun _ _ _ => ⟨fun _ => h, fun z => absurd z (by decide)⟩) (fun no => absurd rfl (no j hj)))
    refine ⟨fun e => ?_, fun e => ?_, fun e => ?_, fun e => ?_, fun e => ?_, fun e => ?_, fun e => ?_, fun e => ?_, fun e => ?_, fun n0 n1 n2 n3 n4 n5 n6 n7 n8 => ?_⟩
    · subst e; exact go2 _ ⟨fun _ => ⟨vin4, fin _ _ (by rw [nI_clamp (by omega)]; exact v0)⟩, fun e => absurd e (by decide), fun e => absurd e (by decide), fun e => absurd e (by decide), fun e => absurd e (by decide), fun e => absurd e (by decide), fun e => absurd e (by decide), fun e => absurd e (by decide), fun e => absurd e (by decide), fun n0 n1 n2 n3 n4 n5 n6 n7 n8 => absurd rfl n0⟩
    · subst e; exact go2 _ ⟨fun e => absurd e (by decide), fun _ => ⟨vin4, fin _ _ (by rw [nI_clamp (by omega)]; exact v1)⟩, fun e => absurd e (by decide), fun e => absurd e (by decide), fun e => absurd e (by decide), fun e => absurd e (by decide), fun e => absurd e (by decide), fun e => absurd e (by decide), fun e => absurd e (by decide), fun n0 n1 n2 n3 n4 n5 n6 n7 n8 => absurd rfl n1⟩
    · subst e; exact go2 _ ⟨fun e => absurd e (by decide), fun e => absurd e (by decide), fun _ => ⟨(vk 0 (by omega)).1, fin _ _ (vk 0 (by omega)).2⟩, fun e => absurd e (by decide), fun e => absurd e (by decide), fun e => absurd e (by decide), fun e => absurd e (by decide), fun e => absurd e (by decide), fun e => absurd e (by decide), fun n0 n1 n2 n3 n4 n5 n6 n7 n8 => absurd rfl n2⟩
    · subst e; exact go2 _ ⟨fun e => absurd e (by decide), fun e => absurd e (by decide), fun e => absurd e (by decide), fun _ => ⟨(vk 1 (by omega)).1, fin _ _ (vk 1 (by omega)).2⟩, fun e => absurd e (by decide), fun e => absurd e (by decide), fun e => absurd e (by decide), fun e => absurd e (by decide), fun e => absurd e (by decide), fun n0 n1 n2 n3 n4 n5 n6 n7 n8 => absurd rfl n3⟩
    · subst e; exact go2 _ ⟨fun e => absurd e (by decide), fun e => absurd e (by decide), fun e => absurd e (by decide), fun e => absurd e (by decide), fun _ => ⟨(vk 2 (by omega)).1, fin _ _ (vk 2 (by omega)).2⟩, fun e => absurd e (by decide), fun e => absurd e (by decide), fun e => absurd e (by decide), fun e => absurd e (by decide), fun n0 n1 n2 n3 n4 n5 n6 n7 n8 => absurd rfl n4⟩
    · subst e; exact go2 _ ⟨fun e => absurd e (by decide), fun e => absurd e (by decide), fun e => absurd e (by decide), fun e => absurd e (by decide), fun e => absurd e (by decide), fun _ => ⟨(vk 3 (by omega)).1, fin _ _ (vk 3 (by omega)).2⟩, fun e => absurd e (by decide), fun e => absurd e (by decide), fun e => absurd e (by decide), fun n0 n1 n2 n3 n4 n5 n6 n7 n8 => absurd rfl n5⟩
    · subst e; exact go2 _ ⟨fun e => absurd e (by decide), fun e => absurd e (by decide), fun e => absurd e (by decide), fun e => absurd e (by decide), fun e => absurd e (by decide), fun e => absurd e (by decide), fun _ => ⟨(vk 4 (by omega)).1, fin _ _ (vk 4 (by omega)).2⟩, fun e => absurd e (by decide), fun e => absurd e (by decide), fun n0 n1 n2 n3 n4 n5 n6 n7 n8 => absurd rfl n6⟩
    · subst e; exact s_Vehicle_front (go2 _ ⟨fun e => absurd e (by decide), fun e => absurd e (by decide), fun e => absurd e (by decide), fun e => absurd e (by decide), fun e => absurd e (by decide), fun e => absurd e (by decide), fun e => absurd e (by decide), fun _ => s_Model_frontOf (by omega) (fin _ _ (by rw [v0, v1])), fun e => absurd e (by decide), fun n0 n1 n2 n3 n4 n5 n6 n7 n8 => absurd rfl n7⟩)
    · subst e; exact s_Vehicle_behind (go2 _ ⟨fun e => absurd e (by decide), fun e => absurd e (by decide), fun e => absurd e (by decide), fun e => absurd e (by decide), fun e => absurd e (by decide), fun e => absurd e (by decide), fun e => absurd e (by decide), fun e => absurd e (by decide), fun _ => s_Model_backOf (by omega) (fin _ _ (by rw [v0, v1])), fun n0 n1 n2 n3 n4 n5 n6 n7 n8 => absurd rfl n8⟩)
    · exact go2 _ ⟨fun e => absurd e n0, fun e => absurd e n1, fun e => absurd e n2, fun e => absurd e n3, fun e => absurd e n4, fun e => absurd e n5, fun e => absurd e n6, fun e => absurd e n7, fun e => absurd e n8, fun _ _ _ _ _ _ _ _ _ => fin _ _ rfl⟩
  · refine ⟨fun z => absurd rfl z, fun _ => ?_⟩
    exact l_Model_told (s_Model_isVehicle hI (fun j hj ej => absurd ej (no j hj)) (fun _ => ⟨fun z => absurd rfl z, fun _ => fin _ _ rfl⟩))
