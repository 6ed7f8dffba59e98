/-! THE CALLS 18: text. -/
def tfS (nt a i k : Nat) : Prop := (a = 0 ∧ i = 0 ∧ k = 5) ∨ (a = 6 ∧ i = 0 ∧ k = 1) ∨ (a = 30 ∧ i = 0 ∧ (k = 8 ∨ k = 11)) ∨ (a = 36 ∧ i = 0 ∧ 200 * nt ≤ k) ∨ (a = 37 ∧ i = 0 ∧ 4 * nt ≤ k) ∨ ((a = 11 ∨ a = 12 ∨ a = 13) ∧ i = nt)
theorem tfS.a {nt a i k : Nat} (h : ¬ tfS nt a i k) : ¬ (a = 0 ∧ i = 0 ∧ k = 5) := fun z => h (Or.inl z)
theorem tfS.b {nt a i k : Nat} (h : ¬ tfS nt a i k) : ¬ (a = 6 ∧ i = 0 ∧ k = 1) := fun z => h (Or.inr (Or.inl z))
theorem tfS.c {nt a i k : Nat} (h : ¬ tfS nt a i k) : ¬ (a = 30 ∧ i = 0 ∧ (k = 8 ∨ k = 11)) := fun z => h (Or.inr (Or.inr (Or.inl z)))
theorem tfS.d {nt a i k : Nat} (h : ¬ tfS nt a i k) : ¬ ((a = 11 ∨ a = 12 ∨ a = 13) ∧ i = nt) := fun z => h (Or.inr (Or.inr (Or.inr (Or.inr (Or.inr z)))))
theorem INV.tt {H H1 : HH} {s : SN} {nt2 : Nat} (h : INV H s) (hf : ∀ a i k, ¬ scr a i k → ¬ tfS s.nt a i k → H1 a i k = H a i k) (h5 : H1 0 0 5 = nI nt2) (h11 : H1 30 0 11 = nI nt2) (h61 : H1 6 0 1 = 0) (h8 : H1 30 0 8 = 0) (hn : nt2 ≤ 6) (hX : nt2 = s.nt ∨ (nt2 = s.nt + 1 ∧ msOK H1 s.nt (H1 12 s.nt) (H1 13 s.nt))) : INV H1 (s.nv, s.wd, s.op, s.lw, nt2, 0) := by
  obtain ⟨i1, i2, i3, i4, i5, i6, i7, i8, i9⟩ := h
  obtain ⟨c1, c2, c3, c4, c5, c6, c7⟩ := i1
  have nv4 : s.nv ≤ 4 := c1
  have nt6 : s.nt ≤ 6 := c6
  have nn : s.nt ≤ nt2 := by omega
  refine ⟨⟨c1, c2, c3, c4, Nat.lt_of_lt_of_le c5 nn, hn, Nat.zero_le _⟩, ?_, ?_, fun i hi => absurd hi (Nat.not_lt_zero _), ⟨fun k hk => ?_, fun k hk => ?_, fun k hk => ?_⟩, fun j hj => ?_, fun t ht => ?_, fun u hu => ?_, ?_, ?_⟩
  · obtain ⟨a1, a2, a3, a4, a5, a6⟩ := i2
    exact ⟨by rw [hf 1 0 2 (by unfold scr; omega) (by unfold tfS; omega)]; exact a1, by rw [hf 2 0 0 (by unfold scr; omega) (by unfold tfS; omega)]; exact a2, by rw [hf 2 0 1 (by unfold scr; omega) (by unfold tfS; omega)]; exact a3, by rw [hf 2 0 2 (by unfold scr; omega) (by unfold tfS; omega)]; exact a4, h5, h61⟩
  · obtain ⟨a1, a2, a3, a4, a5, a6⟩ := i3
    exact ⟨by rw [hf 30 0 3 (by unfold scr; omega) (by unfold tfS; omega)]; exact a1, by rw [hf 30 0 1 (by unfold scr; omega) (by unfold tfS; omega)]; exact a2, by rw [hf 30 0 2 (by unfold scr; omega) (by unfold tfS; omega)]; exact a3, by rw [hf 30 0 12 (by unfold scr; omega) (by unfold tfS; omega)]; exact a4, h11, h8⟩
  · rw [hf 31 0 k (by unfold scr; omega) (by unfold tfS; omega)]; exact i5.1 k hk
  · rw [hf 44 0 k (by unfold scr; omega) (by unfold tfS; omega)]; exact i5.2.1 k hk
  · rw [hf 3 8 k (by unfold scr; omega) (by unfold tfS; omega)]; exact i5.2.2 k hk
  · have hj2 : j < 4 := Nat.lt_of_lt_of_le hj nv4
    exact (i6 j hj).pt (fun k hk => hf 3 j k (by unfold scr; omega) (by unfold tfS; omega)) (hf 32 0 j (by unfold scr; omega) (by unfold tfS; omega)) (hf 33 0 j (by unfold scr; omega) (by unfold tfS; omega)) (fun k hk => hf 34 0 _ (by unfold scr; omega) (by unfold tfS; omega))
  · have ht2 : t < nt2 := ht
    by_cases e : t < s.nt
    · have e12 : H1 12 t = H 12 t := by funext k; exact hf 12 t k (by unfold scr; omega) (by unfold tfS; omega)
      have e13 : H1 13 t = H 13 t := by funext k; exact hf 13 t k (by unfold scr; omega) (by unfold tfS; omega)
      rw [e12, e13]
      exact (i7 t e).pt (fun k hk => hf 37 0 _ (by unfold scr; omega) (by unfold tfS; omega)) (fun k hk => hf 36 0 _ (by unfold scr; omega) (by unfold tfS; omega))
    · rcases hX with q | ⟨q, hm⟩
      · omega
      · have et : t = s.nt := by omega
        rw [et]; exact hm
  · exact (i8 u hu).pt (fun k => hf 16 u k (by unfold scr; omega) (by unfold tfS; omega)) (fun k => hf 17 u k (by unfold scr; omega) (by unfold tfS; omega)) (hf 40 0 u (by unfold scr; omega) (by unfold tfS; omega)) (hf 41 0 u (by unfold scr; omega) (by unfold tfS; omega)) (fun k hk => hf 42 0 _ (by unfold scr; omega) (by unfold tfS; omega))
  · rw [hf 0 0 2 (by unfold scr; omega) (by unfold tfS; omega), hf 30 0 13 (by unfold scr; omega) (by unfold tfS; omega)]; exact i9.1
  · rw [hf 0 0 2 (by unfold scr; omega) (by unfold tfS; omega)]
    rcases i9.2 with e | ⟨e, m, hm⟩
    · exact Or.inl e
    · exact Or.inr ⟨e, m, hm.pt (Nat.le_refl _) nn (hf 1 1 2 (by unfold scr; omega) (by unfold tfS; omega)) (fun k => hf 2 1 k (by unfold scr; omega) (by unfold tfS; omega)) (fun k => hf 39 0 k (by unfold scr; omega) (by unfold tfS; omega)) (fun k => hf 38 0 k (by unfold scr; omega) (by unfold tfS; omega)) (fun j hj => ⟨hf 3 j 0 (by unfold scr; omega) (by unfold tfS; omega), hf 3 j 1 (by unfold scr; omega) (by unfold tfS; omega)⟩) (fun j k hj => hf 3 (4 + j) k (by unfold scr; omega) (by unfold tfS; omega))⟩
-- codes and how deep
theorem lds_cd {code : Nat → Int32} {a : Nat} : ∀ (zs : List Int32) (D k D2 : Nat), (∀ i, i < zs.length → code (a + k + i) = zs.getD i 0) → cdep code a k = some D → lds D zs = some D2 → cdep code a (k + zs.length) = some D2 := by
  intro zs
  induction zs with
  | nil => intro D k D2 _ h1 h2; cases h2; exact h1
  | cons c cs ih =>
    intro D k D2 hc h1 h2
    have c0 : code (a + k) = c := hc 0 (by simp)
    have h3 : (match cd1 c D with | some D3 => lds D3 cs | none => none) = some D2 := h2
    cases e : cd1 c D with
    | none => rw [e] at h3; cases h3
    | some D3 =>
      rw [e] at h3
      have h4 : cdep code a (k + 1) = some D3 := by
        show (match cdep code a k with | some d => cd1 (code (a + k)) d | none => none) = some D3
        rw [h1, c0]; exact e
      have h5 := ih D3 (k + 1) D2 (fun i hi => by
        have z := hc (i + 1) (by simp; omega)
        rw [show a + (k + 1) + i = a + k + (i + 1) by omega, z]; rfl) h4 h3
      rw [show k + (c :: cs).length = k + 1 + cs.length by simp; omega]
      exact h5
theorem getD_r {xs ys : List Int32} (i : Nat) : (xs ++ ys).getD (xs.length + i) 0 = ys.getD i 0 := by
  rw [List.getD_eq_getElem?_getD, List.getD_eq_getElem?_getD, List.getElem?_append_right (by omega), show xs.length + i - xs.length = i by omega]
theorem getD_l {xs ys : List Int32} {i : Nat} (h : i < xs.length) : (xs ++ ys).getD i 0 = xs.getD i 0 := by
  rw [List.getD_eq_getElem?_getD, List.getD_eq_getElem?_getD, List.getElem?_append_left h]
/-- the new text stands on both sides -/
theorem ms_new {H : HH} {nt : Nat} {code ends : Nat → Int32} {o1 o2 o3 y2 y3 : List Int32} (hc : ∀ i, i < o3.length → code i = o3.getD i 0) (e0 : ends 0 = nI o1.length) (e1 : ends 1 = nI o2.length) (e2 : ends 2 = nI o3.length) (h160 : o3.length ≤ 160) (g1 : gdS o1) (q2 : o2 = o1 ++ y2) (q3 : o3 = o2 ++ y3) (g2 : gdS y2) (g3 : gdS y3)
    (s0 : H 37 0 (4 * nt) = 0) (s1 : H 37 0 (4 * nt + 1) = nI o1.length) (s2 : H 37 0 (4 * nt + 2) = nI o2.length) (s3 : H 37 0 (4 * nt + 3) = nI o3.length) (hm : ∀ i, i < o3.length → H 36 0 (200 * nt + i) = mcv (o3.getD i 0)) : msOK H nt code ends := by
  have l2 : o2.length = o1.length + y2.length := by rw [q2, List.length_append]
  have l3 : o3.length = o2.length + y3.length := by rw [q3, List.length_append]
  have cm : ∀ i, i < o3.length → H 36 0 (200 * nt + i) = mcv (code i) := fun i hi => by rw [hc i hi]; exact hm i hi
  have zz : ∀ (a : Nat) (zs : List Int32), gdS zs → (∀ i, i < zs.length → code (a + i) = zs.getD i 0) → cdep code a zs.length = some 1 := by
    intro a zs g h
    have := lds_cd (code := code) (a := a) zs 0 0 1 (fun i hi => by rw [Nat.add_zero]; exact h i hi) rfl (g 0)
    rw [Nat.zero_add] at this; exact this
  intro p hp
  rcases (show p = 0 ∨ p = 1 ∨ p = 2 by omega) with rfl | rfl | rfl
  · refine ⟨0, o1.length, ⟨e0, fun _ => rfl, fun z => absurd z (by decide), Nat.zero_le _, by omega, ?_⟩, s0, s1, fun k hk => cm k (by omega)⟩
    rw [Nat.sub_zero]
    refine zz 0 o1 g1 (fun i hi => ?_)
    rw [Nat.zero_add, hc i (by omega), q3, getD_l (by omega), q2, getD_l hi]
  · refine ⟨o1.length, o2.length, ⟨e1, fun z => absurd z (by decide), fun _ => e0, by omega, by omega, ?_⟩, s1, s2, fun k hk => cm k (by omega)⟩
    rw [show o2.length - o1.length = y2.length by omega]
    refine zz o1.length y2 g2 (fun i hi => ?_)
    rw [hc _ (by omega), q3, getD_l (by omega), q2, getD_r]
  · refine ⟨o2.length, o3.length, ⟨e2, fun z => absurd z (by decide), fun _ => e1, by omega, by omega, ?_⟩, s2, s3, fun k hk => cm k hk⟩
    rw [show o3.length - o2.length = y3.length by omega]
    refine zz o2.length y3 g3 (fun i hi => ?_)
    rw [hc _ (by omega), q3, getD_r]
theorem fpF_scr {a i k : Nat} (h : ¬ scr a i k) : ¬ fpF a i k := by
  rintro ((z | z | z | z) | (z | z | z) | z)
  · exact h (by unfold scr; omega)
  · exact h (by unfold scr; omega)
  · exact h (by unfold scr; omega)
  · exact h (by unfold scr; omega)
  · exact h (by unfold scr; omega)
  · exact h (by unfold scr; omega)
  · exact h (by unfold scr; omega)
  · exact h (by unfold scr; omega)
theorem txF_scr {nt a i k : Nat} (h : ¬ scr a i k) (h2 : ¬ tfS nt a i k) : ¬ txF nt a i k := by
  rintro ((z | z | z) | z)
  · exact h (by unfold scr; omega)
  · exact h (by unfold scr; omega)
  · exact h2 (Or.inr (Or.inr (Or.inr (Or.inl z))))
  · exact h2 (Or.inr (Or.inr (Or.inr (Or.inr (Or.inl z)))))
/-- the reference reads it so, too -/
theorem tx_good {E : XE} {d2 : Nat} {s : SN} {H H7 : HH} {o1 o2 o3 y2 y3 : List Int32} (hI : INV H s) (n5 : s.nt ≤ 5) (ty : txY (kT (H 7 0) s.ns) (vT (H 7 0) s.ns) o1 o2 o3) (f7 : ∀ a i k, ¬ fpF a i k → ¬ tfS s.nt a i k → H7 a i k = H a i k) (n11 : H7 30 0 11 = nI s.nt) (n8 : H7 30 0 8 = nI s.ns) (n61 : H7 6 0 1 = 0) (n05 : H7 0 0 5 = nI (s.nt + 1)) (k12 : ∀ i, i < o3.length → H7 12 s.nt i = o3.getD i 0) (k0 : H7 13 s.nt 0 = nI o1.length) (k1 : H7 13 s.nt 1 = nI o2.length) (k2 : H7 13 s.nt 2 = nI o3.length) (l160 : o3.length ≤ 160) (g1 : gdS o1) (q2 : o2 = o1 ++ y2) (q3 : o3 = o2 ++ y3) (g2 : gdS y2) (g3 : gdS y3) : c_Model_text E (d2 + 20) H7 (eqI (nI s.nt)) := by
  have ns160 : s.ns ≤ 160 := hI.1.2.2.2.2.2.2
  have hT := hI.2.2.2.1
  have hK := hI.2.2.2.2.1.2.1
  have s7 : H7 7 0 = H 7 0 := by funext k; exact f7 7 0 k (by unfold fpF tkF rdF; omega) (by unfold tfS; omega)
  refine s_Model_text (d := d2 + 15) (n := s.ns) n11 (by omega) n8 ns160 (fun k hk => by rw [f7 44 0 k (by unfold fpF tkF rdF; omega) (by unfold tfS; omega)]; exact hK k hk) (fun i hi => by rw [s7, f7 35 0 i (by unfold fpF tkF rdF; omega) (by unfold tfS; omega)]; exact (hT i hi).1) ?_ ?_
  · intro G2 p1 p2 p3 ty2 hf2 w8 w11 w0 w1 w2 w3 wc
    rw [s7] at ty2
    obtain ⟨rfl, rfl, rfl⟩ := txY_det ty ty2
    have fr : ∀ a i k, ¬ scr a i k → ¬ tfS s.nt a i k → G2 a i k = H a i k := fun a i k h1 h2 => by
      rw [hf2 a i k (txF_scr h1 h2) (tfS.c h2)]
      exact f7 a i k (fpF_scr h1) h2
    have x05 : G2 0 0 5 = nI (s.nt + 1) := by rw [hf2 0 0 5 (by unfold txF erF; omega) (by omega)]; exact n05
    have x61 : G2 6 0 1 = 0 := by rw [hf2 6 0 1 (by unfold txF erF; omega) (by omega)]; exact n61
    have x12 : ∀ i, i < o3.length → G2 12 s.nt i = o3.getD i 0 := fun i hi => by rw [hf2 12 s.nt i (by unfold txF erF; omega) (by omega)]; exact k12 i hi
    have x13 : ∀ i, G2 13 s.nt i = H7 13 s.nt i := fun i => hf2 13 s.nt i (by unfold txF erF; omega) (by omega)
    exact ⟨rfl, _, hI.tt (nt2 := s.nt + 1) fr x05 w11 x61 w8 (by omega) (Or.inr ⟨rfl, ms_new (o1 := o1) (o2 := o2) (o3 := o3) (y2 := y2) (y3 := y3) x12 (by rw [x13]; exact k0) (by rw [x13]; exact k1) (by rw [x13]; exact k2) l160 g1 q2 q3 g2 g3 w0 w1 w2 w3 wc⟩)⟩
  · intro G2 tf tn _ _ _
    rw [s7] at tn
    exact absurd tn (fun z => txYN ty z)
theorem tx_bad {E : XE} {d2 tf : Nat} {s : SN} {H H5 : HH} (hI : INV H s) (n5 : s.nt ≤ 5) (tn : txN (kT (H 7 0) s.ns) (vT (H 7 0) s.ns) tf) (f5 : ∀ a i k, ¬ fpF a i k → ¬ (a = 6 ∧ i = 0 ∧ k = 1) → H5 a i k = H a i k) (x61 : H5 6 0 1 = 0) : c_Model_text E (d2 + 20) H5 (eqI (-100 - nI (sT (H 7 0) s.ns tf))) := by
  have nt6 : s.nt ≤ 6 := hI.1.2.2.2.2.2.1
  have ns160 : s.ns ≤ 160 := hI.1.2.2.2.2.2.2
  have e05 : H 0 0 5 = nI s.nt := hI.2.1.2.2.2.2.1
  have e11 : H 30 0 11 = nI s.nt := hI.2.2.1.2.2.2.2.1
  have e8 : H 30 0 8 = nI s.ns := hI.2.2.1.2.2.2.2.2
  have hT := hI.2.2.2.1
  have hK := hI.2.2.2.2.1.2.1
  have s7 : H5 7 0 = H 7 0 := by funext k; exact f5 7 0 k (by unfold fpF tkF rdF; omega) (by omega)
  refine s_Model_text (d := d2 + 15) (n := s.ns) (nt := s.nt) (by rw [f5 30 0 11 (by unfold fpF tkF rdF; omega) (by omega)]; exact e11) (by omega) (by rw [f5 30 0 8 (by unfold fpF tkF rdF; omega) (by omega)]; exact e8) ns160 (fun k hk => by rw [f5 44 0 k (by unfold fpF tkF rdF; omega) (by omega)]; exact hK k hk) (fun i hi => by rw [s7, f5 35 0 i (by unfold fpF tkF rdF; omega) (by omega)]; exact (hT i hi).1) ?_ ?_
  · intro G2 p1 p2 p3 ty2 _ _ _ _ _ _ _ _
    rw [s7] at ty2
    exact absurd tn (fun z => txYN ty2 z)
  · intro G2 tf2 tn2 hf2 w8 w11
    rw [s7] at tn2 ⊢
    have et := txN_det tn tn2
    subst et
    have fr : ∀ a i k, ¬ scr a i k → ¬ tfS s.nt a i k → G2 a i k = H a i k := fun a i k h1 h2 => by
      rw [hf2 a i k (txF_scr h1 h2) (tfS.c h2)]
      exact f5 a i k (fpF_scr h1) (tfS.b h2)
    have x05 : G2 0 0 5 = nI s.nt := by rw [hf2 0 0 5 (by unfold txF erF; omega) (by omega), f5 0 0 5 (by unfold fpF tkF rdF; omega) (by omega)]; exact e05
    have y61 : G2 6 0 1 = 0 := by rw [hf2 6 0 1 (by unfold txF erF; omega) (by omega)]; exact x61
    exact ⟨rfl, _, hI.tt (nt2 := s.nt) fr x05 w11 y61 w8 nt6 (Or.inl rfl)⟩
/-- the class keeps the text that it has read -/
theorem tx_become {E : XE} {d2 d : Nat} {s : SN} {H G : HH} {o1 o2 o3 : List Int32} (hI : INV H s) (n5 : s.nt ≤ 5) (ty : txY (kT (H 7 0) s.ns) (vT (H 7 0) s.ns) o1 o2 o3) (hf : ∀ a i k, ¬ fpF a i k → G a i k = H a i k) (hd : drS G o1 o2 o3) : c_Text_become E (d + 1) s.nt 6 (hu G 6 0 1 0) (fun H6 => ∀ H7 : HH, H7 = (hu H6 0 0 5 ((H6 0 0 5) + 1)) → c_Model_text E (d2 + 20) H7 (eqI ((H7 0 0 5) - 1))) := by
  have e05 : H 0 0 5 = nI s.nt := hI.2.1.2.2.2.2.1
  have e11 : H 30 0 11 = nI s.nt := hI.2.2.1.2.2.2.2.1
  have e8 : H 30 0 8 = nI s.ns := hI.2.2.1.2.2.2.2.2
  obtain ⟨k11, k12, k0, k1, k2, l160, g1, y2, y3, q2, q3, g2, g3⟩ := hd
  generalize e5 : hu G 6 0 1 0 = H5
  have f5 : ∀ a i k, ¬ fpF a i k → ¬ (a = 6 ∧ i = 0 ∧ k = 1) → H5 a i k = H a i k := fun a i k q1 q2 => by rw [← e5, hu_ne q2]; exact hf a i k q1
  refine l_Text_become (fun H1 b1 H2 b2 H3 b3 H7 e7 => ?_)
  have lo : ∀ a i k, a ≠ 11 → a ≠ 12 → a ≠ 13 → H3 a i k = H5 a i k := fun a i k h1 h2 h3 => by rw [b3, hrow_kd _ _ _ h3, b2, hrow_kd _ _ _ h2, b1, hu_ne (fun z => h1 z.1)]
  have n6 : H3 0 0 5 = nI s.nt := by rw [lo 0 0 5 (by decide) (by decide) (by decide), f5 0 0 5 (by unfold fpF tkF rdF; omega) (by omega)]; exact e05
  rw [n6, nI_1] at e7
  have r7 : H7 0 0 5 - 1 = nI s.nt := by rw [e7, hu_at, nI_pred]
  rw [r7]
  have f7 : ∀ a i k, ¬ fpF a i k → ¬ tfS s.nt a i k → H7 a i k = H a i k := by
    intro a i k h1 h2
    have hd2 := tfS.d h2
    rw [e7, hu_ne (tfS.a h2), b3]
    have z1 : H1 a i k = H a i k := by rw [b1, hu_ne (fun z => hd2 ⟨Or.inl z.1, z.2.1⟩)]; exact f5 a i k h1 (tfS.b h2)
    have z2 : H2 a i k = H a i k := by
      rw [b2]
      by_cases c : a = 12
      · subst c; rw [hrow_ix _ _ (fun z => hd2 ⟨Or.inr (Or.inl rfl), z⟩)]; exact z1
      · rw [hrow_kd _ _ _ c]; exact z1
    by_cases c : a = 13
    · subst c; rw [hrow_ix _ _ (fun z => hd2 ⟨Or.inr (Or.inr rfl), z⟩)]; exact z2
    · rw [hrow_kd _ _ _ c]; exact z2
  have k12' : ∀ i, i < o3.length → H7 12 s.nt i = o3.getD i 0 := by
    intro i hi
    rw [e7, hu_ne (by omega), b3, hrow_kd _ _ _ (by decide), b2, hrow_at, sb_cpy0 (by omega), b1, hu_ne (by omega), ← e5, hu_ne (by omega)]
    exact k12 i hi
  have k13' : ∀ i, i < 3 → H7 13 s.nt i = G 13 6 i := by
    intro i hi
    rw [e7, hu_ne (by omega), b3, hrow_at, sb_cpy0 hi, b2, hrow_kd _ _ _ (by decide), b1, hu_ne (by omega), ← e5, hu_ne (by omega)]
  refine tx_good hI n5 ty f7 ?_ ?_ ?_ (by rw [e7, hu_at]) k12' (by rw [k13' 0 (by omega)]; exact k0) (by rw [k13' 1 (by omega)]; exact k1) (by rw [k13' 2 (by omega)]; exact k2) l160 g1 q2 q3 g2 g3
  · rw [e7, hu_ne (by omega), lo 30 0 11 (by decide) (by decide) (by decide), f5 30 0 11 (by unfold fpF tkF rdF; omega) (by omega)]; exact e11
  · rw [e7, hu_ne (by omega), lo 30 0 8 (by decide) (by decide) (by decide), f5 30 0 8 (by unfold fpF tkF rdF; omega) (by omega)]; exact e8
  · rw [e7, hu_ne (by omega), lo 6 0 1 (by decide) (by decide) (by decide), ← e5, hu_at]
theorem m_text {E : XE} {d d2 : Nat} {s : SN} {H : HH} (hI : INV H s) : c_Main_text E (d + 60) H (fun r H1 => c_Model_text E (d2 + 20) H1 (eqI r)) := by
  have nt6 : s.nt ≤ 6 := hI.1.2.2.2.2.2.1
  have ns160 : s.ns ≤ 160 := hI.1.2.2.2.2.2.2
  have e05 : H 0 0 5 = nI s.nt := hI.2.1.2.2.2.2.1
  have e61 : H 6 0 1 = nI s.ns := hI.2.1.2.2.2.2.2
  have e11 : H 30 0 11 = nI s.nt := hI.2.2.1.2.2.2.2.1
  have hT := hI.2.2.2.1
  refine l_Main_text ?_
  unfold p_Main_text
  rw [e05]
  refine s_Main_isWithin (fun a1 a2 => ⟨fun _ => ?_, fun z => absurd z (by decide)⟩) (fun a => ⟨fun z => absurd rfl z, fun _ => ?_⟩)
  · have n5 : s.nt ≤ 5 := by rw [show (5 : Int32) = nI 5 from rfl, nI_leI (by omega) (by omega)] at a2; exact a2
    refine s_Reader_faultOfTape (d := d + 12) e61 ns160 (fun i hi => (hT i hi).2) ?_ ?_
    · intro G o1 o2 o3 ty hf hd
      refine l_Tape_clear (fun H5 e5 => ⟨fun _ => ?_, fun z => absurd rfl z⟩)
      subst e5
      have n05 : hu G 6 0 1 0 0 0 5 = nI s.nt := by rw [hu_ne (by omega), hf 0 0 5 (by unfold fpF tkF rdF; omega)]; exact e05
      rw [n05, nI_clamp (by omega)]
      exact ⟨vp_in_nI (by omega) (by omega), tx_become (d := d + 58) hI n5 ty hf hd⟩
    · intro G tf tn tfn hf
      have sle := @sT_le (H 7 0) s.ns tf
      refine l_Tape_clear (fun H5 e5 => ⟨fun z => absurd z (nI_n1 (by omega)), fun _ => ?_⟩)
      subst e5
      exact tx_bad hI n5 tn (fun a i k q1 q2 => by rw [hu_ne q2]; exact hf a i k q1) (hu_at _ _ _ _ _)
  · have e6 : s.nt = 6 := by
      by_cases c : s.nt = 6
      · exact c
      · exact absurd ⟨nI_pos' (by omega), by rw [show (5 : Int32) = nI 5 from rfl, nI_leI (by omega) (by omega)]; omega⟩ a
    refine l_Model_text ?_
    unfold p_Model_text
    rw [e11, e6]
    exact ⟨fun z => absurd rfl z, fun _ => eqI_sc hI scF.rf rfl⟩
