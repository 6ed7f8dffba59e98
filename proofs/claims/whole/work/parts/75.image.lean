/-! THE CALLS 14: image, back. -/
theorem s_Yard_become {E : XE} {d t u : Nat} {H : HH} {Q : HH → Prop} (ht : t < 2) (hu2 : u < 2) (hne : t ≠ u)
    (h : ∀ H1, (∀ k, k < 3 → H1 2 t k = H 2 u k) → (∀ j k, j < 4 → k < 7 → H1 3 (4 * t + j) k = H 3 (4 * u + j) k) → H1 1 t 2 = H 1 u 2 → (∀ a i k, ¬ (a = 2 ∧ i = t ∧ k < 3) → ¬ (a = 3 ∧ 4 * t ≤ i ∧ i < 4 * t + 4 ∧ k < 7) → ¬ (a = 1 ∧ i = t ∧ k = 2) → H1 a i k = H a i k) → Q H1) : c_Yard_become E (d + 1) t u H Q := by
  refine l_Yard_become (s_Lane_become (s_Vehicle_become (s_Vehicle_become (s_Vehicle_become (s_Vehicle_become (fun H6 e6 => ?_))))))
  generalize hH1 : hrow H 2 t (fun k => if k < 3 then H 2 u k else H 2 t k) = H1 at e6
  have f1 : ∀ a i k, ¬ (a = 2 ∧ i = t ∧ k < 3) → H1 a i k = H a i k := by
    intro a i k q
    rw [← hH1]
    unfold hrow
    by_cases c : a = 2 ∧ i = t
    · obtain ⟨rfl, rfl⟩ := c
      rw [if_pos ⟨rfl, rfl⟩, if_neg (fun z => q ⟨rfl, rfl, z⟩)]
    · rw [if_neg c]
  have g1 : ∀ k, k < 3 → H1 2 t k = H 2 u k := by
    intro k hk
    rw [← hH1, hrow_at, if_pos hk]
  have stp : ∀ (G : HH) (j : Nat), j < 4 → (∀ a i k, ¬ (a = 3 ∧ i = 4 * t + j ∧ k < 7) → hrow G 3 (4 * t + j) (fun k => if k < 7 then G 3 (4 * u + j) k else G 3 (4 * t + j) k) a i k = G a i k) ∧ ∀ k, k < 7 → hrow G 3 (4 * t + j) (fun k => if k < 7 then G 3 (4 * u + j) k else G 3 (4 * t + j) k) 3 (4 * t + j) k = G 3 (4 * u + j) k := by
    intro G j hj
    refine ⟨fun a i k q => ?_, fun k hk => by rw [hrow_at, if_pos hk]⟩
    unfold hrow
    by_cases c : a = 3 ∧ i = 4 * t + j
    · obtain ⟨rfl, rfl⟩ := c
      rw [if_pos ⟨rfl, rfl⟩, if_neg (fun z => q ⟨rfl, rfl, z⟩)]
    · rw [if_neg c]
  obtain ⟨f2, g2⟩ := stp H1 0 (by omega)
  generalize hH2 : hrow H1 3 (4 * t + 0) (fun k => if k < 7 then H1 3 (4 * u + 0) k else H1 3 (4 * t + 0) k) = H2 at e6 f2 g2
  clear hH2
  obtain ⟨f3, g3⟩ := stp H2 1 (by omega)
  generalize hH3 : hrow H2 3 (4 * t + 1) (fun k => if k < 7 then H2 3 (4 * u + 1) k else H2 3 (4 * t + 1) k) = H3 at e6 f3 g3
  clear hH3
  obtain ⟨f4, g4⟩ := stp H3 2 (by omega)
  generalize hH4 : hrow H3 3 (4 * t + 2) (fun k => if k < 7 then H3 3 (4 * u + 2) k else H3 3 (4 * t + 2) k) = H4 at e6 f4 g4
  clear hH4
  obtain ⟨f5, g5⟩ := stp H4 3 (by omega)
  generalize hH5 : hrow H4 3 (4 * t + 3) (fun k => if k < 7 then H4 3 (4 * u + 3) k else H4 3 (4 * t + 3) k) = H5 at e6 f5 g5
  clear hH5
  have hut : ¬ u = t := fun e => hne e.symm
  refine h H6 (fun k hk => ?_) (fun j k hj hk => ?_) ?_ (fun a i k q1 q2 q3 => ?_)
  · rw [e6, hu_ne (by omega), f5 _ _ _ (by omega), f4 _ _ _ (by omega), f3 _ _ _ (by omega), f2 _ _ _ (by omega)]; exact g1 k hk
  · rw [e6, hu_ne (by omega)]
    rcases (show j = 0 ∨ j = 1 ∨ j = 2 ∨ j = 3 by omega) with rfl | rfl | rfl | rfl
    · rw [f5 _ _ _ (by omega), f4 _ _ _ (by omega), f3 _ _ _ (by omega), g2 k hk, f1 _ _ _ (by omega)]
    · rw [f5 _ _ _ (by omega), f4 _ _ _ (by omega), g3 k hk, f2 _ _ _ (by omega), f1 _ _ _ (by omega)]
    · rw [f5 _ _ _ (by omega), g4 k hk, f3 _ _ _ (by omega), f2 _ _ _ (by omega), f1 _ _ _ (by omega)]
    · rw [g5 k hk, f4 _ _ _ (by omega), f3 _ _ _ (by omega), f2 _ _ _ (by omega), f1 _ _ _ (by omega)]
  · rw [e6, hu_at, f5 _ _ _ (by omega), f4 _ _ _ (by omega), f3 _ _ _ (by omega), f2 _ _ _ (by omega), f1 _ _ _ (by omega)]
  · rw [e6, hu_ne q3, f5 _ _ _ (by omega), f4 _ _ _ (by omega), f3 _ _ _ (by omega), f2 _ _ _ (by omega), f1 _ _ _ q1]
/-- slots of the state and of the image -/
def gS2 (a i k : Nat) : Prop := gS a i k ∨ (a = 1 ∧ i = 1 ∧ k = 2) ∨ (a = 2 ∧ i = 1) ∨ (a = 3 ∧ i < 8) ∨ ((a = 38 ∨ a = 39) ∧ i = 0) ∨ (a = 0 ∧ i = 0 ∧ k = 2) ∨ (a = 30 ∧ i = 0 ∧ k = 13)
theorem INV.gen2 {H H1 : HH} {s s2 : SN} (h : INV H s) (hf : ∀ a i k, ¬ scr a i k → ¬ gS2 a i k → H1 a i k = H a i k) (hok : snOK s2) (hC : piC H1 s2) (hR : piR H1 s2) (hV : piV H1 s2.nv s2.wd) (ht : s2.nt = s.nt) (hs : s2.ns ≤ s.ns) (hIm : piI H1 s2.nv s2.nt) : INV H1 s2 := by
  obtain ⟨i1, i2, i3, i4, i5, i6, i7, i8, i9⟩ := h
  obtain ⟨c1, c2, c3, c4, c5, c6, c7⟩ := i1
  have nv4 : s.nv ≤ 4 := c1
  have nt6 : s.nt ≤ 6 := c6
  refine ⟨hok, hC, hR, fun i hi => ?_, ⟨fun k hk => ?_, fun k hk => ?_, fun k hk => ?_⟩, hV, fun t ht2 => ?_, fun u hu => ?_, hIm⟩
  · rw [hf 35 0 i (by unfold scr; omega) (by unfold gS2 gS; omega), hf 7 0 i (by unfold scr; omega) (by unfold gS2 gS; omega)]; exact i4 i (by omega)
  · rw [hf 31 0 k (by unfold scr; omega) (by unfold gS2 gS; omega)]; exact i5.1 k hk
  · rw [hf 44 0 k (by unfold scr; omega) (by unfold gS2 gS; omega)]; exact i5.2.1 k hk
  · rw [hf 3 8 k (by unfold scr; omega) (by unfold gS2 gS; omega)]; exact i5.2.2 k hk
  · rw [ht] at ht2
    have e12 : H1 12 t = H 12 t := by funext k; exact hf 12 t k (by unfold scr; omega) (by unfold gS2 gS; omega)
    have e13 : H1 13 t = H 13 t := by funext k; exact hf 13 t k (by unfold scr; omega) (by unfold gS2 gS; omega)
    rw [e12, e13]
    exact (i7 t ht2).pt (fun k hk => hf 37 0 _ (by unfold scr; omega) (by unfold gS2 gS; omega)) (fun k hk => hf 36 0 _ (by unfold scr; omega) (by unfold gS2 gS; omega))
  · exact (i8 u hu).pt (fun k => hf 16 u k (by unfold scr; omega) (by unfold gS2 gS; omega)) (fun k => hf 17 u k (by unfold scr; omega) (by unfold gS2 gS; omega)) (hf 40 0 u (by unfold scr; omega) (by unfold gS2 gS; omega)) (hf 41 0 u (by unfold scr; omega) (by unfold gS2 gS; omega)) (fun k hk => hf 42 0 _ (by unfold scr; omega) (by unfold gS2 gS; omega))
/-- the first n of a row have been laid into another -/
def cpF (x y n : Nat) (H G : HH) : Prop := (∀ a i k, ¬ (a = x ∧ i = 0) → G a i k = H a i k) ∧ ∀ c, c < n → G x 0 c = H y 0 c
theorem cpF.step {x y n : Nat} {H G G2 : HH} (hxy : ¬ y = x) (h : cpF x y n H G) (e : G2 = hu G x 0 n (G y 0 n)) : cpF x y (n + 1) H G2 := by
  refine ⟨fun a i k q => ?_, fun c hc => ?_⟩
  · rw [e, hu_ne (by omega)]; exact h.1 a i k q
  · rw [e]
    by_cases cn : c = n
    · subst cn; rw [hu_at]; exact h.1 y 0 c (by omega)
    · rw [hu_k _ _ cn]; exact h.2 c (by omega)
theorem s_Model_image {E : XE} {d : Nat} {H : HH} {Q : Int32 → HH → Prop} (hq : ∀ H1, (∀ c, c < 20 → H1 38 0 c = H 34 0 c) → H1 30 0 13 = 1 → H1 39 0 0 = H 30 0 3 → H1 39 0 1 = H 30 0 1 → H1 39 0 2 = H 30 0 2 → H1 39 0 3 = H 30 0 12 → (∀ a i k, ¬ ((a = 38 ∨ a = 39) ∧ i = 0) → ¬ (a = 30 ∧ i = 0 ∧ k = 13) → H1 a i k = H a i k) → Q (H 30 0 3) H1) : c_Model_image E d H Q := by
  refine l_Model_image (fun H1 e1 H2 e2 H3 e3 H4 e4 H5 e5 H6 e6 H7 e7 H8 e8 H9 e9 H10 e10 H11 e11 H12 e12 H13 e13 H14 e14 H15 e15 H16 e16 H17 e17 H18 e18 H19 e19 H20 e20 H21 e21 H22 e22 H23 e23 H24 e24 H25 e25 => ?_)
  have p1 : cpF 38 34 0 H1 H1 := ⟨fun _ _ _ _ => rfl, fun c hc => absurd hc (Nat.not_lt_zero _)⟩
  have p2 := p1.step (by decide) e2
  have p3 := p2.step (by decide) e3
  have p4 := p3.step (by decide) e4
  have p5 := p4.step (by decide) e5
  have p6 := p5.step (by decide) e6
  have p7 := p6.step (by decide) e7
  have p8 := p7.step (by decide) e8
  have p9 := p8.step (by decide) e9
  have p10 := p9.step (by decide) e10
  have p11 := p10.step (by decide) e11
  have p12 := p11.step (by decide) e12
  have p13 := p12.step (by decide) e13
  have p14 := p13.step (by decide) e14
  have p15 := p14.step (by decide) e15
  have p16 := p15.step (by decide) e16
  have p17 := p16.step (by decide) e17
  have p18 := p17.step (by decide) e18
  have p19 := p18.step (by decide) e19
  have p20 := p19.step (by decide) e20
  have p21 := p20.step (by decide) e21
  have f1 : ∀ a i k, ¬ (a = 30 ∧ i = 0 ∧ k = 13) → H1 a i k = H a i k := by
    intro a i k q
    rw [e1, hu_ne q]
  have f25 : ∀ a i k, ¬ (a = 39 ∧ i = 0) → H25 a i k = H21 a i k := by
    intro a i k q
    rw [e25, hu_ne (by omega), e24, hu_ne (by omega), e23, hu_ne (by omega), e22, hu_ne (by omega)]
  have n3 : H25 30 0 3 = H 30 0 3 := by rw [f25 _ _ _ (by omega), p21.1 _ _ _ (by omega), f1 _ _ _ (by omega)]
  rw [n3]
  refine hq H25 (fun c hc => ?_) ?_ ?_ ?_ ?_ ?_ (fun a i k q1 q2 => ?_)
  · rw [f25 _ _ _ (by omega), p21.2 c hc, f1 _ _ _ (by omega)]
  · rw [f25 _ _ _ (by omega), p21.1 _ _ _ (by omega), e1, hu_at]
  · rw [e25, hu_ne (by omega), e24, hu_ne (by omega), e23, hu_ne (by omega), e22, hu_at, p21.1 _ _ _ (by omega), f1 _ _ _ (by omega)]
  · rw [e25, hu_ne (by omega), e24, hu_ne (by omega), e23, hu_at, e22, hu_ne (by omega), p21.1 _ _ _ (by omega), f1 _ _ _ (by omega)]
  · rw [e25, hu_ne (by omega), e24, hu_at, e23, hu_ne (by omega), e22, hu_ne (by omega), p21.1 _ _ _ (by omega), f1 _ _ _ (by omega)]
  · rw [e25, hu_at, e24, hu_ne (by omega), e23, hu_ne (by omega), e22, hu_ne (by omega), p21.1 _ _ _ (by omega), f1 _ _ _ (by omega)]
  · rw [f25 _ _ _ (by omega), p21.1 _ _ _ (by omega), f1 _ _ _ q2]
theorem s_Model_back {E : XE} {d : Nat} {H : HH} {Q : Int32 → HH → Prop} (h0 : H 30 0 13 = 0 → Q (-3) H) (h1 : ¬ H 30 0 13 = 0 → ∀ H1, (∀ c, c < 20 → H1 34 0 c = H 38 0 c) → H1 30 0 3 = H 39 0 0 → H1 30 0 1 = H 39 0 1 → H1 30 0 2 = H 39 0 2 → H1 30 0 12 = H 39 0 3 → (∀ a i k, ¬ (a = 34 ∧ i = 0) → ¬ (a = 30 ∧ i = 0 ∧ (k = 1 ∨ k = 2 ∨ k = 3 ∨ k = 12)) → H1 a i k = H a i k) → Q (H 39 0 0) H1) : c_Model_back E d H Q := by
  refine l_Model_back ⟨fun q => (fun H1 e1 H2 e2 H3 e3 H4 e4 H5 e5 H6 e6 H7 e7 H8 e8 H9 e9 H10 e10 H11 e11 H12 e12 H13 e13 H14 e14 H15 e15 H16 e16 H17 e17 H18 e18 H19 e19 H20 e20 H21 e21 H22 e22 H23 e23 H24 e24 => ?_), fun q => h0 q⟩
  have p0 : cpF 34 38 0 H H := ⟨fun _ _ _ _ => rfl, fun c hc => absurd hc (Nat.not_lt_zero _)⟩
  have p1 := p0.step (by decide) e1
  have p2 := p1.step (by decide) e2
  have p3 := p2.step (by decide) e3
  have p4 := p3.step (by decide) e4
  have p5 := p4.step (by decide) e5
  have p6 := p5.step (by decide) e6
  have p7 := p6.step (by decide) e7
  have p8 := p7.step (by decide) e8
  have p9 := p8.step (by decide) e9
  have p10 := p9.step (by decide) e10
  have p11 := p10.step (by decide) e11
  have p12 := p11.step (by decide) e12
  have p13 := p12.step (by decide) e13
  have p14 := p13.step (by decide) e14
  have p15 := p14.step (by decide) e15
  have p16 := p15.step (by decide) e16
  have p17 := p16.step (by decide) e17
  have p18 := p17.step (by decide) e18
  have p19 := p18.step (by decide) e19
  have p20 := p19.step (by decide) e20
  have n3 : H24 30 0 3 = H 39 0 0 := by rw [e24, hu_ne (by omega), e23, hu_ne (by omega), e22, hu_ne (by omega), e21, hu_at, p20.1 _ _ _ (by omega)]
  rw [n3]
  refine h1 q H24 (fun c hc => ?_) n3 ?_ ?_ ?_ (fun a i k q1 q2 => ?_)
  · rw [e24, hu_ne (by omega), e23, hu_ne (by omega), e22, hu_ne (by omega), e21, hu_ne (by omega)]; exact p20.2 c hc
  · rw [e24, hu_ne (by omega), e23, hu_ne (by omega), e22, hu_at, e21, hu_ne (by omega), p20.1 _ _ _ (by omega)]
  · rw [e24, hu_ne (by omega), e23, hu_at, e22, hu_ne (by omega), e21, hu_ne (by omega), p20.1 _ _ _ (by omega)]
  · rw [e24, hu_at, e23, hu_ne (by omega), e22, hu_ne (by omega), e21, hu_ne (by omega), p20.1 _ _ _ (by omega)]
  · rw [e24, hu_ne (by omega), e23, hu_ne (by omega), e22, hu_ne (by omega), e21, hu_ne (by omega)]; exact p20.1 a i k q1
theorem m_image {E : XE} {d d2 : Nat} {s : SN} {H : HH} (hI : INV H s) : c_Main_image E (d + 20) H (fun r H1 => c_Model_image E d2 H1 (eqI r)) := by
  have nv4 : s.nv ≤ 4 := hI.1.1
  obtain ⟨c1, c2, c3, c4, c5, c6, c7⟩ := hI.1
  obtain ⟨a1, a2, a3, a4, a5, a6⟩ := hI.2.1
  obtain ⟨b1, b2, b3, b4, b5, b6⟩ := hI.2.2.1
  refine l_Main_image (s_Yard_become (t := 1) (u := 0) (by decide) (by decide) (by decide) (fun H1 y1 y2 y3 y4 H2 e2 => ?_))
  have k2 : ∀ a i k, ¬ (a = 2 ∧ i = 1 ∧ k < 3) → ¬ (a = 3 ∧ 4 ≤ i ∧ i < 8 ∧ k < 7) → ¬ (a = 1 ∧ i = 1 ∧ k = 2) → ¬ (a = 0 ∧ i = 0 ∧ k = 2) → H2 a i k = H a i k := by
    intro a i k q1 q2 q3 q4
    rw [e2, hu_ne q4]; exact y4 a i k q1 (by omega) q3
  refine s_Model_image (fun H3 r1 r2 r3 r4 r5 r6 r7 => ⟨?_, s, ?_⟩)
  · rw [k2 30 0 3 (by omega) (by omega) (by omega) (by omega), k2 1 0 2 (by omega) (by omega) (by omega) (by omega), a1, b1]
  · have k3 : ∀ a i k, ¬ (a = 2 ∧ i = 1 ∧ k < 3) → ¬ (a = 3 ∧ 4 ≤ i ∧ i < 8 ∧ k < 7) → ¬ (a = 1 ∧ i = 1 ∧ k = 2) → ¬ (a = 0 ∧ i = 0 ∧ k = 2) → ¬ ((a = 38 ∨ a = 39) ∧ i = 0) → ¬ (a = 30 ∧ i = 0 ∧ k = 13) → H3 a i k = H a i k := by
      intro a i k q1 q2 q3 q4 q5 q6
      rw [r7 a i k q5 q6]; exact k2 a i k q1 q2 q3 q4
    have kc : ∀ a i k, a < 30 → H3 a i k = H2 a i k := fun a i k q => r7 a i k (by omega) (by omega)
    refine hI.gen2 (s2 := s) (fun a i k q1 q2 => k3 a i k (fun z => q2 (by unfold gS2 gS; omega)) (fun z => q2 (by unfold gS2 gS; omega)) (fun z => q2 (by unfold gS2 gS; omega)) (fun z => q2 (by unfold gS2 gS; omega)) (fun z => q2 (by unfold gS2 gS; omega)) (fun z => q2 (by unfold gS2 gS; omega))) hI.1 ?_ ?_ ?_ rfl (Nat.le_refl _) ?_
    · exact ⟨by rw [k3 _ _ _ (by omega) (by omega) (by omega) (by omega) (by omega) (by omega)]; exact a1, by rw [k3 _ _ _ (by omega) (by omega) (by omega) (by omega) (by omega) (by omega)]; exact a2, by rw [k3 _ _ _ (by omega) (by omega) (by omega) (by omega) (by omega) (by omega)]; exact a3, by rw [k3 _ _ _ (by omega) (by omega) (by omega) (by omega) (by omega) (by omega)]; exact a4, by rw [k3 _ _ _ (by omega) (by omega) (by omega) (by omega) (by omega) (by omega)]; exact a5, by rw [k3 _ _ _ (by omega) (by omega) (by omega) (by omega) (by omega) (by omega)]; exact a6⟩
    · exact ⟨by rw [k3 _ _ _ (by omega) (by omega) (by omega) (by omega) (by omega) (by omega)]; exact b1, by rw [k3 _ _ _ (by omega) (by omega) (by omega) (by omega) (by omega) (by omega)]; exact b2, by rw [k3 _ _ _ (by omega) (by omega) (by omega) (by omega) (by omega) (by omega)]; exact b3, by rw [k3 _ _ _ (by omega) (by omega) (by omega) (by omega) (by omega) (by omega)]; exact b4, by rw [k3 _ _ _ (by omega) (by omega) (by omega) (by omega) (by omega) (by omega)]; exact b5, by rw [k3 _ _ _ (by omega) (by omega) (by omega) (by omega) (by omega) (by omega)]; exact b6⟩
    · intro j hj
      have hj4 : j < 4 := by have : j < s.nv := hj; omega
      exact (hI.2.2.2.2.2.1 j hj).pt (fun k _ => k3 _ _ _ (by omega) (by omega) (by omega) (by omega) (by omega) (by omega)) (k3 _ _ _ (by omega) (by omega) (by omega) (by omega) (by omega) (by omega)) (k3 _ _ _ (by omega) (by omega) (by omega) (by omega) (by omega) (by omega)) (fun k _ => k3 _ _ _ (by omega) (by omega) (by omega) (by omega) (by omega) (by omega))
    · have h02 : H3 0 0 2 = 1 := by rw [kc 0 0 2 (by omega), e2, hu_at]
      refine ⟨by rw [h02, r2], Or.inr ⟨h02, (s.nv, s.wd, s.op, s.lw), Nat.le_refl _, c2, c3, c4, c5, ?_, ?_, ?_, ?_, ?_, ?_, ?_, ?_, fun j hj => ?_⟩⟩
      · rw [kc 1 1 2 (by omega), e2, hu_ne (by omega), y3]; exact a1
      · rw [kc 2 1 0 (by omega), e2, hu_ne (by omega), y1 0 (by omega)]; exact a2
      · rw [kc 2 1 1 (by omega), e2, hu_ne (by omega), y1 1 (by omega)]; exact a3
      · rw [kc 2 1 2 (by omega), e2, hu_ne (by omega), y1 2 (by omega)]; exact a4
      · rw [r3, k2 30 0 3 (by omega) (by omega) (by omega) (by omega)]; exact b1
      · rw [r4, k2 30 0 1 (by omega) (by omega) (by omega) (by omega)]; exact b2
      · rw [r5, k2 30 0 2 (by omega) (by omega) (by omega) (by omega)]; exact b3
      · rw [r6, k2 30 0 12 (by omega) (by omega) (by omega) (by omega)]; exact b4
      · have hj2 : j < s.nv := hj
        have hv := hI.2.2.2.2.2.1 j hj2
        have kv : ∀ k, k < 7 → H3 3 (4 + j) k = vM H j k := by
          intro k hk
          have := y2 j k (by omega) hk
          rw [kc 3 (4 + j) k (by omega), e2, hu_ne (by omega), this, show 4 * 0 + j = j by omega]
          exact (hv.1 k hk).symm
        have k0 : ∀ k, H3 3 j k = H 3 j k := fun k => k3 _ _ _ (by omega) (by omega) (by omega) (by omega) (by omega) (by omega)
        refine ⟨by rw [kv 0 (by omega), k0]; exact hv.1 0 (by omega), by rw [kv 1 (by omega), k0]; exact hv.1 1 (by omega), fun k hk => ?_, ?_⟩
        · rw [kv (k + 2) (by omega), r1 _ (by omega), k2 34 0 _ (by omega) (by omega) (by omega) (by omega)]
          rcases (show k = 0 ∨ k = 1 ∨ k = 2 ∨ k = 3 ∨ k = 4 by omega) with rfl | rfl | rfl | rfl | rfl <;> rfl
        · have e : (fun k => if k < 7 then H3 3 (4 + j) k else 0) = vM H j := by
            funext k
            by_cases c : k < 7
            · rw [if_pos c]; exact kv k c
            · rw [if_neg c]; exact (hv.2.2.2.2.2.2.2.2 k (by omega)).symm
          rw [e]
          exact hv.2
theorem m_back {E : XE} {d d2 : Nat} {s : SN} {H : HH} (hI : INV H s) : c_Main_back E (d + 20) H (fun r H1 => c_Model_back E d2 H1 (eqI r)) := by
  have nv4 : s.nv ≤ 4 := hI.1.1
  obtain ⟨c1, c2, c3, c4, c5, c6, c7⟩ := hI.1
  obtain ⟨a1, a2, a3, a4, a5, a6⟩ := hI.2.1
  obtain ⟨b1, b2, b3, b4, b5, b6⟩ := hI.2.2.1
  obtain ⟨im1, im2⟩ := hI.2.2.2.2.2.2.2.2
  refine l_Main_back ⟨fun q => ?_, fun q => ?_⟩
  · rcases im2 with e | ⟨e1, m, hm⟩
    · exact absurd e q
    · obtain ⟨m1, m2, m3, m4, m5, m6, m7, m8, m9, m10, m11, m12, m13, m14⟩ := id hm
      refine s_Yard_become (t := 0) (u := 1) (by decide) (by decide) (by decide) (fun H1 y1 y2 y3 y4 => ?_)
      have k1 : ∀ a i k, ¬ (a = 2 ∧ i = 0 ∧ k < 3) → ¬ (a = 3 ∧ i < 4 ∧ k < 7) → ¬ (a = 1 ∧ i = 0 ∧ k = 2) → H1 a i k = H a i k := fun a i k q1 q2 q3 => y4 a i k q1 (by omega) q3
      refine s_Model_back (fun z => absurd (by rw [← im1.trans (k1 30 0 13 (by omega) (by omega) (by omega)).symm] at z; exact z) q) (fun _ H3 r1 r3 r4 r5 r6 r7 => ⟨?_, (m.1, m.2.1, m.2.2.1, m.2.2.2, s.nt, s.ns), ?_⟩)
      · rw [k1 39 0 0 (by omega) (by omega) (by omega), y3, m6, m10]
      · have k3 : ∀ a i k, ¬ (a = 2 ∧ i = 0 ∧ k < 3) → ¬ (a = 3 ∧ i < 4 ∧ k < 7) → ¬ (a = 1 ∧ i = 0 ∧ k = 2) → ¬ (a = 34 ∧ i = 0) → ¬ (a = 30 ∧ i = 0 ∧ (k = 1 ∨ k = 2 ∨ k = 3 ∨ k = 12)) → H3 a i k = H a i k := by
          intro a i k q1 q2 q3 q4 q5
          rw [r7 a i k q4 q5]; exact k1 a i k q1 q2 q3
        have kc : ∀ a i k, a < 30 → H3 a i k = H1 a i k := fun a i k q => r7 a i k (by omega) (by omega)
        refine hI.gen2 (s2 := (m.1, m.2.1, m.2.2.1, m.2.2.2, s.nt, s.ns)) (fun a i k q1 q2 => k3 a i k (fun z => q2 (by unfold gS2 gS; omega)) (fun z => q2 (by unfold gS2 gS; omega)) (fun z => q2 (by unfold gS2 gS; omega)) (fun z => q2 (by unfold gS2 gS; omega)) (fun z => q2 (by unfold gS2 gS; omega))) ⟨by show m.1 ≤ 4; omega, m2, m3, m4, m5, c6, c7⟩ ?_ ?_ ?_ rfl (Nat.le_refl _) ?_
        · refine ⟨?_, ?_, ?_, ?_, by rw [k3 0 0 5 (by omega) (by omega) (by omega) (by omega) (by omega)]; exact a5, by rw [k3 6 0 1 (by omega) (by omega) (by omega) (by omega) (by omega)]; exact a6⟩
          · rw [kc 1 0 2 (by omega), y3]; exact m6
          · rw [kc 2 0 0 (by omega), y1 0 (by omega)]; exact m7
          · rw [kc 2 0 1 (by omega), y1 1 (by omega)]; exact m8
          · rw [kc 2 0 2 (by omega), y1 2 (by omega)]; exact m9
        · refine ⟨?_, ?_, ?_, ?_, by rw [k3 30 0 11 (by omega) (by omega) (by omega) (by omega) (by omega)]; exact b5, by rw [k3 30 0 8 (by omega) (by omega) (by omega) (by omega) (by omega)]; exact b6⟩
          · rw [r3, k1 39 0 0 (by omega) (by omega) (by omega)]; exact m10
          · rw [r4, k1 39 0 1 (by omega) (by omega) (by omega)]; exact m11
          · rw [r5, k1 39 0 2 (by omega) (by omega) (by omega)]; exact m12
          · rw [r6, k1 39 0 3 (by omega) (by omega) (by omega)]; exact m13
        · intro j hj
          have hj2 : j < m.1 := hj
          obtain ⟨n1, n2, n3, n4⟩ := m14 j hj2
          have hv := hI.2.2.2.2.2.1 j (by omega)
          have e3 : ∀ k, k < 7 → H3 3 j k = H 3 (4 + j) k := by
            intro k hk
            have := y2 j k (by omega) hk
            rw [show 4 * 0 + j = j by omega, show 4 * 1 + j = 4 + j by omega] at this
            rw [kc 3 j k (by omega)]; exact this
          have e34 : ∀ k, k < 5 → H3 34 0 (5 * j + k) = H 3 (4 + j) (k + 2) := by
            intro k hk
            rw [r1 _ (by omega), k1 38 0 _ (by omega) (by omega) (by omega)]; exact n3 k hk
          have e32 : H3 32 0 j = H 3 (4 + j) 0 := by
            rw [k3 32 0 j (by omega) (by omega) (by omega) (by omega) (by omega), n1]; exact hv.1 0 (by omega)
          have e33 : H3 33 0 j = H 3 (4 + j) 1 := by
            rw [k3 33 0 j (by omega) (by omega) (by omega) (by omega) (by omega), n2]; exact hv.1 1 (by omega)
          have ev : vM H3 j = (fun k => if k < 7 then H 3 (4 + j) k else 0) := by
            funext k
            match k with
            | 0 => exact e32
            | 1 => exact e33
            | 2 => exact e34 0 (by omega)
            | 3 => exact e34 1 (by omega)
            | 4 => exact e34 2 (by omega)
            | 5 => exact e34 3 (by omega)
            | 6 => exact e34 4 (by omega)
            | k + 7 => show (0 : Int32) = if k + 7 < 7 then _ else 0; rw [if_neg (by omega)]
          refine ⟨fun k hk => ?_, ?_⟩
          · rw [ev, e3 k hk]; show (if k < 7 then _ else _) = _; rw [if_pos hk]
          · rw [ev]; exact n4
        · have h02 : H3 0 0 2 = H 0 0 2 := k3 0 0 2 (by omega) (by omega) (by omega) (by omega) (by omega)
          refine ⟨by rw [h02, k3 30 0 13 (by omega) (by omega) (by omega) (by omega) (by omega)]; exact im1, Or.inr ⟨by rw [h02]; exact e1, m, ?_⟩⟩
          have kk : ∀ a i k, ¬ (a = 2 ∧ i = 0) → ¬ (a = 3 ∧ i < 4) → ¬ (a = 1 ∧ i = 0) → ¬ (a = 34) → ¬ (a = 30) → H3 a i k = H a i k := fun a i k q1 q2 q3 q4 q5 => k3 a i k (by omega) (by omega) (by omega) (by omega) (by omega)
          refine ⟨Nat.le_refl _, m2, m3, m4, m5, by rw [kk 1 1 2 (by omega) (by omega) (by omega) (by omega) (by omega)]; exact m6, by rw [kk 2 1 0 (by omega) (by omega) (by omega) (by omega) (by omega)]; exact m7, by rw [kk 2 1 1 (by omega) (by omega) (by omega) (by omega) (by omega)]; exact m8, by rw [kk 2 1 2 (by omega) (by omega) (by omega) (by omega) (by omega)]; exact m9, by rw [kk 39 0 0 (by omega) (by omega) (by omega) (by omega) (by omega)]; exact m10, by rw [kk 39 0 1 (by omega) (by omega) (by omega) (by omega) (by omega)]; exact m11, by rw [kk 39 0 2 (by omega) (by omega) (by omega) (by omega) (by omega)]; exact m12, by rw [kk 39 0 3 (by omega) (by omega) (by omega) (by omega) (by omega)]; exact m13, fun j hj => ?_⟩
          obtain ⟨n1, n2, n3, n4⟩ := m14 j hj
          have e4 : ∀ k, H3 3 (4 + j) k = H 3 (4 + j) k := fun k => kk _ _ _ (by omega) (by omega) (by omega) (by omega) (by omega)
          have e3 : ∀ k, k < 7 → H3 3 j k = H 3 (4 + j) k := by
            intro k hk
            have := y2 j k (by omega) hk
            rw [show 4 * 0 + j = j by omega, show 4 * 1 + j = 4 + j by omega] at this
            rw [kc 3 j k (by omega)]; exact this
          refine ⟨by rw [e4, e3 0 (by omega)], by rw [e4, e3 1 (by omega)], fun k hk => by rw [kk 38 0 _ (by omega) (by omega) (by omega) (by omega) (by omega), e4]; exact n3 k hk, ?_⟩
          have e : (fun k => if k < 7 then H3 3 (4 + j) k else 0) = (fun k => if k < 7 then H 3 (4 + j) k else 0) := by
            funext k
            rw [e4 k]
          rw [e]
          exact n4
  · exact s_Model_back (fun _ => eqI_sc hI scF.rf rfl) (fun z => absurd (im1.symm.trans q) z)
