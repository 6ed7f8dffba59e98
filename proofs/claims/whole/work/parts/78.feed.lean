/-! THE CALLS 17: feed. -/
theorem INV.tp {H H1 : HH} {s : SN} {ns : Nat} (h : INV H s) (hf : ∀ a i k, ¬ scr a i k → ¬ (a = 7 ∨ a = 35) → ¬ (a = 6 ∧ i = 0 ∧ k = 1) → ¬ (a = 30 ∧ i = 0 ∧ k = 8) → H1 a i k = H a i k) (hn : ns ≤ 160) (h6 : H1 6 0 1 = nI ns) (h8 : H1 30 0 8 = nI ns) (hT : piT H1 ns) : INV H1 (s.nv, s.wd, s.op, s.lw, s.nt, ns) := by
  have key : INV (fun a => if a = 7 ∨ a = 35 then H a else if a = 6 then (fun i k => if i = 0 ∧ k = 1 then H 6 i k else H1 6 i k) else if a = 30 then (fun i k => if i = 0 ∧ k = 8 then H 30 i k else H1 30 i k) else H1 a) s := by
    refine h.sc (fun a i k q => ?_)
    show (if a = 7 ∨ a = 35 then H a else if a = 6 then (fun i k => if i = 0 ∧ k = 1 then H 6 i k else H1 6 i k) else if a = 30 then (fun i k => if i = 0 ∧ k = 8 then H 30 i k else H1 30 i k) else H1 a) i k = H a i k
    by_cases c : a = 7 ∨ a = 35
    · rw [if_pos c]
    · rw [if_neg c]
      by_cases c6 : a = 6
      · subst c6
        rw [if_pos rfl]
        by_cases c1 : i = 0 ∧ k = 1
        · simp only [if_pos c1]
        · simp only [if_neg c1]; exact hf 6 i k q (by omega) (by omega) (by omega)
      · rw [if_neg c6]
        by_cases c30 : a = 30
        · subst c30
          rw [if_pos rfl]
          by_cases c1 : i = 0 ∧ k = 8
          · simp only [if_pos c1]
          · simp only [if_neg c1]; exact hf 30 i k q (by omega) (by omega) (by omega)
        · rw [if_neg c30]; exact hf a i k q c (by omega) (by omega)
  obtain ⟨⟨c1, c2, c3, c4, c5, c6, c7⟩, ⟨a1, a2, a3, a4, a5, a6⟩, ⟨b1, b2, b3, b4, b5, b6⟩, i4, i5, i6, i7, i8, i9⟩ := key
  exact ⟨⟨c1, c2, c3, c4, c5, c6, hn⟩, ⟨a1, a2, a3, a4, a5, h6⟩, ⟨b1, b2, b3, b4, b5, h8⟩, hT, i5, i6, i7, i8, i9⟩
/-- the class's tape has k bytes more -/
def fdC (H : HH) (ns : Nat) (b : Nat → Int32) (k : Nat) (G : HH) : Prop := G 6 0 1 = nI (ns + k) ∧ (∀ c, c < k → G 7 0 (ns + c) = b c) ∧ (∀ c, c < ns → G 7 0 c = H 7 0 c) ∧ ∀ a i c, ¬ (a = 7) → ¬ (a = 6 ∧ i = 0 ∧ c = 1) → G a i c = H a i c
theorem s_Tape_add {E : XE} {d ns k : Nat} {b : Nat → Int32} {x : Int32} {H G : HH} {Q : HH → Prop} (h : fdC H ns b k G) (hn : ns + k < 160) (hx : x = b k) (hq : ∀ G2, fdC H ns b (k + 1) G2 → Q G2) : c_Tape_add E d x G Q := by
  obtain ⟨h1, h2, h3, h4⟩ := h
  refine l_Tape_add ?_
  unfold p_Tape_add
  rw [h1]
  refine ⟨fun _ => ⟨vp_in_nI hn (by omega), fun H1 e1 H2 e2 => ?_⟩, fun q => absurd (nI_lt (b := 160) hn (by omega)) q⟩
  rw [nI_clamp (by omega)] at e1
  have k1 : H1 6 0 1 = nI (ns + k) := by rw [e1, hu_ne (by omega)]; exact h1
  rw [k1, nI_1] at e2
  refine hq H2 ⟨by rw [e2, hu_at]; rfl, fun c hc => ?_, fun c hc => ?_, fun a i c q1 q2 => ?_⟩
  · rw [e2, hu_ne (by omega), e1]
    by_cases e : c = k
    · rw [e, hu_at]; exact hx
    · rw [hu_ne (by omega)]; exact h2 c (by omega)
  · rw [e2, hu_ne (by omega), e1, hu_ne (by omega)]; exact h3 c hc
  · rw [e2, hu_ne q2, e1, hu_ne (by omega)]; exact h4 a i c q1 q2
theorem s_Main_isByteN {E : XE} {d : Nat} {v : Int32} {H : HH} {Q : Int32 → HH → Prop} (h1 : (0 ≤ v ∧ v ≤ 255) → Q 1 H) (h0 : ¬ (0 ≤ v ∧ v ≤ 255) → Q 0 H) : c_Main_isByte E (d + 1) v H Q := s_Main_isByte (fun a b => h1 ⟨a, b⟩) h0
theorem s_Model_isByteN {E : XE} {d : Nat} {v : Int32} {H : HH} {Q : Int32 → HH → Prop} (h1 : (0 ≤ v ∧ v ≤ 255) → Q 1 H) (h0 : ¬ (0 ≤ v ∧ v ≤ 255) → Q 0 H) : c_Model_isByte E (d + 1) v H Q := l_Model_isByte (s_Model_in (fun a b => ⟨Or.inr rfl, h1 ⟨a, b⟩⟩) (fun q => ⟨Or.inl rfl, h0 q⟩))
theorem m_feed {E : XE} {d d2 : Nat} {x1 x2 x3 x4 x5 x6 : Int32} {s : SN} {H : HH} (hI : INV H s) : c_Main_feed E (d + 20) x1 x2 x3 x4 x5 x6 H (fun r H1 => c_Model_feed E (d2 + 20) x1 x2 x3 x4 x5 x6 H1 (eqI r)) := by
  have ok : ∀ r r2 : Int32, r2 = r → eqI r r2 H := fun r r2 e => eqI_sc hI scF.rf e
  have ns160 : s.ns ≤ 160 := hI.1.2.2.2.2.2.2
  have h6 : H 6 0 1 = nI s.ns := hI.2.1.2.2.2.2.2
  have h8 : H 30 0 8 = nI s.ns := hI.2.2.1.2.2.2.2.2
  let B : Int32 → Prop := fun v => 0 ≤ v ∧ v ≤ 255
  -- past the checks of the numbers, the reference
  have md0 : ∀ (H1 : HH) (r : Int32), (¬ ((1 ≤ x1 ∧ x1 ≤ 5) ∧ B x2 ∧ B x3 ∧ B x4 ∧ B x5 ∧ B x6) → eqI r (-2) H1) → (((1 ≤ x1 ∧ x1 ≤ 5) ∧ B x2 ∧ B x3 ∧ B x4 ∧ B x5 ∧ B x6) → ((((H1 30 0 8) + x1) ≤ 160 → (∃ (I13 : Int32 → HH → Prop) (μ13 : Int32 → HH → Nat), I13 0 H1 ∧ ∀ (z14 : Int32) (H15 : HH), I13 z14 H15 → ((x1 ≤ z14 → (eqI r (H15 30 0 8) H15)) ∧ (¬ x1 ≤ z14 → (vp_in (H15 30 0 8) 160 ∧ (∀ H20 : HH, H20 = (hu H15 35 0 ((H15 30 0 8).toNatClampNeg) (if z14 = 0 then x2 else (if z14 = 1 then x3 else (if z14 = 2 then x4 else (if z14 = 3 then x5 else x6 : Int32) : Int32) : Int32) : Int32)) → (∀ H21 : HH, H21 = (hu H20 30 0 8 ((H20 30 0 8) + 1)) → (I13 (z14 + 1) H21 ∧ μ13 (z14 + 1) H21 < μ13 z14 H15)))))))) ∧ (¬ ((H1 30 0 8) + x1) ≤ 160 → (eqI r (-4) H1)))) → c_Model_feed E (d2 + 20) x1 x2 x3 x4 x5 x6 H1 (eqI r) := by
    intro H1 r g0 g1
    refine l_Model_feed (s_Model_in (fun a1 a2 => ⟨fun z => absurd z (by decide), fun _ => ?_⟩) (fun a => ⟨fun _ => g0 (fun z => a z.1), fun z => absurd rfl z⟩))
    refine s_Model_isByteN (fun b2 => ⟨fun z => absurd z (by decide), fun _ => ?_⟩) (fun a => ⟨fun _ => g0 (fun z => a z.2.1), fun z => absurd rfl z⟩)
    refine s_Model_isByteN (fun b3 => ⟨fun z => absurd z (by decide), fun _ => ?_⟩) (fun a => ⟨fun _ => g0 (fun z => a z.2.2.1), fun z => absurd rfl z⟩)
    refine s_Model_isByteN (fun b4 => ⟨fun z => absurd z (by decide), fun _ => ?_⟩) (fun a => ⟨fun _ => g0 (fun z => a z.2.2.2.1), fun z => absurd rfl z⟩)
    refine s_Model_isByteN (fun b5 => ⟨fun z => absurd z (by decide), fun _ => ?_⟩) (fun a => ⟨fun _ => g0 (fun z => a z.2.2.2.2.1), fun z => absurd rfl z⟩)
    exact s_Model_isByteN (fun b6 => ⟨fun _ => g1 ⟨⟨a1, a2⟩, b2, b3, b4, b5, b6⟩, fun z => absurd z (by decide)⟩) (fun a => ⟨fun z => absurd rfl z, fun _ => g0 (fun z => a z.2.2.2.2.2)⟩)
  have bad : ¬ ((1 ≤ x1 ∧ x1 ≤ 5) ∧ B x2 ∧ B x3 ∧ B x4 ∧ B x5 ∧ B x6) → c_Model_feed E (d2 + 20) x1 x2 x3 x4 x5 x6 H (eqI (-2)) := fun hno => md0 H _ (fun _ => ok _ _ rfl) (fun z => absurd z hno)
  refine l_Main_feed (s_Main_isWithin (fun a1 a2 => ⟨fun z => absurd z (by decide), fun _ => ?_⟩) (fun a => ⟨fun _ => bad (fun z => a z.1), fun z => absurd rfl z⟩))
  refine s_Main_isByteN (fun b2 => ⟨fun z => absurd z (by decide), fun _ => ?_⟩) (fun a => ⟨fun _ => bad (fun z => a z.2.1), fun z => absurd rfl z⟩)
  refine s_Main_isByteN (fun b3 => ⟨fun z => absurd z (by decide), fun _ => ?_⟩) (fun a => ⟨fun _ => bad (fun z => a z.2.2.1), fun z => absurd rfl z⟩)
  refine s_Main_isByteN (fun b4 => ⟨fun z => absurd z (by decide), fun _ => ?_⟩) (fun a => ⟨fun _ => bad (fun z => a z.2.2.2.1), fun z => absurd rfl z⟩)
  refine s_Main_isByteN (fun b5 => ⟨fun z => absurd z (by decide), fun _ => ?_⟩) (fun a => ⟨fun _ => bad (fun z => a z.2.2.2.2.1), fun z => absurd rfl z⟩)
  refine s_Main_isByteN (fun b6 => ⟨fun _ => ?_, fun z => absurd z (by decide)⟩) (fun a => ⟨fun z => absurd rfl z, fun _ => bad (fun z => a z.2.2.2.2.2)⟩)
  have all : (1 ≤ x1 ∧ x1 ≤ 5) ∧ B x2 ∧ B x3 ∧ B x4 ∧ B x5 ∧ B x6 := ⟨⟨a1, a2⟩, b2, b3, b4, b5, b6⟩
  obtain ⟨n, hn5, en⟩ := nat_of (n := 5) (by omega) (by have z : (1 : Int32).toInt = 1 := rfl; have z0 : (0 : Int32).toInt = 0 := rfl; simp only [ti_le] at *; omega) a2
  have hn1 : 1 ≤ n := by rw [en, show (1 : Int32) = nI 1 from rfl, nI_leI (by omega) (by omega)] at a1; exact a1
  have leN : ∀ c : Nat, c < 10 → (x1 ≤ nI c ↔ n ≤ c) := fun c hc => by rw [en, nI_leI (by omega) (by omega)]
  have l160 : nI s.ns + x1 ≤ 160 ↔ s.ns + n ≤ 160 := by rw [en, nI_add, show (160 : Int32) = nI 160 from rfl, nI_leI (by omega) (by omega)]
  rw [h6]
  refine ⟨fun room => ?_, fun room => md0 H _ (fun z => absurd all z) (fun _ => ⟨fun z => absurd (by rw [h8] at z; exact z) room, fun _ => ok _ _ rfl⟩)⟩
  rw [l160] at room
  let b : Nat → Int32 := fun k => if k = 0 then x2 else if k = 1 then x3 else if k = 2 then x4 else if k = 3 then x5 else x6
  have bB : ∀ k, 0 ≤ (b k).toInt ∧ (b k).toInt ≤ 255 := by
    intro k
    have z0 : (0 : Int32).toInt = 0 := rfl
    have z1 : (255 : Int32).toInt = 255 := rfl
    have conv : ∀ v : Int32, B v → 0 ≤ v.toInt ∧ v.toInt ≤ 255 := by
      rintro v ⟨h1, h2⟩
      simp only [ti_le] at h1 h2
      omega
    show 0 ≤ (if k = 0 then x2 else if k = 1 then x3 else if k = 2 then x4 else if k = 3 then x5 else x6 : Int32).toInt ∧ (if k = 0 then x2 else if k = 1 then x3 else if k = 2 then x4 else if k = 3 then x5 else x6 : Int32).toInt ≤ 255
    by_cases c0 : k = 0
    · rw [if_pos c0]; exact conv _ b2
    · by_cases c1 : k = 1
      · rw [if_neg c0, if_pos c1]; exact conv _ b3
      · by_cases c2 : k = 2
        · rw [if_neg c0, if_neg c1, if_pos c2]; exact conv _ b4
        · by_cases c3 : k = 3
          · rw [if_neg c0, if_neg c1, if_neg c2, if_pos c3]; exact conv _ b5
          · rw [if_neg c0, if_neg c1, if_neg c2, if_neg c3]; exact conv _ b6
  -- the end of the class's
  have fin : ∀ G, fdC H s.ns b n G → c_Model_feed E (d2 + 20) x1 x2 x3 x4 x5 x6 G (eqI (G 6 0 1)) := by
    intro G hG
    obtain ⟨g1, g2, g3, g4⟩ := hG
    rw [g1]
    refine md0 G _ (fun z => absurd all z) (fun _ => ?_)
    have k8 : G 30 0 8 = nI s.ns := by rw [g4 30 0 8 (by omega) (by omega)]; exact h8
    rw [k8]
    refine ⟨fun _ => ?_, fun z => absurd (l160.mpr room) z⟩
    refine ⟨fun z G2 => ∃ k, k ≤ n ∧ z = nI k ∧ G2 30 0 8 = nI (s.ns + k) ∧ (∀ c, c < k → G2 35 0 (s.ns + c) = b c) ∧ (∀ c, c < s.ns → G2 35 0 c = G 35 0 c) ∧ ∀ a i c, ¬ (a = 35) → ¬ (a = 30 ∧ i = 0 ∧ c = 8) → G2 a i c = G a i c, fun z _ => 5 - z.toNatClampNeg, ⟨0, by omega, rfl, k8, fun c hc => absurd hc (Nat.not_lt_zero _), fun _ _ => rfl, fun _ _ _ _ _ => rfl⟩, fun z14 G2 hJ => ?_⟩
    obtain ⟨k, hk, rfl, m1, m2, m3, m4⟩ := hJ
    rw [m1]
    refine ⟨fun q => ?_, fun q => ?_⟩
    · rw [leN k (by omega)] at q
      have e : k = n := by omega
      subst e
      have k6 : G2 6 0 1 = nI (s.ns + k) := by rw [m4 6 0 1 (by omega) (by omega)]; exact g1
      refine ⟨rfl, _, hI.tp (fun a i c q1 q2 q3 q4 => ?_) (by omega) k6 m1 (fun i hi => ?_)⟩
      · rw [m4 a i c (by omega) q4]; exact g4 a i c (by omega) q3
      · have e7 : G2 7 0 i = G 7 0 i := m4 7 0 i (by omega) (by omega)
        rw [e7]
        rcases Nat.lt_or_ge i s.ns with y | y
        · rw [m3 i y, g4 35 0 i (by omega) (by omega), g3 i y]
          exact hI.2.2.2.1 i y
        · have ei : i = s.ns + (i - s.ns) := by omega
          rw [ei, m2 _ (by omega), g2 _ (by omega)]
          exact ⟨rfl, bB _⟩
    · rw [leN k (by omega)] at q
      refine ⟨vp_in_nI (by omega) (by omega), fun H20 e20 H21 e21 => ⟨⟨k + 1, by omega, nI_1 k, ?_, fun c hc => ?_, fun c hc => ?_, fun a i c q1 q2 => ?_⟩, ?_⟩⟩
      · rw [e21, hu_at, e20, hu_ne (by omega), m1, nI_1]; rfl
      · rw [e21, hu_ne (by omega), e20, nI_clamp (by omega)]
        by_cases e : c = k
        · rw [e, hu_at]
          show _ = (if k = 0 then x2 else if k = 1 then x3 else if k = 2 then x4 else if k = 3 then x5 else x6 : Int32)
          rcases (show k = 0 ∨ k = 1 ∨ k = 2 ∨ k = 3 ∨ k = 4 by omega) with rfl | rfl | rfl | rfl | rfl <;> rfl
        · rw [hu_ne (by omega)]; exact m2 c (by omega)
      · rw [e21, hu_ne (by omega), e20, nI_clamp (by omega), hu_ne (by omega)]; exact m3 c hc
      · rw [e21, hu_ne q2, e20, hu_ne (by omega)]; exact m4 a i c q1 q2
      · show 5 - (nI k + 1).toNatClampNeg < 5 - (nI k).toNatClampNeg
        rw [nI_1, nI_clamp (by omega), nI_clamp (by omega)]; omega
  have st0 : fdC H s.ns b 0 H := ⟨h6, fun c hc => absurd hc (Nat.not_lt_zero _), fun _ _ => rfl, fun _ _ _ _ _ => rfl⟩
  have F4 : ∀ G, fdC H s.ns b (min n 4) G → ((x1 ≤ 4 → (fun r H1 => c_Model_feed E (d2 + 20) x1 x2 x3 x4 x5 x6 H1 (eqI r)) (G 6 0 1) G) ∧ (¬ x1 ≤ 4 → c_Tape_add E (d + 19) x6 G (fun G2 => (fun r H1 => c_Model_feed E (d2 + 20) x1 x2 x3 x4 x5 x6 H1 (eqI r)) (G2 6 0 1) G2))) := by
    intro G hG
    refine ⟨fun c => fin G ?_, fun c => ?_⟩
    · have := (leN 4 (by omega)).mp c
      rw [show min n 4 = n by omega] at hG; exact hG
    · have c2 : ¬ n ≤ 4 := fun z => c ((leN 4 (by omega)).mpr z)
      rw [show min n 4 = 4 by omega] at hG
      exact s_Tape_add hG (by omega) rfl (fun G2 h2 => fin G2 (by rw [show n = 4 + 1 by omega]; exact h2))
  have F3 : ∀ G, fdC H s.ns b (min n 3) G → ((x1 ≤ 3 → ((x1 ≤ 4 → (fun r H1 => c_Model_feed E (d2 + 20) x1 x2 x3 x4 x5 x6 H1 (eqI r)) (G 6 0 1) G) ∧ (¬ x1 ≤ 4 → c_Tape_add E (d + 19) x6 G (fun G2 => (fun r H1 => c_Model_feed E (d2 + 20) x1 x2 x3 x4 x5 x6 H1 (eqI r)) (G2 6 0 1) G2)))) ∧ (¬ x1 ≤ 3 → c_Tape_add E (d + 19) x5 G (fun G => ((x1 ≤ 4 → (fun r H1 => c_Model_feed E (d2 + 20) x1 x2 x3 x4 x5 x6 H1 (eqI r)) (G 6 0 1) G) ∧ (¬ x1 ≤ 4 → c_Tape_add E (d + 19) x6 G (fun G2 => (fun r H1 => c_Model_feed E (d2 + 20) x1 x2 x3 x4 x5 x6 H1 (eqI r)) (G2 6 0 1) G2)))))) := by
    intro G hG
    refine ⟨fun c => F4 G ?_, fun c => ?_⟩
    · have := (leN 3 (by omega)).mp c
      rw [show min n 4 = min n 3 by omega]; exact hG
    · have c2 : ¬ n ≤ 3 := fun z => c ((leN 3 (by omega)).mpr z)
      rw [show min n 3 = 3 by omega] at hG
      exact s_Tape_add hG (by omega) rfl (fun G2 h2 => F4 G2 (by rw [show min n 4 = 3 + 1 by omega]; exact h2))
  refine s_Tape_add st0 (by omega) rfl (fun G1 h1 => ⟨fun c => ?_, fun c => ?_⟩)
  · have c1 := (leN 1 (by omega)).mp c
    refine ⟨fun cc => F3 G1 (by rw [show min n 3 = 0 + 1 by omega]; exact h1), fun cc => absurd ((leN 2 (by omega)).mpr (by omega)) cc⟩
  · have c1 : ¬ n ≤ 1 := fun z => c ((leN 1 (by omega)).mpr z)
    refine s_Tape_add h1 (by omega) rfl (fun G2 h2 => ⟨fun cc => ?_, fun cc => ?_⟩)
    · have c2 := (leN 2 (by omega)).mp cc
      exact F3 G2 (by rw [show min n 3 = 0 + 1 + 1 by omega]; exact h2)
    · have c2 : ¬ n ≤ 2 := fun z => cc ((leN 2 (by omega)).mpr z)
      exact s_Tape_add h2 (by omega) rfl (fun G3 h3 => F3 G3 (by rw [show min n 3 = 0 + 1 + 1 + 1 by omega]; exact h3))
