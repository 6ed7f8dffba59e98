/-! THE REFERENCE'S READING 1: held signs and what came out. -/
def erF (nt a i k : Nat) : Prop := (a = 30 ∧ i = 0 ∧ 20 ≤ k) ∨ a = 45 ∨ (a = 36 ∧ i = 0 ∧ 200 * nt ≤ k)
def stR (f : Nat → Int32) : List Nat → Prop
  | [] => True
  | s :: hs => f hs.length = nI s ∧ (s = 0 ∨ (11 ≤ s ∧ s ≤ 19)) ∧ stR f hs
theorem stR.pt {f g : Nat → Int32} : ∀ {hs : List Nat}, stR f hs → (∀ k, k < hs.length → g k = f k) → stR g hs := by
  intro hs
  induction hs with
  | nil => intro _ _; exact trivial
  | cons s hs ih =>
    intro h e
    exact ⟨by rw [e hs.length (by simp)]; exact h.1, h.2.1, ih h.2.2 (fun k hk => e k (by simp; omega))⟩
/-- held signs, how many are open, what came out -/
def erH (B : HH) (nt : Nat) (hs : List Nat) (op : Nat) (o : List Int32) (G : HH) : Prop := (∀ a i k, ¬ erF nt a i k → G a i k = B a i k) ∧ G 30 0 26 = nI hs.length ∧ stR (G 45 0) hs ∧ G 30 0 27 = nI op ∧ G 30 0 28 = nI o.length ∧ ∀ i, i < o.length → G 36 0 (200 * nt + i) = mcv (o.getD i 0)
def er4 (G G2 : HH) : Prop := G2 30 0 20 = G 30 0 20 ∧ G2 30 0 21 = G 30 0 21 ∧ G2 30 0 22 = G 30 0 22 ∧ G2 30 0 23 = G 30 0 23
theorem er4.refl (G : HH) : er4 G G := ⟨rfl, rfl, rfl, rfl⟩
theorem er4.trans {G G2 G3 : HH} (h : er4 G G2) (h2 : er4 G2 G3) : er4 G G3 := ⟨h2.1.trans h.1, h2.2.1.trans h.2.1, h2.2.2.1.trans h.2.2.1, h2.2.2.2.trans h.2.2.2⟩
theorem s_Model_puts {E : XE} {d nt op : Nat} {hs : List Nat} {o : List Int32} {c x : Int32} {B G : HH} {Q : HH → Prop} (hnt : B 30 0 11 = nI nt) (h6 : nt < 6) (h : erH B nt hs op o G) (ho : o.length < 200) (hx : x = mcv c) (hq : ∀ G2, erH B nt hs op (o ++ [c]) G2 → er4 G G2 → Q G2) : c_Model_puts E d x G Q := by
  obtain ⟨h1, h2, h3, h4, h5, h7⟩ := h
  have e11 : G 30 0 11 = nI nt := by rw [h1 30 0 11 (by unfold erF; omega)]; exact hnt
  have ei : (200 : Int32) * nI nt + nI o.length = nI (200 * nt + o.length) := by rw [show (200 : Int32) = nI 200 from rfl, nI_mul, nI_add]
  refine l_Model_puts ?_
  unfold p_Model_puts
  rw [e11, h5, ei, nI_clamp (by omega)]
  refine ⟨vp_in_nI (by omega) (by omega), fun H1 e1 H2 e2 => ?_⟩
  have k28 : H1 30 0 28 = nI o.length := by rw [e1, hu_ne (by omega)]; exact h5
  rw [k28, nI_1] at e2
  refine hq H2 ⟨fun a i k q => ?_, ?_, ?_, ?_, ?_, fun i hi => ?_⟩ ⟨?_, ?_, ?_, ?_⟩
  · have q' := q
    unfold erF at q'
    rw [e2, hu_ne (by omega), e1, hu_ne (by omega)]; exact h1 a i k q
  · rw [e2, hu_ne (by omega), e1, hu_ne (by omega)]; exact h2
  · refine h3.pt (fun k hk => ?_)
    rw [e2, hu_ne (by omega), e1, hu_ne (by omega)]
  · rw [e2, hu_ne (by omega), e1, hu_ne (by omega)]; exact h4
  · rw [e2, hu_at, List.length_append]; rfl
  · rw [List.length_append] at hi
    have hi2 : i < o.length + 1 := hi
    rw [e2, hu_ne (by omega), e1]
    by_cases c1 : i = o.length
    · rw [c1, hu_at, List.getD_eq_getElem?_getD, List.getElem?_append_right (Nat.le_refl _), hx]; simp
    · rw [hu_ne (by omega), h7 i (by omega), List.getD_eq_getElem?_getD, List.getD_eq_getElem?_getD, List.getElem?_append_left (by omega)]
  · rw [e2, hu_ne (by omega), e1, hu_ne (by omega)]
  · rw [e2, hu_ne (by omega), e1, hu_ne (by omega)]
  · rw [e2, hu_ne (by omega), e1, hu_ne (by omega)]
  · rw [e2, hu_ne (by omega), e1, hu_ne (by omega)]
theorem rk_all : ∀ s, s < 20 → (if nI s = 0 then 0 else (if nI s = 11 then 1 else (if nI s = 12 then 2 else (if nI s = 13 then 3 else (if 15 < nI s then (if 17 < nI s then (if nI s = 18 then 6 else 7 : Int32) else 5 : Int32) else 4 : Int32) : Int32) : Int32) : Int32) : Int32) = nI (rkS s) := by decide +kernel
theorem s_Model_rank {E : XE} {d s : Nat} {H : HH} {Q : Int32 → HH → Prop} (hs : s < 20) (h : Q (nI (rkS s)) H) : c_Model_rank E d (nI s) H Q := by
  refine l_Model_rank ?_
  unfold p_Model_rank
  rw [rk_all s hs]
  exact h
theorem rkS_le : ∀ s, s < 20 → rkS s ≤ 7 := by decide
theorem s_Model_holds {E : XE} {d nt op s : Nat} {hs : List Nat} {o : List Int32} {B G : HH} {Q : HH → Prop} (h : erH B nt hs op o G) (hl : hs.length < 200) (hs2 : s = 0 ∨ (11 ≤ s ∧ s ≤ 19)) (hq : ∀ G2, erH B nt (s :: hs) op o G2 → er4 G G2 → Q G2) : c_Model_holds E d (nI s) G Q := by
  obtain ⟨h1, h2, h3, h4, h5, h7⟩ := h
  refine l_Model_holds ?_
  unfold p_Model_holds
  rw [h2, nI_clamp (by omega)]
  refine ⟨vp_in_nI (by omega) (by omega), fun H1 e1 H2 e2 => ?_⟩
  have k26 : H1 30 0 26 = nI hs.length := by rw [e1, hu_ne (by omega)]; exact h2
  rw [k26, nI_1] at e2
  refine hq H2 ⟨fun a i k q => ?_, ?_, ⟨?_, hs2, ?_⟩, ?_, ?_, fun i hi => ?_⟩ ⟨?_, ?_, ?_, ?_⟩
  · have q' := q
    unfold erF at q'
    rw [e2, hu_ne (by omega), e1, hu_ne (by omega)]; exact h1 a i k q
  · rw [e2, hu_at, List.length_cons]
  · rw [e2, hu_ne (by omega), e1, hu_at]
  · refine h3.pt (fun k hk => ?_)
    rw [e2, hu_ne (by omega), e1, hu_ne (by omega)]
  · rw [e2, hu_ne (by omega), e1, hu_ne (by omega)]; exact h4
  · rw [e2, hu_ne (by omega), e1, hu_ne (by omega)]; exact h5
  · rw [e2, hu_ne (by omega), e1, hu_ne (by omega)]; exact h7 i hi
  · rw [e2, hu_ne (by omega), e1, hu_ne (by omega)]
  · rw [e2, hu_ne (by omega), e1, hu_ne (by omega)]
  · rw [e2, hu_ne (by omega), e1, hu_ne (by omega)]
  · rw [e2, hu_ne (by omega), e1, hu_ne (by omega)]
theorem s_Model_opensOne {E : XE} {d nt s : Nat} {hs : List Nat} {o : List Int32} {B G : HH} {Q : Int32 → HH → Prop} (h : erH B nt hs (cnt hs) o G) (hl : hs.length < 200) (hc : cnt hs ≤ 5) (hs2 : s = 0 ∨ s = 13 ∨ s = 19) (hq : cnt hs ≠ 5 → ∀ G2, erH B nt (s :: hs) (cnt (s :: hs)) o G2 → er4 G G2 → Q 1 G2) (h0 : cnt hs = 5 → Q 0 G) : c_Model_opensOne E (d + 1) (nI s) G Q := by
  refine l_Model_opensOne ?_
  unfold p_Model_opensOne
  rw [h.2.2.2.1]
  have e5 : nI (cnt hs) = 5 ↔ cnt hs = 5 := nI_eq (b := 5) (by omega) (by omega)
  rw [e5]
  refine ⟨fun q H1 e1 => ?_, h0⟩
  rw [nI_1] at e1
  obtain ⟨h1, h2, h3, h4, h5, h7⟩ := h
  have g1 : erH B nt hs (cnt hs + 1) o H1 := by
    refine ⟨fun a i k q => ?_, ?_, h3.pt (fun k hk => ?_), ?_, ?_, fun i hi => ?_⟩
    · have q' := q
      unfold erF at q'
      rw [e1, hu_ne (by omega)]; exact h1 a i k q
    · rw [e1, hu_ne (by omega)]; exact h2
    · rw [e1, hu_ne (by omega)]
    · rw [e1, hu_at]
    · rw [e1, hu_ne (by omega)]; exact h5
    · rw [e1, hu_ne (by omega)]; exact h7 i hi
  refine s_Model_holds g1 hl (by omega) (fun G2 g2 r4 => ?_)
  refine hq q G2 (by rw [cnt_up hs2]; exact g2) (er4.trans ⟨?_, ?_, ?_, ?_⟩ r4)
  · rw [e1, hu_ne (by omega)]
  · rw [e1, hu_ne (by omega)]
  · rw [e1, hu_ne (by omega)]
  · rw [e1, hu_ne (by omega)]
theorem mcv_sg : ∀ s, s < 20 → 11 ≤ s → nI s = mcv (nI (19989 + s)) := by decide +kernel
theorem rkS_0 : ∀ s, s < 20 → 0 < rkS s → s ≠ 0 := by decide
theorem s_Model_unwinds {E : XE} {d nt l : Nat} {hs : List Nat} {o : List Int32} {B G : HH} {Q : HH → Prop} (hnt : B 30 0 11 = nI nt) (h6 : nt < 6) (h : erH B nt hs (cnt hs) o G) (hl0 : 0 < l) (hl7 : l ≤ 7) (hl : hs.length + o.length < 200) (hq : ∀ G2, erH B nt (unw l hs o).1 (cnt (unw l hs o).1) (unw l hs o).2 G2 → er4 G G2 → Q G2) : c_Model_unwinds E (d + 1) (nI l) G Q := by
  refine l_Model_unwinds ⟨fun G2 => er4 G G2 ∧ ∃ hs2 o2, hs2.length + o2.length < 200 ∧ unw l hs2 o2 = unw l hs o ∧ erH B nt hs2 (cnt hs2) o2 G2, fun G2 => (G2 30 0 26).toNatClampNeg, ⟨er4.refl G, hs, o, hl, rfl, h⟩, ?_⟩
  rintro G2 ⟨r4, hs2, o2, l2, u2, g⟩
  have g' := g
  obtain ⟨h1, h2, h3, h4, h5, h7⟩ := g
  rw [h2]
  refine ⟨fun q => ?_, fun q => ?_⟩
  · rw [nI_le0 (by omega)] at q
    have e : hs2 = [] := List.eq_nil_of_length_eq_zero q
    subst e
    exact hq G2 (by rw [← u2]; exact g') r4
  · rw [nI_le0 (by omega)] at q
    cases hs2 with
    | nil => exact absurd rfl q
    | cons s hs3 =>
      obtain ⟨s1, s2, s3⟩ := h3
      have s20 : s < 20 := by omega
      rw [List.length_cons, nI_pred, nI_clamp (by simp at l2; omega), s1]
      simp only [List.length_cons] at l2 h2
      refine ⟨vp_in_nI (by omega) (by omega), s_Model_rank s20 ?_⟩
      have er : nI (rkS s) < nI l ↔ rkS s < l := nI_ltI (by have := rkS_le s s20; omega) (by omega)
      refine ⟨fun c => ?_, fun c H5 e5 => ?_⟩
      · rw [er] at c
        refine hq G2 ?_ r4
        rw [← u2, unw_lt (hs := s :: hs3) c]; exact g'
      · rw [er] at c
        have c2 : l ≤ rkS s := by omega
        have sn0 := rkS_0 s s20 (by omega)
        have k26 : H5 30 0 26 = nI hs3.length := by rw [e5, hu_at, h2, nI_pred]
        rw [k26, nI_clamp (by omega)]
        refine ⟨vp_in_nI (by omega) (by omega), fun v6 e6 H9 e9 => ?_⟩
        have ev : v6 = nI s := by rw [e6, e5, hu_ne (by omega)]; exact s1
        subst ev
        have ec : H5 30 0 27 - (if nI s = 13 then 1 else (if nI s = 19 then 1 else 0 : Int32) : Int32) = nI (cnt hs3) := by
          rw [e5, hu_ne (by omega), h4]
          have e13 : nI s = 13 ↔ s = 13 := nI_eq (b := 13) (by omega) (by omega)
          have e19 : nI s = 19 ↔ s = 19 := nI_eq (b := 19) (by omega) (by omega)
          by_cases c13 : s = 13
          · rw [if_pos (e13.mpr c13), cnt_up (by omega), nI_pred]
          · rw [if_neg (fun z => c13 (e13.mp z))]
            by_cases c19 : s = 19
            · rw [if_pos (e19.mpr c19), cnt_up (by omega), nI_pred]
            · rw [if_neg (fun z => c19 (e19.mp z)), cnt_op (by omega), Int32.sub_zero]
        rw [ec] at e9
        have g9 : erH B nt hs3 (cnt hs3) o2 H9 := by
          refine ⟨fun a i k q => ?_, ?_, s3.pt (fun k hk => ?_), ?_, ?_, fun i hi => ?_⟩
          · have q' := q
            unfold erF at q'
            rw [e9, hu_ne (by omega), e5, hu_ne (by omega)]; exact h1 a i k q
          · rw [e9, hu_ne (by omega)]; exact k26
          · rw [e9, hu_ne (by omega), e5, hu_ne (by omega)]
          · rw [e9, hu_at]
          · rw [e9, hu_ne (by omega), e5, hu_ne (by omega)]; exact h5
          · rw [e9, hu_ne (by omega), e5, hu_ne (by omega)]; exact h7 i hi
        refine s_Model_puts hnt h6 g9 (by omega) (mcv_sg s s20 (by omega)) (fun G10 g10 r10 => ⟨⟨?_, hs3, _, ?_, ?_, g10⟩, ?_⟩)
        · refine r4.trans (er4.trans ⟨?_, ?_, ?_, ?_⟩ r10)
          · rw [e9, hu_ne (by omega), e5, hu_ne (by omega)]
          · rw [e9, hu_ne (by omega), e5, hu_ne (by omega)]
          · rw [e9, hu_ne (by omega), e5, hu_ne (by omega)]
          · rw [e9, hu_ne (by omega), e5, hu_ne (by omega)]
        · rw [List.length_append]; show hs3.length + (o2.length + 1) < 200; omega
        · rw [← u2, unw_pop c2]
        · show (G10 30 0 26).toNatClampNeg < (G2 30 0 26).toNatClampNeg
          rw [g10.2.1, h2, nI_clamp (by omega), nI_clamp (by omega)]; omega
theorem s_Model_between {E : XE} {d nt s : Nat} {hs : List Nat} {o : List Int32} {B G : HH} {Q : Int32 → HH → Prop} (hnt : B 30 0 11 = nI nt) (h6 : nt < 6) (h : erH B nt hs (cnt hs) o G) (hl : hs.length + o.length < 199) (hs2 : 11 ≤ s ∧ s ≤ 18 ∧ s ≠ 13) (h0 : rkS s = 4 → tpr (unw 5 hs o).1 = 4 → ∀ G2, (∀ a i k, ¬ erF nt a i k → G2 a i k = B a i k) → er4 G G2 → Q 0 G2) (h4 : rkS s = 4 → tpr (unw 5 hs o).1 ≠ 4 → ∀ G2, erH B nt (s :: (unw 5 hs o).1) (cnt (s :: (unw 5 hs o).1)) (unw 5 hs o).2 G2 → er4 G G2 → Q 1 G2) (h1 : rkS s ≠ 4 → ∀ G2, erH B nt (s :: (unw (rkS s) hs o).1) (cnt (s :: (unw (rkS s) hs o).1)) (unw (rkS s) hs o).2 G2 → er4 G G2 → Q 1 G2) : c_Model_between E (d + 2) (nI s) G Q := by
  have s20 : s < 20 := by omega
  have r7 := rkS_le s s20
  have rp : 0 < rkS s := by
    have : ∀ s, s < 20 → 11 ≤ s → 0 < rkS s := by decide
    exact this s s20 hs2.1
  have e4 : nI (rkS s) = 4 ↔ rkS s = 4 := nI_eq (b := 4) (by omega) (by omega)
  refine l_Model_between (s_Model_rank s20 ?_)
  by_cases c : rkS s = 4
  · refine ⟨fun y G2 => y = nI 5 ∧ G2 = G, ⟨fun z => absurd (e4.mpr c) z, fun _ => ⟨rfl, rfl⟩⟩, fun y4 H5 k => ?_⟩
    obtain ⟨rfl, rfl⟩ := k
    refine s_Model_unwinds hnt h6 h (by omega) (by omega) (by omega) (fun G2 g2 r2 => s_Model_rank s20 ⟨fun z => absurd (e4.mpr c) z, fun _ => ?_⟩)
    have ul := unw_len 5 hs o
    generalize hu5 : unw 5 hs o = u at *
    obtain ⟨us, uo⟩ := u
    simp only at g2 ul h0 h4
    rw [g2.2.1]
    refine ⟨fun q => ?_, fun q => ?_⟩
    · rw [nI_le0 (by omega)] at q
      have e : us = [] := List.eq_nil_of_length_eq_zero q
      subst e
      refine s_Model_holds g2 (by show (0 : Nat) < 200; omega) (by omega) (fun G3 g3 r3 => h4 c (by decide) G3 (by rw [cnt_op (by omega)]; exact g3) (r2.trans r3))
    · rw [nI_le0 (by omega)] at q
      cases us with
      | nil => exact absurd rfl q
      | cons a us =>
        have g2' := g2
        obtain ⟨_, _, ⟨a1, a2, a3⟩, _⟩ := g2
        have a20 : a < 20 := by omega
        simp only [List.length_cons] at ul
        rw [List.length_cons, nI_pred, nI_clamp (by omega), a1]
        refine ⟨vp_in_nI (by omega) (by omega), s_Model_rank a20 ?_⟩
        have ra := rkS_le a a20
        have ea : nI (rkS a) = 4 ↔ rkS a = 4 := nI_eq (b := 4) (by omega) (by omega)
        rw [ea]
        refine ⟨fun z => ?_, fun z => h0 c z G2 g2'.1 r2⟩
        exact s_Model_holds g2' (by rw [List.length_cons]; omega) (by omega) (fun G3 g3 r3 => h4 c z G3 (by rw [cnt_op (by omega)]; exact g3) (r2.trans r3))
  · refine ⟨fun y G2 => y = nI (rkS s) ∧ G2 = G, ⟨fun _ => s_Model_rank s20 ⟨rfl, rfl⟩, fun z => absurd (e4.mp z) c⟩, fun y4 H5 k => ?_⟩
    obtain ⟨rfl, rfl⟩ := k
    refine s_Model_unwinds hnt h6 h rp r7 (by omega) (fun G2 g2 r2 => s_Model_rank s20 ⟨fun _ => ?_, fun z => absurd (e4.mp z) c⟩)
    have ul := unw_len (rkS s) hs o
    exact s_Model_holds g2 (by omega) (by omega) (fun G3 g3 r3 => h1 c G3 (by rw [cnt_op (by omega)]; exact g3) (r2.trans r3))
