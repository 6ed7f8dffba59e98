/-! SPECS 8 (the reference): what fits, a step. -/
/-- vehicle j of the reference's -/
def vM (H : HH) (j : Nat) : VV
  | 0 => H 32 0 j
  | 1 => H 33 0 j
  | 2 => H 34 0 (5 * j)
  | 3 => H 34 0 (5 * j + 1)
  | 4 => H 34 0 (5 * j + 2)
  | 5 => H 34 0 (5 * j + 3)
  | 6 => H 34 0 (5 * j + 4)
  | _ => 0
/-- ACROSS as the reference has it -/
def mcOK (H : HH) : Prop := ∀ k, k < 16 → H 31 0 k = xACR.getD k 0
/-- the reference's law: text t, as the class has it -/
def mlOK (H : HH) (t : Nat) (code ends : Nat → Int32) : Prop := H 30 0 12 = nI t ∧ t < 6 ∧ msOK H t code ends ∧ mcOK H
theorem mlOK.fr {H H1 : HH} {t : Nat} {code ends : Nat → Int32} {K : List Nat} (h : mlOK H t code ends) (hf : hfr K H H1) (h1 : 30 ∉ K) (h2 : 31 ∉ K) (h3 : 36 ∉ K) (h4 : 37 ∉ K) : mlOK H1 t code ends := by
  unfold mlOK msOK mcOK
  rw [hf 30 h1, hf 31 h2, hf 36 h3, hf 37 h4]
  exact h
theorem i5_0 (j : Nat) : 5 * nI j = nI (5 * j) := by rw [show (5 : Int32) = nI 5 from rfl, nI_mul]
theorem i5_1 (j : Nat) : 5 * nI j + 1 = nI (5 * j + 1) := by rw [i5_0, nI_1]
theorem i5_2 (j : Nat) : 5 * nI j + 2 = nI (5 * j + 2) := by rw [i5_0, show (2 : Int32) = nI 2 from rfl, nI_add]
theorem i5_3 (j : Nat) : 5 * nI j + 3 = nI (5 * j + 3) := by rw [i5_0, show (3 : Int32) = nI 3 from rfl, nI_add]
theorem i5_4 (j : Nat) : 5 * nI j + 4 = nI (5 * j + 4) := by rw [i5_0, show (4 : Int32) = nI 4 from rfl, nI_add]
theorem clF_within {p : Nat} (hp : p < 3) (x : Int32) : (if 0 ≤ x then (if x ≤ (if nI p = 0 then 9 else (if nI p = 1 then 99 else 100 : Int32) : Int32) then x else (if nI p = 0 then 9 else (if nI p = 1 then 99 else 100 : Int32) : Int32) : Int32) else 0 : Int32) = clF p x := by
  have hb : ∀ p, p < 3 → (if nI p = 0 then 9 else (if nI p = 1 then 99 else 100 : Int32) : Int32) = xBND.getD p 0 ∧ 0 < xBND.getD p 0 := by decide +kernel
  obtain ⟨e, h0⟩ := hb p hp
  rw [e]
  generalize xBND.getD p 0 = B at *
  unfold clF
  show _ = xmax 0 (xmin x (xBND.getD p 0))
  rw [show xBND.getD p 0 = (if nI p = 0 then 9 else (if nI p = 1 then 99 else 100 : Int32) : Int32) from ((hb p hp).1).symm, e]
  unfold xmax xmin
  simp only [ti_lt, ti_le] at *
  have z : (0 : Int32).toInt = 0 := rfl
  by_cases a : x.toInt ≤ B.toInt
  · rw [if_neg (show ¬ B.toInt < x.toInt by omega)]
    by_cases c : (0 : Int32).toInt ≤ x.toInt
    · rw [if_pos c, if_pos a]
      by_cases q : (0 : Int32).toInt < x.toInt
      · rw [if_pos q]
      · rw [if_neg q, ti_eq]; omega
    · rw [if_neg c, if_neg (show ¬ (0 : Int32).toInt < x.toInt by omega)]
  · rw [if_pos (show B.toInt < x.toInt by omega), if_pos (show (0 : Int32).toInt < B.toInt by omega), if_pos (show (0 : Int32).toInt ≤ x.toInt by omega), if_neg a]
theorem clF_rng {p : Nat} (hp : p < 3) (x : Int32) : 0 ≤ (clF p x).toInt ∧ (clF p x).toInt ≤ 100 := by
  have hb : ∀ p, p < 3 → 0 < xBND.getD p 0 ∧ xBND.getD p 0 ≤ 100 := by decide +kernel
  obtain ⟨h0, h1⟩ := hb p hp
  unfold clF xmax xmin
  simp only [ti_lt, ti_le] at *
  have z : (0 : Int32).toInt = 0 := rfl
  have z1 : (100 : Int32).toInt = 100 := rfl
  constructor
  · repeat' split
    all_goals omega
  · repeat' split
    all_goals omega
theorem s_Model_asksOf {E : XE} {d t p j : Nat} {code ends : Nat → Int32} {place heading wall steers : Int32} {H : HH} {Q : Int32 → HH → Prop} (hr : mlOK H t code ends) (hp : p < 3) (hj : j < 4)
    (h : ∀ H1, hfr [46, 47] H H1 → Q (lwF code ends p (H 33 0 j) wall heading place (H 30 0 1) steers) H1) : c_Model_asksOf E (d + 2) (nI p) (nI j) place heading wall steers H Q := by
  obtain ⟨hl, ht, hx, hmc⟩ := hr
  obtain ⟨a, b, htx, ha, hb, hk⟩ := hx p hp
  refine l_Model_asksOf ⟨vp_in_nI (by omega) (by omega), fun H1 e1 H2 e2 => ?_⟩
  rw [nI_clamp (by omega)] at e1
  have w1 : hfr [46, 47] H H1 := by rw [e1]; exact (((hfr.rf.hu (by decide)).hu (by decide)).hu (by decide)).hu (by decide)
  have w2 : hfr [46, 47] H H2 := by rw [e2]; exact (w1.hu (by decide)).hu (by decide)
  have k47 : ∀ k, k < 6 → H2 47 0 k = nmF (H 33 0 j) wall heading place (H 30 0 1) steers k := by
    intro k hk
    rw [e2, w1 30 (by decide), e1]
    rcases (show k = 0 ∨ k = 1 ∨ k = 2 ∨ k = 3 ∨ k = 4 ∨ k = 5 by omega) with rfl | rfl | rfl | rfl | rfl | rfl <;> simp [hu, nmF]
  refine s_Model_says (code := code) (ends := ends) (t := t) (a := a) (b := b) ht (by rw [w2 30 (by decide)]; exact hl) hp htx (by rw [w2 37 (by decide)]; exact ha) (by rw [w2 37 (by decide)]; exact hb) (by rw [w2 36 (by decide)]; exact hk) (fun f => ?_)
  refine l_Model_within ?_
  show Q _ _
  rw [evs_nm k47, clF_within hp, ← sayF_eq hp htx]
  exact h _ (w2.hrow (by decide))
theorem s_Model_frontOf {E : XE} {d j : Nat} {H : HH} {Q : Int32 → HH → Prop} (hj : j < 4) (h : Q (frF (H 32 0 j) (H 33 0 j)) H) : c_Model_frontOf E d (nI j) H Q := by
  have hin : vp_in (nI j) 4 := vp_in_nI hj (by omega)
  refine l_Model_frontOf ?_
  unfold p_Model_frontOf
  rw [nI_clamp (by omega)]
  refine ⟨hin, fun e => ⟨hin, ?_⟩, fun e1 => ⟨hin, fun e3 => ⟨hin, ?_⟩, fun e3 => ⟨hin, ?_⟩⟩⟩
  · rw [frF, if_pos (Or.inl e)] at h; exact h
  · rw [frF, if_neg (fun q => q.elim e1 e3)] at h; exact h
  · rw [frF, if_pos (Or.inr e3)] at h; exact h
theorem s_Model_backOf {E : XE} {d j : Nat} {H : HH} {Q : Int32 → HH → Prop} (hj : j < 4) (h : Q (bkF (H 32 0 j) (H 33 0 j)) H) : c_Model_backOf E d (nI j) H Q := by
  have hin : vp_in (nI j) 4 := vp_in_nI hj (by omega)
  refine l_Model_backOf ?_
  unfold p_Model_backOf
  rw [nI_clamp (by omega)]
  refine ⟨hin, fun e => ?_, fun e1 => ⟨hin, fun e3 => ⟨hin, fun e4 => ?_, fun e4 => ⟨hin, ?_⟩⟩, fun e3 => ?_⟩⟩
  · rw [bkF, if_pos (Or.inl e)] at h; exact h
  · rw [bkF, if_neg (fun q => q.elim e1 e3), if_neg e4] at h; exact h
  · rw [bkF, if_neg (fun q => q.elim e1 e3), if_pos e4] at h; exact h
  · rw [bkF, if_pos (Or.inr e3)] at h; exact h
theorem s_Model_turnsOf {E : XE} {d j : Nat} {way w : Int32} {H : HH} {Q : Int32 → HH → Prop} (hj : j < 4) (h : Q (tuF (H 32 0 j) (H 33 0 j) way w) H) : c_Model_turnsOf E d (nI j) way w H Q := by
  have hin : vp_in (nI j) 4 := vp_in_nI hj (by omega)
  refine l_Model_turnsOf (fun v2 e2 => ⟨hin, ?_⟩)
  rw [nI_clamp (by omega)]
  refine ⟨fun e => ⟨fun q => ⟨hin, ?_⟩, fun q => ?_⟩, fun e => ?_, fun e => ⟨hin, ?_⟩, fun e3 e4 e5 => ?_⟩
  · rw [tuF, if_pos e, if_neg q] at h
    by_cases z : (H 33 0 j) ≤ 4
    · rw [if_neg (by simp only [ti_lt, ti_le] at *; omega)] at h; rw [if_pos z]; exact h
    · rw [if_pos (by simp only [ti_lt, ti_le] at *; omega)] at h; rw [if_neg z]; exact h
  · rw [tuF, if_pos e, if_pos q] at h; exact h
  · rw [tuF, if_neg (by rw [e]; decide), if_pos e] at h
    rw [e2]; exact h
  · rw [tuF, if_neg (by rw [e]; decide), if_neg (by rw [e]; decide), if_pos e] at h
    have ev : (if (if w ≤ 0 then 0 else 1 : Int32) = (if (xrem (H 33 0 j) 2) = 0 then 1 else 0 : Int32) then v2 else 0 : Int32) = (if (0 < w ↔ xrem (H 33 0 j) 2 = 0) then (if way = 0 then w else -w) else 0) := by
      rw [e2]
      have hw : (0 < w) ↔ ¬ w ≤ 0 := by simp only [ti_lt, ti_le]; omega
      by_cases z : w ≤ 0
      · by_cases y : xrem (H 33 0 j) 2 = 0
        · rw [if_pos z, if_pos y, if_neg (by decide), if_neg (fun q => hw.mp (q.mpr y) z)]
        · rw [if_pos z, if_neg y, if_pos (show (0 : Int32) = 0 from rfl), if_pos (show (0 < w ↔ xrem (H 33 0 j) 2 = 0) from ⟨fun q => absurd z (hw.mp q), fun q => absurd q y⟩)]
      · by_cases y : xrem (H 33 0 j) 2 = 0
        · rw [if_neg z, if_pos y, if_pos (show (1 : Int32) = 1 from rfl), if_pos (show (0 < w ↔ xrem (H 33 0 j) 2 = 0) from ⟨fun _ => y, fun _ => hw.mpr z⟩)]
        · rw [if_neg z, if_neg y, if_neg (by decide), if_neg (fun q => y (q.mp (hw.mpr z)))]
    rw [ev]; exact h
  · rw [tuF, if_neg e3, if_neg e4, if_neg e5] at h
    rw [e2]; exact h
theorem hd_all : ∀ a, a < 16 → (nI a &&& 15).toNatClampNeg = a ∧ xrem (nI a) 8 = nI a &&& 7 ∧ (nI a + 8) &&& 15 = xrem (nI a + 8) 16 := by decide +kernel
theorem hd_tu : ∀ a, a < 16 → ∀ b, b < 5 → ((nI a + (nI b - 2)) &&& 15) = xrem ((nI a + (nI b - 2)) + 16) 16 := by decide +kernel
theorem tu_rng {k m way w : Int32} (hw : w = -1 ∨ w = 0 ∨ w = 1) : ∃ b, b < 5 ∧ tuF k m way w = nI b - 2 := by
  have c : ∀ x : Int32, x = -2 ∨ x = -1 ∨ x = 0 ∨ x = 1 ∨ x = 2 → ∃ b, b < 5 ∧ x = nI b - 2 := by
    rintro x (rfl | rfl | rfl | rfl | rfl)
    · exact ⟨0, by decide, by decide⟩
    · exact ⟨1, by decide, by decide⟩
    · exact ⟨2, by decide, by decide⟩
    · exact ⟨3, by decide, by decide⟩
    · exact ⟨4, by decide, by decide⟩
  apply c
  unfold tuF
  rcases hw with rfl | rfl | rfl
  · by_cases a : k = 3
    · rw [if_pos a]; split
      · decide
      · split <;> decide
    · rw [if_neg a]; split
      · split <;> decide
      · split
        · split
          · split <;> decide
          · decide
        · split <;> decide
  · by_cases a : k = 3
    · rw [if_pos a]; split
      · decide
      · split <;> decide
    · rw [if_neg a]; split
      · split <;> decide
      · split
        · split
          · split <;> decide
          · decide
        · split <;> decide
  · by_cases a : k = 3
    · rw [if_pos a]; split
      · decide
      · split <;> decide
    · rw [if_neg a]; split
      · split <;> decide
      · split
        · split
          · split <;> decide
          · decide
        · split <;> decide
theorem s_Model_headingBy {E : XE} {d j a : Nat} {way w : Int32} {H : HH} {Q : Int32 → HH → Prop} (hj : j < 4) (ha : a < 16) (hw : w = -1 ∨ w = 0 ∨ w = 1) (h : Q ((nI a + tuF (H 32 0 j) (H 33 0 j) way w) &&& 15) H) : c_Model_headingBy E (d + 1) (nI j) (nI a) way w H Q := by
  refine l_Model_headingBy (s_Model_turnsOf hj ?_)
  obtain ⟨b, hb, e⟩ := tu_rng (k := H 32 0 j) (m := H 33 0 j) (way := way) hw
  rw [e] at h ⊢
  rw [← hd_tu a ha b hb]
  exact h
theorem acr_nI {a : Nat} (ha : a < 16) : acr (nI a) = xACR.getD a 0 := by
  unfold acr; rw [(hd_all a ha).1]
theorem s_Model_placeBy {E : XE} {d a : Nat} {p way : Int32} {H : HH} {Q : Int32 → HH → Prop} (hmc : mcOK H) (ha : a < 16) (h : Q (p + shF (nI a) way) H) : c_Model_placeBy E d p (nI a) way H Q := by
  have hin : vp_in (nI a) 16 := vp_in_nI ha (by omega)
  refine l_Model_placeBy ?_
  unfold p_Model_placeBy
  rw [nI_clamp (by omega), hmc a ha]
  unfold shF at h
  rw [acr_nI ha] at h
  refine ⟨fun q => ⟨hin, ?_⟩, fun q => ⟨hin, ?_⟩⟩
  · rw [if_neg q] at h; rw [Int32.sub_eq_add_neg]; exact h
  · rw [if_pos q] at h; exact h
theorem s_Model_isPlace {E : XE} {d : Nat} {p : Int32} {H : HH} {Q : Int32 → HH → Prop} (h1 : ¬ p < 0 → p ≤ H 30 0 1 → Q 1 H) (h0 : ¬ (¬ p < 0 ∧ p ≤ H 30 0 1) → Q 0 H) : c_Model_isPlace E (d + 1) p H Q :=
  l_Model_isPlace (s_Model_in (fun a b => ⟨Or.inr rfl, h1 (by simp only [ti_lt, ti_le] at *; omega) b⟩) (fun a => ⟨Or.inl rfl, h0 (fun q => a ⟨by have := q.1; simp only [ti_lt, ti_le] at *; omega, q.2⟩)⟩))
theorem mm_all (a b p : Int32) : (if (if b ≤ a then b else a : Int32) ≤ p then (if b ≤ a then b else a : Int32) else p : Int32) = xmin p (xmin a b) ∧ (if p ≤ (if b ≤ a then a else b : Int32) then (if b ≤ a then a else b : Int32) else p : Int32) = xmax p (xmax a b) := by
  unfold xmin xmax
  simp only [ti_eq, ti_lt, ti_le]
  constructor
  · repeat' split
    all_goals (first | rfl | omega)
  · repeat' split
    all_goals (first | rfl | omega)
/-- what the reference's vehicle fits -/
abbrev fitM (H : HH) (code ends : Nat → Int32) (j : Nat) (p h : Int32) : Prop := fitV (lwF code ends) (H 30 0 1) (H 30 0 2) (vM H j) p h
theorem s_Model_fitsAt {E : XE} {d t j a : Nat} {code ends : Nat → Int32} {p : Int32} {H : HH} {Q : Int32 → HH → Prop} (hr : mlOK H t code ends) (hj : j < 4) (ha : a < 16) (hp : ¬ p < 0 ∧ p ≤ H 30 0 1)
    (h1 : fitM H code ends j p (nI a) → ∀ H1, hfr [46, 47] H H1 → Q 1 H1) (h0 : ¬ fitM H code ends j p (nI a) → ∀ H1, hfr [46, 47] H H1 → Q 0 H1) : c_Model_fitsAt E (d + 3) (nI j) p (nI a) H Q := by
  have hin : vp_in (nI a) 16 := vp_in_nI ha (by omega)
  have hmc := hr.2.2.2
  refine l_Model_fitsAt ?_
  unfold p_Model_fitsAt
  refine ⟨hin, s_Model_frontOf hj ?_⟩
  rw [nI_clamp (by omega), hmc a ha]
  refine fun v3 e3 => ⟨hin, s_Model_backOf hj (fun v6 e6 v8 e8 v10 e10 v12 e12 v14 e14 => ?_)⟩
  have m1 := (mm_all v3 v6 p).1
  have m2 := (mm_all v3 v6 p).2
  rw [← e8, ← e12] at m1
  rw [← e10, ← e14] at m2
  rw [(hd_all a ha).2.1]
  have key : ∀ v18 : Int32, v18 = (if (3 ≤ nI a &&& 7 ∧ nI a &&& 7 ≤ 5) then H 30 0 2 else 0) → c_Model_asksOf E (d + 2) 0 (nI j) p (nI a) 0 0 H (fun r20 H19 => (v12 < r20 → Q 0 H19) ∧ (¬ v12 < r20 → c_Model_asksOf E (d + 2) 0 (nI j) p (nI a) 1 0 H19 (fun r22 H21 => ((if (((H19 30 0 1) + v18) - r22) < v14 then 0 else 1 : Int32) = 0 ∨ (if (((H19 30 0 1) + v18) - r22) < v14 then 0 else 1 : Int32) = 1) ∧ Q (if (((H19 30 0 1) + v18) - r22) < v14 then 0 else 1 : Int32) H21))) := by
    intro v18 e18
    refine s_Model_asksOf (p := 0) hr (by decide) hj (fun H19 f19 => ⟨fun c => ?_, fun c => ?_⟩)
    · refine h0 (fun z => ?_) _ f19
      have z3 := z.2.2.1
      rw [acr_nI ha] at z3
      rw [m1, e3, e6] at c
      simp only [ti_lt, ti_le] at c z3
      exact absurd z3 (by
        have : ¬ ((lwF code ends 0 (H 33 0 j) 0 (nI a) p (H 30 0 1) 0).toInt ≤ (xmin p (xmin (p + xACR.getD a 0 * frF (H 32 0 j) (H 33 0 j) / 8) (p - xACR.getD a 0 * bkF (H 32 0 j) (H 33 0 j) / 8))).toInt) := by omega
        exact this)
    · refine s_Model_asksOf (p := 0) (hr.fr f19 (by decide) (by decide) (by decide) (by decide)) (by decide) hj (fun H21 f21 => ?_)
      rw [f19 33 (by decide), f19 30 (by decide)]
      have ew : H 30 0 1 + v18 = (if (3 ≤ nI a &&& 7 ∧ nI a &&& 7 ≤ 5) then H 30 0 1 + H 30 0 2 else H 30 0 1) := by
        rw [e18]
        split
        · rfl
        · rw [Int32.add_zero]
      rw [ew]
      have f := f19.tr f21
      by_cases z : ((if (3 ≤ nI a &&& 7 ∧ nI a &&& 7 ≤ 5) then H 30 0 1 + H 30 0 2 else H 30 0 1) - lwF code ends 0 (H 33 0 j) 1 (nI a) p (H 30 0 1) 0) < v14
      · rw [if_pos z]
        refine ⟨Or.inl rfl, h0 (fun y => ?_) _ f⟩
        have y4 := y.2.2.2
        rw [acr_nI ha] at y4
        rw [m2, e3, e6] at z
        exact y4 z
      · rw [if_neg z]
        refine ⟨Or.inr rfl, h1 ⟨hp.1, hp.2, ?_, ?_⟩ _ f⟩
        · rw [acr_nI ha]
          rw [m1, e3, e6] at c
          simp only [ti_lt, ti_le] at c ⊢
          have : (lwF code ends 0 (H 33 0 j) 0 (nI a) p (H 30 0 1) 0).toInt ≤ (xmin p (xmin (p + xACR.getD a 0 * frF (H 32 0 j) (H 33 0 j) / 8) (p - xACR.getD a 0 * bkF (H 32 0 j) (H 33 0 j) / 8))).toInt := by omega
          exact this
        · rw [acr_nI ha]
          rw [m2, e3, e6] at z
          exact z
  refine s_Model_in (fun q1 q2 v18 e18 => ?_) (fun q v18 e18 => ?_)
  · exact key v18 (by rw [e18, if_neg (by decide), if_pos ⟨q1, q2⟩])
  · exact key v18 (by rw [e18, if_pos rfl, if_neg q])
