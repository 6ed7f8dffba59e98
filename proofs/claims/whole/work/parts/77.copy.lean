/-! THE CALLS 16: copy, vehiclesBy, feed. -/
/-- does a row of m numbers stand from i on, in n -/
def rowIn (i m : Int32) (n : Nat) : Prop := 0 ≤ i ∧ 0 ≤ m ∧ i.toInt + m.toInt ≤ n
theorem rowIn_nat {i m : Int32} {n : Nat} (h : rowIn i m n) (hn : n ≤ 40) : ∃ a b, a + b ≤ n ∧ i = nI a ∧ m = nI b := by
  obtain ⟨h1, h2, h3⟩ := h
  obtain ⟨a, ha, ea⟩ := nI_of (x := i) (fun z => by simp only [ti_lt, ti_le] at *; omega)
  obtain ⟨b, hb, eb⟩ := nI_of (x := m) (fun z => by simp only [ti_lt, ti_le] at *; omega)
  rw [ea, eb, ti_nI ha, ti_nI hb] at h3
  exact ⟨a, b, by omega, ea, eb⟩
theorem s_Sheet_rowIn {E : XE} {d u n : Nat} {i m : Int32} {H : HH} {Q : Int32 → HH → Prop} (hn : n ≤ 40) (en : H 16 u 2 = nI n) (h1 : rowIn i m n → Q 1 H) (h0 : ¬ rowIn i m n → Q 0 H) : c_Sheet_hasRow E d u i m H Q := by
  have hs : shOK H u := by
    unfold shOK
    rw [en, ti_nI (by omega)]; omega
  refine s_Sheet_hasRow hs (fun a b c => h1 ⟨a, b, ?_⟩) (fun q => h0 (fun z => q ⟨z.1, z.2.1, ?_⟩))
  · rw [en, ti_nI (by omega)] at c; exact c
  · rw [en, ti_nI (by omega)]; exact z.2.2
theorem m_copy {E : XE} {d d2 : Nat} {x1 x2 x3 x4 x5 : Int32} {s : SN} {H : HH} (hI : INV H s) : c_Main_copy E (d + 20) x1 x2 x3 x4 x5 H (fun r H1 => c_Model_copy E (d2 + 20) x1 x2 x3 x4 x5 H1 (eqI r)) := by
  have ok : ∀ r r2 : Int32, r2 = r → eqI r r2 H := fun r r2 e => eqI_sc hI scF.rf e
  refine l_Main_copy (s_Main_isSheetN (fun u hu4 eu => ⟨fun z => absurd z (by decide), fun _ => ?_⟩) (fun no => ⟨fun _ => l_Model_copy (s_Model_in3 (fun u h1 h2 => absurd h2 (no u h1)) (fun _ => ⟨fun _ => ok _ _ rfl, fun z => absurd rfl z⟩)), fun z => absurd rfl z⟩))
  refine s_Main_isSheetN (fun o ho4 eo => ⟨fun _ => ?_, fun z => absurd z (by decide)⟩) (fun no => ⟨fun z => absurd rfl z, fun _ => l_Model_copy (s_Model_in3 (fun _ _ _ => ⟨fun z => absurd z (by decide), fun _ => s_Model_in3 (fun o h1 h2 => absurd h2 (no o h1)) (fun _ => ⟨fun z => absurd rfl z, fun _ => ok _ _ rfl⟩)⟩) (fun n2 => absurd eu (n2 u hu4)))⟩)
  have vu : vp_in x1 4 := by rw [eu]; exact vp_in_nI hu4 (by omega)
  have vo : vp_in x3 4 := by rw [eo]; exact vp_in_nI ho4 (by omega)
  have cu : x1.toNatClampNeg = u := by rw [eu, nI_clamp (by omega)]
  have co : x3.toNatClampNeg = o := by rw [eo, nI_clamp (by omega)]
  obtain ⟨u40, uso, ⟨n, hn, un, u41⟩, u42⟩ := id (hI.2.2.2.2.2.2.2.1 u hu4)
  obtain ⟨o40, oso, ⟨m, hm, om, o41⟩, o42⟩ := id (hI.2.2.2.2.2.2.2.1 o ho4)
  rw [cu, co]
  -- the reference's side, as far as its sheets' sorts and sizes are the class's
  have md : ∀ (H1 : HH) (r : Int32), (∀ a i k, 30 ≤ a → H1 a i k = H a i k) →
      ((H 16 u 1 = -1 ∨ H 16 o 1 = -1) → eqI r (-11) H1) →
      (¬ H 16 u 1 = -1 → ¬ H 16 o 1 = -1 → ¬ H 16 u 1 = H 16 o 1 → eqI r (-13) H1) →
      (¬ H 16 u 1 = -1 → ¬ H 16 o 1 = -1 → H 16 u 1 = H 16 o 1 → ¬ (rowIn x2 x5 n ∧ rowIn x4 x5 m) → eqI r (-12) H1) →
      (¬ H 16 u 1 = -1 → ¬ H 16 o 1 = -1 → H 16 u 1 = H 16 o 1 → ∀ i j c, i + c ≤ n → j + c ≤ m → x2 = nI i → x4 = nI j → x5 = nI c → ∀ G, (∀ a b k, ¬ (a = 42 ∧ b = 0) → G a b k = H1 a b k) → (∀ k, G 42 0 k = if 40 * o + j ≤ k ∧ k < 40 * o + j + c then H1 42 0 (40 * u + i + (k - (40 * o + j))) else H1 42 0 k) → eqI r (nI c) G) →
      c_Model_copy E (d2 + 20) x1 x2 x3 x4 x5 H1 (eqI r) := by
    intro H1 r hk g11 g13 g12 g1
    refine l_Model_copy ?_
    unfold p_Model_copy
    rw [cu, co]
    refine s_Model_in3 (fun _ _ _ => ?_) (fun n2 => absurd eu (n2 u hu4))
    refine ⟨fun z => absurd z (by decide), fun _ => s_Model_in3 (fun _ _ _ => ?_) (fun n2 => absurd eo (n2 o ho4))⟩
    refine ⟨fun _ => ⟨vu, ?_⟩, fun z => absurd z (by decide)⟩
    rw [hk 40 0 u (by omega), hk 40 0 o (by omega), hk 41 0 u (by omega), hk 41 0 o (by omega), u40, o40, u41, o41]
    refine ⟨fun q => g11 (Or.inl q), fun q => ⟨vo, fun q2 => ⟨vu, vo, fun q3 => ?_, fun q3 => g13 q q2 q3⟩, fun q2 => g11 (Or.inr q2)⟩⟩
    have g12' : ¬ (rowIn x2 x5 n ∧ rowIn x4 x5 m) → eqI r (-12) H1 := g12 q q2 q3
    have z0 : (0 : Int32).toInt = 0 := rfl
    have tn : (nI n).toInt = n := ti_nI (by omega)
    have tm : (nI m).toInt = m := ti_nI (by omega)
    refine ⟨fun p5 => g12' (fun z => ?_), fun p5 => ⟨fun p2 => g12' (fun z => ?_), fun p2 => ⟨fun p4 => g12' (fun z => ?_), fun p4 => ⟨vu, fun pn => g12' (fun z => ?_), fun pn => ⟨vo, fun pm => g12' (fun z => ?_), fun pm => ⟨vu, fun pc => g12' (fun z => ?_), fun pc => ⟨vo, fun pd => ?_, fun pd => g12' (fun z => ?_)⟩⟩⟩⟩⟩⟩⟩
    · have := z.1.2.1; simp only [ti_lt, ti_le] at *; omega
    · have := z.1.1; simp only [ti_lt, ti_le] at *; omega
    · have := z.2.1; simp only [ti_lt, ti_le] at *; omega
    · have := z.1.2.2; have := z.1.2.1; simp only [ti_lt, ti_le] at *; omega
    · have := z.2.2.2; have := z.1.2.1; simp only [ti_lt, ti_le] at *; omega
    · have := z.1.2.2
      have hx := ti_hi x2
      have es : (nI n - x2).toInt = (n : Int) - x2.toInt := by rw [ti_sub (by simp only [ti_lt, ti_le] at *; omega) (by simp only [ti_lt, ti_le] at *; omega), tn]
      simp only [ti_lt, ti_le] at *; omega
    · have hx2 := ti_hi x2
      have hx4 := ti_hi x4
      have es : (nI n - x2).toInt = (n : Int) - x2.toInt := by rw [ti_sub (by simp only [ti_lt, ti_le] at *; omega) (by simp only [ti_lt, ti_le] at *; omega), tn]
      have es2 : (nI m - x4).toInt = (m : Int) - x4.toInt := by rw [ti_sub (by simp only [ti_lt, ti_le] at *; omega) (by simp only [ti_lt, ti_le] at *; omega), tm]
      obtain ⟨i, hi, ei⟩ := nI_of p2
      obtain ⟨j, hj, ej⟩ := nI_of p4
      obtain ⟨c, hc, ec⟩ := nI_of p5
      have hic : i + c ≤ n := by
        simp only [ti_lt] at pc
        rw [es, ei, ec, ti_nI hi, ti_nI hc] at pc
        simp only [ti_lt, ti_le] at *
        omega
      have hjc : j + c ≤ m := by
        simp only [ti_le] at pd
        rw [es2, ej, ec, ti_nI hj, ti_nI hc] at pd
        omega
      intro v5 e5 v6 e6
      have a5 : v5 = nI (40 * u + i) := by rw [e5, eu, ei, show (40 : Int32) = nI 40 from rfl, nI_mul, nI_add]
      have a6 : v6 = nI (40 * o + j) := by rw [e6, eo, ej, show (40 : Int32) = nI 40 from rfl, nI_mul, nI_add]
      subst a5; subst a6
      rw [ec]
      have fin := g1 q q2 q3 i j c hic hjc ei ej ec
      -- z steps done: forward, or backward
      refine ⟨fun z G => ∃ t lo hi2, t ≤ c ∧ z = nI t ∧ (∀ a b k, ¬ (a = 42 ∧ b = 0) → G a b k = H1 a b k) ∧ ((40 * o + j ≤ 40 * u + i ∧ lo = 40 * o + j ∧ hi2 = 40 * o + j + t) ∨ (¬ 40 * o + j ≤ 40 * u + i ∧ lo = 40 * o + j + (c - t) ∧ hi2 = 40 * o + j + c)) ∧ (∀ k, G 42 0 k = if lo ≤ k ∧ k < hi2 then H1 42 0 (40 * u + i + (k - (40 * o + j))) else H1 42 0 k), fun z _ => 40 - z.toNatClampNeg, ?_, fun z8 G hJ => ?_⟩
      · by_cases e : 40 * o + j ≤ 40 * u + i
        · exact ⟨0, 40 * o + j, 40 * o + j + 0, by omega, rfl, fun _ _ _ _ => rfl, Or.inl ⟨e, rfl, rfl⟩, fun k => by rw [if_neg (by omega)]⟩
        · exact ⟨0, 40 * o + j + (c - 0), 40 * o + j + c, by omega, rfl, fun _ _ _ _ => rfl, Or.inr ⟨e, rfl, rfl⟩, fun k => by rw [if_neg (by omega)]⟩
      obtain ⟨t, lo, hi2, ht, rfl, h1, hlh, h2⟩ := hJ
      refine ⟨fun y => ?_, fun y v11 e11 => ?_⟩
      · rw [nI_leI (by omega) (by omega)] at y
        have et : t = c := by omega
        subst et
        refine fin G h1 (fun k => ?_)
        have e1 : lo = 40 * o + j := by omega
        have e2 : hi2 = 40 * o + j + t := by omega
        rw [h2 k, e1, e2]
      · rw [nI_leI (by omega) (by omega)] at y
        have htc : t < c := by omega
        have mu : 40 - (nI t + 1).toNatClampNeg < 40 - (nI t).toNatClampNeg := by rw [nI_1, nI_clamp (by omega), nI_clamp (by omega)]; omega
        obtain ⟨w, hw, ew⟩ : ∃ w, ((40 * o + j ≤ 40 * u + i ∧ w = t) ∨ (¬ 40 * o + j ≤ 40 * u + i ∧ w = c - 1 - t)) ∧ v11 = nI w := by
          by_cases e : 40 * o + j ≤ 40 * u + i
          · refine ⟨t, Or.inl ⟨e, rfl⟩, ?_⟩
            rw [e11, if_pos ((nI_leI (by omega) (by omega)).mpr e)]
          · refine ⟨c - 1 - t, Or.inr ⟨e, rfl⟩, ?_⟩
            rw [e11, if_neg (fun z => e ((nI_leI (by omega) (by omega)).mp z))]
            have e1 : nI c - 1 = nI (c - 1) := by
              rw [show c = (c - 1) + 1 by omega, nI_pred]; rfl
            rw [e1, ti_eq, ti_sub (by rw [ti_nI (by omega), ti_nI (by omega)]; omega) (by rw [ti_nI (by omega), ti_nI (by omega)]; omega), ti_nI (by omega), ti_nI (by omega), ti_nI (by omega)]
            omega
        have hwc : w < c := by omega
        rw [ew, nI_add, nI_add]
        refine ⟨vp_in_nI (by omega) (by omega), vp_in_nI (by omega) (by omega), fun H12 e12 => ?_⟩
        rw [nI_clamp (by omega), nI_clamp (by omega)] at e12
        -- what is read has not been written yet
        have rd : G 42 0 (40 * u + i + w) = H1 42 0 (40 * u + i + w) := by
          rw [h2, if_neg (by omega)]
        rw [rd] at e12
        obtain ⟨lo3, hi3, hlh3⟩ : ∃ lo3 hi3, ((40 * o + j ≤ 40 * u + i ∧ lo3 = 40 * o + j ∧ hi3 = 40 * o + j + (t + 1)) ∨ (¬ 40 * o + j ≤ 40 * u + i ∧ lo3 = 40 * o + j + (c - (t + 1)) ∧ hi3 = 40 * o + j + c)) := by
          by_cases e : 40 * o + j ≤ 40 * u + i
          · exact ⟨_, _, Or.inl ⟨e, rfl, rfl⟩⟩
          · exact ⟨_, _, Or.inr ⟨e, rfl, rfl⟩⟩
        refine ⟨⟨t + 1, lo3, hi3, htc, nI_1 t, fun a b k p => ?_, hlh3, fun k => ?_⟩, mu⟩
        · rw [e12, hu_ne (by omega)]; exact h1 a b k p
        · rw [e12]
          by_cases ek : k = 40 * o + j + w
          · rw [ek, hu_at, show 40 * u + i + (40 * o + j + w - (40 * o + j)) = 40 * u + i + w by omega, if_pos (by omega)]
          · rw [hu_k _ _ ek, h2 k]
            by_cases e2 : lo ≤ k ∧ k < hi2
            · rw [if_pos e2, if_pos (by omega)]
            · rw [if_neg e2, if_neg (by omega)]
    · have := z.2.2.2
      have hx := ti_hi x4
      have es : (nI m - x4).toInt = (m : Int) - x4.toInt := by rw [ti_sub (by simp only [ti_lt, ti_le] at *; omega) (by simp only [ti_lt, ti_le] at *; omega), tm]
      simp only [ti_lt, ti_le] at *; omega
  have ex : ∀ {r : Int32} {H1 : HH}, (False → eqI r (-11) H1) := fun h => h.elim
  refine ⟨vu, vo, s_Sheet_isMissing (fun mu => ⟨fun _ => md H _ (fun _ _ _ _ => rfl) (fun _ => ok _ _ rfl) (fun a => absurd mu a) (fun a => absurd mu a) (fun a => absurd mu a), fun z => absurd z (by decide)⟩) (fun mu => ⟨fun z => absurd rfl z, fun _ => ?_⟩)⟩
  refine s_Sheet_isMissing (fun mo => ⟨fun z => absurd z (by decide), fun _ => md H _ (fun _ _ _ _ => rfl) (fun _ => ok _ _ rfl) (fun _ a => absurd mo a) (fun _ a => absurd mo a) (fun _ a => absurd mo a)⟩) (fun mo => ⟨fun _ => ⟨fun same => ?_, fun same => md H _ (fun _ _ _ _ => rfl) (fun z => z.elim (fun y => absurd y mu) (fun y => absurd y mo)) (fun _ _ _ => ok _ _ rfl) (fun _ _ a => absurd a same) (fun _ _ a => absurd a same)⟩, fun z => absurd rfl z⟩)
  have out : ¬ (rowIn x2 x5 n ∧ rowIn x4 x5 m) → c_Model_copy E (d2 + 20) x1 x2 x3 x4 x5 H (eqI (-12)) := by
    intro hno
    refine md H _ (fun _ _ _ _ => rfl) (fun z => z.elim (fun y => absurd y mu) (fun y => absurd y mo)) (fun _ _ a => absurd same a) (fun _ _ _ _ => ok _ _ rfl) (fun _ _ _ i j c h1 h2 e1 e2 e3 => ?_)
    exfalso
    refine hno ⟨⟨by rw [e1]; exact nI_pos' (by omega), by rw [e3]; exact nI_pos' (by omega), by rw [e1, e3, ti_nI (by omega), ti_nI (by omega)]; omega⟩, ⟨by rw [e2]; exact nI_pos' (by omega), by rw [e3]; exact nI_pos' (by omega), by rw [e2, e3, ti_nI (by omega), ti_nI (by omega)]; omega⟩⟩
  refine s_Sheet_rowIn hn un (fun r1 => ⟨fun z => absurd z (by decide), fun _ => ?_⟩) (fun r1 => ⟨fun _ => out (fun z => r1 z.1), fun z => absurd rfl z⟩)
  refine s_Sheet_rowIn hm om (fun r2 => ⟨fun _ => ?_, fun z => absurd z (by decide)⟩) (fun r2 => ⟨fun z => absurd rfl z, fun _ => out (fun z => r2 z.2)⟩)
  obtain ⟨i, c, hic, ei, ec⟩ := rowIn_nat r1 hn
  obtain ⟨j, c', hjc, ej, ec'⟩ := rowIn_nat r2 hm
  have ecc : c' = c := by rw [ec, nI_eq (by omega) (by omega)] at ec'; exact ec'.symm
  subst ecc
  rw [ei, ej, ec, nI_clamp (by omega), nI_clamp (by omega), nI_clamp (by omega)]
  refine ⟨nI_pos (by omega), nI_pos (by omega), nI_pos (by omega), by omega, by omega, fun H18 e18 => ?_⟩
  rw [← ei, ← ej, ← ec]
  refine md H18 _ (fun a b k q => by rw [e18, hrow_kd _ _ _ (by omega)]) (fun z => z.elim (fun y => absurd y mu) (fun y => absurd y mo)) (fun _ _ a => absurd same a) (fun _ _ _ a => absurd ⟨r1, r2⟩ a) (fun _ _ _ i2 j2 c2 h1 h2 e1 e2 e3 G g1 g2 => ?_)
  have ii : i2 = i := by rw [ei, nI_eq (by omega) (by omega)] at e1; exact e1.symm
  have jj : j2 = j := by rw [ej, nI_eq (by omega) (by omega)] at e2; exact e2.symm
  have cc : c2 = c' := by rw [ec, nI_eq (by omega) (by omega)] at e3; exact e3.symm
  subst ii; subst jj; subst cc
  have k18 : ∀ a b k, ¬ (a = 17 ∧ b = o) → H18 a b k = H a b k := by
    intro a b k p
    rw [e18]
    unfold hrow
    rw [if_neg p]
  refine ⟨ec.symm ▸ rfl, s, hI.shx ho4 (fun a b k q1 q2 q3 q4 => ?_) ⟨?_, ?_, ⟨m, hm, ?_, ?_⟩, fun k hk => ?_⟩⟩
  · by_cases p : a = 42 ∧ b = 0
    · obtain ⟨rfl, rfl⟩ := p
      rw [g2, if_neg (by omega), k18 _ _ _ (by omega)]
    · rw [g1 a b k p, k18 a b k q2]
  · rw [g1 _ _ _ (by omega), g1 _ _ _ (by omega), k18 _ _ _ (by omega), k18 _ _ _ (by omega)]; exact o40
  · rw [g1 _ _ _ (by omega), k18 _ _ _ (by omega)]; exact oso
  · rw [g1 _ _ _ (by omega), k18 _ _ _ (by omega)]; exact om
  · rw [g1 _ _ _ (by omega), k18 _ _ _ (by omega)]; exact o41
  · rw [g1 17 o k (by omega), e18, hrow_at, g2]
    by_cases p : 40 * o + j2 ≤ 40 * o + k ∧ 40 * o + k < 40 * o + j2 + c2
    · rw [if_pos p, pk_cpy_in (by omega) (by omega)]
      rw [show H18 = hrow H 17 o (va_cpy (H 17 u) (H 17 o) i2 j2 c2) from e18, hrow_kd _ _ _ (by decide), show 40 * u + i2 + (40 * o + k - (40 * o + j2)) = 40 * u + (i2 + (k - j2)) by omega]
      exact u42 _ (by omega)
    · rw [if_neg p, pk_cpy_out (by omega), k18 _ _ _ (by omega)]
      exact o42 k hk
/-- what stands on a sheet, two by two, is to come -/
noncomputable def vbF (lw : LW) (wd op n : Nat) (f : Nat → Int32) (x3 : Int32) : Nat → Nat → Nat → VS → Int32 × VS
  | 0, _, came, st => (nI came, st)
  | t + 1, k, came, st => @ite _ (rowIn (x3 + 2 * nI k) 2 n) (Classical.propDecidable _)
      (vbF lw wd op n f x3 t (k + 1) (if (addF lw wd op st (f (x3 + 2 * nI k).toNatClampNeg) (f ((x3 + 2 * nI k).toNatClampNeg + 1))).1 < 0 then came else came + 1) (addF lw wd op st (f (x3 + 2 * nI k).toNatClampNeg) (f ((x3 + 2 * nI k).toNatClampNeg + 1))).2)
      (-12, st)
theorem vbF_y {lw : LW} {wd op n : Nat} {f : Nat → Int32} {x3 : Int32} {t k came : Nat} {st : VS} (h : rowIn (x3 + 2 * nI k) 2 n) : vbF lw wd op n f x3 (t + 1) k came st = vbF lw wd op n f x3 t (k + 1) (if (addF lw wd op st (f (x3 + 2 * nI k).toNatClampNeg) (f ((x3 + 2 * nI k).toNatClampNeg + 1))).1 < 0 then came else came + 1) (addF lw wd op st (f (x3 + 2 * nI k).toNatClampNeg) (f ((x3 + 2 * nI k).toNatClampNeg + 1))).2 := by
  show @ite _ (rowIn (x3 + 2 * nI k) 2 n) (Classical.propDecidable _) _ _ = _
  rw [if_pos h]
theorem vbF_n {lw : LW} {wd op n : Nat} {f : Nat → Int32} {x3 : Int32} {t k came : Nat} {st : VS} (h : ¬ rowIn (x3 + 2 * nI k) 2 n) : vbF lw wd op n f x3 (t + 1) k came st = (-12, st) := by
  show @ite _ (rowIn (x3 + 2 * nI k) 2 n) (Classical.propDecidable _) _ _ = _
  rw [if_neg h]
theorem m_vehiclesBy {E : XE} {d d2 : Nat} {x1 x2 x3 x4 : Int32} {s : SN} {H : HH} (hI : INV H s) : c_Main_vehiclesBy E (d + 20) x1 x2 x3 x4 H (fun r H1 => c_Model_vehiclesBy E (d2 + 20) x1 x2 x3 x4 H1 (eqI r)) := by
  have nv4 : s.nv ≤ 4 := hI.1.1
  have w60 : s.wd ≤ 60 := hI.1.2.2.1
  have ok : ∀ r r2 : Int32, r2 = r → eqI r r2 H := fun r r2 e => eqI_sc hI scF.rf e
  refine l_Main_vehiclesBy (s_Main_isSheetN (fun u hu4 eu => ⟨fun z => absurd z (by decide), fun _ => ?_⟩) (fun no => ⟨fun _ => l_Model_vehiclesBy (s_Model_in3 (fun u h1 h2 => absurd h2 (no u h1)) (fun _ => ⟨fun _ => ok _ _ rfl, fun z => absurd rfl z⟩)), fun z => absurd rfl z⟩))
  have vu : vp_in x1 4 := by rw [eu]; exact vp_in_nI hu4 (by omega)
  have cu : x1.toNatClampNeg = u := by rw [eu, nI_clamp (by omega)]
  obtain ⟨u40, uso, ⟨n, hn, un, u41⟩, u42⟩ := id (hI.2.2.2.2.2.2.2.1 u hu4)
  rw [cu]
  refine s_Main_isWithin (fun q1 q2 => ⟨fun z => absurd z (by decide), fun _ => ?_⟩) (fun q => ⟨fun _ => l_Model_vehiclesBy (s_Model_in3 (fun _ _ _ => ⟨fun z => absurd z (by decide), fun _ => s_Model_in (fun a b => absurd ⟨a, b⟩ q) (fun _ => ⟨fun _ => ok _ _ rfl, fun z => absurd rfl z⟩)⟩) (fun n2 => absurd eu (n2 u hu4))), fun z => absurd rfl z⟩)
  refine s_Main_isWithin (fun q3 q4 => ⟨fun _ => ?_, fun z => absurd z (by decide)⟩) (fun q => ⟨fun z => absurd rfl z, fun _ => l_Model_vehiclesBy (s_Model_in3 (fun _ _ _ => ⟨fun z => absurd z (by decide), fun _ => s_Model_in (fun _ _ => ⟨fun z => absurd z (by decide), fun _ => s_Model_in (fun a b => absurd ⟨a, b⟩ q) (fun _ => ⟨fun z => absurd rfl z, fun _ => ok _ _ rfl⟩)⟩) (fun a => absurd ⟨q1, q2⟩ a)⟩) (fun n2 => absurd eu (n2 u hu4)))⟩)
  obtain ⟨N, hN, eN⟩ := nat_of (n := 4) (by omega) q3 q4
  -- the reference, up to its loop
  have md : ∀ (H1 : HH) (r : Int32), (∀ a i k, 30 ≤ a → ¬ scr a i k → H1 a i k = H a i k) → (H 16 u 1 = -1 → eqI r (-11) H1) → (¬ H 16 u 1 = -1 → ¬ H 16 u 1 = x2 → eqI r (-13) H1) → (¬ H 16 u 1 = -1 → H 16 u 1 = x2 → ∃ (I7 : Int32 → Int32 → HH → Prop) (μ7 : Int32 → Int32 → HH → Nat), I7 0 0 H1 ∧ ∀ (z8 : Int32) (z9 : Int32) (H10 : HH), I7 z8 z9 H10 → ((x4 ≤ z9 → (eqI r z8 H10)) ∧ (¬ x4 ≤ z9 → (∀ v11 : Int32, v11 = (x3 + (2 * z9)) → ((x3 < 0 → (eqI r (-12) H10)) ∧ (¬ x3 < 0 → ((v11 < x3 → (eqI r (-12) H10)) ∧ (¬ v11 < x3 → (vp_in x1 4 ∧ ((v11 ≤ ((H10 41 0 u) - 2) → (∀ v12 : Int32, v12 = ((40 * x1) + v11) → (vp_in v12 160 ∧ (vp_in (v12 + 1) 160 ∧ (c_Model_vehicle E (d2 + 19) (H10 42 0 (v12.toNatClampNeg)) (H10 42 0 ((v12 + 1).toNatClampNeg)) H10 (fun r14 H13 => ∀ v16 : Int32, v16 = (z8 + (if r14 < 0 then 0 else 1 : Int32)) → (I7 v16 (z9 + 1) H13 ∧ μ7 v16 (z9 + 1) H13 < μ7 z8 z9 H10))))))) ∧ (¬ v11 ≤ ((H10 41 0 u) - 2) → (eqI r (-12) H10)))))))))))) → c_Model_vehiclesBy E (d2 + 20) x1 x2 x3 x4 H1 (eqI r) := by
    intro H1 r hk g11 g13 g1
    refine l_Model_vehiclesBy ?_
    unfold p_Model_vehiclesBy
    rw [cu]
    refine s_Model_in3 (fun _ _ _ => ?_) (fun n2 => absurd eu (n2 u hu4))
    refine ⟨fun z => absurd z (by decide), fun _ => s_Model_in (fun _ _ => ?_) (fun q => absurd ⟨q1, q2⟩ q)⟩
    refine ⟨fun z => absurd z (by decide), fun _ => s_Model_in (fun _ _ => ?_) (fun q => absurd ⟨q3, q4⟩ q)⟩
    refine ⟨fun _ => ⟨vu, ?_⟩, fun z => absurd z (by decide)⟩
    rw [hk 40 0 u (by omega) (by unfold scr; omega), u40]
    exact ⟨fun m => ⟨vu, fun e => g1 m e, fun e => g13 m e⟩, fun m => g11 m⟩
  refine ⟨vu, s_Sheet_isMissing (fun m => ⟨fun z => absurd z (by decide), fun _ => md H _ (fun _ _ _ _ _ => rfl) (fun _ => ok _ _ rfl) (fun a => absurd m a) (fun a => absurd m a)⟩) (fun m => ⟨fun _ => ⟨fun so => ?_, fun so => md H _ (fun _ _ _ _ _ => rfl) (fun a => absurd a m) (fun _ _ => ok _ _ rfl) (fun _ a => absurd a so)⟩, fun z => absurd rfl z⟩)⟩
  generalize hT : vbF (lwH H s) s.wd s.op n (H 17 u) x3 N 0 0 (stH H s) = T
  have z2 : (2 : Int32).toInt = 2 := rfl
  have z0 : (0 : Int32).toInt = 0 := rfl
  -- the two numbers
  have two : ∀ k, rowIn (x3 + 2 * nI k) 2 n → ∃ p, p + 2 ≤ n ∧ x3 + 2 * nI k = nI p := by
    intro k hr
    obtain ⟨a, b, h1, h2, h3⟩ := rowIn_nat hr hn
    have : b = 2 := by rw [show (2 : Int32) = nI 2 from rfl, nI_eq (by omega) (by omega)] at h3; exact h3.symm
    subst this
    exact ⟨a, h1, h2⟩
  have fin : ∀ H1 : HH, vfC s.nv H H1 → clV H1 T.2 → (∀ j, j < T.2.1 → vhN (T.2.2 j) s.wd) → T.2.1 ≤ 4 → s.nv ≤ T.2.1 → c_Model_vehiclesBy E (d2 + 20) x1 x2 x3 x4 H1 (eqI T.1) := by
    intro H1 f1 v1 o1 o2 o3
    have hg : ∀ a i k, 30 ≤ a → ¬ scr a i k → H1 a i k = H a i k := fun a i k q0 q1 => f1 a i k q1 (by omega) (by omega)
    refine md H1 _ hg (fun a => absurd a m) (fun _ a => absurd so a) (fun _ _ => ?_)
    have m1 : mdV H1 (stH H s) := ⟨by rw [hg 30 0 3 (by omega) (by unfold scr; omega)]; exact hI.2.2.1.1, fun j hj => vM_pt (hg 32 0 j (by omega) (by unfold scr; omega)) (hg 33 0 j (by omega) (by unfold scr; omega)) (fun k _ => hg 34 0 _ (by omega) (by unfold scr; omega))⟩
    refine ⟨fun z8 z9 H10 => ∃ k came st, k ≤ N ∧ z9 = nI k ∧ z8 = nI came ∧ (k = 0 ∨ ∃ p, p ≤ 40 ∧ x3 = nI p) ∧ vfM s.nv H1 H10 ∧ mdV H10 st ∧ (∀ j, j < st.1 → vhN (st.2 j) s.wd) ∧ st.1 ≤ 4 ∧ s.nv ≤ st.1 ∧ T = vbF (lwH H s) s.wd s.op n (H 17 u) x3 (N - k) k came st, fun _ z9 _ => 4 - z9.toNatClampNeg, ⟨0, 0, stH H s, by omega, rfl, rfl, Or.inl rfl, vfM.rf, m1, hI.vok, nv4, Nat.le_refl _, hT.symm⟩, fun z8 z9 H10 hJ => ?_⟩
    obtain ⟨k, came, st, hk, rfl, rfl, hx3, f10, m10, p1, p2, p3, eT⟩ := hJ
    have end1 : ∀ z : Int32, T = (z, st) → eqI T.1 z H10 := by
      intro z e
      rw [e] at v1 ⊢
      exact ⟨rfl, _, hI.vend f1 f10 v1 m10 p1 p2 p3⟩
    have k41 : H10 41 0 u = nI n := by rw [f10 41 0 u (by unfold scr; omega) (by omega) (by omega) (by omega), hg 41 0 u (by omega) (by unfold scr; omega)]; exact u41
    rw [eN]
    refine ⟨fun q => ?_, fun q v11 e11 => ?_⟩
    · rw [nI_leI (by omega) (by omega)] at q
      have e : k = N := by omega
      subst e
      rw [Nat.sub_self] at eT
      exact end1 _ eT
    · rw [nI_leI (by omega) (by omega)] at q
      have hkN : k < N := by omega
      have mu : 4 - (nI k + 1).toNatClampNeg < 4 - (nI k).toNatClampNeg := by rw [nI_1, nI_clamp (by omega), nI_clamp (by omega)]; omega
      rw [show N - k = (N - (k + 1)) + 1 by omega] at eT
      have out : ¬ rowIn (x3 + 2 * nI k) 2 n → eqI T.1 (-12) H10 := fun hno => end1 _ (by rw [eT, vbF_n hno])
      have e2k : (2 : Int32) * nI k = nI (2 * k) := by rw [show (2 : Int32) = nI 2 from rfl, nI_mul]
      have tn : (nI n - 2).toInt = (n : Int) - 2 := by rw [ti_sub (by rw [ti_nI (by omega)]; omega) (by rw [ti_nI (by omega)]; omega), ti_nI (by omega)]; rfl
      refine ⟨fun c => out (fun z => ?_), fun c => ⟨fun c2 => out (fun z => ?_), fun c2 => ⟨vu, fun c3 => ?_, fun c3 => out (fun z => ?_)⟩⟩⟩
      · rcases hx3 with e | ⟨p, hp, e⟩
        · subst e
          have e0 : x3 + 2 * nI 0 = x3 := by rw [e2k]; exact Int32.add_zero _
          have := z.1
          rw [e0] at this
          simp only [ti_lt, ti_le] at *; omega
        · rw [e] at c; exact nI_pos (by omega) c
      · rcases hx3 with e | ⟨p, hp, e⟩
        · subst e
          have e0 : x3 + 2 * nI 0 = x3 := by rw [e2k]; exact Int32.add_zero _
          rw [e11, e0] at c2
          simp only [ti_lt] at c2; omega
        · rw [e11, e, e2k, nI_add, nI_ltI (by omega) (by omega)] at c2
          omega
      · -- it stands on the sheet
        have hr : rowIn (x3 + 2 * nI k) 2 n := by
          rw [← e11]
          rw [k41] at c3
          refine ⟨?_, by decide, ?_⟩
          · simp only [ti_lt, ti_le] at *; omega
          · simp only [ti_le] at c3
            rw [tn] at c3
            omega
        obtain ⟨p, hp, ep⟩ := two k hr
        rw [vbF_y hr] at eT
        rw [ep] at e11 eT
        rw [nI_clamp (by omega)] at eT
        intro v12 e12
        have a12 : v12 = nI (40 * u + p) := by rw [e12, eu, e11, show (40 : Int32) = nI 40 from rfl, nI_mul, nI_add]
        subst a12
        have b42 : ∀ i, i < 40 → H10 42 0 (40 * u + i) = H 17 u i := by
          intro i hi
          rw [f10 42 0 _ (by unfold scr; omega) (by omega) (by omega) (by omega), hg 42 0 _ (by omega) (by unfold scr; omega)]
          exact u42 i hi
        rw [nI_1]
        refine ⟨vp_in_nI (by omega) (by omega), vp_in_nI (by omega) (by omega), ?_⟩
        rw [nI_clamp (by omega), nI_clamp (by omega), b42 p (by omega), show 40 * u + p + 1 = 40 * u + (p + 1) by omega, b42 (p + 1) (by omega)]
        obtain ⟨o1', o2', o3', o4'⟩ := addF_ok (lw := lwH H s) (op := s.op) (km := H 17 u p) (p := H 17 u (p + 1)) w60 p1 p2
        refine s_Model_vehicle (st := st) (n0 := s.nv) (G := H1) hI hg f10 p2 p3 m10 (fun H13 f13 m13 v16 e16 => ?_)
        refine ⟨⟨k + 1, (if (addF (lwH H s) s.wd s.op st (H 17 u p) (H 17 u (p + 1))).1 < 0 then came else came + 1), _, hkN, nI_1 k, ?_, Or.inr ?_, f13, m13, o1', o2', by omega, eT⟩, mu⟩
        · rw [e16]
          by_cases c : (addF (lwH H s) s.wd s.op st (H 17 u p) (H 17 u (p + 1))).1 < 0
          · rw [if_pos c, if_pos c, Int32.add_zero]
          · rw [if_neg c, if_neg c, nI_1]
        · rcases hx3 with e | h
          · subst e
            have e0 : x3 + 2 * nI 0 = x3 := by rw [e2k]; exact Int32.add_zero _
            exact ⟨p, by omega, e0.symm.trans ep⟩
          · exact h
      · have h3 := z.2.2
        rw [← e11] at h3
        rw [k41] at c3
        simp only [ti_le] at c3
        rw [tn] at c3
        omega
  -- the class's loop
  refine ⟨fun z10 z11 H12 => ∃ k came st, k ≤ N ∧ z11 = nI k ∧ z10 = nI came ∧ vfC s.nv H H12 ∧ clV H12 st ∧ (∀ j, j < st.1 → vhN (st.2 j) s.wd) ∧ st.1 ≤ 4 ∧ s.nv ≤ st.1 ∧ T = vbF (lwH H s) s.wd s.op n (H 17 u) x3 (N - k) k came st, fun _ z11 _ => 4 - z11.toNatClampNeg, ⟨0, 0, stH H s, by omega, rfl, rfl, vfC.rf, hI.clV, hI.vok, nv4, Nat.le_refl _, hT.symm⟩, fun z10 z11 H12 hJ => ?_⟩
  obtain ⟨k, came, st, hk, rfl, rfl, f12, m12, p1, p2, p3, eT⟩ := hJ
  have end1 : ∀ z : Int32, T = (z, st) → c_Model_vehiclesBy E (d2 + 20) x1 x2 x3 x4 H12 (eqI z) := by
    intro z e
    have ez : z = T.1 := by rw [e]
    have es : st = T.2 := by rw [e]
    rw [ez]
    rw [es] at m12 p1 p2 p3
    exact fin H12 f12 m12 p1 p2 p3
  have k16 : H12 16 u 2 = nI n := by rw [f12 16 u 2 (by unfold scr; omega) (by omega) (by omega)]; exact un
  have k17 : ∀ i, H12 17 u i = H 17 u i := fun i => f12 17 u i (by unfold scr; omega) (by omega) (by omega)
  rw [eN]
  refine ⟨fun q => ?_, fun q v13 e13 => ?_⟩
  · rw [nI_leI (by omega) (by omega)] at q
    have e : k = N := by omega
    subst e
    rw [Nat.sub_self] at eT
    rw [← eN]
    exact end1 _ eT
  · rw [nI_leI (by omega) (by omega)] at q
    have hkN : k < N := by omega
    have mu : 4 - (nI k + 1).toNatClampNeg < 4 - (nI k).toNatClampNeg := by rw [nI_1, nI_clamp (by omega), nI_clamp (by omega)]; omega
    rw [show N - k = (N - (k + 1)) + 1 by omega] at eT
    refine s_Sheet_rowIn hn k16 (fun hr => ⟨fun _ => ?_, fun z => absurd z (by decide)⟩) (fun hr => ⟨fun z => absurd rfl z, fun _ => ?_⟩)
    · rw [e13] at hr
      obtain ⟨p, hp, ep⟩ := two k hr
      rw [vbF_y hr] at eT
      rw [ep] at e13 eT
      rw [nI_clamp (by omega)] at eT
      rw [e13, nI_1]
      have sh : shOK H12 u := by unfold shOK; rw [k16, ti_nI (by omega)]; omega
      refine s_Sheet_get sh (s_Sheet_get sh ?_)
      rw [k16, if_pos ⟨nI_pos' (by omega), nI_lt (by omega) (by omega)⟩, if_pos ⟨nI_pos' (by omega), nI_lt (by omega) (by omega)⟩, nI_clamp (by omega), nI_clamp (by omega), k17, k17]
      obtain ⟨o1', o2', o3', o4'⟩ := addF_ok (lw := lwH H s) (op := s.op) (km := H 17 u p) (p := H 17 u (p + 1)) w60 p1 p2
      refine s_Main_addVehicle (st := st) hI f12 p2 p3 m12 (fun H20 f20 m20 => ⟨fun c => ?_, fun c => ?_⟩)
      · rw [if_pos c] at eT
        exact ⟨⟨k + 1, came, _, hkN, nI_1 k, rfl, f20, m20, o1', o2', by omega, eT⟩, mu⟩
      · rw [if_neg c] at eT
        exact ⟨⟨k + 1, came + 1, _, hkN, nI_1 k, nI_1 came, f20, m20, o1', o2', by omega, eT⟩, mu⟩
    · rw [e13] at hr
      rw [← eN]
      exact end1 _ (by rw [eT, vbF_n hr])
