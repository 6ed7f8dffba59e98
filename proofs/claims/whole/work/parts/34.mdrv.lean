/-! SPECS 11 (the reference): drives by lots. -/
theorem hfr.at {K : List Nat} {H H1 : HH} (h : hfr K H H1) (a : Nat) (ha : a ∉ K) : H1 a = H a := h a ha
/-- all but the kinds of K and one slot of the reference's own fields is as it was -/
def hfx (K : List Nat) (H H1 : HH) : Prop := (∀ a, a ∉ K → a ≠ 30 → H1 a = H a) ∧ ∀ i k, ¬ (i = 0 ∧ k = 38) → H1 30 i k = H 30 i k
theorem vM_of {H H1 : HH} (j : Nat) (h32 : H1 32 = H 32) (h33 : H1 33 = H 33) (h34 : H1 34 = H 34) : vM H1 j = vM H j := by
  funext k
  match k with
  | 0 => show H1 32 0 j = H 32 0 j; rw [h32]
  | 1 => show H1 33 0 j = H 33 0 j; rw [h33]
  | 2 => show H1 34 0 _ = H 34 0 _; rw [h34]
  | 3 => show H1 34 0 _ = H 34 0 _; rw [h34]
  | 4 => show H1 34 0 _ = H 34 0 _; rw [h34]
  | 5 => show H1 34 0 _ = H 34 0 _; rw [h34]
  | 6 => show H1 34 0 _ = H 34 0 _; rw [h34]
  | k + 7 => rfl
theorem whl_all : ∀ z, z < 3 → (Int64.ofNat z).toInt32 - 1 = -1 ∨ (Int64.ofNat z).toInt32 - 1 = 0 ∨ (Int64.ofNat z).toInt32 - 1 = 1 := by decide +kernel
theorem t6_bm {n : Int} (h1 : -9223372036854775808 ≤ n) (h2 : n < 9223372036854775808) : n.bmod (2 ^ 64) = n := by
  rw [Int.bmod_def]
  have e : ((2 ^ 64 : Nat) : Int) = 18446744073709551616 := by decide
  rw [e]
  split <;> omega
theorem t6_div {x y : Int64} {a b : Int} (hx : x.toInt = a) (hy : y.toInt = b) (h0 : 0 ≤ a) (h1 : 0 < b) (h2 : a < 9223372036854775808) : (x / y).toInt = a / b := by
  rw [Int64.toInt_div, hx, hy, Int.tdiv_eq_ediv_of_nonneg h0]
  have c1 : 0 ≤ a / b := Int.ediv_nonneg h0 (by omega)
  have c2 : a / b ≤ a := Int.ediv_le_self b h0
  exact t6_bm (by omega) (by omega)
theorem t6_mul {x y : Int64} {a b : Int} (hx : x.toInt = a) (hy : y.toInt = b) (h1 : -9223372036854775808 ≤ a * b) (h2 : a * b < 9223372036854775808) : (x * y).toInt = a * b := by
  rw [Int64.toInt_mul, hx, hy]; exact t6_bm h1 h2
theorem t6_sub {x y : Int64} {a b : Int} (hx : x.toInt = a) (hy : y.toInt = b) (h1 : -9223372036854775808 ≤ a - b) (h2 : a - b < 9223372036854775808) : (x - y).toInt = a - b := by
  rw [Int64.toInt_sub, hx, hy]; exact t6_bm h1 h2
/-- what is left of a by b -/
theorem t6_rem {x y : Int64} {a b : Int} (hx : x.toInt = a) (hy : y.toInt = b) (h0 : 0 ≤ a) (h1 : 0 < b) (h2 : a < 9223372036854775808) : (x - x / y * y).toInt = a % b := by
  have e1 := t6_div hx hy h0 h1 h2
  have e3 : b * (a / b) + a % b = a := Int.mul_ediv_add_emod a b
  have e4 : 0 ≤ a % b := Int.emod_nonneg a (by omega)
  have e5 : a % b < b := Int.emod_lt_of_pos a h1
  have e6 : 0 ≤ a / b := Int.ediv_nonneg h0 (by omega)
  have e7 : 0 ≤ b * (a / b) := Int.mul_nonneg (by omega) e6
  have e8 : a / b * b = b * (a / b) := Int.mul_comm _ _
  have e2 := t6_mul e1 hy (by omega) (by omega)
  rw [t6_sub hx e2 (by omega) (by omega)]
  omega
theorem lot_ok {x : Int64} (h : 0 ≤ x.toInt ∧ x.toInt < 2147483648) : 0 ≤ (lotF x).toInt ∧ (lotF x).toInt < 2147483648 := by
  rw [lotF_d]
  have e1 : (x * 48271).toInt = x.toInt * 48271 := t6_mul rfl (by decide) (by omega) (by omega)
  rw [t6_rem (b := 2147483647) e1 (by decide) (by omega) (by omega) (by omega)]
  omega
theorem whl_ok {x : Int64} (h : 0 ≤ x.toInt) : whlF x = -1 ∨ whlF x = 0 ∨ whlF x = 1 := by
  rw [whlF_d]
  have hx := Int64.toInt_lt x
  have e1 : (x / 2).toInt = x.toInt / 2 := t6_div rfl (by decide) h (by omega) (by simpa using hx)
  have e2 : (x / 2 - x / 2 / 3 * 3).toInt = x.toInt / 2 % 3 := t6_rem (b := 3) e1 (by decide) (by omega) (by omega) (by simp at hx; omega)
  have e3 : x / 2 - x / 2 / 3 * 3 = Int64.ofNat (x.toInt / 2 % 3).toNat := by
    apply Int64.toInt_inj.mp
    rw [e2, Int64.toInt_ofNat_of_lt (by omega)]
    omega
  rw [e3]
  exact whl_all _ (by omega)
theorem lot_seed {s : Int32} (h : 0 ≤ s.toInt ∧ s.toInt < 200000) : 0 ≤ (s.toInt64 + 1).toInt ∧ (s.toInt64 + 1).toInt < 2147483648 := by
  have e : (s.toInt64 + 1).toInt = s.toInt + 1 := by
    rw [Int64.toInt_add, Int32.toInt_toInt64]
    exact t6_bm (by have : (1 : Int64).toInt = 1 := rfl; omega) (by have : (1 : Int64).toInt = 1 := rfl; omega)
  omega
theorem s_Model_driveBy {E : XE} {d t j n : Nat} {code ends : Nat → Int32} {seed : Int32} {H : HH} {Q : HH → Prop} (hr : mlOK H t code ends) (hj : j < 4) (hn : n < 100) (ho : vOK (vM H j))
    (hsd : 0 ≤ seed.toInt ∧ seed.toInt < 200000)
    (h : ∀ r v2, drvF (stF (lwF code ends) (H 30 0 1) (H 30 0 2)) (surF (lwF code ends) (H 30 0 1)) n 0 (seed.toInt64 + 1) (vM H j) = (r, v2) → ∀ H1, hfx [46, 47, 53, 54] H H1 → H1 30 0 38 = r → (∀ k, k < 5 → H1 54 0 k = v2 (k + 2)) → Q H1) : c_Model_driveBy E (d + 5) seed (nI n) (nI j) H Q := by
  refine l_Model_driveBy (fun v1 e1 H2 e2 => s_Model_keeps hj (fun H3 f3 k3 => ?_))
  have x3 : hfx [53] H H3 := by
    refine ⟨fun a ha h30 => ?_, fun i k hik => ?_⟩
    · rw [f3 a ha, e2, hu_kd _ _ _ _ h30]
    · rw [f3 30 (by decide), e2]
      by_cases hi : i = 0
      · rw [hi, hu_k _ _ (fun e => hik ⟨hi, e⟩)]
      · rw [hu_ix _ _ _ hi]
  have e30 : H3 30 0 38 = -1 := by rw [f3 30 (by decide), e2, hu_at]
  have w1 : H3 30 0 1 = H 30 0 1 := x3.2 0 1 (by decide)
  have w2 : H3 30 0 2 = H 30 0 2 := x3.2 0 2 (by decide)
  have w12 : H3 30 0 12 = H 30 0 12 := x3.2 0 12 (by decide)
  have hr3 : mlOK H3 t code ends := by
    unfold mlOK msOK mcOK
    rw [w12, x3.1 31 (by decide) (by decide), x3.1 36 (by decide) (by decide), x3.1 37 (by decide) (by decide)]
    exact hr
  have hv3 : vM H3 j = vM H j := vM_of j (x3.1 32 (by decide) (by decide)) (x3.1 33 (by decide) (by decide)) (x3.1 34 (by decide) (by decide))
  rw [← w1, ← w2, ← hv3] at h
  rw [← hv3] at ho
  have ms : mat H3 H3 j (vM H3 j) := mat.self
  have k3' : ∀ k, k < 5 → H3 53 0 k = H 34 0 (5 * j + k) := fun k hk => by rw [k3 k hk, e2, hu_kd _ _ _ _ (by decide)]
  have fin : ∀ H7 Hm v2 r, mat H3 Hm j v2 → (∀ a, a ≠ 30 → H7 a = Hm a) → (∀ i k, ¬ (i = 0 ∧ k = 38) → H7 30 i k = H3 30 i k) → H7 30 0 38 = r → drvF (stF (lwF code ends) (H3 30 0 1) (H3 30 0 2)) (surF (lwF code ends) (H3 30 0 1)) n 0 (seed.toInt64 + 1) (vM H3 j) = (r, v2) → c_Model_laysBack E (d + 4) (nI j) H7 (fun H8 => Q H8) := by
    intro H7 Hm v2 r ha h7 h7b h38 he
    refine s_Model_laysBack hj (fun H8 f8 k8 r8 i8 => ?_)
    refine h r v2 he H8 ⟨fun a hna h30 => ?_, fun i k hik => ?_⟩ (by rw [f8 30 (by decide)]; exact h38) (fun k hk => ?_)
    · simp only [List.mem_cons, List.not_mem_nil, or_false, not_or] at hna
      by_cases h34 : a = 34
      · subst h34
        funext i k
        by_cases hi : i = 0
        · subst hi
          rw [r8, h7 53 (by decide), ha.1 53 (by decide), h7 34 (by decide)]
          by_cases c : 5 * j ≤ k ∧ k < 5 * j + 5
          · rw [if_pos c, k3' _ (by omega), show 5 * j + (k - 5 * j) = k by omega]
          · rw [if_neg c, ha.2.1, rowsV, if_neg (by omega), if_neg (by omega), if_neg (by omega), if_neg (by omega), if_neg (by omega), x3.1 34 (by decide) (by decide)]
        · rw [i8 i hi, h7 34 (by decide), ha.2.2.1 i hi, x3.1 34 (by decide) (by decide)]
      · rw [f8 a (by simp [h34, hna]), h7 a h30, ha.1 a (by simp [h34, hna]), x3.1 a (by simp [hna]) h30]
    · rw [f8 30 (by decide), h7b i k hik, x3.2 i k hik]
    · rw [k8 k hk, h7 34 (by decide), ha.2.1]
      rcases (show k = 0 ∨ k = 1 ∨ k = 2 ∨ k = 3 ∨ k = 4 by omega) with rfl | rfl | rfl | rfl | rfl <;> simp [rowsV]
  generalize hst : stF (lwF code ends) (H3 30 0 1) (H3 30 0 2) = st at h fin
  generalize hsu : surF (lwF code ends) (H3 30 0 1) = su at h fin
  generalize hv0 : vM H3 j = v0 at *
  refine ⟨fun x z H7 => ∃ k v2, (0 ≤ x.toInt ∧ x.toInt < 2147483648) ∧ k ≤ n ∧ z = nI k ∧ vOK v2 ∧ ((mat H3 H7 j v2 ∧ drvF st su n 0 (seed.toInt64 + 1) v0 = drvF st su (n - k) k x v2) ∨ (∃ Hm k2, k2 < n ∧ mat H3 Hm j v2 ∧ (∀ a, a ≠ 30 → H7 a = Hm a) ∧ (∀ i k, ¬ (i = 0 ∧ k = 38) → H7 30 i k = H3 30 i k) ∧ H7 30 0 38 = nI k2 ∧ drvF st su n 0 (seed.toInt64 + 1) v0 = (nI k2, v2))), fun _ z _ => n - z.toNatClampNeg, ⟨0, v0, by rw [e1]; exact lot_seed hsd, Nat.zero_le _, rfl, ho, Or.inl ⟨ms, by rw [e1, Nat.sub_zero]⟩⟩, fun z5 z6 H7 hI => ?_⟩
  obtain ⟨k, v2, hx5, hk, rfl, hv2, hcase⟩ := hI
  refine ⟨fun q => ?_, fun q => ⟨fun q2 => ?_, fun q2 => ?_⟩⟩
  · have ek : k = n := by rw [nI_leI (by omega) (by omega)] at q; omega
    subst ek
    rcases hcase with ⟨ha, he⟩ | ⟨Hm, k2, hk2, ha, h7, h7b, h38, he⟩
    · rw [Nat.sub_self] at he
      exact fin H7 H7 v2 _ ha (fun _ _ => rfl) (fun i k _ => by rw [ha.1 30 (by decide)]) (by rw [ha.1 30 (by decide)]; exact e30) he
    · exact fin H7 Hm v2 _ ha h7 h7b h38 he
  · rcases hcase with ⟨ha, he⟩ | ⟨Hm, k2, hk2, ha, h7, h7b, h38, he⟩
    · exact absurd (by rw [ha.1 30 (by decide)]; exact e30) q2
    · exact fin H7 Hm v2 _ ha h7 h7b h38 he
  · rcases hcase with ⟨ha, he⟩ | ⟨Hm, k2, hk2, ha, h7, h7b, h38, he⟩
    · have hlt : k < n := by rw [nI_leI (by omega) (by omega)] at q; omega
      refine fun v10 e10 v11 e11 v13 e13 v14 e14 v15 e15 => ?_
      have h10 : v10 = lotF z5 := by rw [e10, lotF_d]
      have h13 : v13 = wayF (lotF z5) := by rw [e13, e11, h10, wayF_d]
      have h15 : v15 = whlF (lotF z5) := by rw [e15, e14, h10, whlF_d]
      have he' : drvF st su n 0 (seed.toInt64 + 1) v0 = match st v2 v13 v15 with
        | some v3 => drvF st su (n - (k + 1)) (k + 1) v10 v3
        | none => if (lg_cmp ((v10 / 6) - (v10 / 6) / 100 * 100) (su v2 v15).toInt64) < 0 then drvF st su (n - (k + 1)) (k + 1) v10 v2 else (nI k, v2) := by
        rw [he, h13, h15, h10, show n - k = (n - (k + 1)) + 1 by omega, drvF_s]
        cases st v2 (wayF (lotF z5)) (whlF (lotF z5)) <;> rfl
      have hl10 : 0 ≤ v10.toInt ∧ v10.toInt < 2147483648 := by rw [h10]; exact lot_ok hx5
      have hmu : n - (nI k + 1).toNatClampNeg < n - (nI k).toNatClampNeg := by
        rw [nI_1, nI_clamp (by omega), nI_clamp (by omega)]; omega
      have hw : v15 = -1 ∨ v15 = 0 ∨ v15 = 1 := by rw [h15]; exact whl_ok (lot_ok hx5).1
      refine s_Model_canGo hr3 hj hw hv2 ha (fun hs H16 ha16 => ?_) (fun hs H16 ha16 => ?_)
      · rw [hst] at hs
        rw [hs] at he'
        refine ⟨fun q3 => absurd q3 (by decide), fun _ => ?_⟩
        refine s_Model_goes hr3 hj hw hv2 ha16 (fun H24 ha24 => ?_)
        exact ⟨⟨k + 1, _, hl10, hlt, by rw [nI_1], gsF_ok hv2, Or.inl ⟨ha24, he'⟩⟩, hmu⟩
      · rw [hst] at hs
        rw [hs] at he'
        refine ⟨fun _ v18 e18 => ⟨by rw [i5_0]; exact vp_in_nI (by omega) (by omega), by rw [i5_1]; exact vp_in_nI (by omega) (by omega), ?_⟩, fun q3 => absurd rfl q3⟩
        rw [i5_1, i5_0, nI_clamp (n := 5 * j) (by omega), nI_clamp (n := 5 * j + 1) (by omega)]
        have hvm := ha16.vM hv2
        rw [show H16 34 0 (5 * j) = v2 2 from congrFun hvm 2, show H16 34 0 (5 * j + 1) = v2 3 from congrFun hvm 3]
        refine s_Model_asksOf (p := 2) (ha16.ok hr3) (by decide) hj (fun H20 f20 H23 e23 => ?_)
        rw [show H16 33 0 j = v2 1 from congrFun hvm 1, ha16.1 30 (by decide), e18] at e23
        have hsur : lwF code ends 2 (v2 1) 0 (v2 3) (v2 2) (H3 30 0 1) (if v15 = 0 then 0 else 1) = su v2 v15 := by rw [← hsu, surF]
        rw [hsur] at e23
        have ha20 := ha16.fr f20
        by_cases c : (lg_cmp ((v10 / 6) - (v10 / 6) / 100 * 100) (su v2 v15).toInt64) < 0
        · rw [if_pos c] at e23
          simp only [if_pos c] at he'
          have e20 : H20 30 0 38 = -1 := by rw [ha20.1 30 (by decide)]; exact e30
          have eH : H23 = H20 := by rw [e23, ← e20, hu_same]
          rw [eH]
          exact ⟨⟨k + 1, v2, hl10, hlt, by rw [nI_1], hv2, Or.inl ⟨ha20, he'⟩⟩, hmu⟩
        · rw [if_neg c] at e23
          simp only [if_neg c] at he'
          refine ⟨⟨k + 1, v2, hl10, hlt, by rw [nI_1], hv2, Or.inr ⟨H20, k, hlt, ha20, fun a h30 => by rw [e23, hu_kd _ _ _ _ h30], fun i k2 hik => ?_, by rw [e23, hu_at], he'⟩⟩, hmu⟩
          rw [e23]
          by_cases hi : i = 0
          · rw [hi, hu_k _ _ (fun e => hik ⟨hi, e⟩), ha20.1 30 (by decide)]
          · rw [hu_ix _ _ _ hi, ha20.1 30 (by decide)]
    · exact absurd q2 (by rw [h38]; exact nI_n1 (by omega))
