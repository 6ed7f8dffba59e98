/-! SPECS 6: drives by lots (the class). -/
theorem drvF_s (st : VV → Int32 → Int32 → Option VV) (sure : VV → Int32 → Int32) (n k : Nat) (x : Int64) (v : VV) : drvF st sure (n + 1) k x v = match st v (wayF (lotF x)) (whlF (lotF x)) with
    | some v2 => drvF st sure n (k + 1) (lotF x) v2
    | none => if (lg_cmp ((lotF x / 6) - (lotF x / 6) / 100 * 100) (sure v (whlF (lotF x))).toInt64) < 0 then drvF st sure n (k + 1) (lotF x) v else (nI k, v) := rfl
theorem lotF_d (x : Int64) : lotF x = x * 48271 - x * 48271 / 2147483647 * 2147483647 := rfl
theorem wayF_d (x : Int64) : wayF x = if (lg_cmp (x - x / 2 * 2) 0) = 0 then 0 else 1 := rfl
theorem whlF_d (x : Int64) : whlF x = ((x / 2) - (x / 2) / 3 * 3).toInt32 - 1 := rfl
theorem s_Ride_byLots {E : XE} {d t n : Nat} {seed : Int32} {H0 H : HH} {v : VV} {Q : Int32 → HH → Prop} (hr : rdOK H0 t) (hn : n < 100) (ha : rat H0 H v)
    (h : ∀ r v2, drvF (stF (lwF (H0 12 t) (H0 13 t)) (H0 2 2 0) (H0 2 2 1)) (surF (lwF (H0 12 t) (H0 13 t)) (H0 2 2 0)) n 0 (seed.toInt64 + 1) v = (r, v2) → ∀ H1, rat H0 H1 v2 → Q r H1) : c_Ride_byLots E (d + 5) seed (nI n) H Q := by
  refine l_Ride_byLots (fun v1 e1 => ⟨fun x z H1 => ∃ k w, k ≤ n ∧ z = nI k ∧ rat H0 H1 w ∧ drvF (stF (lwF (H0 12 t) (H0 13 t)) (H0 2 2 0) (H0 2 2 1)) (surF (lwF (H0 12 t) (H0 13 t)) (H0 2 2 0)) n 0 (seed.toInt64 + 1) v = drvF (stF (lwF (H0 12 t) (H0 13 t)) (H0 2 2 0) (H0 2 2 1)) (surF (lwF (H0 12 t) (H0 13 t)) (H0 2 2 0)) (n - k) k x w, fun _ z _ => n - z.toNatClampNeg, ⟨0, v, Nat.zero_le _, rfl, ha, by rw [e1, Nat.sub_zero]⟩, fun z3 z4 H5 hI => ?_⟩)
  obtain ⟨k, w, hk, rfl, ha5, e5⟩ := hI
  refine ⟨fun q => ?_, fun q v6 e6 v7 e7 v9 e9 v10 e10 v11 e11 => ?_⟩
  · rw [nI_leI (by omega) (by omega)] at q
    have e : k = n := by omega
    subst e
    rw [Nat.sub_self] at e5
    exact h _ _ e5 _ ha5
  · have hlt : k < n := by rw [nI_leI (by omega) (by omega)] at q; omega
    have h6 : v6 = lotF z3 := by rw [e6, lotF_d]
    have h9 : v9 = wayF (lotF z3) := by rw [e9, e7, h6, wayF_d]
    have h11 : v11 = whlF (lotF z3) := by rw [e11, e10, h6, whlF_d]
    have e5' : drvF (stF (lwF (H0 12 t) (H0 13 t)) (H0 2 2 0) (H0 2 2 1)) (surF (lwF (H0 12 t) (H0 13 t)) (H0 2 2 0)) n 0 (seed.toInt64 + 1) v = match stF (lwF (H0 12 t) (H0 13 t)) (H0 2 2 0) (H0 2 2 1) w v9 v11 with
      | some v2 => drvF (stF (lwF (H0 12 t) (H0 13 t)) (H0 2 2 0) (H0 2 2 1)) (surF (lwF (H0 12 t) (H0 13 t)) (H0 2 2 0)) (n - (k + 1)) (k + 1) v6 v2
      | none => if (lg_cmp ((v6 / 6) - (v6 / 6) / 100 * 100) (surF (lwF (H0 12 t) (H0 13 t)) (H0 2 2 0) w v11).toInt64) < 0 then drvF (stF (lwF (H0 12 t) (H0 13 t)) (H0 2 2 0) (H0 2 2 1)) (surF (lwF (H0 12 t) (H0 13 t)) (H0 2 2 0)) (n - (k + 1)) (k + 1) v6 w else (nI k, w) := by
      rw [e5, h9, h11, h6, show n - k = (n - (k + 1)) + 1 by omega, drvF_s]
    have hmu : n - (nI k + 1).toNatClampNeg < n - (nI k).toNatClampNeg := by
      rw [nI_1, nI_clamp (by omega), nI_clamp (by omega)]; omega
    refine s_Ride_go hr ha5 (fun w2 hw2 H12 ha12 => ?_) (fun hw2 H12 ha12 => ?_)
    · rw [hw2] at e5'
      exact ⟨fun q3 => absurd q3 (by decide), fun _ => ⟨⟨k + 1, w2, hlt, by rw [nI_1], ha12, e5'⟩, hmu⟩⟩
    · rw [hw2] at e5'
      refine ⟨fun _ => ?_, fun q3 => absurd rfl q3⟩
      refine s_Ride_says (p := 2) (ha12.ok hr) (by decide) (fun H15 f15 v17 e17 => ?_)
      have ha15 := ha12.fr f15
      rw [ha12.say, ha12.v8, e17]
      refine ⟨fun c => ?_, fun c => ?_⟩
      · refine ⟨⟨k + 1, w, hlt, by rw [nI_1], ha15, ?_⟩, hmu⟩
        rw [e5']
        simp only
        rw [surF]
        exact if_pos c
      · refine h _ _ ?_ _ ha15
        rw [e5']
        simp only
        rw [surF]
        exact if_neg c
