/-! the law of a ride, as a value -/
theorem xlaw (i : Nat) (x : Int32) : (¬ (0 < x ∧ x < 8) ∧ xld 19 i 2 x = vn) ∨ ∃ t, t < 7 ∧ x = nI (t + 1) ∧ xld 19 i 2 x = vr 11 t := by
  have e : xld 19 i 2 x = if 0 < x ∧ x < 8 then vr 11 (x.toNatClampNeg - 1) else vn := rfl
  by_cases h : 0 < x ∧ x < 8
  · refine Or.inr ?_
    obtain ⟨j, hj, rfl⟩ := nI_of (x := x) (fun q => by
      have h1 := h.1
      simp only [Int32.lt_iff_toInt_lt] at h1 q
      omega)
    have h1 := h.1
    have h2 := h.2
    rw [show (0 : Int32) = nI 0 from rfl, nI_ltI (by omega) hj] at h1
    rw [show (8 : Int32) = nI 8 from rfl, nI_ltI hj (by omega)] at h2
    refine ⟨j - 1, by omega, by rw [show j - 1 + 1 = j by omega], ?_⟩
    rw [e, if_pos h, nI_clamp hj]
  · exact Or.inl ⟨h, by rw [e, if_neg h]⟩
