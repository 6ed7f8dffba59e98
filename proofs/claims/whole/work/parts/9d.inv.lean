/-! THE LAW 4: the relation of both, at first. -/
theorem gd_1 : gdS [1] := fun D => by
  show (match cd1 1 D with | some D2 => lds D2 [] | none => none) = some (D + 1)
  have e : cd1 1 D = some (D + 1) := by
    unfold cd1
    rw [if_pos (by decide), if_pos (by decide)]
  rw [e]; rfl
theorem gd_90 : gdS [90] := fun D => by
  show (match cd1 90 D with | some D2 => lds D2 [] | none => none) = some (D + 1)
  have e : cd1 90 D = some (D + 1) := by
    unfold cd1
    rw [if_pos (by decide), if_pos (by decide)]
  rw [e]; rfl
theorem gd_sum : gdS [1, 10005, 20005] := fun D => by
  have e1 : cd1 1 D = some (D + 1) := by
    unfold cd1
    rw [if_pos (by decide), if_pos (by decide)]
  have e2 : cd1 10005 (D + 1) = some (D + 1 + 1) := by
    unfold cd1
    rw [if_pos (by decide), if_pos (by decide)]
  have e3 : cd1 20005 (D + 1 + 1) = some (D + 1) := by
    unfold cd1
    rw [if_neg (by decide), if_neg (by decide), if_pos ⟨by decide, by omega⟩]
    rfl
  show (match cd1 1 D with | some D2 => lds D2 [10005, 20005] | none => none) = some (D + 1)
  rw [e1]
  show (match cd1 10005 (D + 1) with | some D2 => lds D2 [20005] | none => none) = some (D + 1)
  rw [e2]
  show (match cd1 20005 (D + 1 + 1) with | some D2 => lds D2 [] | none => none) = some (D + 1)
  rw [e3]
  rfl
def mgH (H1 H2 : HH) : HH := fun k => if k < 30 then H1 k else H2 k
theorem mgH_lo {H1 H2 : HH} {k : Nat} (h : k < 30) : mgH H1 H2 k = H1 k := if_pos h
theorem mgH_hi {H1 H2 : HH} {k : Nat} (h : 30 ≤ k) : mgH H1 H2 k = H2 k := if_neg (Nat.not_lt.mpr h)
theorem inv_start {H1 H2 : HH} (h1 : QM H1) (h2 : QR H2) : INV (mgH H1 H2) (0, 40, 0, 0, 1, 0) := by
  obtain ⟨m1, m2, m3, m4, m5, m6, m7⟩ := h1
  obtain ⟨r1, r2, r3, r4, r5, r6, r7, r8, r9, r10, r11, r12, r13, r14, r15, r16⟩ := h2
  have lo : ∀ {a : Nat}, a < 30 → mgH H1 H2 a = H1 a := fun h => mgH_lo h
  have hi : ∀ {a : Nat}, 30 ≤ a → mgH H1 H2 a = H2 a := fun h => mgH_hi h
  have g0 : ∀ k, k ≠ 5 → H1 0 0 k = Hi 0 0 k := fun k hk => m3 0 0 k (by omega) (by omega)
  have gk : ∀ a i k, (a = 1 ∨ a = 2 ∨ a = 3 ∨ a = 16 ∨ a = 17) → H1 a i k = Hi a i k := fun a i k ha => m3 a i k (by omega) (by omega)
  refine ⟨⟨by decide, by decide, by decide, by decide, by decide, by decide, by decide⟩, ⟨?_, ?_, ?_, ?_, ?_, ?_⟩, ⟨?_, ?_, ?_, ?_, ?_, ?_⟩, fun i hi0 => absurd hi0 (Nat.not_lt_zero _), ⟨fun k hk => ?_, fun k hk => ?_, fun k hk => ?_⟩, fun j hj => absurd hj (Nat.not_lt_zero _), fun t ht => ?_, fun u hu4 => ⟨?_, ?_, ⟨0, by decide, ?_, ?_⟩, fun i hi40 => ?_⟩, ?_, Or.inl ?_⟩
  · rw [lo (by decide), gk 1 0 2 (by decide)]; rfl
  · rw [lo (by decide), gk 2 0 0 (by decide)]; rfl
  · rw [lo (by decide), gk 2 0 1 (by decide)]; rfl
  · rw [lo (by decide), gk 2 0 2 (by decide)]; rfl
  · rw [lo (by decide), m1]; rfl
  · rw [lo (by decide), m2]; rfl
  · rw [hi (by decide), r1]; rfl
  · rw [hi (by decide), r2]; rfl
  · rw [hi (by decide), r3]; rfl
  · rw [hi (by decide), r4]; rfl
  · rw [hi (by decide), r5]; rfl
  · rw [hi (by decide), r6]; rfl
  · rw [hi (by decide)]; exact r8 k hk
  · rw [hi (by decide)]; exact r9 k hk
  · rw [lo (by decide), gk 3 8 k (by decide)]
    exact if_neg (by omega)
  · have et : t = 0 := Nat.lt_one_iff.mp ht
    subst et
    rw [lo (a := 12) (by decide), lo (a := 13) (by decide)]
    refine ms_new (o1 := cO1) (o2 := cO2) (o3 := cO3) (y2 := [1, 10005, 20005]) (y3 := [90]) (fun i hi5 => m4 i hi5) m5 m6 m7 (by decide) gd_1 rfl rfl gd_sum gd_90 ?_ ?_ ?_ ?_ (fun i hi5 => ?_)
    · rw [hi (by decide)]; exact r12
    · rw [hi (by decide)]; exact r13
    · rw [hi (by decide)]; exact r14
    · rw [hi (by decide)]; exact r15
    · rw [hi (by decide), Nat.mul_zero, Nat.zero_add]; exact r16 i hi5
  · rw [hi (by decide), lo (by decide), gk 16 u 1 (by decide), (r10 u hu4).1]; rfl
  · rw [lo (by decide), gk 16 u 1 (by decide)]; exact Or.inl rfl
  · rw [lo (by decide), gk 16 u 2 (by decide)]; rfl
  · rw [hi (by decide), (r10 u hu4).2]; rfl
  · rw [hi (by decide), lo (by decide), r11, gk 17 u i (by decide)]; rfl
  · rw [lo (by decide), hi (by decide), g0 2 (by decide), r7]; rfl
  · rw [lo (by decide), g0 2 (by decide)]; rfl
