/-! SPECS 13: lower. -/
theorem s_Search_lower {E : XE} {d x k : Nat} {c : Nat → Option Nat} {L : Nat → List Nat} {w : Nat → Bool} {H : HH} {Q : HH → Prop} (hb : bkOK H c L w) (hx : x < 1952) (hk : k < 1000000)
    (hD : ∀ k0, c x = some k0 → k < k0 → w x = true)
    (hno : ((∃ k0, c x = some k0 ∧ k0 ≤ k) ∨ H 22 0 (x / 2) = 0) → Q H)
    (hyes : (∀ k0, c x = some k0 → k < k0) → ¬ H 22 0 (x / 2) = 0 → ∀ H1 L1, bkFr H H1 → bkOK H1 (fun y => if y = x then some k else c y) L1 (fun y => if y = x then true else w y) → Q H1) : c_Search_lower E (d + 1) (nI x) (nI k) H Q := by
  have hb0 := hb
  obtain ⟨b1, b2, b3, b4, b5⟩ := hb
  have x0 : ¬ nI x < 0 := nI_pos (by omega)
  have x1 : ¬ (1952 : Int32) ≤ nI x := by rw [show (1952 : Int32) = nI 1952 from rfl, nI_leI (by omega) (by omega)]; omega
  have x2 : vp_in (nI x) 1952 := vp_in_nI hx (by omega)
  have x3 : (nI x).toNatClampNeg = x := nI_clamp (by omega)
  obtain ⟨sh1, -, -, -⟩ := sh_all x hx
  have hB : k % 128 < 128 := Nat.mod_lt _ (by decide)
  have hrem : xrem (nI k) 128 = nI (k % 128) := xrem_nI (by omega) (by decide) (by decide)
  have vB : vp_in (nI (k % 128)) 128 := vp_in_nI hB (by omega)
  have cB : (nI (k % 128)).toNatClampNeg = k % 128 := nI_clamp (by omega)
  have far : ∀ k, k < 1000000 → nI k < (2147483647 : Int32) ∧ ¬ nI k = (2147483647 : Int32) := by
    intro k hk
    rw [show (2147483647 : Int32) = nI 2147483647 from rfl, nI_ltI (by omega) (by omega), nI_eq (by omega) (by omega)]
    omega
  refine l_Search_lower ⟨fun q => absurd q x0, fun _ => ⟨fun q => absurd q x1, fun _ => ⟨fun q => absurd q (nI_pos (by omega)), fun _ => ⟨x2, ?_, ?_⟩⟩⟩⟩
  · intro hlt
    rw [x3] at hlt ⊢
    rw [sh1, nI_clamp (by omega)]
    have hlow : ∀ k0, c x = some k0 → k < k0 := by
      intro k0 h0
      obtain ⟨e, h1⟩ := (b3 x hx).2 k0 h0
      rw [e, nI_ltI (by omega) (by omega)] at hlt
      exact hlt
    refine ⟨vp_in_nI (by omega) (by omega), fun hf => ⟨x2, ?_⟩, fun hf => hno (Or.inr hf)⟩
    refine ⟨fun H2 => ∃ L2, bkFr H H2 ∧ H2 23 = H 23 ∧ bkOK H2 c L2 (fun y => if y = x then false else w y), ⟨fun e => ?_, fun e => ?_⟩, fun H2 hJ => ?_⟩
    · have hn : c x = none := by
        cases hc : c x with
        | none => rfl
        | some k0 =>
          obtain ⟨e2, h1⟩ := (b3 x hx).2 k0 hc
          rw [e2] at e
          exact absurd e (far k0 h1).2
      have hwx : w x = false := by
        cases hw : w x with
        | false => rfl
        | true =>
          obtain ⟨k1, f1, -⟩ := (b4 x hx).mp hw
          rw [hn] at f1; cases f1
      have ew : (fun y => if y = x then false else w y) = w := by
        funext y
        by_cases q : y = x
        · rw [if_pos q, q, hwx]
        · rw [if_neg q]
      exact ⟨L, bkFr.rf, rfl, by rw [ew]; exact hb0⟩
    · cases hc : c x with
      | none => exact absurd ((b3 x hx).1 hc) e
      | some k0 =>
        exact s_Search_unlink hb0 hx (hD k0 hc (hlow k0 hc)) hc (fun H1 L1 f1 e23 hb1 => ⟨L1, f1, e23, hb1⟩)
    · obtain ⟨L2, F2, e23, c1, c2, c3, c4, c5⟩ := hJ
      rw [hrem, cB]
      refine ⟨x2, vB, fun H3 e3 v4 e4 => ⟨x2, x2, fun H5 e5 => ?_⟩⟩
      have hv4 : v4 = H2 24 0 (k % 128) := by rw [e4, e3, hu_kd _ _ _ _ (by decide)]
      obtain ⟨p1, p2⟩ := c1 _ hB
      have hfst := chn_fstD p1
      have hxn : ∀ b, b < 128 → x ∉ L2 b := by
        intro b hb' q
        obtain ⟨-, k1, f1, f2⟩ := c2 b hb' x q
        have := (c4 x hx).mpr ⟨k1, f1, by rw [f2]; exact q⟩
        simp at this
      have fin : ∀ H1 : HH, H1 25 0 = upd (H2 25 0) x v4 → H1 26 0 = ppv (H2 26 0) (L2 (k % 128)) x → (∀ b, H1 24 0 b = if b = k % 128 then nI x else H2 24 0 b) → (∀ z, H1 23 0 z = if z = x then nI k else H2 23 0 z) → H1 21 0 6 = H2 21 0 6 + 1 → bkFr H H1 → Q H1 := by
        intro H1 g25 g26 g24 g23 g21 hF
        refine hyes hlow hf H1 (fun b => if b = k % 128 then x :: L2 b else L2 b) hF ⟨fun b hb' => ?_, fun b hb' z hz => ?_, fun z hz => ?_, fun z hz => ?_, ?_⟩
        · by_cases e : b = k % 128
          · subst e
            simp only [if_true]
            rw [g25, g26, g24, if_pos rfl, hv4]
            exact ⟨chn_pushD (hxn _ hB) p2 p1, List.nodup_cons.mpr ⟨hxn _ hB, p2⟩⟩
          · simp only [if_neg e]
            rw [g25, g26, g24, if_neg e]
            refine ⟨chn_cong (fun z hz => ?_) (c1 b hb').1, (c1 b hb').2⟩
            have hzx : z ≠ x := fun q => hxn b hb' (q ▸ hz)
            constructor
            · simp [upd, hzx]
            · unfold ppv
              cases hl : L2 (k % 128) with
              | nil => simp [upd, hzx]
              | cons y r =>
                have hzy : z ≠ y := by
                  intro ezy
                  obtain ⟨-, k1, f1, f2⟩ := c2 b hb' z hz
                  obtain ⟨-, k2, g1, g2⟩ := c2 _ hB y (by rw [hl]; exact List.mem_cons_self)
                  rw [ezy, g1] at f1
                  cases f1
                  exact e (f2.symm.trans g2)
                simp [upd, hzx, hzy]
        · by_cases e : b = k % 128
          · simp only [if_pos e] at hz
            rcases List.mem_cons.mp hz with q | q
            · subst q
              exact ⟨hx, k, by simp, e.symm⟩
            · have hzx : z ≠ x := fun y => hxn b hb' (y ▸ q)
              simp only [if_neg hzx]
              exact c2 b hb' z q
          · simp only [if_neg e] at hz
            have hzx : z ≠ x := fun y => hxn b hb' (y ▸ hz)
            simp only [if_neg hzx]
            exact c2 b hb' z hz
        · rw [g23]
          by_cases q : z = x
          · subst q
            simp only [if_true]
            exact ⟨fun h => (by cases h), fun k1 h1 => (by cases h1; exact ⟨rfl, hk⟩)⟩
          · simp only [if_neg q]
            exact c3 z hz
        · by_cases q : z = x
          · subst q
            simp only [if_true]
            exact ⟨fun _ => ⟨k, rfl, by rw [if_pos rfl]; exact List.mem_cons_self⟩, fun _ => trivial⟩
          · simp only [if_neg q]
            have := c4 z hz
            simp only [if_neg q] at this
            rw [this]
            constructor
            · rintro ⟨k1, f1, f2⟩
              refine ⟨k1, f1, ?_⟩
              by_cases e : k1 % 128 = k % 128
              · rw [if_pos e]; exact List.mem_cons_of_mem _ f2
              · rw [if_neg e]; exact f2
            · rintro ⟨k1, f1, f2⟩
              refine ⟨k1, f1, ?_⟩
              by_cases e : k1 % 128 = k % 128
              · rw [if_pos e] at f2
                rcases List.mem_cons.mp f2 with y | y
                · exact absurd y q
                · exact y
              · rw [if_neg e] at f2; exact f2
        · rw [g21, c5, nI_1, ← cntF_set (w := fun y => if y = x then false else w y) hx (by simp)]
          refine congrArg nI (cntF_cong (fun y _ => ?_))
          by_cases q : y = x
          · simp [q]
          · simp [q]
      have F3 : bkFr H H3 := by rw [e3]; exact F2.hu (by omega)
      have F5 : bkFr H H5 := by rw [e5]; exact (F3.hu (by omega)).hu (by omega)
      have g25 : H5 25 0 = upd (H2 25 0) x v4 := by
        rw [e5, e3]; funext z
        simp only [upd]
        by_cases q : z = x
        · subst q; simp [hu]
        · simp [hu, q]
      have g26 : H5 26 0 = upd (H2 26 0) x (-1) := by
        rw [e5, e3]; funext z
        simp only [upd]
        by_cases q : z = x
        · subst q; simp [hu]
        · simp [hu, q]
      have g23 : ∀ z, H5 23 0 z = if z = x then nI k else H2 23 0 z := by
        intro z; rw [e5, e3]; simp [hu]
      have g24 : ∀ b, H5 24 0 b = H2 24 0 b := by intro b; rw [e5, e3]; simp [hu]
      have g21 : H5 21 0 6 = H2 21 0 6 := by rw [e5, e3]; simp [hu]
      rw [hfst] at hv4
      cases hl : L2 (k % 128) with
      | nil =>
        rw [hl] at hv4
        have hv : v4 = -1 := hv4
        refine ⟨fun _ => ⟨vB, fun H6 e6 H7 e7 => fin H7 ?_ ?_ (fun b => ?_) (fun z => ?_) ?_ ?_⟩, fun q => absurd (by rw [hv]; decide) q⟩
        · rw [e7, hu_kd _ _ _ _ (by decide), e6, hu_kd _ _ _ _ (by decide), g25]
        · rw [e7, hu_kd _ _ _ _ (by decide), e6, hu_kd _ _ _ _ (by decide), g26, hl]; rfl
        · rw [e7, hu_kd _ _ _ _ (by decide), e6]
          by_cases q : b = k % 128
          · rw [if_pos q, q, hu_at]
          · rw [if_neg q, hu_k _ _ q, g24]
        · rw [e7, hu_kd _ _ _ _ (by decide), e6, hu_kd _ _ _ _ (by decide)]; exact g23 z
        · rw [e7, hu_at, e6, hu_kd _ _ _ _ (by decide), g21]
        · rw [e7, e6]; exact (F5.hu (by omega)).hu (by omega)
      | cons y r =>
        rw [hl] at hv4
        have hv : v4 = nI y := hv4
        have hy : y < 1952 := (c2 _ hB y (by rw [hl]; exact List.mem_cons_self)).1
        have hv0 : ¬ v4 < 0 := by rw [hv]; exact nI_pos (by omega)
        refine ⟨fun q => absurd q hv0, fun _ => ⟨fun q => absurd q (by rw [hv, show (1952 : Int32) = nI 1952 from rfl, nI_leI (by omega) (by omega)]; omega), fun _ => ⟨by rw [hv]; exact vp_in_nI hy (by omega), vB, fun H10 e10 H11 e11 => fin H11 ?_ ?_ (fun b => ?_) (fun z => ?_) ?_ ?_⟩⟩⟩
        · rw [e11, hu_kd _ _ _ _ (by decide), e10, hu_kd _ _ _ _ (by decide), hu_kd _ _ _ _ (by decide), g25]
        · rw [e11, hu_kd _ _ _ _ (by decide), e10, hu_kd _ _ _ _ (by decide), hl, hv, nI_clamp (by omega)]
          funext z
          show _ = upd (upd (H2 26 0) x (-1)) y (nI x) z
          rw [← g26]
          simp only [upd]
          by_cases q : z = y
          · subst q; simp [hu]
          · simp [hu, q]
        · rw [e11, hu_kd _ _ _ _ (by decide), e10]
          by_cases q : b = k % 128
          · rw [if_pos q, q, hu_at]
          · rw [if_neg q, hu_k _ _ q, hu_kd _ _ _ _ (by decide), g24]
        · rw [e11, hu_kd _ _ _ _ (by decide), e10, hu_kd _ _ _ _ (by decide), hu_kd _ _ _ _ (by decide)]; exact g23 z
        · rw [e11, hu_at, e10, hu_kd _ _ _ _ (by decide), hu_kd _ _ _ _ (by decide), g21]
        · rw [e11, e10]; exact ((F5.hu (by omega)).hu (by omega)).hu (by omega)
  · intro hnl
    refine hno (Or.inl ?_)
    rw [x3] at hnl
    cases hc : c x with
    | none => exact absurd (by rw [(b3 x hx).1 hc]; exact (far k hk).1) hnl
    | some k0 =>
      obtain ⟨e, h1⟩ := (b3 x hx).2 k0 hc
      rw [e, nI_ltI (by omega) (by omega)] at hnl
      exact ⟨k0, rfl, by omega⟩
