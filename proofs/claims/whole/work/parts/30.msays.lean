/-! SPECS 7 (the reference): what a text says. -/
/-- a code of the class's, as the reference has it -/
def mcv (c : Int32) : Int32 := if c < 10000 then c + 100000 else if c < 20000 then c - 10000 else c - 19989
theorem s_Model_in {E : XE} {d : Nat} {v a b : Int32} {H : HH} {Q : Int32 → HH → Prop} (h1 : a ≤ v → v ≤ b → Q 1 H) (h0 : ¬ (a ≤ v ∧ v ≤ b) → Q 0 H) : c_Model_in E d v a b H Q := by
  refine l_Model_in ?_
  by_cases q1 : v < a
  · simp only [p_Model_in, if_pos q1]
    refine ⟨Or.inl trivial, h0 fun q => ?_⟩
    have := q.1
    simp only [ti_lt, ti_le] at *
    omega
  · by_cases q2 : b < v
    · simp only [p_Model_in, if_neg q1, if_pos q2]
      refine ⟨Or.inl trivial, h0 fun q => ?_⟩
      have := q.2
      simp only [ti_lt, ti_le] at *
      omega
    · simp only [p_Model_in, if_neg q1, if_neg q2]
      refine ⟨Or.inr trivial, h1 ?_ ?_⟩
      · simp only [ti_lt, ti_le] at *; omega
      · simp only [ti_lt, ti_le] at *; omega
theorem s_Model_two {E : XE} {d : Nat} {c a b : Int32} {H : HH} {Q : Int32 → HH → Prop} (hc : 20000 ≤ c ∧ c < 20009 ∧ ¬ (c = 20002 ∨ c = 20008)) (h : Q (evop c a b) H) : c_Model_two E d (c - 19989) a b H Q := by
  have z1 : (20000 : Int32).toInt = 20000 := rfl
  have z2 : (20009 : Int32).toInt = 20009 := rfl
  have z3 : (19989 : Int32).toInt = 19989 := rfl
  obtain ⟨c1, c2, c3⟩ := hc
  simp only [not_or] at c3
  have hall : c = 20000 ∨ c = 20001 ∨ c = 20003 ∨ c = 20004 ∨ c = 20005 ∨ c = 20006 ∨ c = 20007 := by
    have y2 : ¬ c.toInt = 20002 := fun e => c3.1 ((ti_eq _ _).mpr e)
    have y8 : ¬ c.toInt = 20008 := fun e => c3.2 ((ti_eq _ _).mpr e)
    simp only [ti_lt, ti_le] at c1 c2
    simp only [ti_eq]
    have w0 : (20001 : Int32).toInt = 20001 := rfl
    have w1 : (20003 : Int32).toInt = 20003 := rfl
    have w2 : (20004 : Int32).toInt = 20004 := rfl
    have w3 : (20005 : Int32).toInt = 20005 := rfl
    have w4 : (20006 : Int32).toInt = 20006 := rfl
    have w5 : (20007 : Int32).toInt = 20007 := rfl
    omega
  refine l_Model_two ?_
  rcases hall with rfl | rfl | rfl | rfl | rfl | rfl | rfl
  · exact ⟨fun _ => h, fun e => absurd e (by decide), fun e => absurd e (by decide), fun e => absurd e (by decide), fun e => absurd e (by decide), fun e => absurd e (by decide), fun e => absurd (by decide) e⟩
  · exact ⟨fun e => absurd e (by decide), fun _ => h, fun e => absurd e (by decide), fun e => absurd e (by decide), fun e => absurd e (by decide), fun e => absurd e (by decide), fun _ e => absurd (by decide) e⟩
  · exact ⟨fun e => absurd e (by decide), fun e => absurd e (by decide), fun _ => h, fun e => absurd e (by decide), fun e => absurd e (by decide), fun e => absurd e (by decide), fun _ _ e => absurd (by decide) e⟩
  · exact ⟨fun e => absurd e (by decide), fun e => absurd e (by decide), fun e => absurd e (by decide), fun _ => h, fun e => absurd e (by decide), fun e => absurd e (by decide), fun _ _ _ e => absurd (by decide) e⟩
  · exact ⟨fun e => absurd e (by decide), fun e => absurd e (by decide), fun e => absurd e (by decide), fun e => absurd e (by decide), fun _ => h, fun e => absurd e (by decide), fun _ _ _ _ e => absurd (by decide) e⟩
  · exact ⟨fun e => absurd e (by decide), fun e => absurd e (by decide), fun e => absurd e (by decide), fun e => absurd e (by decide), fun e => absurd e (by decide), fun _ => h, fun _ _ _ _ _ e => absurd (by decide) e⟩
  · exact ⟨fun e => absurd e (by decide), fun e => absurd e (by decide), fun e => absurd e (by decide), fun e => absurd e (by decide), fun e => absurd e (by decide), fun e => absurd e (by decide), fun _ _ _ _ _ _ => h⟩
/-- text j of the reference's is the class's code -/
def msOK (H : HH) (j : Nat) (code ends : Nat → Int32) : Prop := ∀ p, p < 3 → ∃ a b, txP code ends p a b ∧ H 37 0 (4 * j + p) = nI a ∧ H 37 0 (4 * j + p + 1) = nI b ∧ ∀ k, k < b → H 36 0 (200 * j + k) = mcv (code k)
theorem mcv_num {c : Int32} (h0 : 0 ≤ c) (h : c < 10000) : 100000 ≤ mcv c ∧ 11 ≤ mcv c ∧ mcv c - 100000 = c := by
  have z1 : (100000 : Int32).toInt = 100000 := rfl
  have z2 : (10000 : Int32).toInt = 10000 := rfl
  have z3 : (11 : Int32).toInt = 11 := rfl
  have z0 : (0 : Int32).toInt = 0 := rfl
  unfold mcv
  rw [if_pos h]
  simp only [ti_lt, ti_le, ti_eq] at *
  have e : (c + 100000).toInt = c.toInt + 100000 := ti_add (by omega) (by omega)
  have e2 : (c + 100000 - 100000).toInt = (c + 100000).toInt - 100000 := ti_sub (by omega) (by omega)
  omega
theorem mcv_nam {c : Int32} (h0 : ¬ c < 10000) (h : c < 10006) : ¬ 100000 ≤ mcv c ∧ ¬ 11 ≤ mcv c ∧ mcv c = c - 10000 ∧ vp_in (c - 10000) 6 := by
  have z1 : (100000 : Int32).toInt = 100000 := rfl
  have z2 : (10000 : Int32).toInt = 10000 := rfl
  have z4 : (10006 : Int32).toInt = 10006 := rfl
  have z5 : (20000 : Int32).toInt = 20000 := rfl
  have z3 : (11 : Int32).toInt = 11 := rfl
  have e1 : c < 20000 := by simp only [ti_lt] at *; omega
  have em : mcv c = c - 10000 := by unfold mcv; rw [if_neg h0, if_pos e1]
  rw [em]
  simp only [ti_lt, ti_le] at *
  have e : (c - 10000).toInt = c.toInt - 10000 := ti_sub (by omega) (by omega)
  exact ⟨by omega, by omega, trivial, ti_in (by omega) (by omega)⟩
theorem mcv_op {c : Int32} (h0 : ¬ c < 20000) (h : c < 20009) : ¬ 100000 ≤ mcv c ∧ 11 ≤ mcv c ∧ mcv c = c - 19989 ∧ (mcv c = 13 ↔ c = 20002) ∧ (mcv c = 19 ↔ c = 20008) := by
  have z1 : (100000 : Int32).toInt = 100000 := rfl
  have z2 : (10000 : Int32).toInt = 10000 := rfl
  have z4 : (20009 : Int32).toInt = 20009 := rfl
  have z5 : (20000 : Int32).toInt = 20000 := rfl
  have z6 : (20002 : Int32).toInt = 20002 := rfl
  have z7 : (20008 : Int32).toInt = 20008 := rfl
  have z8 : (19989 : Int32).toInt = 19989 := rfl
  have z9 : (13 : Int32).toInt = 13 := rfl
  have z10 : (19 : Int32).toInt = 19 := rfl
  have z3 : (11 : Int32).toInt = 11 := rfl
  have e0 : ¬ c < 10000 := by simp only [ti_lt] at *; omega
  have em : mcv c = c - 19989 := by unfold mcv; rw [if_neg e0, if_neg h0]
  rw [em]
  simp only [ti_lt, ti_le, ti_eq] at *
  have e : (c - 19989).toInt = c.toInt - 19989 := ti_sub (by omega) (by omega)
  exact ⟨by omega, by omega, trivial, by omega, by omega⟩
theorem cdO {c : Int32} {d d2 : Nat} (h1 : ¬ c < 20000) (h : cd1 c d = some d2) : c < 20009 := by
  unfold cd1 at h
  rw [if_neg h1] at h
  by_cases h2 : c = 20002 ∨ c = 20008
  · rcases h2 with rfl | rfl <;> decide
  · rw [if_neg h2] at h
    by_cases h3 : c < 20009 ∧ 2 ≤ d
    · exact h3.1
    · rw [if_neg h3] at h; cases h
theorem s_Model_says {E : XE} {d t p a b : Nat} {code ends : Nat → Int32} {H : HH} {Q : Int32 → HH → Prop} (ht : t < 6) (hr : H 30 0 12 = nI t) (hp : p < 3) (htx : txP code ends p a b) (ha : H 37 0 (4 * t + p) = nI a) (hb : H 37 0 (4 * t + p + 1) = nI b) (hk : ∀ k, k < b → H 36 0 (200 * t + k) = mcv (code k))
    (h : ∀ f, Q ((evs (H 47 0) code a (b - a)).headD 0) (hrow H 46 0 f)) : c_Model_says E (d + 1) (nI p) H Q := by
  obtain ⟨te, t0, t1, tab, tb, tc⟩ := htx
  have i0 : 4 * H 30 0 12 + nI p = nI (4 * t + p) := by rw [hr, show (4 : Int32) = nI 4 from rfl, nI_mul, nI_add]
  have i1 : 4 * H 30 0 12 + nI p + 1 = nI (4 * t + p + 1) := by rw [i0, nI_1]
  refine l_Model_says ⟨by rw [i0]; exact vp_in_nI (by omega) (by omega), fun v1 e1 => ?_⟩
  rw [i0, nI_clamp (by omega), ha] at e1
  refine ⟨fun z3 z4 H' => ∃ n f, n ≤ b - a ∧ z4 = nI (a + n) ∧ z3 = nI (evs (H 47 0) code a n).length ∧ H' = hrow H 46 0 f ∧ rstk f (evs (H 47 0) code a n), fun _ z4 _ => b - z4.toNatClampNeg, ⟨0, H 46 0, Nat.zero_le _, by rw [e1]; rfl, rfl, by rw [hrow_self], trivial⟩, fun z3 z4 H5 hI => ?_⟩
  obtain ⟨n, f, hn, rfl, rfl, rfl, hf⟩ := hI
  rw [hrow_kd _ _ _ (by decide : (30 : Nat) ≠ 46), hrow_kd _ _ _ (by decide : (37 : Nat) ≠ 46), hrow_kd _ _ _ (by decide : (36 : Nat) ≠ 46), hrow_kd _ _ _ (by decide : (47 : Nat) ≠ 46), hrow_at, i1, nI_clamp (by omega), hb]
  obtain ⟨d0, hd0⟩ := cdep_pre hn tc
  have hlen : (evs (H 47 0) code a n).length = d0 := cdep_len hd0
  have hle : d0 ≤ n := cdep_le hd0
  refine ⟨vp_in_nI (by omega) (by omega), fun q => ?_, fun q => ?_⟩
  · have hnb : n = b - a := by rw [nI_leI (by omega) (by omega)] at q; omega
    subst hnb
    have hl1 : (evs (H 47 0) code a (b - a)).length = 1 := cdep_len tc
    have hh := h f
    match hs : evs (H 47 0) code a (b - a), hl1 with
    | [v], _ =>
      rw [hs] at hf hh
      have hv : f 0 = v := hf.1
      rw [hv]
      exact hh
  · have hnb : n < b - a := by rw [nI_leI (by omega) (by omega)] at q; omega
    obtain ⟨d1, hd1⟩ := cdep_pre (n := n + 1) hnb tc
    have hc1 : cd1 (code (a + n)) d0 = some d1 := by
      unfold cdep at hd1
      rw [hd0] at hd1
      exact hd1
    have hlen1 : (evs (H 47 0) code a (n + 1)).length = d1 := cdep_len hd1
    have hev : evs (H 47 0) code a (n + 1) = ev1 (H 47 0) (code (a + n)) (evs (H 47 0) code a n) := rfl
    have hz6 : nI (a + n) + 1 = nI (a + (n + 1)) := by rw [nI_1]; rfl
    have hmu : b - (nI (a + (n + 1))).toNatClampNeg < b - (nI (a + n)).toNatClampNeg := by
      rw [nI_clamp (by omega), nI_clamp (by omega)]; omega
    have j0 : 200 * H 30 0 12 + nI (a + n) = nI (200 * t + (a + n)) := by rw [hr, show (200 : Int32) = nI 200 from rfl, nI_mul, nI_add]
    rw [hz6, j0]
    refine ⟨vp_in_nI (by omega) (by omega), fun v6 e6 => ?_⟩
    rw [nI_clamp (by omega), hk _ (by omega)] at e6
    generalize code (a + n) = c at *
    generalize hs0 : evs (H 47 0) code a n = s at *
    rw [← hlen] at hc1
    by_cases hc : c < 20000
    · have hcr := cdN hc hc1
      by_cases hc2 : c < 10000
      · obtain ⟨y1, y2, y3⟩ := mcv_num hcr.1 hc2
        have hev2 : evs (H 47 0) code a (n + 1) = c :: s := by
          rw [hev]; unfold ev1; rw [if_pos hc]; unfold evnm; rw [if_neg (by simp only [ti_lt, ti_le] at *; omega)]
        have fin : vp_in (nI s.length) 200 ∧ ∀ H7 : HH, H7 = hu (hrow H 46 0 f) 46 0 (nI s.length).toNatClampNeg (v6 - 100000) → (∃ n' f', n' ≤ b - a ∧ nI (a + (n + 1)) = nI (a + n') ∧ nI s.length + 1 = nI (evs (H 47 0) code a n').length ∧ H7 = hrow H 46 0 f' ∧ rstk f' (evs (H 47 0) code a n')) ∧ b - (nI (a + (n + 1))).toNatClampNeg < b - (nI (a + n)).toNatClampNeg := by
          refine ⟨vp_in_nI (by omega) (by omega), fun H7 e7 => ⟨⟨n + 1, upd f s.length c, by omega, rfl, by rw [hev2, nI_1]; rfl, ?_, ?_⟩, hmu⟩⟩
          · rw [e7, nI_clamp (by omega), hu_hrow, e6, y3]
          · rw [hev2]; exact rstk_push hf
        rw [e6]
        refine ⟨fun _ => ⟨fun _ => by rw [e6] at fin; exact fin, fun k => absurd y2 k⟩, fun k => absurd y1 k⟩
      · obtain ⟨y1, y2, y3, y4⟩ := mcv_nam hc2 hcr.2
        have hev2 : evs (H 47 0) code a (n + 1) = H 47 0 (c - 10000).toNatClampNeg :: s := by
          rw [hev]; unfold ev1; rw [if_pos hc]; unfold evnm
          rw [if_pos (by simp only [ti_lt, ti_le] at *; omega), if_neg (fun k => y4 (Or.inr (by
            have := (vp_in_iff.mp y4)
            have z : (6 : Int32).toInt = 6 := rfl
            simp only [ti_le] at k
            omega)))]
        rw [e6, y3]
        rw [y3] at y1 y2
        have fin : vp_in (nI s.length) 200 ∧ ∀ H7 : HH, H7 = hu (hrow H 46 0 f) 46 0 (nI s.length).toNatClampNeg (H 47 0 (c - 10000).toNatClampNeg) → (∃ n' f', n' ≤ b - a ∧ nI (a + (n + 1)) = nI (a + n') ∧ nI s.length + 1 = nI (evs (H 47 0) code a n').length ∧ H7 = hrow H 46 0 f' ∧ rstk f' (evs (H 47 0) code a n')) ∧ b - (nI (a + (n + 1))).toNatClampNeg < b - (nI (a + n)).toNatClampNeg := by
          refine ⟨vp_in_nI (by omega) (by omega), fun H7 e7 => ⟨⟨n + 1, upd f s.length (H 47 0 (c - 10000).toNatClampNeg), by omega, rfl, by rw [hev2, nI_1]; rfl, ?_, ?_⟩, hmu⟩⟩
          · rw [e7, nI_clamp (by omega), hu_hrow]
          · rw [hev2]; exact rstk_push hf
        exact ⟨fun k => absurd k y1, fun _ => ⟨fun k => absurd k y2, fun _ => ⟨fun k => absurd k y2, fun _ => ⟨y4, fin⟩⟩⟩⟩
    · obtain ⟨y1, y2, y3, y4, y5⟩ := mcv_op hc (cdO hc hc1)
      rw [e6]
      refine ⟨fun k => absurd k y1, fun _ => ⟨fun _ => ⟨fun k13 => ⟨fun k19 => ?_, fun k19 => ?_⟩, fun k13 => ?_⟩, fun k => absurd y2 k⟩⟩
      · have w2 : ¬ c = 20002 := fun k => k13 (y4.mpr k)
        have w3 : ¬ c = 20008 := fun k => k19 (y5.mpr k)
        obtain ⟨y, x, r, rfl⟩ := cdB hc (fun k => k.elim w2 w3) hc1
        simp only [List.length_cons] at hlen
        have e3 : nI (y :: x :: r).length + (-1) = nI (r.length + 1) := by rw [← Int32.sub_eq_add_neg]; exact nI_pred _
        have e2 : nI (r.length + 1) - 1 = nI r.length := nI_pred _
        rw [e3, e2]
        refine ⟨vp_in_nI (by omega) (by omega), vp_in_nI (by omega) (by omega), ?_⟩
        rw [nI_clamp (by omega), nI_clamp (by omega), y3, show f r.length = x from hf.2.1, show f (r.length + 1) = y from hf.1]
        refine s_Model_two ⟨by simp only [ti_lt, ti_le] at *; omega, cdO hc hc1, fun k => k.elim w2 w3⟩ ⟨vp_in_nI (by omega) (by omega), fun H11 e11 => ?_⟩
        rw [hu_hrow] at e11
        have hev2 : evs (H 47 0) code a (n + 1) = evop c x y :: r := by rw [hev]; unfold ev1; rw [if_neg hc, if_neg w2, if_neg w3]
        refine ⟨⟨n + 1, _, by omega, rfl, ?_, e11, ?_⟩, hmu⟩
        · rw [hev2]; rfl
        · rw [hev2]; exact ⟨by simp [upd], rstk_up (Nat.le_refl _) hf.2.2⟩
      · have w3 : c = 20008 := y5.mp k19
        have w2 : ¬ c = 20002 := fun k => k13 (y4.mpr k)
        obtain ⟨x, r, rfl⟩ := cdU hc (Or.inr w3) hc1
        simp only [List.length_cons] at hlen
        have e1 : nI (x :: r).length - 1 = nI r.length := nI_pred _
        rw [e1]
        refine ⟨vp_in_nI (by omega) (by omega), vp_in_nI (by omega) (by omega), fun H12 e12 => ?_⟩
        rw [nI_clamp (by omega), show f r.length = x from hf.1, hu_hrow] at e12
        have hev2 : evs (H 47 0) code a (n + 1) = (-x) :: r := by rw [hev]; unfold ev1; rw [if_neg hc, if_neg w2, if_pos w3]
        refine ⟨⟨n + 1, _, by omega, rfl, ?_, e12, ?_⟩, hmu⟩
        · rw [hev2]; rfl
        · rw [hev2]; exact ⟨by simp [upd], rstk_up (Nat.le_refl _) hf.2⟩
      · have w2 : c = 20002 := y4.mp k13
        obtain ⟨x, r, rfl⟩ := cdU hc (Or.inl w2) hc1
        simp only [List.length_cons] at hlen
        have e1 : nI (x :: r).length - 1 = nI r.length := nI_pred _
        rw [e1]
        refine ⟨vp_in_nI (by omega) (by omega), vp_in_nI (by omega) (by omega), fun H12 e12 => ?_⟩
        rw [nI_clamp (by omega), show f r.length = x from hf.1, hu_hrow] at e12
        have hev2 : evs (H 47 0) code a (n + 1) = (if x = 0 then 1 else 0) :: r := by rw [hev]; unfold ev1; rw [if_neg hc, if_pos w2]
        refine ⟨⟨n + 1, _, by omega, rfl, ?_, e12, ?_⟩, hmu⟩
        · rw [hev2]; rfl
        · rw [hev2]; exact ⟨by simp [upd], rstk_up (Nat.le_refl _) hf.2⟩
