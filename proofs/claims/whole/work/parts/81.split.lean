/-! THE TOKENS IN THEIR ORDER, and the class's split of THE TAPE. -/
def tS (T : Nat → Int32) (n a : Nat) : Nat := rn isBk T n a
def tP (T : Nat → Int32) (n : Nat) : Nat → Nat
  | 0 => 0
  | t + 1 => if tS T n (tP T n t) < n then tEnd T n (tS T n (tP T n t)) else n
/-- where token t starts; n behind the last -/
def sT (T : Nat → Int32) (n t : Nat) : Nat := tS T n (tP T n t)
def kT (T : Nat → Int32) (n t : Nat) : Int32 := if sT T n t < n then tKd T n (sT T n t) else 264
def vT (T : Nat → Int32) (n t : Nat) : Int32 := tVl T n (sT T n t)
theorem tP_in {T : Nat → Int32} {n t : Nat} (h : sT T n t < n) : tP T n (t + 1) = tEnd T n (sT T n t) := if_pos h
theorem tP_out {T : Nat → Int32} {n t : Nat} (h : ¬ sT T n t < n) : tP T n (t + 1) = n := if_neg h
theorem tP_le {T : Nat → Int32} {n : Nat} : ∀ t, tP T n t ≤ n := by
  intro t
  cases t with
  | zero => exact Nat.zero_le _
  | succ t =>
    by_cases c : sT T n t < n
    · rw [tP_in c]; exact tEnd_le c
    · rw [tP_out c]; exact Nat.le_refl _
theorem sT_le {T : Nat → Int32} {n t : Nat} : sT T n t ≤ n := rn_le (tP_le t)
theorem sT_ge {T : Nat → Int32} {n t : Nat} : tP T n t ≤ sT T n t := rn_ge
theorem sT_n {T : Nat → Int32} {n t : Nat} (h : ¬ sT T n t < n) : sT T n (t + 1) = n := by
  have h1 : tP T n (t + 1) = n := tP_out h
  have h2 := @sT_ge T n (t + 1)
  have h3 := @sT_le T n (t + 1)
  omega
theorem sT_mono {T : Nat → Int32} {n m : Nat} (h : sT T n m = n) : ∀ t, m ≤ t → sT T n t = n := by
  intro t
  induction t with
  | zero => intro q; rw [show m = 0 by omega] at h; exact h
  | succ t ih =>
    intro q
    by_cases e : m = t + 1
    · rw [← e]; exact h
    · exact sT_n (by rw [ih (by omega)]; omega)
theorem tP_ge {T : Nat → Int32} {n : Nat} : ∀ t, t ≤ n → t ≤ tP T n t := by
  intro t
  induction t with
  | zero => intro _; exact Nat.zero_le _
  | succ t ih =>
    intro q
    by_cases c : sT T n t < n
    · rw [tP_in c]
      have h1 := ih (by omega)
      have h2 := @sT_ge T n t
      have h3 := @tEnd_gt T n (sT T n t)
      omega
    · rw [tP_out c]; exact q
/-- the class's tokens as split left them -/
def tkOK (H : HH) (n : Nat) : Prop := ∃ m, m ≤ 160 ∧ H 6 0 5 = nI m ∧ (∀ t, t < m → sT (H 7 0) n t < n ∧ H 8 0 t = kT (H 7 0) n t ∧ H 9 0 t = nI (sT (H 7 0) n t) ∧ H 10 0 t = vT (H 7 0) n t) ∧ sT (H 7 0) n m = n
theorem xmax_nI {a b : Nat} (ha : a < 2147483648) (hb : b < 2147483648) : xmax (nI a) (nI b) = nI (max a b) := by
  unfold xmax
  by_cases c : a < b
  · rw [if_pos ((nI_ltI ha hb).mpr c), Nat.max_eq_right (by omega)]
  · rw [if_neg (fun z => c ((nI_ltI ha hb).mp z)), Nat.max_eq_left (by omega)]
def tkF (a i k : Nat) : Prop := a = 8 ∨ a = 9 ∨ a = 10 ∨ (a = 6 ∧ i = 0 ∧ k = 5)
def tkI (H : HH) (n : Nat) (z : Int32) (G : HH) : Prop := (∀ a i k, ¬ tkF a i k → G a i k = H a i k) ∧ ∃ t p, t ≤ 160 ∧ t ≤ p ∧ p ≤ n ∧ z = nI p ∧ G 6 0 5 = nI t ∧ tS (H 7 0) n p = sT (H 7 0) n t ∧ (∀ j, j < t → sT (H 7 0) n j < n ∧ G 8 0 j = kT (H 7 0) n j ∧ G 9 0 j = nI (sT (H 7 0) n j) ∧ G 10 0 j = vT (H 7 0) n j)
theorem s_Tape_split {E : XE} {d n : Nat} {H : HH} {Q : HH → Prop} (hn : H 6 0 1 = nI n) (h160 : n ≤ 160) (hb : ∀ i, i < n → 0 ≤ (H 7 0 i).toInt ∧ (H 7 0 i).toInt ≤ 255) (hq : ∀ G, tkOK G n → (∀ a i k, ¬ tkF a i k → G a i k = H a i k) → Q G) : c_Tape_split E (d + 8) H Q := by
  refine l_Tape_split (fun H1 e1 => ?_)
  refine ⟨tkI H n, fun z _ => n - z.toNatClampNeg, ⟨fun a i k q => ?_, 0, 0, by omega, by omega, by omega, rfl, ?_, rfl, fun j hj => absurd hj (Nat.not_lt_zero _)⟩, ?_⟩
  · rw [e1, hu_ne (fun z => q (Or.inr (Or.inr (Or.inr z))))]
  · rw [e1, hu_at]; rfl
  rintro z G ⟨hf, t, p, t160, tp, pn, rfl, g5, hs, hj⟩
  have f7 : G 7 0 = H 7 0 := by funext k; exact hf 7 0 k (by unfold tkF; omega)
  have f61 : G 6 0 1 = nI n := by rw [hf 6 0 1 (by unfold tkF; omega)]; exact hn
  -- the end
  have fin : sT (H 7 0) n t = n → Q G := fun e => hq G ⟨t, t160, g5, by rw [f7]; exact hj, by rw [f7]; exact e⟩ hf
  rw [f61, g5]
  refine ⟨fun q => ?_, fun q => ⟨fun q2 => ?_, fun q2 => ?_⟩⟩
  · rw [nI_leI (by omega) (by omega)] at q
    refine fin ?_
    rw [← hs]; exact Nat.le_antisymm (rn_le pn) (Nat.le_trans q rn_ge)
  · rw [show (160 : Int32) = nI 160 from rfl, nI_leI (by omega) (by omega)] at q2
    rw [nI_leI (by omega) (by omega)] at q
    omega
  rw [nI_leI (by omega) (by omega)] at q
  rw [show (160 : Int32) = nI 160 from rfl, nI_leI (by omega) (by omega)] at q2
  have pl : p < n := by omega
  refine s_Tape_endOfToken f61 h160 pl (s_Tape_byteAt f61 h160 pl (s_Tape_isBlank (fun bk => ⟨fun _ v11 e11 => ?_, fun z => absurd z (by decide)⟩) (fun bk => ⟨fun z => absurd rfl z, fun _ => ?_⟩)))
  · rw [f7] at bk
    have nb : ¬ isLt (H 7 0 p) ∧ ¬ isDg (H 7 0 p) := by
      rcases bk with e | e <;> rw [e] <;> decide
    have ee : tEnd (G 7 0) n p = p + 1 := by rw [f7]; unfold tEnd; rw [if_neg nb.1, if_neg nb.2]
    rw [ee, nI_1, xmax_nI (by omega) (by omega), Nat.max_self] at e11
    subst e11
    refine ⟨⟨hf, t, p + 1, t160, by omega, by omega, rfl, g5, ?_, hj⟩, ?_⟩
    · rw [← hs]; exact (rn_go pl bk).symm
    · show n - (nI (p + 1)).toNatClampNeg < n - (nI p).toNatClampNeg
      rw [nI_clamp (by omega), nI_clamp (by omega)]; omega
  · rw [f7] at bk
    have sp : sT (H 7 0) n t = p := by rw [← hs]; exact rn_stop (fun z => bk z.2)
    refine ⟨by rw [g5]; exact vp_in_nI (by omega) (by omega), fun H12 e12 => ?_⟩
    rw [g5, nI_clamp (by omega)] at e12
    have b7 : H12 7 0 = H 7 0 := by rw [e12]; funext k; rw [hu_ne (by omega)]; exact congrFun f7 k
    have b61 : H12 6 0 1 = nI n := by rw [e12, hu_ne (by omega)]; exact f61
    have b65 : H12 6 0 5 = nI t := by rw [e12, hu_ne (by omega)]; exact g5
    refine s_Tape_byteAt b61 h160 pl ?_
    have ev : ∀ y18 : Int32, y18 = vT (H 7 0) n t → vp_in (H12 6 0 5) 160 ∧ (∀ H20 : HH, H20 = (hu H12 10 0 ((H12 6 0 5).toNatClampNeg) y18) → (c_Tape_kindAt E (d + 7) (nI p) (nI (tEnd (G 7 0) n p)) H20 (fun r22 H21 => vp_in (H20 6 0 5) 160 ∧ (∀ H23 : HH, H23 = (hu H21 8 0 ((H20 6 0 5).toNatClampNeg) r22) → (∀ H24 : HH, H24 = (hu H23 6 0 5 ((H23 6 0 5) + 1)) → (∀ v25 : Int32, v25 = (xmax (nI (tEnd (G 7 0) n p)) (nI p + 1)) → (tkI H n v25 H24 ∧ n - v25.toNatClampNeg < n - (nI p).toNatClampNeg))))))) := by
      intro y18 ey
      rw [b65, nI_clamp (by omega), f7]
      refine ⟨vp_in_nI (by omega) (by omega), fun H20 e20 => ?_⟩
      have c7 : H20 7 0 = H 7 0 := by rw [e20]; funext k; rw [hu_ne (by omega)]; exact congrFun b7 k
      have c61 : H20 6 0 1 = nI n := by rw [e20, hu_ne (by omega)]; exact b61
      have c65 : H20 6 0 5 = nI t := by rw [e20, hu_ne (by omega)]; exact b65
      rw [← c7]
      refine s_Tape_kindAt c61 h160 pl (by rw [c7]; exact hb p pl) ?_
      rw [c65, nI_clamp (by omega), c7]
      refine ⟨vp_in_nI (by omega) (by omega), fun H23 e23 H24 e24 v25 e25 => ?_⟩
      have g1 := @tEnd_gt (H 7 0) n p
      have g2 := tEnd_le (T := H 7 0) pl
      rw [nI_1, xmax_nI (by omega) (by omega), Nat.max_eq_left (by omega)] at e25
      subst e25
      have d65 : H23 6 0 5 = nI t := by rw [e23, hu_ne (by omega)]; exact c65
      rw [d65, nI_1] at e24
      refine ⟨⟨fun a i k q => ?_, t + 1, tEnd (H 7 0) n p, by omega, by omega, g2, rfl, by rw [e24, hu_at], ?_, fun j hjt => ?_⟩, ?_⟩
      · have q' := q
        unfold tkF at q'
        rw [e24, hu_ne (by omega), e23, hu_ne (by omega), e20, hu_ne (by omega), e12, hu_ne (by omega)]
        exact hf a i k q
      · have e : tP (H 7 0) n (t + 1) = tEnd (H 7 0) n p := by rw [tP_in (by rw [sp]; exact pl), sp]
        show _ = tS (H 7 0) n (tP (H 7 0) n (t + 1))
        rw [e]
      · by_cases ej : j = t
        · subst ej
          refine ⟨by rw [sp]; exact pl, ?_, ?_, ?_⟩
          · rw [e24, hu_ne (by omega), e23, hu_at]
            have e : kT (H 7 0) n j = tKd (H 7 0) n (sT (H 7 0) n j) := if_pos (by rw [sp]; exact pl)
            rw [e, sp]
          · rw [e24, hu_ne (by omega), e23, hu_ne (by omega), e20, hu_ne (by omega), e12, hu_at, sp]
          · rw [e24, hu_ne (by omega), e23, hu_ne (by omega), e20, hu_at]; exact ey
        · obtain ⟨k1, k2, k3, k4⟩ := hj j (by omega)
          refine ⟨k1, ?_, ?_, ?_⟩
          · rw [e24, hu_ne (by omega), e23, hu_ne (by omega), e20, hu_ne (by omega), e12, hu_ne (by omega)]; exact k2
          · rw [e24, hu_ne (by omega), e23, hu_ne (by omega), e20, hu_ne (by omega), e12, hu_ne (by omega)]; exact k3
          · rw [e24, hu_ne (by omega), e23, hu_ne (by omega), e20, hu_ne (by omega), e12, hu_ne (by omega)]; exact k4
      · rw [nI_clamp (by omega), nI_clamp (by omega)]; omega
    have g1 := @tEnd_gt (H 7 0) n p
    have g2 := tEnd_le (T := H 7 0) pl
    rw [b7]
    refine s_Tape_isDigit (fun dg => ?_) (fun dg => ?_)
    · refine ⟨fun y G2 => y = vT (H 7 0) n t ∧ G2 = H12, ⟨fun z => absurd z (by decide), fun _ => ?_⟩, fun y18 H19 k => ?_⟩
      · rw [f7]
        refine s_Tape_numberAt b61 h160 (by omega) g2 ⟨?_, rfl⟩
        rw [b7]
        unfold vT tVl
        rw [sp, if_pos dg]
      · obtain ⟨k1, rfl⟩ := k
        exact ev y18 k1
    · refine ⟨fun y G2 => y = vT (H 7 0) n t ∧ G2 = H12, ⟨fun _ => ?_, fun z => absurd rfl z⟩, fun y18 H19 k => ?_⟩
      · rw [f7]
        refine s_Tape_nameAt b61 h160 (by omega) g2 ⟨?_, rfl⟩
        rw [b7]
        unfold vT tVl
        rw [sp, if_neg dg]
      · obtain ⟨k1, rfl⟩ := k
        exact ev y18 k1
theorem tkOK.le {H : HH} {n t m : Nat} (h : sT (H 7 0) n m = n) (hm : m ≤ t) : kT (H 7 0) n t = 264 := by
  unfold kT
  rw [sT_mono h t hm]
  exact if_neg (Nat.lt_irrefl _)
theorem s_Tape_kindOf {E : XE} {d n t : Nat} {H : HH} {Q : Int32 → HH → Prop} (h : tkOK H n) (ht : t < 1000) (hq : Q (kT (H 7 0) n t) H) : c_Tape_kindOf E d (nI t) H Q := by
  obtain ⟨m, h1, h2, h3, h4⟩ := h
  refine l_Tape_kindOf ⟨fun q => absurd q (nI_pos (by omega)), fun _ => ?_⟩
  rw [h2, nI_leI (by omega) (by omega)]
  refine ⟨fun q => ?_, fun q => ⟨fun q2 => ?_, fun _ => ⟨vp_in_nI (by omega) (by omega), ?_⟩⟩⟩
  · rw [tkOK.le h4 q] at hq; exact hq
  · rw [show (160 : Int32) = nI 160 from rfl, nI_leI (by omega) (by omega)] at q2; omega
  · rw [nI_clamp (by omega), (h3 t (by omega)).2.1]; exact hq
theorem s_Tape_valueOf {E : XE} {d n t : Nat} {H : HH} {Q : Int32 → HH → Prop} (h : tkOK H n) (ht : t < 1000) (hk : kT (H 7 0) n t ≠ 264) (hq : Q (vT (H 7 0) n t) H) : c_Tape_valueOf E d (nI t) H Q := by
  obtain ⟨m, h1, h2, h3, h4⟩ := h
  refine l_Tape_valueOf ⟨fun q => absurd q (nI_pos (by omega)), fun _ => ?_⟩
  rw [h2, nI_leI (by omega) (by omega)]
  refine ⟨fun q => absurd (tkOK.le h4 q) hk, fun q => ⟨fun q2 => ?_, fun _ => ⟨vp_in_nI (by omega) (by omega), ?_⟩⟩⟩
  · rw [show (160 : Int32) = nI 160 from rfl, nI_leI (by omega) (by omega)] at q2; omega
  · rw [nI_clamp (by omega), (h3 t (by omega)).2.2.2]; exact hq
theorem s_Tape_startOf {E : XE} {d n t : Nat} {H : HH} {Q : Int32 → HH → Prop} (h : tkOK H n) (hn : H 6 0 1 = nI n) (ht : t < 1000) (hq : Q (nI (sT (H 7 0) n t)) H) : c_Tape_startOf E d (nI t) H Q := by
  obtain ⟨m, h1, h2, h3, h4⟩ := h
  refine l_Tape_startOf ⟨fun q => absurd q (nI_pos (by omega)), fun _ => ?_⟩
  rw [h2, nI_leI (by omega) (by omega), hn]
  refine ⟨fun q => ?_, fun q => ⟨fun q2 => ?_, fun _ => ⟨vp_in_nI (by omega) (by omega), ?_⟩⟩⟩
  · rw [sT_mono h4 t q] at hq; exact hq
  · rw [show (160 : Int32) = nI 160 from rfl, nI_leI (by omega) (by omega)] at q2; omega
  · rw [nI_clamp (by omega), (h3 t (by omega)).2.2.1]; exact hq
