/-! THE TOKENS of the reference. -/
def mtc (T : Nat → Int32) (a e k i : Nat) : Prop := wdc k i = if a + i < e then T (a + i) else 32
theorem spl_mtc {T : Nat → Int32} {a e k : Nat} (hk : k < 12) (hae : a ≤ e) (hl : ∀ j, a ≤ j → j < e → isLt (T j)) : spl T a e k ↔ e - a ≤ 8 ∧ ∀ i, i < 8 → mtc T a e k i := by
  obtain ⟨l1, l2, l3, l4⟩ := wdl_all k hk
  have n32 : ¬ isLt 32 := by decide
  constructor
  · rintro ⟨h1, h2⟩
    refine ⟨by omega, fun i hi => ?_⟩
    unfold mtc
    by_cases c : i < wdl k
    · rw [if_pos (by omega), h2 i c]
    · rw [if_neg (by omega)]; exact l4 i hi (by omega)
  · rintro ⟨h1, h2⟩
    have el : e - a = wdl k := by
      rcases Nat.lt_trichotomy (e - a) (wdl k) with c | c | c
      · have m := h2 (e - a) (by omega)
        unfold mtc at m
        rw [if_neg (by omega)] at m
        exact absurd (m ▸ l3 (e - a) c) n32
      · exact c
      · have m := h2 (wdl k) l2
        unfold mtc at m
        rw [if_pos (by omega), l4 _ l2 (Nat.le_refl _)] at m
        exact absurd (m ▸ hl (a + wdl k) (by omega) (by omega)) n32
    refine ⟨by omega, fun i hi => ?_⟩
    have m := h2 i (by omega)
    unfold mtc at m
    rw [if_pos (by omega)] at m
    exact m.symm
theorem s_Model_wordFrom {E : XE} {d a e n : Nat} {H : HH} {Q : Int32 → HH → Prop} (hK : ∀ k, k < 96 → H 44 0 k = wdsL.getD k 0) (h160 : n ≤ 160) (hae : a ≤ e) (he : e ≤ n) (hT : ∀ i, i < n → H 35 0 i = H 7 0 i) (hl : ∀ j, a ≤ j → j < e → isLt (H 7 0 j)) (h : Q (nI (wIx (H 7 0) a e)) H) : c_Model_wordFrom E d (nI a) (nI e) H Q := by
  refine l_Model_wordFrom ⟨fun z G => G = H ∧ ∃ k, k ≤ 12 ∧ z = nI k ∧ ∀ j, j < k → ¬ spl (H 7 0) a e j, fun z _ => 12 - z.toNatClampNeg, ⟨rfl, 0, by omega, rfl, fun j hj => absurd hj (Nat.not_lt_zero _)⟩, ?_⟩
  rintro z G ⟨rfl, k, hk, rfl, hj⟩
  rw [show (12 : Int32) = nI 12 from rfl, nI_leI (by omega) (by omega)]
  refine ⟨fun q => ?_, fun q v5 e5 => ?_⟩
  · rw [wIx_no (fun j h9 => hj j (by omega))] at h; exact h
  have k12 : k < 12 := by omega
  have nx : ¬ spl (G 7 0) a e k → (G = G ∧ ∃ k2, k2 ≤ 12 ∧ nI k + 1 = nI k2 ∧ ∀ j, j < k2 → ¬ spl (G 7 0) a e j) ∧ 12 - (nI k + 1).toNatClampNeg < 12 - (nI k).toNatClampNeg := by
    intro c
    refine ⟨⟨rfl, k + 1, by omega, nI_1 k, fun j h9 => ?_⟩, ?_⟩
    · by_cases ej : j = k
      · rw [ej]; exact c
      · exact hj j (by omega)
    · rw [nI_1, nI_clamp (by omega), nI_clamp (by omega)]; omega
  rw [nI_subI hae (by omega)] at e5
  have n8 : (8 : Int32) < nI (e - a) ↔ 8 < e - a := nI_ltI (a := 8) (by omega) (by omega)
  refine ⟨fun z7 z8 G2 => G2 = G ∧ ∃ c, c ≤ 8 ∧ z8 = nI c ∧ ((z7 = 1 ∧ e - a ≤ 8 ∧ ∀ i, i < c → mtc (G 7 0) a e k i) ∨ (z7 = 0 ∧ ¬ (e - a ≤ 8 ∧ ∀ i, i < c → mtc (G 7 0) a e k i))), fun _ z8 _ => 8 - z8.toNatClampNeg, ⟨rfl, 0, by omega, rfl, ?_⟩, ?_⟩
  · by_cases c : 8 < e - a
    · exact Or.inr ⟨by rw [e5, if_pos (n8.mpr c)], fun z => by omega⟩
    · exact Or.inl ⟨by rw [e5, if_neg (fun z => c (n8.mp z))], by omega, fun i hi => absurd hi (Nat.not_lt_zero _)⟩
  rintro z7 z8 G2 ⟨rfl, c, hc, rfl, hz⟩
  have no : ∀ P : Prop, z7 = 0 → (¬ (e - a ≤ 8 ∧ ∀ i, i < c → mtc (G2 7 0) a e k i) → P) → P := by
    intro P ez hP
    rcases hz with ⟨y, _⟩ | ⟨_, y⟩
    · rw [ez] at y; exact absurd y (by decide)
    · exact hP y
  have sp0 : ¬ (e - a ≤ 8 ∧ ∀ i, i < c → mtc (G2 7 0) a e k i) → ¬ spl (G2 7 0) a e k := fun y z => by
    rw [spl_mtc k12 hae hl] at z
    exact y ⟨z.1, fun i hi => z.2 i (by omega)⟩
  rw [show (8 : Int32) = nI 8 from rfl, nI_leI (by omega) (by omega)]
  refine ⟨fun q => ⟨fun ez => no _ ez (fun y => nx (sp0 y)), fun ez => ?_⟩, fun q => ⟨fun ez => ⟨fun ez2 => no _ ez (fun y => nx (sp0 y)), fun ez2 => absurd ez ez2⟩, fun ez => ?_⟩⟩
  · rcases hz with ⟨y, y2, y3⟩ | ⟨y, _⟩
    · have e8 : c = 8 := by omega
      subst e8
      rw [wIx_is k12 ((spl_mtc k12 hae hl).mpr ⟨y2, y3⟩)] at h; exact h
    · exact absurd y ez
  · rcases hz with ⟨y, y2, y3⟩ | ⟨y, _⟩
    · have ei : nI 8 * nI k + nI c = nI (8 * k + c) := by rw [nI_mul, nI_add]
      rw [ei, nI_clamp (by omega), nI_add, nI_leI (by omega) (by omega), nI_clamp (by omega), nI_1]
      have kw : G2 44 0 (8 * k + c) = wdc k c := hK _ (by omega)
      have mu : 8 - (nI (c + 1)).toNatClampNeg < 8 - (nI c).toNatClampNeg := by rw [nI_clamp (by omega), nI_clamp (by omega)]; omega
      have stp : ∀ v : Int32, (mtc (G2 7 0) a e k c → v = 1) → (¬ mtc (G2 7 0) a e k c → v = 0) → (G2 = G2 ∧ ∃ c2, c2 ≤ 8 ∧ nI (c + 1) = nI c2 ∧ ((v = 1 ∧ e - a ≤ 8 ∧ ∀ i, i < c2 → mtc (G2 7 0) a e k i) ∨ (v = 0 ∧ ¬ (e - a ≤ 8 ∧ ∀ i, i < c2 → mtc (G2 7 0) a e k i)))) ∧ 8 - (nI (c + 1)).toNatClampNeg < 8 - (nI c).toNatClampNeg := by
        intro v h1 h0
        refine ⟨⟨rfl, c + 1, by omega, rfl, ?_⟩, mu⟩
        by_cases m : mtc (G2 7 0) a e k c
        · refine Or.inl ⟨h1 m, y2, fun i hi => ?_⟩
          by_cases ec : i = c
          · rw [ec]; exact m
          · exact y3 i (by omega)
        · exact Or.inr ⟨h0 m, fun z => m (z.2 c (by omega))⟩
      refine ⟨vp_in_nI (by omega) (by omega), fun o v ev => ?_, fun o => ⟨vp_in_nI (by omega) (by omega), fun v ev => ?_⟩⟩
      · rw [kw] at ev
        have em : mtc (G2 7 0) a e k c ↔ wdc k c = 32 := by unfold mtc; rw [if_neg (by omega)]
        exact stp v (fun m => by rw [ev, if_pos (em.mp m)]) (fun m => by rw [ev, if_neg (fun z => m (em.mpr z))])
      · rw [kw, hT _ (by omega)] at ev
        have em : mtc (G2 7 0) a e k c ↔ wdc k c = G2 7 0 (a + c) := by unfold mtc; rw [if_pos (by omega)]
        exact stp v (fun m => by rw [ev, if_pos (em.mp m)]) (fun m => by rw [ev, if_neg (fun z => m (em.mpr z))])
    · exact absurd y ez
/-- the reference's number of a kind of token -/
def rKd (k : Int32) : Int32 := if k = 264 then 0 else if k = 263 then 1 else if k = 262 then 2 else if k = 256 ∨ k = 257 ∨ k = 258 then 3 else if k = 259 then 4 else if k = 260 then 5 else if k = 261 then 6 else if k = 265 then -1 else k
def nxF (a i k : Nat) : Prop := a = 30 ∧ i = 0 ∧ (k = 20 ∨ k = 21 ∨ k = 22 ∨ k = 23)
/-- what next() has found of token t -/
def nxR (T : Nat → Int32) (n t : Nat) (G : HH) : Prop := G 30 0 20 = nI (tP T n (t + 1)) ∧ G 30 0 21 = nI (sT T n t) ∧ G 30 0 22 = rKd (kT T n t) ∧ (kT T n t = 263 ∨ kT T n t = 262 → G 30 0 23 = vT T n t) ∧ (kT T n t = 256 → G 30 0 23 = 0) ∧ (kT T n t = 257 → G 30 0 23 = 1) ∧ (kT T n t = 258 → G 30 0 23 = 2)
theorem wk_all : ∀ w, w ≤ 12 → (if 3 ≤ nI w then (if 9 ≤ nI w then (if nI w = 12 then (-1) else ((4 + nI w) - 9) : Int32) else 2 : Int32) else 3 : Int32) = rKd (wKd w) ∧ (wKd w = 263 ∨ wKd w = 262 → (if 3 ≤ nI w then (nI w - 3) else nI w : Int32) = wNm w) ∧ (wKd w = 256 → (if 3 ≤ nI w then (nI w - 3) else nI w : Int32) = 0) ∧ (wKd w = 257 → (if 3 ≤ nI w then (nI w - 3) else nI w : Int32) = 1) ∧ (wKd w = 258 → (if 3 ≤ nI w then (nI w - 3) else nI w : Int32) = 2) := by decide +kernel
theorem isLtm {v : Int32} (h1 : 97 ≤ v) (h2 : v ≤ 122) : isLt v := ⟨h1, h2⟩
def nxC (H : HH) (n t p : Nat) (H5 : HH) : Prop := (∀ a i k, ¬ nxF a i k → H5 a i k = H a i k) ∧ H5 30 0 20 = nI p ∧ H5 30 0 21 = nI p ∧ H5 30 0 22 = 0 ∧ H5 30 0 23 = 0 ∧ H5 30 0 8 = nI n ∧ (∀ i, i < n → H5 35 0 i = H 7 0 i) ∧ p < n ∧ p = sT (H 7 0) n t
theorem nx_let {E : XE} {d n t p : Nat} {H H5 : HH} {Q : HH → Prop} (h160 : n ≤ 160) (hK : ∀ k, k < 96 → H 44 0 k = wdsL.getD k 0) (hq : ∀ G, nxR (H 7 0) n t G → (∀ a i k, ¬ nxF a i k → G a i k = H a i k) → Q G) (hC : nxC H n t p H5) (lt : isLt (H 7 0 p)) : (∃ (I36 : HH → Prop) (μ36 : HH → Nat), I36  H5 ∧ ∀  (H37 : HH), I36  H37 → (∃ J38 : HH → Prop, (((H37 30 0 8) ≤ (H37 30 0 20) → (J38  H37)) ∧ (¬ (H37 30 0 8) ≤ (H37 30 0 20) → (vp_in (H37 30 0 20) 160 ∧ (c_Model_in E d (H37 35 0 ((H37 30 0 20).toNatClampNeg)) 97 122 H37 (fun r48 H47 => (r48 = 0 → (J38  H47)) ∧ (¬ r48 = 0 → (∀ H49 : HH, H49 = (hu H47 30 0 20 ((H47 30 0 20) + 1)) → (I36  H49 ∧ μ36  H49 < μ36  H37)))))))) ∧ ∀  (H39 : HH), J38  H39 → (c_Model_wordFrom E d (H39 30 0 21) (H39 30 0 20) H39 (fun r41 H40 => ∀ H46 : HH, H46 = (hu (hu H40 30 0 22 (if 3 ≤ r41 then (if 9 ≤ r41 then (if r41 = 12 then (-1) else ((4 + r41) - 9) : Int32) else 2 : Int32) else 3 : Int32)) 30 0 23 (if 3 ≤ r41 then (r41 - 3) else r41 : Int32)) → (Q H46))))) := by
  obtain ⟨f5, a20, a21, a22, a23, a8, a35, pl2, ep⟩ := hC
  have pn : p ≤ n := by omega
  have kt : kT (H 7 0) n t = tKd (H 7 0) n p := by unfold kT; rw [← ep, if_pos pl2]
  have vt : vT (H 7 0) n t = tVl (H 7 0) n p := by unfold vT; rw [← ep]
  have te : tP (H 7 0) n (t + 1) = tEnd (H 7 0) n p := by rw [tP_in (by rw [← ep]; exact pl2), ← ep]
  have g1 := @tEnd_gt (H 7 0) n p
  have g2 := tEnd_le (T := H 7 0) pl2
  have ee : tEnd (H 7 0) n p = rn isLt (H 7 0) n (p + 1) := if_pos lt
  refine ⟨fun G => ∃ k, p ≤ k ∧ k ≤ n ∧ G 30 0 20 = nI k ∧ rn isLt (H 7 0) n k = tEnd (H 7 0) n p ∧ ∀ a i c, ¬ (a = 30 ∧ i = 0 ∧ c = 20) → G a i c = H5 a i c, fun G => n - (G 30 0 20).toNatClampNeg, ⟨p, Nat.le_refl _, pn, a20, by rw [ee]; exact rn_go pl2 lt, fun _ _ _ _ => rfl⟩, ?_⟩
  rintro G ⟨k, k1, k2, m20, mr, mf⟩
  have m8 : G 30 0 8 = nI n := by rw [mf 30 0 8 (by omega)]; exact a8
  have m35 : ∀ i, i < n → G 35 0 i = H 7 0 i := fun i hi => by rw [mf 35 0 i (by omega)]; exact a35 i hi
  refine ⟨fun G2 => G2 = G ∧ k = tEnd (H 7 0) n p, ?_, ?_⟩
  · rw [m8, m20, nI_leI (by omega) (by omega), nI_clamp (by omega)]
    refine ⟨fun q => ⟨rfl, ?_⟩, fun q => ⟨vp_in_nI (by omega) (by omega), ?_⟩⟩
    · rw [← mr]; exact (rn_stop (fun z => by omega)).symm
    · rw [m35 k (by omega)]
      refine s_Model_in (fun y1 y2 => ⟨fun z => absurd z (by decide), fun _ H49 e49 => ?_⟩) (fun y => ⟨fun _ => ⟨rfl, ?_⟩, fun z => absurd rfl z⟩)
      · rw [m20, nI_1] at e49
        have k20 : H49 30 0 20 = nI (k + 1) := by rw [e49, hu_at]
        refine ⟨⟨k + 1, by omega, by omega, k20, ?_, fun a i c q1 => by rw [e49, hu_ne q1]; exact mf a i c q1⟩, ?_⟩
        · rw [← mr]; exact (rn_go (by omega) ⟨y1, y2⟩).symm
        · show n - (H49 30 0 20).toNatClampNeg < n - (G 30 0 20).toNatClampNeg
          rw [k20, m20, nI_clamp (by omega), nI_clamp (by omega)]; omega
      · rw [← mr]; exact (rn_stop (fun z => y z.2)).symm
  rintro G2 ⟨rfl, ke⟩
  have m21 : G2 30 0 21 = nI p := by rw [mf 30 0 21 (by omega)]; exact a21
  rw [m20, m21]
  have m7 : G2 7 0 = H 7 0 := by funext c; rw [mf 7 0 c (by omega)]; exact f5 7 0 c (by unfold nxF; omega)
  refine s_Model_wordFrom (n := n) (fun c hc => ?_) h160 k1 k2 (fun i hi => ?_) (fun j j1 j2 => ?_) ?_
  · rw [mf 44 0 c (by omega), f5 44 0 c (by unfold nxF; omega)]; exact hK c hc
  · rw [m35 i hi, m7]
  · rw [m7]
    by_cases ej : j = p
    · rw [ej]; exact lt
    · refine (rn_in (a := p + 1) (n := n) (by omega) ?_).2
      rw [← ee]; omega
  rw [m7, ke]
  intro H46 e46
  have kt2 : kT (H 7 0) n t = wKd (wIx (H 7 0) p (tEnd (H 7 0) n p)) := by rw [kt]; exact if_pos lt
  have nd : ¬ isDg (H 7 0 p) := fun z => by
    have z1 := z.2
    have z2 := lt.1
    simp only [ti_le] at z1 z2
    have c1 : (57 : Int32).toInt = 57 := rfl
    have c2 : (97 : Int32).toInt = 97 := rfl
    omega
  have vt2 : vT (H 7 0) n t = wNm (wIx (H 7 0) p (tEnd (H 7 0) n p)) := by rw [vt]; exact if_neg nd
  have w12 : wIx (H 7 0) p (tEnd (H 7 0) n p) ≤ 12 := by rcases wIx_cases (H 7 0) p (tEnd (H 7 0) n p) with ⟨z, _⟩ | ⟨z, _⟩ <;> omega
  have wa := wk_all _ w12
  refine hq H46 ⟨?_, ?_, ?_, ?_, ?_, ?_, ?_⟩ (fun a i c q => ?_)
  · rw [e46, hu_ne (by omega), hu_ne (by omega), m20, te, ke]
  · rw [e46, hu_ne (by omega), hu_ne (by omega), m21, ep]
  · rw [e46, hu_ne (by omega), hu_at, kt2]; exact wa.1
  · rw [e46, hu_at, kt2, vt2]; exact wa.2.1
  · rw [e46, hu_at, kt2]; exact wa.2.2.1
  · rw [e46, hu_at, kt2]; exact wa.2.2.2.1
  · rw [e46, hu_at, kt2]; exact wa.2.2.2.2
  · have q' := q
    unfold nxF at q'
    rw [e46, hu_ne (by omega), hu_ne (by omega), mf a i c (by omega)]
    exact f5 a i c q
theorem nx_dig {E : XE} {d n t p : Nat} {H H5 : HH} {Q : HH → Prop} (h160 : n ≤ 160) (hK : ∀ k, k < 96 → H 44 0 k = wdsL.getD k 0) (hq : ∀ G, nxR (H 7 0) n t G → (∀ a i k, ¬ nxF a i k → G a i k = H a i k) → Q G) (hC : nxC H n t p H5) (nl2 : ¬ isLt (H 7 0 p)) (dg : isDg (H 7 0 p)) : (∃ (I23 : Int32 → HH → Prop) (μ23 : Int32 → HH → Nat), I23 0 H5 ∧ ∀ (z24 : Int32) (H25 : HH), I23 z24 H25 → (((H25 30 0 8) ≤ (H25 30 0 20) → (∀ H27 : HH, H27 = (hu H25 30 0 22 (if z24 ≤ 4 then 1 else (-1) : Int32)) → (Q H27))) ∧ (¬ (H25 30 0 8) ≤ (H25 30 0 20) → (vp_in (H25 30 0 20) 160 ∧ (c_Model_in E d (H25 35 0 ((H25 30 0 20).toNatClampNeg)) 48 57 H25 (fun r29 H28 => (r29 = 0 → (∀ H31 : HH, H31 = (hu H28 30 0 22 (if z24 ≤ 4 then 1 else (-1) : Int32)) → (Q H31))) ∧ (¬ r29 = 0 → ((4 ≤ z24 → (∀ H32 : HH, H32 = (hu H28 30 0 23 0) → (∀ H33 : HH, H33 = (hu H32 30 0 20 ((H32 30 0 20) + 1)) → (I23 (z24 + 1) H33 ∧ μ23 (z24 + 1) H33 < μ23 z24 H25)))) ∧ (¬ 4 ≤ z24 → (vp_in (H28 30 0 20) 160 ∧ (∀ H34 : HH, H34 = (hu H28 30 0 23 (((10 * (H28 30 0 23)) + (H28 35 0 ((H28 30 0 20).toNatClampNeg))) - 48)) → (∀ H35 : HH, H35 = (hu H34 30 0 20 ((H34 30 0 20) + 1)) → (I23 (z24 + 1) H35 ∧ μ23 (z24 + 1) H35 < μ23 z24 H25))))))))))))) := by
  obtain ⟨f5, a20, a21, a22, a23, a8, a35, pl2, ep⟩ := hC
  have pn : p ≤ n := by omega
  have kt : kT (H 7 0) n t = tKd (H 7 0) n p := by unfold kT; rw [← ep, if_pos pl2]
  have vt : vT (H 7 0) n t = tVl (H 7 0) n p := by unfold vT; rw [← ep]
  have te : tP (H 7 0) n (t + 1) = tEnd (H 7 0) n p := by rw [tP_in (by rw [← ep]; exact pl2), ← ep]
  have g1 := @tEnd_gt (H 7 0) n p
  have g2 := tEnd_le (T := H 7 0) pl2
  have ee : tEnd (H 7 0) n p = rn isDg (H 7 0) n (p + 1) := by unfold tEnd; rw [if_neg nl2, if_pos dg]
  have kt2 : kT (H 7 0) n t = if tEnd (H 7 0) n p - p ≤ 4 then 263 else 265 := by rw [kt]; unfold tKd; rw [if_neg nl2, if_pos dg]
  have vt2 : vT (H 7 0) n t = numF (H 7 0) p (tEnd (H 7 0) n p - p) := by rw [vt]; exact if_pos dg
  -- the end
  have fin : ∀ G k, p ≤ k → k ≤ n → G 30 0 20 = nI k → k = tEnd (H 7 0) n p → (k - p ≤ 4 → G 30 0 23 = numF (H 7 0) p (k - p)) → (∀ a i c, ¬ (a = 30 ∧ i = 0 ∧ (c = 20 ∨ c = 23)) → G a i c = H5 a i c) → ∀ H27 : HH, H27 = hu G 30 0 22 (if nI (k - p) ≤ 4 then 1 else -1 : Int32) → Q H27 := by
    intro G k k1 k2 m20 ke m23 mf H27 e27
    have e4 : nI (k - p) ≤ (4 : Int32) ↔ k - p ≤ 4 := nI_leI (b := 4) (by omega) (by omega)
    refine hq H27 ⟨?_, ?_, ?_, ?_, ?_, ?_, ?_⟩ (fun a i c q => ?_)
    · rw [e27, hu_ne (by omega), m20, te, ke]
    · rw [e27, hu_ne (by omega), mf 30 0 21 (by omega), a21, ep]
    · rw [e27, hu_at, kt2, ← ke]
      by_cases c4 : k - p ≤ 4
      · rw [if_pos (e4.mpr c4), if_pos c4]; rfl
      · rw [if_neg (fun z => c4 (e4.mp z)), if_neg c4]; rfl
    · rw [e27, hu_ne (by omega), kt2, vt2, ← ke]
      intro y
      by_cases c4 : k - p ≤ 4
      · exact m23 c4
      · rw [if_neg c4] at y; exact absurd y (by decide)
    · rw [kt2]; intro y; split at y <;> exact absurd y (by decide)
    · rw [kt2]; intro y; split at y <;> exact absurd y (by decide)
    · rw [kt2]; intro y; split at y <;> exact absurd y (by decide)
    · have q' := q
      unfold nxF at q'
      rw [e27, hu_ne (by omega), mf a i c (by omega)]
      exact f5 a i c q
  refine ⟨fun z G => ∃ k, p ≤ k ∧ k ≤ n ∧ z = nI (k - p) ∧ G 30 0 20 = nI k ∧ rn isDg (H 7 0) n k = tEnd (H 7 0) n p ∧ (k - p ≤ 4 → G 30 0 23 = numF (H 7 0) p (k - p)) ∧ ∀ a i c, ¬ (a = 30 ∧ i = 0 ∧ (c = 20 ∨ c = 23)) → G a i c = H5 a i c, fun _ G => n - (G 30 0 20).toNatClampNeg, ⟨p, Nat.le_refl _, pn, by rw [Nat.sub_self]; rfl, a20, by rw [ee]; exact rn_go pl2 dg, fun _ => by rw [Nat.sub_self]; exact a23, fun _ _ _ _ => rfl⟩, ?_⟩
  rintro z G ⟨k, k1, k2, rfl, m20, mr, m23, mf⟩
  have m8 : G 30 0 8 = nI n := by rw [mf 30 0 8 (by omega)]; exact a8
  have m35 : ∀ i, i < n → G 35 0 i = H 7 0 i := fun i hi => by rw [mf 35 0 i (by omega)]; exact a35 i hi
  rw [m8, m20, nI_leI (by omega) (by omega), nI_clamp (by omega)]
  refine ⟨fun q => fin G k k1 k2 m20 (by rw [← mr]; exact (rn_stop (fun z => by omega)).symm) m23 mf, fun q => ⟨vp_in_nI (by omega) (by omega), ?_⟩⟩
  rw [m35 k (by omega)]
  refine s_Model_in (fun y1 y2 => ⟨fun z => absurd z (by decide), fun _ => ?_⟩) (fun y => ⟨fun _ => fin G k k1 k2 m20 (by rw [← mr]; exact (rn_stop (fun z => y z.2)).symm) m23 mf, fun z => absurd rfl z⟩)
  have nxt : ∀ (x : Int32), (k - p < 4 → x = numF (H 7 0) p (k + 1 - p)) → ∀ H32 : HH, H32 = hu G 30 0 23 x → ∀ H33 : HH, H33 = hu H32 30 0 20 (H32 30 0 20 + 1) → (∃ k2, p ≤ k2 ∧ k2 ≤ n ∧ nI (k - p) + 1 = nI (k2 - p) ∧ H33 30 0 20 = nI k2 ∧ rn isDg (H 7 0) n k2 = tEnd (H 7 0) n p ∧ (k2 - p ≤ 4 → H33 30 0 23 = numF (H 7 0) p (k2 - p)) ∧ ∀ a i c, ¬ (a = 30 ∧ i = 0 ∧ (c = 20 ∨ c = 23)) → H33 a i c = H5 a i c) ∧ n - (H33 30 0 20).toNatClampNeg < n - (G 30 0 20).toNatClampNeg := by
    intro x hx H32 e32 H33 e33
    have b20 : H32 30 0 20 = nI k := by rw [e32, hu_ne (by omega)]; exact m20
    rw [b20, nI_1] at e33
    have k20 : H33 30 0 20 = nI (k + 1) := by rw [e33, hu_at]
    refine ⟨⟨k + 1, by omega, by omega, by rw [nI_1, show k + 1 - p = k - p + 1 by omega], k20, ?_, fun c4 => ?_, fun a i c q1 => ?_⟩, ?_⟩
    · rw [← mr]; exact (rn_go (by omega) ⟨y1, y2⟩).symm
    · rw [e33, hu_ne (by omega), e32, hu_at]; exact hx (by omega)
    · rw [e33, hu_ne (by omega), e32, hu_ne (by omega)]; exact mf a i c q1
    · rw [k20, m20, nI_clamp (by omega), nI_clamp (by omega)]; omega
  have e4 : (4 : Int32) ≤ nI (k - p) ↔ 4 ≤ k - p := nI_leI (a := 4) (by omega) (by omega)
  rw [e4, m20, nI_clamp (by omega), m35 k (by omega)]
  refine ⟨fun c4 => nxt 0 (fun z => by omega), fun c4 => ⟨vp_in_nI (by omega) (by omega), ?_⟩⟩
  refine nxt _ (fun _ => ?_)
  rw [m23 (by omega), show k + 1 - p = k - p + 1 by omega]
  show 10 * numF (H 7 0) p (k - p) + H 7 0 k - 48 = numF (H 7 0) p (k - p) * 10 + H 7 0 (p + (k - p)) - 48
  rw [Int32.mul_comm, show p + (k - p) = k by omega]
theorem nx_sg {n t p : Nat} {H H5 : HH} {Q : HH → Prop} (h160 : n ≤ 160) (hK : ∀ k, k < 96 → H 44 0 k = wdsL.getD k 0) (hq : ∀ G, nxR (H 7 0) n t G → (∀ a i k, ¬ nxF a i k → G a i k = H a i k) → Q G) (hC : nxC H n t p H5) (nl2 : ¬ isLt (H 7 0 p)) (nd2 : ¬ isDg (H 7 0 p)) : (∀ v19 : Int32, v19 = (if (H 7 0 p) = 40 then 1 else (if (H 7 0 p) = 41 then 1 else (if (H 7 0 p) = 59 then 1 else (if (H 7 0 p) = 43 then 1 else (if (H 7 0 p) = 45 then 1 else (if (H 7 0 p) = 42 then 1 else (if (H 7 0 p) = 60 then 1 else (if (H 7 0 p) = 61 then 1 else 0 : Int32) : Int32) : Int32) : Int32) : Int32) : Int32) : Int32) : Int32) → (∀ H21 : HH, H21 = (hu H5 30 0 22 (if v19 = 0 then (-1) else (H 7 0 p) : Int32)) → (∀ H22 : HH, H22 = (hu H21 30 0 20 ((H21 30 0 20) + 1)) → (Q H22)))) := by
  obtain ⟨f5, a20, a21, a22, a23, a8, a35, pl2, ep⟩ := hC
  have pn : p ≤ n := by omega
  have kt : kT (H 7 0) n t = tKd (H 7 0) n p := by unfold kT; rw [← ep, if_pos pl2]
  have vt : vT (H 7 0) n t = tVl (H 7 0) n p := by unfold vT; rw [← ep]
  have te : tP (H 7 0) n (t + 1) = tEnd (H 7 0) n p := by rw [tP_in (by rw [← ep]; exact pl2), ← ep]
  have g1 := @tEnd_gt (H 7 0) n p
  have g2 := tEnd_le (T := H 7 0) pl2
  have ee : tEnd (H 7 0) n p = p + 1 := by unfold tEnd; rw [if_neg nl2, if_neg nd2]
  have kt2 : kT (H 7 0) n t = if isSg (H 7 0 p) then H 7 0 p else 265 := by rw [kt]; unfold tKd; rw [if_neg nl2, if_neg nd2]
  intro v19 e19 H21 e21 H22 e22
  have b20 : H21 30 0 20 = nI p := by rw [e21, hu_ne (by omega)]; exact a20
  rw [b20, nI_1] at e22
  have e22b : H21 30 0 22 = rKd (kT (H 7 0) n t) := by
    rw [e21, hu_at, kt2]
    by_cases s : isSg (H 7 0 p)
    · rw [if_pos s]
      rw [e19]; rcases s with s | s | s | s | s | s | s | s <;> rw [s] <;> decide
    · rw [if_neg s]
      have v0 : v19 = 0 := by
        rw [e19, if_neg (fun z => s (Or.inl z)), if_neg (fun z => s (Or.inr (Or.inl z))), if_neg (fun z => s (Or.inr (Or.inr (Or.inl z)))), if_neg (fun z => s (Or.inr (Or.inr (Or.inr (Or.inl z))))), if_neg (fun z => s (Or.inr (Or.inr (Or.inr (Or.inr (Or.inl z)))))), if_neg (fun z => s (Or.inr (Or.inr (Or.inr (Or.inr (Or.inr (Or.inl z))))))), if_neg (fun z => s (Or.inr (Or.inr (Or.inr (Or.inr (Or.inr (Or.inr (Or.inl z)))))))), if_neg (fun z => s (Or.inr (Or.inr (Or.inr (Or.inr (Or.inr (Or.inr (Or.inr z))))))))]
      rw [if_pos v0]; decide
  have nk : ∀ x : Int32, kT (H 7 0) n t = x → (x = 265 ∨ isSg x) := by
    intro x hx
    rw [kt2] at hx
    by_cases s : isSg (H 7 0 p)
    · rw [if_pos s] at hx; rw [← hx]; exact Or.inr s
    · rw [if_neg s] at hx; exact Or.inl hx.symm
  refine hq H22 ⟨?_, ?_, ?_, fun y => ?_, fun y => ?_, fun y => ?_, fun y => ?_⟩ (fun a i c q => ?_)
  · rw [e22, hu_at, te, ee]
  · rw [e22, hu_ne (by omega), e21, hu_ne (by omega), a21, ep]
  · rw [e22, hu_ne (by omega)]; exact e22b
  · rcases y with y | y
    · exact absurd (nk _ y) (by decide)
    · exact absurd (nk _ y) (by decide)
  · exact absurd (nk _ y) (by decide)
  · exact absurd (nk _ y) (by decide)
  · exact absurd (nk _ y) (by decide)
  · have q' := q
    unfold nxF at q'
    rw [e22, hu_ne (by omega), e21, hu_ne (by omega)]
    exact f5 a i c q
theorem s_Model_next {E : XE} {d n t : Nat} {H : HH} {Q : HH → Prop} (h8 : H 30 0 8 = nI n) (h160 : n ≤ 160) (hK : ∀ k, k < 96 → H 44 0 k = wdsL.getD k 0) (hT : ∀ i, i < n → H 35 0 i = H 7 0 i) (hat : H 30 0 20 = nI (tP (H 7 0) n t)) (hq : ∀ G, nxR (H 7 0) n t G → (∀ a i k, ¬ nxF a i k → G a i k = H a i k) → Q G) : c_Model_next E (d + 1) H Q := by
  have pl := @tP_le (H 7 0) n t
  refine l_Model_next ⟨fun G => ∃ p, p ≤ n ∧ G 30 0 20 = nI p ∧ tS (H 7 0) n p = sT (H 7 0) n t ∧ ∀ a i k, ¬ (a = 30 ∧ i = 0 ∧ k = 20) → G a i k = H a i k, fun G => n - (G 30 0 20).toNatClampNeg, ⟨_, pl, hat, rfl, fun _ _ _ _ => rfl⟩, ?_⟩
  rintro G ⟨p, pn, g20, gs, gf⟩
  have g8 : G 30 0 8 = nI n := by rw [gf 30 0 8 (by omega)]; exact h8
  have g35 : ∀ i, i < n → G 35 0 i = H 7 0 i := fun i hi => by rw [gf 35 0 i (by omega)]; exact hT i hi
  refine ⟨fun G1 => G1 = G ∧ p = sT (H 7 0) n t, ?_, ?_⟩
  · rw [g8, g20, nI_leI (by omega) (by omega), nI_clamp (by omega)]
    refine ⟨fun q => ⟨rfl, ?_⟩, fun q => ?_⟩
    · rw [← gs]; exact (rn_stop (fun z => by omega)).symm
    have sk : isBk (H 7 0 p) → ∀ H50 : HH, H50 = hu G 30 0 20 (nI p + 1) → (∃ p, p ≤ n ∧ H50 30 0 20 = nI p ∧ tS (H 7 0) n p = sT (H 7 0) n t ∧ ∀ a i k, ¬ (a = 30 ∧ i = 0 ∧ k = 20) → H50 a i k = H a i k) ∧ n - (H50 30 0 20).toNatClampNeg < n - (G 30 0 20).toNatClampNeg := by
      intro bk H50 e50
      rw [nI_1] at e50
      have k20 : H50 30 0 20 = nI (p + 1) := by rw [e50, hu_at]
      refine ⟨⟨p + 1, by omega, k20, ?_, fun a i k q1 => by rw [e50, hu_ne q1]; exact gf a i k q1⟩, ?_⟩
      · rw [← gs]; exact (rn_go (by omega) bk).symm
      · rw [k20, g20, nI_clamp (by omega), nI_clamp (by omega)]; omega
    rw [g35 p (by omega)]
    refine ⟨vp_in_nI (by omega) (by omega), fun b32 => sk (Or.inl b32), fun b32 => ⟨vp_in_nI (by omega) (by omega), fun b10 => ⟨rfl, ?_⟩, fun b10 => sk (Or.inr b10)⟩⟩
    · rw [← gs]; exact (rn_stop (fun z => z.2.elim b32 b10)).symm
  rintro G1 ⟨rfl, ep⟩ H5 e5
  rw [g20] at e5
  have f5 : ∀ a i k, ¬ nxF a i k → H5 a i k = H a i k := by
    intro a i k q
    unfold nxF at q
    rw [e5, hu_ne (by omega), hu_ne (by omega), hu_ne (by omega)]
    exact gf a i k (by omega)
  have a20 : H5 30 0 20 = nI p := by rw [e5, hu_ne (by omega), hu_ne (by omega), hu_ne (by omega)]; exact g20
  have a21 : H5 30 0 21 = nI p := by rw [e5, hu_ne (by omega), hu_ne (by omega), hu_at]
  have a22 : H5 30 0 22 = 0 := by rw [e5, hu_ne (by omega), hu_at]
  have a23 : H5 30 0 23 = 0 := by rw [e5, hu_at]
  have a8 : H5 30 0 8 = nI n := by rw [f5 30 0 8 (by unfold nxF; omega)]; exact h8
  have a35 : ∀ i, i < n → H5 35 0 i = H 7 0 i := fun i hi => by rw [f5 35 0 i (by unfold nxF; omega)]; exact hT i hi
  rw [a20, a8, nI_eq (by omega) (by omega), nI_clamp (by omega)]
  refine ⟨fun q => ?_, fun q => ?_⟩
  -- a token starts here
  · have pl2 : p < n := by omega
    have hC : nxC H n t p H5 := ⟨f5, a20, a21, a22, a23, a8, a35, pl2, ep⟩
    refine ⟨vp_in_nI (by omega) (by omega), fun v6 e6 => ?_⟩
    rw [a35 p pl2] at e6
    subst e6
    refine s_Model_in (fun l1 l2 => ⟨fun z => absurd z (by decide), fun _ => nx_let h160 hK hq hC ⟨l1, l2⟩⟩) (fun nl => ⟨fun _ => ?_, fun z => absurd rfl z⟩)
    exact s_Model_in (fun l1 l2 => ⟨fun z => absurd z (by decide), fun _ => nx_dig h160 hK hq hC nl ⟨l1, l2⟩⟩) (fun nd => ⟨fun _ => nx_sg h160 hK hq hC nl nd, fun z => absurd rfl z⟩)
  -- the end
  · have kt : kT (H 7 0) n t = 264 := by unfold kT; exact if_neg (by omega)
    refine hq H5 ⟨?_, ?_, ?_, fun y => ?_, fun y => ?_, fun y => ?_, fun y => ?_⟩ f5
    · rw [a20, tP_out (by omega), q]
    · rw [a21, ep]
    · rw [a22, kt]; rfl
    · rw [kt] at y; exact absurd y (by decide)
    · rw [kt] at y; exact absurd y (by decide)
    · rw [kt] at y; exact absurd y (by decide)
    · rw [kt] at y; exact absurd y (by decide)
