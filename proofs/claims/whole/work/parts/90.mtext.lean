/-! THE REFERENCE'S READING 3: a TEXT. -/
def txF (nt a i k : Nat) : Prop := erF nt a i k ∨ (a = 37 ∧ i = 0 ∧ 4 * nt ≤ k)
def sqY (K V : Nat → Int32) (p : Nat) (ts : Nat → Nat) (os : Nat → List Int32) : Prop := ts 0 = 0 ∧ os 0 = [] ∧ ∀ j, j < p → paY K V j (ts j) (os j) (ts (j + 1)) (os (j + 1))
theorem sqY.n {K V : Nat → Int32} {p tf : Nat} {ts : Nat → Nat} {os : Nat → List Int32} (h : sqY K V p ts os) (hp : p < 3) (hn : paN K V p (ts p) (os p) tf) : txN K V tf := by
  obtain ⟨h0, h1, h2⟩ := h
  rcases (show p = 0 ∨ p = 1 ∨ p = 2 by omega) with rfl | rfl | rfl
  · rw [h0, h1] at hn; exact Or.inl hn
  · have a := h2 0 (by omega)
    rw [h0, h1] at a
    exact Or.inr ⟨_, _, a, Or.inl hn⟩
  · have a := h2 0 (by omega)
    rw [h0, h1] at a
    exact Or.inr ⟨_, _, a, Or.inr ⟨_, _, h2 1 (by omega), Or.inl hn⟩⟩
theorem sqY.y {K V : Nat → Int32} {ts : Nat → Nat} {os : Nat → List Int32} (h : sqY K V 3 ts os) (hk : K (ts 3) = 264) : txY K V (os 1) (os 2) (os 3) := by
  obtain ⟨h0, h1, h2⟩ := h
  have a := h2 0 (by omega)
  rw [h0, h1] at a
  exact ⟨_, _, _, a, h2 1 (by omega), h2 2 (by omega), hk⟩
theorem sqY.e {K V : Nat → Int32} {ts : Nat → Nat} {os : Nat → List Int32} (h : sqY K V 3 ts os) (hk : K (ts 3) ≠ 264) : txN K V (ts 3) := by
  obtain ⟨h0, h1, h2⟩ := h
  have a := h2 0 (by omega)
  rw [h0, h1] at a
  exact Or.inr ⟨_, _, a, Or.inr ⟨_, _, h2 1 (by omega), Or.inr ⟨_, _, h2 2 (by omega), hk, rfl⟩⟩⟩
/-- the heap ahead of part p -/
def txG (H : HH) (n nt p : Nat) (ts : Nat → Nat) (os : Nat → List Int32) (G : HH) : Prop := (∀ a i k, ¬ txF nt a i k → G a i k = H a i k) ∧ G 30 0 20 = nI (tP (H 7 0) n (ts p)) ∧ G 30 0 28 = nI (os p).length ∧ (∀ i, i < (os p).length → G 36 0 (200 * nt + i) = mcv ((os p).getD i 0)) ∧ (∀ j, j < p → G 37 0 (4 * nt + j) = nI (os j).length) ∧ (os p).length ≤ ts p ∧ ts p ≤ n
def txB (H : HH) (n nt : Nat) (G : HH) : Prop := ∃ tf, txN (kT (H 7 0) n) (vT (H 7 0) n) tf ∧ G 30 0 21 = nI (sT (H 7 0) n tf) ∧ ∀ a i k, ¬ txF nt a i k → G a i k = H a i k
theorem rk3 : ∀ k, k ∈ kL → ∀ p, p < 3 → (k = wdk p → rKd k = 3) ∧ (rKd k = 3 → k = 256 ∨ k = 257 ∨ k = 258) := by decide +kernel
theorem wdk3 : wdk 0 = 256 ∧ wdk 1 = 257 ∧ wdk 2 = 258 := by decide
theorem s_Model_text {E : XE} {d n nt : Nat} {H : HH} {Q : Int32 → HH → Prop} (hnt : H 30 0 11 = nI nt) (h6 : nt < 6) (h8 : H 30 0 8 = nI n) (h160 : n ≤ 160) (hK : ∀ k, k < 96 → H 44 0 k = wdsL.getD k 0) (hT : ∀ i, i < n → H 35 0 i = H 7 0 i)
    (hY : ∀ G o1 o2 o3, txY (kT (H 7 0) n) (vT (H 7 0) n) o1 o2 o3 → (∀ a i k, ¬ txF nt a i k → ¬ (a = 30 ∧ i = 0 ∧ (k = 8 ∨ k = 11)) → G a i k = H a i k) → G 30 0 8 = 0 → G 30 0 11 = nI (nt + 1) → G 37 0 (4 * nt) = 0 → G 37 0 (4 * nt + 1) = nI o1.length → G 37 0 (4 * nt + 2) = nI o2.length → G 37 0 (4 * nt + 3) = nI o3.length → (∀ i, i < o3.length → G 36 0 (200 * nt + i) = mcv (o3.getD i 0)) → Q (nI nt) G)
    (hN : ∀ G tf, txN (kT (H 7 0) n) (vT (H 7 0) n) tf → (∀ a i k, ¬ txF nt a i k → ¬ (a = 30 ∧ i = 0 ∧ (k = 8 ∨ k = 11)) → G a i k = H a i k) → G 30 0 8 = 0 → G 30 0 11 = nI nt → Q (-100 - nI (sT (H 7 0) n tf)) G) : c_Model_text E (d + 5) H Q := by
  refine l_Model_text ?_
  unfold p_Model_text
  rw [hnt]
  refine ⟨fun _ H1 e1 => ?_, fun q => absurd ((nI_eq (b := 6) (by omega) (by omega)).mp q) (by omega)⟩
  let K := kT (H 7 0) n
  let V := vT (H 7 0) n
  refine ⟨fun z3 z4 G => ∃ p, p ≤ 3 ∧ z4 = nI p ∧ ((z3 = 1 ∧ ∃ ts os, sqY K V p ts os ∧ txG H n nt p ts os G) ∨ (z3 = 0 ∧ txB H n nt G)), fun _ z4 _ => 3 - z4.toNatClampNeg, ⟨0, by omega, rfl, Or.inl ⟨rfl, fun _ => 0, fun _ => [], ⟨rfl, rfl, fun j hj => absurd hj (Nat.not_lt_zero _)⟩, fun a i k q => ?_, ?_, ?_, fun i hi => absurd hi (Nat.not_lt_zero _), fun j hj => absurd hj (Nat.not_lt_zero _), Nat.le_refl _, Nat.zero_le _⟩⟩, ?_⟩
  · have q' := q
    unfold txF erF at q'
    rw [e1, hu_ne (by omega), hu_ne (by omega)]
  · rw [e1, hu_ne (by omega), hu_at]; rfl
  · rw [e1, hu_at]; rfl
  rintro z3 z4 G ⟨p, p3, rfl, hI⟩
  refine ⟨fun y G2 => (y = 1 ∧ ∃ ts os, sqY K V 3 ts os ∧ txG H n nt 3 ts os G2) ∨ (y = 0 ∧ txB H n nt G2), ⟨fun q => ?_, fun q => ⟨fun z => ?_, fun z => ?_⟩⟩, ?_⟩
  · rw [show (3 : Int32) = nI 3 from rfl, nI_leI (by omega) (by omega)] at q
    have e : p = 3 := by omega
    subst e; exact hI
  · rcases hI with ⟨y, _⟩ | ⟨_, y⟩
    · rw [z] at y; exact absurd y (by decide)
    · exact Or.inr ⟨z, y⟩
  · rw [show (3 : Int32) = nI 3 from rfl, nI_leI (by omega) (by omega)] at q
    rcases hI with ⟨y, ts, os, hs, g⟩ | ⟨y, _⟩
    · obtain ⟨f1, f2, f3, f4, f5, f6, f7⟩ := g
      have g7 : G 7 0 = H 7 0 := by funext k; exact f1 7 0 k (by unfold txF erF; omega)
      refine s_Model_next (n := n) (t := ts p) (by rw [f1 30 0 8 (by unfold txF erF; omega)]; exact h8) h160 (fun k hk => by rw [f1 44 0 k (by unfold txF erF; omega)]; exact hK k hk) (fun i hi => by rw [f1 35 0 i (by unfold txF erF; omega), g7]; exact hT i hi) (by rw [g7]; exact f2) (fun H17 hx hxf v20 e20 => ?_)
      rw [g7] at hx
      obtain ⟨x20, x21, x22, x23, x56, x57, x58⟩ := hx
      have e11 : H17 30 0 11 = nI nt := by rw [hxf 30 0 11 (by unfold nxF; omega), f1 30 0 11 (by unfold txF erF; omega)]; exact hnt
      have ei : (4 : Int32) * nI nt + nI p = nI (4 * nt + p) := by rw [show (4 : Int32) = nI 4 from rfl, nI_mul, nI_add]
      rw [e11, ei, nI_clamp (by omega)]
      refine ⟨vp_in_nI (by omega) (by omega), fun H21 e21 => ?_⟩
      have k28 : H17 30 0 28 = nI (os p).length := by rw [hxf 30 0 28 (by unfold nxF; omega)]; exact f3
      rw [k28] at e21
      have ff : ∀ a i k, ¬ txF nt a i k → H21 a i k = H a i k := by
        intro a i k q2
        have q' := q2
        unfold txF erF at q'
        rw [e21, hu_ne (by omega), hxf a i k (by unfold nxF; omega)]
        exact f1 a i k q2
      have ev : (v20 = 1 ∧ K (ts p) = wdk p) ∨ (v20 = 0 ∧ K (ts p) ≠ wdk p) := by
        rw [e20, x22]
        obtain ⟨w0, w1, w2⟩ := wdk3
        by_cases c : kT (H 7 0) n (ts p) = wdk p
        · left
          refine ⟨?_, c⟩
          rw [if_pos ((rk3 _ (kT_set _ _ _) p (by omega)).1 c)]
          refine if_pos ?_
          rcases (show p = 0 ∨ p = 1 ∨ p = 2 by omega) with rfl | rfl | rfl
          · exact x56 (c.trans w0)
          · exact x57 (c.trans w1)
          · exact x58 (c.trans w2)
        · right
          refine ⟨?_, c⟩
          by_cases c3 : rKd (kT (H 7 0) n (ts p)) = 3
          · rw [if_pos c3]
            refine if_neg (fun z => c ?_)
            have e3 := (rk3 _ (kT_set (H 7 0) n (ts p)) p (by omega)).2 c3
            rcases e3 with e3 | e3 | e3
            · rw [x56 e3] at z
              have : p = 0 := by have := (nI_eq (a := 0) (b := p) (by omega) (by omega)).mp z; omega
              subst this; rw [e3, w0]
            · rw [x57 e3] at z
              have : p = 1 := by have := (nI_eq (a := 1) (b := p) (by omega) (by omega)).mp z; omega
              subst this; rw [e3, w1]
            · rw [x58 e3] at z
              have : p = 2 := by have := (nI_eq (a := 2) (b := p) (by omega) (by omega)).mp z; omega
              subst this; rw [e3, w2]
          · exact if_neg c3
      have mu : 3 - (nI p + 1).toNatClampNeg < 3 - (nI p).toNatClampNeg := by rw [nI_1, nI_clamp (by omega), nI_clamp (by omega)]; omega
      rcases ev with ⟨rfl, kp⟩ | ⟨rfl, kp⟩
      · refine ⟨fun z => absurd z (by decide), fun _ => ?_⟩
        have b7 : H21 7 0 = H 7 0 := by funext k; exact ff 7 0 k (by unfold txF erF; omega)
        have hin := kT_end (T := H 7 0) (n := n) kp (wdk_ne p (by omega))
        refine s_Model_eRead (B := H21) (n := n) (nt := nt) (t0 := ts p + 1) (out := os p) (by rw [ff 30 0 11 (by unfold txF erF; omega)]; exact hnt) h6 (by rw [ff 30 0 8 (by unfold txF erF; omega)]; exact h8) h160 (fun k hk => by rw [ff 44 0 k (by unfold txF erF; omega)]; exact hK k hk) (fun i hi => by rw [ff 35 0 i (by unfold txF erF; omega), b7]; exact hT i hi) (fun _ _ _ _ => rfl) (by rw [e21, hu_ne (by omega)]; exact k28) (fun i hi => by rw [e21, hu_ne (by omega), hxf 36 0 _ (by unfold nxF; omega)]; exact f4 i hi) (by rw [b7, e21, hu_ne (by omega)]; exact x20) (by omega) (by omega) ?_ ?_
        · rw [b7]
          intro G2 cf m1 m2 m3 g2 k20 k21 ol hin2 v25 e25
          rw [if_neg (by decide)] at e25
          subst e25
          obtain ⟨a1, a2, a3, a4, a5, a6⟩ := g2
          have py : paY K V p (ts p) (os p) (cf.1 + 1) (unw 1 cf.2.2.2.1 cf.2.2.2.2).2 := ⟨kp, cf, m1, m2, m3, rfl, rfl⟩
          let ts2 : Nat → Nat := fun j => if j ≤ p then ts j else cf.1 + 1
          let os2 : Nat → List Int32 := fun j => if j ≤ p then os j else (unw 1 cf.2.2.2.1 cf.2.2.2.2).2
          have t1 : ts2 (p + 1) = cf.1 + 1 := if_neg (by omega)
          have o1 : os2 (p + 1) = (unw 1 cf.2.2.2.1 cf.2.2.2.2).2 := if_neg (by omega)
          refine ⟨⟨p + 1, by omega, nI_1 p, Or.inl ⟨rfl, ts2, os2, ⟨hs.1, hs.2.1, fun j hj => ?_⟩, fun a i k q2 => ?_, ?_, ?_, ?_, fun j hj => ?_, ?_, ?_⟩⟩, mu⟩
          · by_cases ej : j = p
            · subst ej
              rw [t1, o1, show ts2 j = ts j from if_pos (Nat.le_refl _), show os2 j = os j from if_pos (Nat.le_refl _)]
              exact py
            · rw [show ts2 j = ts j from if_pos (by omega), show os2 j = os j from if_pos (by omega), show ts2 (j + 1) = ts (j + 1) from if_pos (by omega), show os2 (j + 1) = os (j + 1) from if_pos (by omega)]
              exact hs.2.2 j (by omega)
          · rw [a1 a i k (fun z => q2 (Or.inl z))]; exact ff a i k q2
          · rw [t1]; exact k20
          · rw [o1]; exact a5
          · rw [o1]; exact a6
          · rw [show os2 j = os j from if_pos (by omega), a1 37 0 _ (by unfold erF; omega), e21]
            by_cases ej : j = p
            · rw [ej, hu_at]
            · rw [hu_ne (by omega), hxf 37 0 _ (by unfold nxF; omega)]; exact f5 j (by omega)
          · rw [t1, o1]; omega
          · rw [t1]; omega
        · rw [b7]
          intro G2 cf m1 m2 m3 g2 k21 v25 e25
          rw [if_pos rfl] at e25
          subst e25
          refine ⟨⟨p + 1, by omega, nI_1 p, Or.inr ⟨rfl, cf.1, hs.n (by omega) (Or.inr ⟨kp, cf, m1, m2, m3, rfl⟩), k21, fun a i k q2 => ?_⟩⟩, mu⟩
          rw [g2 a i k (fun z => q2 (Or.inl z))]; exact ff a i k q2
      · refine ⟨fun _ => ⟨⟨p + 1, by omega, nI_1 p, Or.inr ⟨rfl, ts p, hs.n (by omega) (Or.inl ⟨kp, rfl⟩), ?_, ff⟩⟩, mu⟩, fun z => absurd rfl z⟩
        rw [e21, hu_ne (by omega)]; exact x21
    · exact absurd y z
  -- behind the parts
  intro y7 H8 hJ
  refine ⟨fun y G2 => (y = 1 ∧ ∃ ts os, sqY K V 3 ts os ∧ K (ts 3) = 264 ∧ (∀ a i k, ¬ txF nt a i k → G2 a i k = H a i k) ∧ G2 30 0 28 = nI (os 3).length ∧ (∀ i, i < (os 3).length → G2 36 0 (200 * nt + i) = mcv ((os 3).getD i 0)) ∧ (∀ j, j < 3 → G2 37 0 (4 * nt + j) = nI (os j).length)) ∨ (y = 0 ∧ txB H n nt G2), ⟨fun z => ?_, fun z => ?_⟩, ?_⟩
  · rcases hJ with ⟨y, _⟩ | ⟨y, h⟩
    · rw [z] at y; exact absurd y (by decide)
    · exact Or.inr ⟨y, h⟩
  · rcases hJ with ⟨y, ts, os, hs, f1, f2, f3, f4, f5, f6, f7⟩ | ⟨y, h⟩
    · have g7 : H8 7 0 = H 7 0 := by funext k; exact f1 7 0 k (by unfold txF erF; omega)
      refine s_Model_next (n := n) (t := ts 3) (by rw [f1 30 0 8 (by unfold txF erF; omega)]; exact h8) h160 (fun k hk => by rw [f1 44 0 k (by unfold txF erF; omega)]; exact hK k hk) (fun i hi => by rw [f1 35 0 i (by unfold txF erF; omega), g7]; exact hT i hi) (by rw [g7]; exact f2) (fun H14 hx hxf v16 e16 => ?_)
      rw [g7] at hx
      obtain ⟨x20, x21, x22, _⟩ := hx
      have e0 := (rKd_all _ (kT_set (H 7 0) n (ts 3))).2.1.2.2.2
      have ff : ∀ a i k, ¬ txF nt a i k → H14 a i k = H a i k := by
        intro a i k q2
        have q' := q2
        unfold txF erF at q'
        rw [hxf a i k (by unfold nxF; omega)]
        exact f1 a i k q2
      rw [x22] at e16
      by_cases c : kT (H 7 0) n (ts 3) = 264
      · rw [if_pos (e0.mpr c)] at e16
        refine Or.inl ⟨e16, ts, os, hs, c, ff, ?_, fun i hi => ?_, fun j hj => ?_⟩
        · rw [hxf 30 0 28 (by unfold nxF; omega)]; exact f3
        · rw [hxf 36 0 _ (by unfold nxF; omega)]; exact f4 i hi
        · rw [hxf 37 0 _ (by unfold nxF; omega)]; exact f5 j hj
      · rw [if_neg (fun z => c (e0.mp z))] at e16
        exact Or.inr ⟨e16, ts 3, hs.e c, x21, ff⟩
    · exact absurd y z
  intro y10 H11 hJ2
  have ei3 : (4 : Int32) * nI nt + 3 = nI (4 * nt + 3) := by rw [show (4 : Int32) = nI 4 from rfl, show (3 : Int32) = nI 3 from rfl, nI_mul, nI_add]
  rcases hJ2 with ⟨rfl, ts, os, hs, kk, ff, f3, f4, f5⟩ | ⟨rfl, tf, ht, k21, ff⟩
  · have e11 : H11 30 0 11 = nI nt := by rw [ff 30 0 11 (by unfold txF erF; omega)]; exact hnt
    rw [e11, ei3, nI_clamp (by omega)]
    refine ⟨vp_in_nI (by omega) (by omega), fun H12 e12 => ⟨fun _ H13 e13 => ?_, fun z => absurd z (by decide)⟩⟩
    have k11 : H12 30 0 11 = nI nt := by rw [e12, hu_ne (by omega), hu_ne (by omega)]; exact e11
    rw [k11, nI_1] at e13
    have kr : H13 30 0 11 - 1 = nI nt := by rw [e13, hu_at, nI_pred]
    rw [kr]
    refine hY H13 _ _ _ (hs.y kk) (fun a i k q1 q2 => ?_) ?_ ?_ ?_ ?_ ?_ ?_ (fun i hi => ?_)
    · have q' := q1
      unfold txF erF at q'
      rw [e13, hu_ne (by omega), e12, hu_ne (by omega), hu_ne (by omega)]; exact ff a i k q1
    · rw [e13, hu_ne (by omega), e12, hu_at]
    · rw [e13, hu_at]
    · have z := f5 0 (by omega)
      rw [hs.2.1] at z
      rw [e13, hu_ne (by omega), e12, hu_ne (by omega), hu_ne (by omega)]; exact z
    · rw [e13, hu_ne (by omega), e12, hu_ne (by omega), hu_ne (by omega)]; exact f5 1 (by omega)
    · rw [e13, hu_ne (by omega), e12, hu_ne (by omega), hu_ne (by omega)]; exact f5 2 (by omega)
    · rw [e13, hu_ne (by omega), e12, hu_ne (by omega), hu_at]; exact f3
    · rw [e13, hu_ne (by omega), e12, hu_ne (by omega), hu_ne (by omega)]; exact f4 i hi
  · have e11 : H11 30 0 11 = nI nt := by rw [ff 30 0 11 (by unfold txF erF; omega)]; exact hnt
    rw [e11, ei3, nI_clamp (by omega)]
    refine ⟨vp_in_nI (by omega) (by omega), fun H12 e12 => ⟨fun z => absurd rfl z, fun _ => ?_⟩⟩
    have kr : H12 30 0 21 = nI (sT (H 7 0) n tf) := by rw [e12, hu_ne (by omega), hu_ne (by omega)]; exact k21
    rw [kr]
    refine hN H12 tf ht (fun a i k q1 q2 => ?_) ?_ ?_
    · have q' := q1
      unfold txF erF at q'
      rw [e12, hu_ne (by omega), hu_ne (by omega)]; exact ff a i k q1
    · rw [e12, hu_at]
    · rw [e12, hu_ne (by omega), hu_ne (by omega)]; exact e11
