/-! SPECS 16: toHeading. -/
/-- what toHeading may change -/
def thFr (H H1 : HH) : Prop := (∀ a, a ∉ [14, 20, 21, 22, 23, 24, 25, 26] → H1 a = H a) ∧ ∀ i k, ¬ (i = 0 ∧ (k = 0 ∨ k = 6)) → H1 21 i k = H 21 i k
theorem thFr.rf {H : HH} : thFr H H := ⟨fun _ _ => rfl, fun _ _ _ => rfl⟩
theorem thFr.tr {H H1 H2 : HH} (h1 : thFr H H1) (h2 : thFr H1 H2) : thFr H H2 := ⟨fun a q => (h2.1 a q).trans (h1.1 a q), fun i k q => (h2.2 i k q).trans (h1.2 i k q)⟩
theorem sFr.th {H H1 : HH} (h : sFr H H1) : thFr H H1 := ⟨fun a q => h.1 a (fun z => q (by
  simp only [List.mem_cons, List.not_mem_nil, or_false] at z ⊢
  omega)), fun i k q => h.2 i k (fun z => q ⟨z.1, Or.inr z.2⟩)⟩
theorem hfr.th {H H1 : HH} (h : hfr [14, 20, 22] H H1) : thFr H H1 := ⟨fun a q => h a (fun z => q (by
  simp only [List.mem_cons, List.not_mem_nil, or_false] at z ⊢
  omega)), fun i k _ => by rw [h 21 (by decide)]⟩
theorem pcA_k {H H1 : HH} {t wdn g x k : Nat} (h12 : H1 12 = H 12) (h13 : H1 13 = H 13) (h3 : H1 3 = H 3) (h2 : H1 2 = H 2) : pcA H1 t wdn g x k = pcA H t wdn g x k := by
  unfold pcA pcG weR sayR tuR
  rw [h12, h13, h3, h2]
theorem fitR_k {H H1 : HH} {t : Nat} {p h : Int32} (h12 : H1 12 = H 12) (h13 : H1 13 = H 13) (h3 : H1 3 = H 3) (h2 : H1 2 = H 2) : fitR H1 t p h = fitR H t p h := by
  unfold fitR sayR
  rw [h12, h13, h3, h2]
theorem rdOK_k {H H1 : HH} {t : Nat} (h : rdOK H t) (h12 : H1 12 = H 12) (h13 : H1 13 = H 13) (h19 : H1 19 = H 19) : rdOK H1 t := by
  unfold rdOK
  rw [h12, h13, h19]
  exact h
/-- where a state fits and lies in the lane -/
noncomputable def ftR (H : HH) (t wdn : Nat) (x : Nat) : Bool := decide (x / 32 ≤ wdn) && @decide (fitR H t (nI (x / 32)) (nI (x / 2 % 16))) (Classical.propDecidable _)
/-- where the search ends -/
def glN (wdn hd g y : Nat) : Bool := decide (y / 32 ≤ wdn ∧ y / 2 % 16 = hd ∧ (g = 1 → y % 2 = 0))
def golN (hd g n : Nat) : List (Nat × Nat) := (List.range n).flatMap fun p => if g = 0 then [(sno p hd 0, 0), (sno p hd 1, 0)] else [(sno p hd 0, 0)]
theorem golN_mem {wdn hd g : Nat} (hw : wdn < 61) (hh : hd < 16) (hg : g < 2) : ∀ q ∈ golN hd g (wdn + 1), q.2 = 0 ∧ q.1 < 1952 ∧ glN wdn hd g q.1 = true := by
  intro q hq
  unfold golN at hq
  obtain ⟨p, hp, hq⟩ := List.mem_flatMap.mp hq
  have hp2 : p < wdn + 1 := List.mem_range.mp hp
  unfold glN
  by_cases g0 : g = 0
  · rw [if_pos g0] at hq
    simp only [List.mem_cons, List.not_mem_nil, or_false] at hq
    rcases hq with rfl | rfl
    · unfold sno; simp only [decide_eq_true_eq]; exact ⟨trivial, by omega, by omega, by omega, fun _ => by omega⟩
    · unfold sno; simp only [decide_eq_true_eq]; exact ⟨trivial, by omega, by omega, by omega, fun _ => by omega⟩
  · rw [if_neg g0] at hq
    simp only [List.mem_cons, List.not_mem_nil, or_false] at hq
    subst hq
    unfold sno; simp only [decide_eq_true_eq]; exact ⟨trivial, by omega, by omega, by omega, fun _ => by omega⟩
theorem golN_all {wdn hd g : Nat} (hh : hd < 16) (hg : g < 2) : ∀ y, y < 1952 → glN wdn hd g y = true → (y, 0) ∈ golN hd g (wdn + 1) := by
  intro y hy h
  unfold glN at h
  simp only [decide_eq_true_eq] at h
  obtain ⟨h1, h2, h3⟩ := h
  unfold golN
  refine List.mem_flatMap.mpr ⟨y / 32, List.mem_range.mpr (by omega), ?_⟩
  unfold sno
  by_cases g0 : g = 0
  · rw [if_pos g0]
    simp only [List.mem_cons, List.not_mem_nil, or_false, Prod.mk.injEq, and_true]
    omega
  · rw [if_neg g0]
    simp only [List.mem_cons, List.not_mem_nil, or_false, Prod.mk.injEq, and_true]
    have := h3 (by omega)
    omega
theorem wyN_cong {ft ft2 gl : Nat → Bool} {ed : Nat → List (Nat × Nat)} (P : Nat → Prop) (hP : ∀ y, P y → ft y = ft2 y) (hg : ∀ y, gl y = true → P y) (he : ∀ x q, q ∈ ed x → P q.1) : ∀ n y k, wyN ft gl ed n y k ↔ wyN ft2 gl ed n y k := by
  intro n
  induction n with
  | zero =>
    intro y k
    constructor
    · rintro ⟨h1, h2, h3⟩; exact ⟨by rw [← hP y (hg y h2)]; exact h1, h2, h3⟩
    · rintro ⟨h1, h2, h3⟩; exact ⟨by rw [hP y (hg y h2)]; exact h1, h2, h3⟩
  | succ n ih =>
    intro y k
    constructor
    · rintro ⟨h1, x, e, k2, h2, h3, h4⟩
      exact ⟨by rw [← hP y (he x _ h2)]; exact h1, x, e, k2, h2, (ih x k2).mp h3, h4⟩
    · rintro ⟨h1, x, e, k2, h2, h3, h4⟩
      exact ⟨by rw [hP y (he x _ h2)]; exact h1, x, e, k2, h2, (ih x k2).mpr h3, h4⟩
/-- the costs, as the search's row bears them -/
def srS (H : HH) (c : Nat → Option Nat) : Prop := ∀ x, x < 1952 → (c x = none → H 23 0 x = 2147483647) ∧ ∀ k, c x = some k → H 23 0 x = nI k ∧ k < 1000000
theorem bkS.sr {H : HH} {s : CW} (h : bkS H s) : srS H s.1 := by
  obtain ⟨L, h1, h2, h3, h4, h5⟩ := h
  exact h3
theorem cntF_none {n : Nat} : cntF (fun _ => false) n = 0 := by
  induction n with
  | zero => rfl
  | succ n ih => unfold cntF; rw [ih]; rfl

theorem s_Search_toHeading {E : XE} {d t wdn g hd : Nat} {H : HH} {Q : HH → Prop} (hr : rdOK H t) (hw : H 2 2 0 = nI wdn) (hw61 : wdn < 61) (hg : g < 2) (hh : hd < 16)
    (h : ∀ H1 c, thFr H H1 → H1 21 0 0 = nI g → srS H1 c → (∀ y k, c y = some k → wyF (ftR H t wdn) (glN wdn hd g) (fun x => pcA H t wdn g x 0) y k) → (∀ y k, wyF (ftR H t wdn) (glN wdn hd g) (fun x => pcA H t wdn g x 0) y k → ∃ k2, c y = some k2 ∧ k2 ≤ k) → Q H1) : c_Search_toHeading E (d + 5) (nI hd) (nI g) H Q := by
  refine l_Search_toHeading (fun H1 e1 => ?_)
  have F1 : thFr H H1 := by
    rw [e1]
    refine ⟨fun a q => ?_, fun i k q => ?_⟩
    · simp only [List.mem_cons, List.not_mem_nil, or_false, not_or] at q
      rw [hu_kd _ _ _ _ q.2.2.1, hu_kd _ _ _ _ q.2.2.1]
    · by_cases hi : i = 0
      · subst hi
        rw [hu_k _ _ (fun e => q ⟨rfl, Or.inr e⟩), hu_k _ _ (fun e => q ⟨rfl, Or.inl e⟩)]
      · rw [hu_ix _ _ _ hi, hu_ix _ _ _ hi]
  have g1 : H1 21 0 0 = nI g := by rw [e1]; simp [hu]
  have w1 : H1 21 0 6 = 0 := by rw [e1]; simp [hu]
  refine s_fill (a := 0) (by decide) rfl (by decide) (s_fill (a := 0) (by decide) rfl (by decide) ?_)
  generalize eH3 : hrow (hrow H1 23 0 fun j => if j < 1952 then 2147483647 else H1 23 0 j) 24 0 (fun j => if j < 128 then -1 else hrow H1 23 0 (fun j => if j < 1952 then 2147483647 else H1 23 0 j) 24 0 j) = H3
  have F3 : thFr H H3 := by
    refine F1.tr ⟨fun a q => ?_, fun i k q => ?_⟩
    · simp only [List.mem_cons, List.not_mem_nil, or_false, not_or] at q
      rw [← eH3, hrow_kd _ _ _ q.2.2.2.2.2.1, hrow_kd _ _ _ q.2.2.2.2.1]
    · rw [← eH3, hrow_kd _ _ _ (by decide), hrow_kd _ _ _ (by decide)]
  have g3 : H3 21 0 0 = nI g := by rw [← eH3, hrow_kd _ _ _ (by decide), hrow_kd _ _ _ (by decide)]; exact g1
  have w3 : H3 21 0 6 = 0 := by rw [← eH3, hrow_kd _ _ _ (by decide), hrow_kd _ _ _ (by decide)]; exact w1
  have c3 : ∀ x, x < 1952 → H3 23 0 x = 2147483647 := by
    intro x hx
    rw [← eH3, hrow_kd _ _ _ (by decide), hrow_at, if_pos hx]
  have h3 : ∀ b, b < 128 → H3 24 0 b = -1 := by
    intro b hb
    rw [← eH3, hrow_at, if_pos hb]
  have rdk : ∀ {H9 : HH}, thFr H H9 → rdOK H9 t := fun hf => rdOK_k hr (hf.1 12 (by decide)) (hf.1 13 (by decide)) (hf.1 19 (by decide))
  have wdk : ∀ {H9 : HH}, thFr H H9 → H9 2 2 0 = nI wdn := fun hf => by rw [hf.1 2 (by decide)]; exact hw
  have ftk : ∀ {H9 : HH} (p a : Int32), thFr H H9 → (fitR H9 t p a ↔ fitR H t p a) := fun p a hf => by
    have := fitR_k (t := t) (p := p) (h := a) (hf.1 12 (by decide)) (hf.1 13 (by decide)) (hf.1 3 (by decide)) (hf.1 2 (by decide))
    exact Eq.to_iff this
  have e16 : (nI wdn + 1) * 16 = nI ((wdn + 1) * 16) := by rw [nI_1, show (16 : Int32) = nI 16 from rfl, nI_mul]
  refine ⟨fun z H6 => ∃ n, n ≤ (wdn + 1) * 16 ∧ z = nI n ∧ hfr [14, 20, 22] H3 H6 ∧ ∀ i, i < n → (¬ H6 22 0 i = 0 ↔ fitR H t (nI (i / 16)) (nI (i % 16))), fun z _ => 1000 - z.toNatClampNeg, ⟨0, by omega, rfl, hfr.rf, fun i q => absurd q (Nat.not_lt_zero _)⟩, fun z5 H6 hI => ?_⟩
  obtain ⟨n, hn, rfl, f6, t6⟩ := hI
  have F6 : thFr H H6 := F3.tr f6.th
  refine ⟨fun H8 => hfr [14, 20, 22] H3 H8 ∧ ∀ i, i < (wdn + 1) * 16 → (¬ H8 22 0 i = 0 ↔ fitR H t (nI (i / 16)) (nI (i % 16))), ⟨fun q => ?_, fun q => ?_⟩, fun H8 hJ => ?_⟩
  · rw [wdk F6, e16, nI_leI (by omega) (by omega)] at q
    have e : n = (wdn + 1) * 16 := by omega
    subst e
    exact ⟨f6, t6⟩
  · rw [wdk F6, e16, nI_leI (by omega) (by omega)] at q
    refine ⟨fun q2 => ?_, fun _ => ?_⟩
    · rw [show (976 : Int32) = nI 976 from rfl, nI_leI (by omega) (by omega)] at q2
      omega
    · rw [show (16 : Int32) = nI 16 from rfl, div_nI (by omega) (by decide) (by decide), xrem_nI (by omega) (by decide) (by decide)]
      have cn : (nI n).toNatClampNeg = n := nI_clamp (by omega)
      have fin : ∀ (r : Int32) (H29 : HH), hfr [14, 20] H6 H29 → (¬ r = 0 ↔ fitR H t (nI (n / 16)) (nI (n % 16))) → ∀ H31 : HH, H31 = hu H29 22 0 (nI n).toNatClampNeg r → (∃ n_1, n_1 ≤ (wdn + 1) * 16 ∧ nI n + 1 = nI n_1 ∧ hfr [14, 20, 22] H3 H31 ∧ ∀ i, i < n_1 → (¬ H31 22 0 i = 0 ↔ fitR H t (nI (i / 16)) (nI (i % 16)))) ∧ 1000 - (nI n + 1).toNatClampNeg < 1000 - (nI n).toNatClampNeg := by
        intro r H29 f29 hrr H31 e31
        refine ⟨⟨n + 1, by omega, nI_1 n, ?_, fun i hi => ?_⟩, ?_⟩
        · rw [e31]
          exact (f6.tr (f29.wk (by decide))).hu (by decide)
        · rw [e31, cn]
          by_cases ei : i = n
          · subst ei
            rw [hu_at]; exact hrr
          · rw [hu_k _ _ ei, f29 22 (by decide)]
            exact t6 i (by omega)
        · rw [nI_1, nI_clamp (by omega), cn]; omega
      refine s_Ride_fits (rdk F6) (fun hf H29 f29 => ?_) (fun hf H29 f29 => ?_)
      · exact ⟨vp_in_nI (by omega) (by omega), Or.inr rfl, fin 1 H29 f29 ⟨fun _ => (ftk _ _ F6).mp hf, fun _ => by decide⟩⟩
      · exact ⟨vp_in_nI (by omega) (by omega), Or.inl rfl, fin 0 H29 f29 ⟨fun q => absurd rfl q, fun q => absurd ((ftk _ _ F6).mpr q) hf⟩⟩
  obtain ⟨f8, t8⟩ := hJ
  have F8 : thFr H H8 := F3.tr f8.th
  have ft8 : ∀ y, y / 32 ≤ wdn → ftH H8 y = ftR H t wdn y := by
    intro y hy
    unfold ftH ftR
    have := t8 (y / 2) (by omega)
    rw [show y / 2 / 16 = y / 32 by omega] at this
    by_cases c : fitR H t (nI (y / 32)) (nI (y / 2 % 16))
    · rw [decide_eq_false (this.mpr c), decide_eq_true hy, @decide_eq_true _ (_) c]; rfl
    · have h0 : H8 22 0 (y / 2) = 0 := by
        rcases Classical.em (H8 22 0 (y / 2) = 0) with q | q
        · exact q
        · exact absurd (this.mp q) c
      rw [decide_eq_true h0, @decide_eq_false _ (_) c]; simp
  have b8 : bkS H8 (fun _ => none, fun _ => false) := bkS_init (fun x hx => by rw [f8 23 (by decide)]; exact c3 x hx) (fun b hb => by rw [f8 24 (by decide)]; exact h3 b hb) (by rw [f8 21 (by decide)]; exact w3)
  have g8 : H8 21 0 0 = nI g := by rw [f8 21 (by decide)]; exact g3
  have low0 : ∀ {l : List (Nat × Nat)} {s : CW}, (∀ q ∈ l, q.2 = 0) → popLE s 0 → popLE (l.foldl (lowF (ftH H8)) s) 0 := fun _ hp => hp.fold
  have p0 : popLE (((fun _ => none, fun _ => false) : CW)) 0 := fun y k0 q => (by cases q)
  have gs : ∀ n, golN hd g (n + 1) = golN hd g n ++ (if g = 0 then [(sno n hd 0, 0), (sno n hd 1, 0)] else [(sno n hd 0, 0)]) := fun n => fm_succ _ n
  refine ⟨fun z H11 => ∃ n, n ≤ wdn + 1 ∧ z = nI n ∧ sFr H8 H11 ∧ bkS H11 ((golN hd g n).foldl (lowF (ftH H8)) (fun _ => none, fun _ => false)), fun z _ => 100 - z.toNatClampNeg, ⟨0, by omega, rfl, sFr.rf, b8⟩, fun z10 H11 hI => ?_⟩
  obtain ⟨n, hn, rfl, f11, b11⟩ := hI
  have F11 : thFr H H11 := F8.tr f11.th
  refine ⟨fun H13 => sFr H8 H13 ∧ bkS H13 ((golN hd g (wdn + 1)).foldl (lowF (ftH H8)) (fun _ => none, fun _ => false)), ⟨fun q => ?_, fun q => ?_⟩, fun H13 hJ => ?_⟩
  · rw [wdk F11, nI_ltI (by omega) (by omega)] at q
    have e : n = wdn + 1 := by omega
    subst e
    exact ⟨f11, b11⟩
  · rw [wdk F11, nI_ltI (by omega) (by omega)] at q
    have mu : 100 - (nI n + 1).toNatClampNeg < 100 - (nI n).toNatClampNeg := by rw [nI_1, nI_clamp (by omega), nI_clamp (by omega)]; omega
    refine s_Search_state (b := 0) (by omega) hh (by decide) (s_low (k := 0) (e := (sno n hd 0, 0)) b11 (by unfold sno; show 32 * n + 2 * hd + 0 < 1952; omega) (Nat.le_of_ble_eq_true rfl) p0.fold (Nat.le_refl _) (fun H25 f25 b25 => ?_))
    have g25 : H25 21 0 0 = nI g := by rw [f25.s.2 0 0 (by decide), f11.2 0 0 (by decide)]; exact g8
    rw [ftH.fr f11] at b25
    refine ⟨fun qg => ?_, fun qg => ?_⟩
    · have g0 : ¬ g = 0 := fun e => qg (by rw [g25, e]; rfl)
      refine ⟨⟨n + 1, by omega, nI_1 n, f11.tr f25.s, ?_⟩, mu⟩
      rw [gs, if_neg g0, List.foldl_append]
      exact b25
    · have g0 : g = 0 := by
        rw [g25, show (0 : Int32) = nI 0 from rfl, nI_eq (by omega) (by omega)] at qg; exact qg
      refine s_Search_state (b := 1) (by omega) hh (by decide) (s_low (k := 0) (e := (sno n hd 1, 0)) b25 (by unfold sno; show 32 * n + 2 * hd + 1 < 1952; omega) (Nat.le_of_ble_eq_true rfl) p0.fold.low (Nat.le_refl _) (fun H28 f28 b28 => ?_))
      rw [ftH.fr f25.s, ftH.fr f11] at b28
      refine ⟨⟨n + 1, by omega, nI_1 n, (f11.tr f25.s).tr f28.s, ?_⟩, mu⟩
      rw [gs, if_pos g0, List.foldl_append]
      exact b28
  obtain ⟨f13, b13⟩ := hJ
  have F13 : thFr H H13 := F8.tr f13.th
  have dj0 : djI (ftH H8) (glN wdn hd g) (fun x => pcA H t wdn g x 0) ((golN hd g (wdn + 1)).foldl (lowF (ftH H8)) (fun _ => none, fun _ => false)) 0 :=
    fold_init (fun q hq => (golN_mem hw61 hh hg q hq).1) (fun q hq => (golN_mem hw61 hh hg q hq).2.1) (fun q hq => (golN_mem hw61 hh hg q hq).2.2) (golN_all hh hg)
  have ede : ∀ x, ∀ q ∈ pcA H t wdn g x 0, q.1 < 1952 ∧ q.2 ≤ 99 := fun x q hq => ⟨(pcA_ok hw61 q hq).1, (pcA_ok hw61 q hq).2.1⟩
  have fin : ∀ (H16 : HH) (s : CW) (cur : Nat), sFr H8 H16 → bkS H16 s → djI (ftH H8) (glN wdn hd g) (fun x => pcA H t wdn g x 0) s cur → (∀ y, s.2 y = false) → Q H16 := by
    intro H16 s cur f16 b16 dj hn
    have cg := wyN_cong (ft := ftH H8) (ft2 := ftR H t wdn) (gl := glN wdn hd g) (ed := fun x => pcA H t wdn g x 0) (fun y => y / 32 ≤ wdn) ft8 (fun y hy => by
      unfold glN at hy; simp only [decide_eq_true_eq] at hy; exact hy.1) (fun x q hq => (pcA_ok hw61 q hq).2.2)
    refine h H16 s.1 (F8.tr f16.th) (by rw [f16.2 0 0 (by decide)]; exact g8) b16.sr (fun y k hy => ?_) (fun y k hy => ?_)
    · obtain ⟨⟨n, hn⟩, -⟩ := dj.1 y k hy
      exact ⟨n, (cg n y k).mp hn⟩
    · obtain ⟨n, hn2⟩ := hy
      exact djI_end dj hn (fun x q hq => (ede x q hq).1) (fun y hy => by
        unfold glN at hy; simp only [decide_eq_true_eq] at hy; omega) n y k ((cg n y k).mpr hn2)
  refine ⟨fun z H16 => ∃ cur s, cur ≤ 193249 ∧ z = nI cur ∧ sFr H8 H16 ∧ bkS H16 s ∧ djI (ftH H8) (glN wdn hd g) (fun x => pcA H t wdn g x 0) s cur, fun z _ => 193300 - z.toNatClampNeg, ⟨0, _, by omega, rfl, f13, b13, dj0⟩, fun z15 H16 hI => ?_⟩
  obtain ⟨cur, s, hc, rfl, f16, b16, dj⟩ := hI
  refine ⟨fun q => ?_, fun q => ⟨fun q2 => ?_, fun q2 => ?_⟩⟩
  · rw [show (193248 : Int32) = nI 193248 from rfl, nI_ltI (by omega) (by omega)] at q
    refine fin H16 s cur f16 b16 dj (fun y => ?_)
    cases hwy : s.2 y with
    | false => rfl
    | true =>
      obtain ⟨k, k1, k2, k3⟩ := dj.2.2.1 y hwy
      have := dj.2.2.2.2 y k k1
      have := cntF_le (popB s) 1952
      omega
  · have hcnt : H16 21 0 6 = nI (cntF s.2 1952) := by obtain ⟨L, hb⟩ := b16; exact hb.2.2.2.2
    have := cntF_le s.2 1952
    rw [hcnt, show (0 : Int32) = nI 0 from rfl, nI_leI (by omega) (by omega)] at q2
    refine fin H16 s cur f16 b16 dj (fun y => ?_)
    cases hwy : s.2 y with
    | false => rfl
    | true =>
      obtain ⟨k, k1, k2, k3⟩ := dj.2.2.1 y hwy
      obtain ⟨-, hy, -⟩ := dj.1 y k k1
      have := cntF_zero (p := s.2) (n := 1952) (by omega) y hy
      rw [hwy] at this; cases this
  · rw [show (193248 : Int32) = nI 193248 from rfl, nI_ltI (by omega) (by omega)] at q
    have mu : 193300 - (nI cur + 1).toNatClampNeg < 193300 - (nI cur).toNatClampNeg := by rw [nI_1, nI_clamp (by omega), nI_clamp (by omega)]; omega
    have eB : xrem (nI cur) 128 = nI (cur % 128) := xrem_nI (by omega) (by decide) (by decide)
    have hB : cur % 128 < 128 := Nat.mod_lt _ (by decide)
    have cB : (nI (cur % 128)).toNatClampNeg = cur % 128 := nI_clamp (by omega)
    refine ⟨fun z H19 => ∃ left s, left ≤ 1952 ∧ z = nI left ∧ sFr H8 H19 ∧ bkS H19 s ∧ djI (ftH H8) (glN wdn hd g) (fun x => pcA H t wdn g x 0) s cur ∧ 1952 ≤ left + cntF (popB s) 1952, fun z _ => z.toNatClampNeg, ⟨1952, s, Nat.le_refl _, rfl, f16, b16, dj, by omega⟩, fun z18 H19 hI => ?_⟩
    obtain ⟨left, s, hl, rfl, f19, b19, dj, hcl⟩ := hI
    have nxt : (∀ y, s.2 y = true → s.1 y ≠ some cur) → (∃ cur_1 s, cur_1 ≤ 193249 ∧ nI cur + 1 = nI cur_1 ∧ sFr H8 H19 ∧ bkS H19 s ∧ djI (ftH H8) (glN wdn hd g) (fun x => pcA H t wdn g x 0) s cur_1) ∧ 193300 - (nI cur + 1).toNatClampNeg < 193300 - (nI cur).toNatClampNeg :=
      fun hn => ⟨⟨cur + 1, s, by omega, nI_1 cur, f19, b19, djI_next dj hn⟩, mu⟩
    have y52 : ∀ y, s.2 y = true → y < 1952 := by
      intro y hy
      obtain ⟨k, k1, -⟩ := dj.2.2.1 y hy
      exact (dj.1 y k k1).2.1
    refine ⟨fun ql => nxt (fun y hy => ?_), fun ql => ?_⟩
    · rw [show (0 : Int32) = nI 0 from rfl, nI_leI (by omega) (by omega)] at ql
      have := cntF_le (popB s) 1952
      have := cntF_all (p := popB s) (n := 1952) (by omega) y (y52 y hy)
      unfold popB at this
      rw [hy] at this; simp at this
    · rw [show (0 : Int32) = nI 0 from rfl, nI_leI (by omega) (by omega)] at ql
      rw [eB, cB]
      obtain ⟨L, hb⟩ := id b19
      obtain ⟨b1, b2, b3, b4, b5⟩ := id hb
      obtain ⟨ch, nd⟩ := b1 _ hB
      have hfst := chn_fstD ch
      refine ⟨vp_in_nI hB (by omega), fun qh => nxt (fun y hy hyc => ?_), fun qh => ⟨vp_in_nI hB (by omega), fun v20 e20 => ?_⟩⟩
      · cases hL : L (cur % 128) with
        | nil =>
          obtain ⟨k, k1, k2⟩ := (b4 y (y52 y hy)).mp hy
          rw [hyc] at k1; cases k1
          rw [hL] at k2; cases k2
        | cons x r =>
          rw [hL] at hfst
          have hx : x < 1952 := (b2 _ hB x (by rw [hL]; exact List.mem_cons_self)).1
          rw [hfst] at qh
          exact absurd qh (nI_pos (n := x) (by omega))
      · cases hL : L (cur % 128) with
        | nil =>
          rw [hL] at hfst
          exact absurd (by rw [hfst]; decide) qh
        | cons x r =>
          rw [hL] at hfst
          have hm : x ∈ L (cur % 128) := by rw [hL]; exact List.mem_cons_self
          obtain ⟨hx, k, hk, hkB⟩ := b2 _ hB x hm
          have hwx : s.2 x = true := (b4 x hx).mpr ⟨k, hk, by rw [hkB]; exact hm⟩
          obtain ⟨k1, g1, g2, g3⟩ := dj.2.2.1 x hwx
          rw [hk] at g1; cases g1
          have ek : k = cur := by omega
          subst ek
          have ev : v20 = nI x := by rw [e20, hfst]; rfl
          rw [ev]
          refine s_Search_unlink hb hx hwx hk (fun H21 L1 f21 e23 hb21 => ?_)
          have b21 : bkS H21 (s.1, fun y => if y = x then false else s.2 y) := ⟨L1, hb21⟩
          have f21' : sFr H8 H21 := f19.tr f21.s
          have F21 : thFr H H21 := F8.tr f21'.th
          refine s_Search_lowerAhead (t := t) (wdn := wdn) (g := g) ⟨rdk F21, wdk F21, hw61, by rw [f21'.2 0 0 (by decide)]; exact g8, hg⟩ hx (by omega) b21 (fun y k0 h1 h2 => ?_) (fun H22 f22 b22 => ?_)
          · by_cases e : y = x
            · subst e
              rw [hk] at h1; cases h1
              exact Nat.le_refl _
            · simp only [if_neg e] at h2
              exact (dj.2.2.2.1 y k0 h1 h2).1
          · rw [ftH.fr f21', pcA_k (F21.1 12 (by decide)) (F21.1 13 (by decide)) (F21.1 3 (by decide)) (F21.1 2 (by decide)), pcA_map] at b22
            obtain ⟨d1, d2⟩ := djI_pop dj hk hwx ede
            have el : nI left + -1 = nI (left - 1) := by
              obtain ⟨m, rfl⟩ : ∃ m, left = m + 1 := ⟨left - 1, by omega⟩
              rw [← nI_1]
              show nI m + 1 + -1 = nI m
              rw [Int32.add_assoc]; exact Int32.add_zero _
            refine ⟨⟨left - 1, _, by omega, el, f21'.tr f22, b22, d1, by omega⟩, ?_⟩
            show (nI left + -1).toNatClampNeg < (nI left).toNatClampNeg
            rw [el, nI_clamp (by omega), nI_clamp (by omega)]
            omega
