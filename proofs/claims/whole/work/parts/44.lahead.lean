/-! SPECS 15: lowerAhead. -/
/-- what a search may change: its own rows and count, stacks and names -/
def sFr (H H1 : HH) : Prop := (∀ a, a ∉ [14, 20, 21, 23, 24, 25, 26] → H1 a = H a) ∧ ∀ i k, ¬ (i = 0 ∧ k = 6) → H1 21 i k = H 21 i k
theorem sFr.rf {H : HH} : sFr H H := ⟨fun _ _ => rfl, fun _ _ _ => rfl⟩
theorem sFr.tr {H H1 H2 : HH} (h1 : sFr H H1) (h2 : sFr H1 H2) : sFr H H2 := ⟨fun a q => (h2.1 a q).trans (h1.1 a q), fun i k q => (h2.2 i k q).trans (h1.2 i k q)⟩
theorem bkFr.s {H H1 : HH} (h : bkFr H H1) : sFr H H1 := ⟨fun a q => by
  simp only [List.mem_cons, List.not_mem_nil, or_false, not_or] at q
  exact h.1 a q.2.2.1 q.2.2.2.1 q.2.2.2.2.1 q.2.2.2.2.2.1 q.2.2.2.2.2.2, h.2⟩
theorem hfr.s {H H1 : HH} (h : hfr [14, 20] H H1) : sFr H H1 := ⟨fun a q => h a (fun z => q (by
  simp only [List.mem_cons, List.not_mem_nil, or_false] at z ⊢
  omega)), fun i k _ => by rw [h 21 (by decide)]⟩
theorem bkS.fr {H H1 : HH} {s : CW} (h : bkS H s) (hf : hfr [14, 20] H H1) : bkS H1 s := by
  obtain ⟨L, hb⟩ := h
  refine ⟨L, ?_⟩
  unfold bkOK
  rw [hf 21 (by decide), hf 23 (by decide), hf 24 (by decide), hf 25 (by decide), hf 26 (by decide)]
  exact hb
/-- what a search needs of the heap: text t is the law, the width; the vehicle v, the goal g (0 points, 1 wear) -/
def srOK (H : HH) (t wdn g : Nat) : Prop := rdOK H t ∧ H 2 2 0 = nI wdn ∧ wdn < 61 ∧ H 21 0 0 = nI g ∧ g < 2
theorem srOK.fr {H H1 : HH} {t wdn g : Nat} (h : srOK H t wdn g) (hf : sFr H H1) : srOK H1 t wdn g := by
  obtain ⟨h1, h2, h3, h4, h5⟩ := h
  refine ⟨?_, by rw [hf.1 2 (by decide)]; exact h2, h3, by rw [hf.2 0 0 (by decide)]; exact h4, h5⟩
  unfold rdOK
  rw [hf.1 12 (by decide), hf.1 13 (by decide), hf.1 19 (by decide)]
  exact h1
/-- what a step from (p, h) with the wheel wears -/
def weR (H : HH) (t p h : Nat) (wh : Int32) : Nat := (sayR H t 1 (nI p) (nI h) 0 (if wh = 0 then 0 else 1)).toNatClampNeg
theorem weR.fr {H H1 : HH} {t : Nat} (hf : sFr H H1) : weR H1 t = weR H t := by
  funext p h wh
  unfold weR sayR
  rw [hf.1 12 (by decide), hf.1 13 (by decide), hf.1 3 (by decide), hf.1 2 (by decide)]
def tuR (H : HH) : Int32 → Int32 → Int32 := tuF (H 3 8 0) (H 3 8 1)
theorem tuR.fr {H H1 : HH} (hf : sFr H H1) : tuR H1 = tuR H := by unfold tuR; rw [hf.1 3 (by decide)]
theorem ftH.fr {H H1 : HH} (hf : sFr H H1) : ftH H1 = ftH H := by unfold ftH; rw [hf.1 22 (by decide)]
/-- the states ahead of x by one way and wheel (i less 1), with what they come to -/
def pcG (H : HH) (t wdn g x k way i : Nat) : List (Nat × Nat) :=
  match prd (tuR H) (nI wdn) (nI way) (nI i - 1) (x / 32) (x / 2 % 16) with
  | none => []
  | some q => if g = 0 then [(sno q.1 q.2 way, k), (sno q.1 q.2 (1 - way), k + 1)] else [(sno q.1 q.2 0, k + weR H t q.1 q.2 (nI i - 1))]
theorem pcG.fr {H H1 : HH} {t wdn g x k way i : Nat} (hf : sFr H H1) : pcG H1 t wdn g x k way i = pcG H t wdn g x k way i := by
  unfold pcG; rw [weR.fr hf, tuR.fr hf]
theorem sayR1_rng (H : HH) (t : Nat) (a b c d : Int32) : 0 ≤ (sayR H t 1 a b c d).toInt ∧ (sayR H t 1 a b c d).toInt ≤ 99 := by
  show 0 ≤ (clF 1 _).toInt ∧ (clF 1 _).toInt ≤ 99
  generalize (List.headD _ 0 : Int32) = x
  unfold clF
  have e : xBND.getD 1 0 = 99 := rfl
  rw [e]
  unfold xmax xmin
  have z : (0 : Int32).toInt = 0 := rfl
  have z1 : (99 : Int32).toInt = 99 := rfl
  simp only [ti_lt]
  constructor
  · repeat' split
    all_goals omega
  · repeat' split
    all_goals omega
theorem popLE.fold {ft : Nat → Bool} {k : Nat} : ∀ {l : List (Nat × Nat)} {s : CW}, popLE s k → popLE (l.foldl (lowF ft) s) k := by
  intro l
  induction l with
  | nil => intro s h; exact h
  | cons e l ih => intro s h; exact ih h.low
theorem s_body {E : XE} {d t wdn g x k way i : Nat} {s : CW} {H : HH} {K : HH → Prop} (hs : srOK H t wdn g) (hx : x < 1952) (hk : k < 500000) (hway : way < 2) (hi : i < 3) (hb : bkS H s) (hp : popLE s k)
    (hg : g = 0 → way = x % 2)
    (h : ∀ H1, sFr H H1 → bkS H1 ((pcG H t wdn g x k way i).foldl (lowF (ftH H)) s) → K H1) :
    c_Vehicle_turns E (d + 3) 8 (nI way) (nI i - 1) H (fun r10 H9 => ∀ v11 : Int32, v11 = ((nI (x / 2 % 16) - r10) &&& 15) → (c_Ride_shift E (d + 3) v11 (nI way) H9 (fun r13 H12 => ((nI (x / 32) - r13) < 0 → K H12) ∧ (¬ (nI (x / 32) - r13) < 0 → (((nI (x / 32) - r13) ≤ (H12 2 2 0) → ((¬ (H12 21 0 0) = 1 → (c_Search_state E (d + 3) (nI (x / 32) - r13) v11 (nI way) H12 (fun r15 H14 => c_Search_lower E (d + 3) r15 (nI k) H14 (fun H16 => c_Search_state E (d + 3) (nI (x / 32) - r13) v11 (1 - nI way) H16 (fun r18 H17 => c_Search_lower E (d + 3) r18 (nI k + 1) H17 (fun H19 => K H19)))))) ∧ ((H12 21 0 0) = 1 → (c_Search_state E (d + 3) (nI (x / 32) - r13) v11 0 H12 (fun r21 H20 => c_Ride_wears E (d + 3) (nI (x / 32) - r13) v11 (nI i - 1) H20 (fun r23 H22 => c_Search_lower E (d + 3) r21 (nI k + r23) H22 (fun H24 => K H24))))))) ∧ (¬ (nI (x / 32) - r13) ≤ (H12 2 2 0) → K H12)))))) := by
  obtain ⟨hr, hw, hw61, hgl, hg2⟩ := id hs
  refine s_Vehicle_turns (fun v11 e11 => s_Ride_shift ?_)
  have ebe : v11 = (nI (x / 2 % 16) - tuR H (nI way) (nI i - 1)) &&& 15 := e11
  have hpc : pcG H t wdn g x k way i = match prd (tuR H) (nI wdn) (nI way) (nI i - 1) (x / 32) (x / 2 % 16) with
    | none => []
    | some q => if g = 0 then [(sno q.1 q.2 way, k), (sno q.1 q.2 (1 - way), k + 1)] else [(sno q.1 q.2 0, k + weR H t q.1 q.2 (nI i - 1))] := rfl
  have hnone : ((nI (x / 32) - shF v11 (nI way)) < 0 ∨ ¬ (nI (x / 32) - shF v11 (nI way)) ≤ nI wdn) → K H := by
    intro c
    refine h H sFr.rf ?_
    have e : prd (tuR H) (nI wdn) (nI way) (nI i - 1) (x / 32) (x / 2 % 16) = none := by
      unfold prd
      rw [← ebe]
      simp only [if_pos c]
    rw [hpc, e]
    exact hb
  rw [hw]
  refine ⟨fun c => hnone (Or.inl c), fun c => ⟨fun c2 => ?_, fun c2 => hnone (Or.inr c2)⟩⟩
  obtain ⟨q, hq⟩ : ∃ q, prd (tuR H) (nI wdn) (nI way) (nI i - 1) (x / 32) (x / 2 % 16) = some q := by
    unfold prd
    rw [← ebe]
    have nc : ¬ ((nI (x / 32) - shF v11 (nI way)) < 0 ∨ ¬ (nI (x / 32) - shF v11 (nI way)) ≤ nI wdn) := fun z => z.elim c (fun y => y c2)
    simp only [if_neg nc]
    exact ⟨_, rfl⟩
  obtain ⟨p1, p2, p3, p4⟩ := prd_some hw61 hq
  rw [← ebe] at p3 p4
  rw [hq] at hpc
  simp only at hpc
  rw [p3, p4]
  refine ⟨fun cg => ?_, fun cg => ?_⟩
  · have g0 : g = 0 := by
      rcases (show g = 0 ∨ g = 1 by omega) with e | e
      · exact e
      · rw [hgl, e] at cg; exact absurd rfl cg
    rw [if_pos g0] at hpc
    rw [hpc] at h
    have e1 : (1 : Int32) - nI way = nI (1 - way) := by
      rcases (show way = 0 ∨ way = 1 by omega) with e | e
      · subst e; decide
      · subst e; decide
    rw [e1]
    refine s_Search_state (by omega) p2 hway (s_low (e := (sno q.1 q.2 way, k)) hb (by unfold sno; omega) (by show k < 1000000; omega) hp (Nat.le_refl _) (fun H16 f16 hb16 => ?_))
    refine s_Search_state (by omega) p2 (by omega) ?_
    rw [nI_1]
    refine s_low (e := (sno q.1 q.2 (1 - way), k + 1)) hb16 (by unfold sno; omega) (by show k + 1 < 1000000; omega) hp.low (by show k ≤ k + 1; omega) (fun H19 f19 hb19 => ?_)
    rw [ftH.fr f16.s] at hb19
    exact h H19 (f16.s.tr f19.s) hb19
  · have g1 : ¬ g = 0 := by
      intro e
      rw [hgl, e] at cg
      exact absurd cg (by decide)
    rw [if_neg g1] at hpc
    rw [hpc] at h
    refine s_Search_state (a := q.2) (b := 0) (by omega) p2 (by decide) (s_Ride_wears hr (fun H22 f22 => ?_))
    have hwr := sayR1_rng H t (nI q.1) (nI q.2) 0 (if nI i - 1 = 0 then 0 else 1)
    have ewe : sayR H t 1 (nI q.1) (nI q.2) 0 (if nI i - 1 = 0 then 0 else 1) = nI (weR H t q.1 q.2 (nI i - 1)) := by
      rw [ti_eq, ti_nI (by unfold weR; show (Int32.toInt _).toNat < 2147483648; omega)]
      unfold weR
      exact (ti_cl hwr.1).symm
    have hwb : weR H t q.1 q.2 (nI i - 1) ≤ 99 := by
      unfold weR
      show (Int32.toInt _).toNat ≤ 99
      omega
    rw [ewe, nI_add]
    refine s_low (e := (sno q.1 q.2 0, k + weR H t q.1 q.2 (nI i - 1))) (hb.fr f22) (by unfold sno; omega) (by show k + _ < 1000000; omega) hp (by show k ≤ k + _; omega) (fun H24 f24 hb24 => ?_)
    rw [ftH.fr f22.s] at hb24
    exact h H24 (f22.s.tr f24.s) hb24
/-- all states ahead of x, with what they come to -/
def pcA (H : HH) (t wdn g x k : Nat) : List (Nat × Nat) := (List.range 2).flatMap fun way => if g = 0 ∧ ¬ way = x % 2 then [] else (List.range 3).flatMap fun i => pcG H t wdn g x k way i
theorem fm_succ {β : Type} (f : Nat → List β) (n : Nat) : (List.range (n + 1)).flatMap f = (List.range n).flatMap f ++ f n := by
  rw [List.range_succ, List.flatMap_append]; simp
theorem s_Search_lowerAhead {E : XE} {d t wdn g x k : Nat} {s : CW} {H : HH} {Q : HH → Prop} (hs : srOK H t wdn g) (hx : x < 1952) (hk : k < 500000) (hb : bkS H s) (hp : popLE s k)
    (h : ∀ H1, sFr H H1 → bkS H1 ((pcA H t wdn g x k).foldl (lowF (ftH H)) s) → Q H1) : c_Search_lowerAhead E (d + 4) (nI x) (nI k) H Q := by
  obtain ⟨sh1, sh2, sh3, sh4⟩ := sh_all x hx
  obtain ⟨hr, hw, hw61, hgl, hg2⟩ := id hs
  have wi : ∀ i, i < 4 → (1 < nI i - 1 ↔ i = 3) ∧ nI i - 1 + 1 = nI (i + 1) - 1 := by decide +kernel
  have wy : ∀ n, n < 3 → (1 < nI n ↔ n = 2) := by decide +kernel
  have mu1 : ∀ n, n < 2 → 2 - (nI n + 1).toNatClampNeg < 2 - (nI n).toNatClampNeg := by decide +kernel
  have mu2 : ∀ i, i < 3 → 3 - (nI i - 1 + 1 + 1).toNatClampNeg < 3 - (nI i - 1 + 1).toNatClampNeg := by decide +kernel
  refine l_Search_lowerAhead (fun v1 e1 v2 e2 => ?_)
  rw [sh1, sh2] at e1
  rw [sh3] at e2
  subst e1; subst e2
  rw [sh4]
  refine ⟨fun z H1 => ∃ n, n ≤ 2 ∧ z = nI n ∧ sFr H H1 ∧ bkS H1 (((List.range n).flatMap fun way => if g = 0 ∧ ¬ way = x % 2 then [] else (List.range 3).flatMap fun i => pcG H t wdn g x k way i).foldl (lowF (ftH H)) s), fun z _ => 2 - z.toNatClampNeg, ⟨0, by omega, rfl, sFr.rf, hb⟩, fun z4 H5 hI => ?_⟩
  obtain ⟨n, hn, rfl, f5, hb5⟩ := hI
  refine ⟨fun q => ?_, fun q => ?_⟩
  · have e : n = 2 := (wy n (by omega)).mp q
    subst e
    exact h H5 f5 hb5
  · have hn2 : n < 2 := by
      rcases Nat.lt_or_ge n 2 with y | y
      · exact y
      · exact absurd ((wy n (by omega)).mpr (by omega)) q
    have g5 : H5 21 0 0 = nI g := by rw [f5.2 0 0 (by decide)]; exact hgl
    have inner : ¬ (g = 0 ∧ ¬ n = x % 2) → ∃ (I6 : Int32 → HH → Prop) (μ6 : Int32 → HH → Nat), I6 (-1) H5 ∧ ∀ (z7 : Int32) (H8 : HH), I6 z7 H8 → ((1 < z7 → ((∃ n', n' ≤ 2 ∧ nI n + 1 = nI n' ∧ sFr H H8 ∧ bkS H8 (((List.range n').flatMap fun way => if g = 0 ∧ ¬ way = x % 2 then [] else (List.range 3).flatMap fun i => pcG H t wdn g x k way i).foldl (lowF (ftH H)) s)) ∧ 2 - (nI n + 1).toNatClampNeg < 2 - (nI n).toNatClampNeg)) ∧ (¬ 1 < z7 → (c_Vehicle_turns E (d + 3) 8 (nI n) z7 H8 (fun r10 H9 => ∀ v11 : Int32, v11 = ((nI (x / 2 % 16) - r10) &&& 15) → (c_Ride_shift E (d + 3) v11 (nI n) H9 (fun r13 H12 => ((nI (x / 32) - r13) < 0 → (I6 (z7 + 1) H12 ∧ μ6 (z7 + 1) H12 < μ6 z7 H8)) ∧ (¬ (nI (x / 32) - r13) < 0 → (((nI (x / 32) - r13) ≤ (H12 2 2 0) → ((¬ (H12 21 0 0) = 1 → (c_Search_state E (d + 3) (nI (x / 32) - r13) v11 (nI n) H12 (fun r15 H14 => c_Search_lower E (d + 3) r15 (nI k) H14 (fun H16 => c_Search_state E (d + 3) (nI (x / 32) - r13) v11 (1 - nI n) H16 (fun r18 H17 => c_Search_lower E (d + 3) r18 (nI k + 1) H17 (fun H19 => I6 (z7 + 1) H19 ∧ μ6 (z7 + 1) H19 < μ6 z7 H8)))))) ∧ ((H12 21 0 0) = 1 → (c_Search_state E (d + 3) (nI (x / 32) - r13) v11 0 H12 (fun r21 H20 => c_Ride_wears E (d + 3) (nI (x / 32) - r13) v11 z7 H20 (fun r23 H22 => c_Search_lower E (d + 3) r21 (nI k + r23) H22 (fun H24 => I6 (z7 + 1) H24 ∧ μ6 (z7 + 1) H24 < μ6 z7 H8))))))) ∧ (¬ (nI (x / 32) - r13) ≤ (H12 2 2 0) → (I6 (z7 + 1) H12 ∧ μ6 (z7 + 1) H12 < μ6 z7 H8)))))))))) := by
      intro hgo
      refine ⟨fun z H1 => ∃ i, i ≤ 3 ∧ z = nI i - 1 ∧ sFr H H1 ∧ bkS H1 (((List.range n).flatMap (fun way => if g = 0 ∧ ¬ way = x % 2 then [] else (List.range 3).flatMap fun i => pcG H t wdn g x k way i) ++ (List.range i).flatMap fun i => pcG H t wdn g x k n i).foldl (lowF (ftH H)) s), fun z _ => 3 - (z + 1).toNatClampNeg, ⟨0, by omega, by decide, f5, by simpa using hb5⟩, fun z7 H8 hI8 => ?_⟩
      obtain ⟨i, hi, rfl, f8, hb8⟩ := hI8
      refine ⟨fun q7 => ⟨⟨n + 1, hn2, by rw [nI_1], f8, ?_⟩, mu1 n hn2⟩, fun q7 => ?_⟩
      · have e : i = 3 := (wi i (by omega)).1.mp q7
        subst e
        rw [fm_succ, if_neg hgo]
        exact hb8
      · have hi3 : i < 3 := by
          rcases Nat.lt_or_ge i 3 with y | y
          · exact y
          · exact absurd ((wi i (by omega)).1.mpr (by omega)) q7
        refine s_body (hs.fr f8) hx hk (by omega) hi3 hb8 hp.fold (fun g0 => ?_) (fun H9 f9 hb9 => ?_)
        · rcases Nat.decEq n (x % 2) with y | y
          · exact absurd ⟨g0, y⟩ hgo
          · exact y
        · refine ⟨⟨i + 1, hi3, (wi i (by omega)).2, f8.tr f9, ?_⟩, mu2 i hi3⟩
          rw [fm_succ, ← List.append_assoc, List.foldl_append]
          rw [pcG.fr f8, ftH.fr f8] at hb9
          exact hb9
    refine ⟨fun cg => inner (fun z => ?_), fun cg => ⟨fun cz => inner (fun z => ?_), fun cz => ?_⟩⟩
    · rw [g5, z.1] at cg; exact absurd rfl cg
    · rw [nI_eq (by omega) (by omega)] at cz; exact z.2 cz
    · have g0 : g = 0 := by
        rw [g5, show (0 : Int32) = nI 0 from rfl, nI_eq (by omega) (by omega)] at cg; exact cg
      have hne : ¬ n = x % 2 := fun e => cz (by rw [e])
      refine ⟨⟨n + 1, hn2, by rw [nI_1], f5, ?_⟩, mu1 n hn2⟩
      rw [fm_succ, if_pos ⟨g0, hne⟩, List.append_nil]
      exact hb5
