/-! PURE 8 and SPECS 17: the best of some choices; least, leastFromNow. -/
/-- the best of the first n choices: its worth, which; of like ones the first -/
def bestF (f : Nat → Option Nat) : Nat → Option (Nat × Nat)
  | 0 => none
  | n + 1 => match f n with
    | none => bestF f n
    | some k => match bestF f n with
      | none => some (k, n)
      | some q => if k < q.1 then some (k, n) else some q
def bI (M : Nat) : Option (Nat × Nat) → Nat
  | none => M
  | some q => q.1
theorem bestF_none {f : Nat → Option Nat} {n : Nat} (h : f n = none) : bestF f (n + 1) = bestF f n := by
  show (match f n with | none => bestF f n | some k => _) = _
  rw [h]
theorem bestF_some {f : Nat → Option Nat} {n k M : Nat} (h : f n = some k) (hk : k < M) : bestF f (n + 1) = if k < bI M (bestF f n) then some (k, n) else bestF f n := by
  show (match f n with | none => bestF f n | some k => match bestF f n with | none => some (k, n) | some q => if k < q.1 then some (k, n) else some q) = _
  rw [h]
  cases bestF f n with
  | none => show some (k, n) = if k < M then _ else _; rw [if_pos hk]
  | some q => rfl
theorem bestF_in {f : Nat → Option Nat} : ∀ {n : Nat} {q : Nat × Nat}, bestF f n = some q → f q.2 = some q.1 ∧ q.2 < n := by
  intro n
  induction n with
  | zero => intro q h; cases h
  | succ n ih =>
    intro q h
    cases hf : f n with
    | none =>
      rw [bestF_none hf] at h
      obtain ⟨a, b⟩ := ih h
      exact ⟨a, by omega⟩
    | some k =>
      rw [bestF_some (M := k + 1) hf (by omega)] at h
      by_cases c : k < bI (k + 1) (bestF f n)
      · rw [if_pos c] at h; cases h; exact ⟨hf, by show n < n + 1; omega⟩
      · rw [if_neg c] at h
        obtain ⟨a, b⟩ := ih h
        exact ⟨a, by omega⟩
theorem bestF_min {f : Nat → Option Nat} : ∀ {n j k : Nat}, j < n → f j = some k → ∃ q, bestF f n = some q ∧ q.1 ≤ k := by
  intro n
  induction n with
  | zero => intro j k h; omega
  | succ n ih =>
    intro j k hj hf
    by_cases e : j = n
    · subst e
      rw [bestF_some (M := k + 1) hf (by omega)]
      by_cases c : k < bI (k + 1) (bestF f j)
      · rw [if_pos c]; exact ⟨_, rfl, Nat.le_refl _⟩
      · rw [if_neg c]
        cases hb : bestF f j with
        | none => rw [hb] at c; exact absurd (Nat.lt_succ_self k) c
        | some q => rw [hb] at c; exact ⟨q, rfl, by simp only [bI] at c; omega⟩
    · obtain ⟨q, h1, h2⟩ := ih (show j < n by omega) hf
      cases hfn : f n with
      | none => rw [bestF_none hfn]; exact ⟨q, h1, h2⟩
      | some k2 =>
        rw [bestF_some (M := k2 + 1) hfn (by omega), h1]
        by_cases c : k2 < bI (k2 + 1) (some q)
        · have c2 : k2 < q.1 := c
          rw [if_pos c]; exact ⟨_, rfl, by show k2 ≤ k; omega⟩
        · rw [if_neg c]; exact ⟨q, rfl, h2⟩
theorem bestF_all {f : Nat → Option Nat} {n : Nat} (h : bestF f n = none) : ∀ j, j < n → f j = none := by
  intro j hj
  cases hf : f j with
  | none => rfl
  | some k =>
    obtain ⟨q, h1, -⟩ := bestF_min hj hf
    rw [h] at h1; cases h1
theorem bestF_cong {f f2 : Nat → Option Nat} : ∀ {n : Nat}, (∀ j, j < n → f j = f2 j) → bestF f n = bestF f2 n := by
  intro n
  induction n with
  | zero => intro _; rfl
  | succ n ih =>
    intro h
    have e := ih (fun j hj => h j (by omega))
    have e2 := h n (by omega)
    show (match f n with | none => bestF f n | some k => match bestF f n with | none => some (k, n) | some q => if k < q.1 then some (k, n) else some q) = (match f2 n with | none => bestF f2 n | some k => match bestF f2 n with | none => some (k, n) | some q => if k < q.1 then some (k, n) else some q)
    rw [e, e2]
theorem bI_le {f : Nat → Option Nat} {n M : Nat} (h : ∀ j k, f j = some k → k < M) : bI M (bestF f n) ≤ M := by
  cases hb : bestF f n with
  | none => exact Nat.le_refl _
  | some q => exact Nat.le_of_lt (h _ _ (bestF_in hb).1)
/-- a last way as both have it: 0, 1; 2 none -/
def lI (l : Nat) : Int32 := if l < 2 then nI l else -1
theorem lI_all : ∀ l, l < 3 → ∀ w, w < 2 → (nI w = lI l ↔ l = w) := by decide +kernel
/-- what a first step (3 times the way, and the wheel and 1) comes to, with what is behind it -/
def stpF (G : GR) (g : Nat) (c : Nat → Option Nat) (p h l j : Nat) : Option Nat :=
  match nxt G.tu (nI G.wdn) (nI (j / 3)) (nI (j % 3) - 1) p h with
  | none => none
  | some q => match c (sno q.1 q.2 (if g = 0 then j / 3 else 0)) with
    | none => none
    | some r => some (cst G g p h l (j / 3) (j % 3) + r)
/-- a cost, a first step as they are told -/
def coI : Option (Nat × Nat) → Int32
  | none => -1
  | some q => nI q.1
def stI : Option (Nat × Nat) → Int32
  | none => -1
  | some q => nI (10 * (q.2 / 3) + q.2 % 3)
/-- what least may change -/
def lsFr (H H1 : HH) : Prop := (∀ a, a ∉ [14, 20, 21] → H1 a = H a) ∧ ∀ i k, ¬ (i = 0 ∧ k = 7) → H1 21 i k = H 21 i k
theorem lsFr.rf {H : HH} : lsFr H H := ⟨fun _ _ => rfl, fun _ _ _ => rfl⟩
theorem lsFr.tr {H H1 H2 : HH} (h1 : lsFr H H1) (h2 : lsFr H1 H2) : lsFr H H2 := ⟨fun a q => (h2.1 a q).trans (h1.1 a q), fun i k q => (h2.2 i k q).trans (h1.2 i k q)⟩
theorem lsFr.w {H H1 : HH} {x : Int32} (h : lsFr H H1) : lsFr H (hu H1 21 0 7 x) := by
  refine ⟨fun a q => ?_, fun i k q => ?_⟩
  · rw [hu_kd _ _ _ _ (fun e => q (by rw [e]; decide))]; exact h.1 a q
  · by_cases hi : i = 0
    · subst hi; rw [hu_k _ _ (fun e => q ⟨rfl, e⟩)]; exact h.2 0 k q
    · rw [hu_ix _ _ _ hi]; exact h.2 i k q
theorem hfr.ls {H H1 : HH} (h : hfr [14, 20] H H1) : lsFr H H1 := ⟨fun a q => h a (fun z => q (by
  simp only [List.mem_cons, List.not_mem_nil, or_false] at z ⊢
  omega)), fun i k _ => by rw [h 21 (by decide)]⟩
theorem weR_nI (H : HH) (t p h : Nat) (wh : Int32) : sayR H t 1 (nI p) (nI h) 0 (if wh = 0 then 0 else 1) = nI (weR H t p h wh) ∧ weR H t p h wh ≤ 99 := by
  have hwr := sayR1_rng H t (nI p) (nI h) 0 (if wh = 0 then 0 else 1)
  refine ⟨?_, ?_⟩
  · rw [ti_eq, ti_nI (by unfold weR; show (Int32.toInt _).toNat < 2147483648; omega)]
    unfold weR
    exact (ti_cl hwr.1).symm
  · unfold weR
    show (Int32.toInt _).toNat ≤ 99
    omega
theorem s_Search_least {E : XE} {d t wdn g p h l : Nat} {c : Nat → Option Nat} {H : HH} {Q : Int32 → HH → Prop} (hs : srOK H t wdn g) (hp : p ≤ wdn) (hh : h < 16) (hl : l < 3) (hc : srS H c)
    (hq : ∀ H1, lsFr H H1 → H1 21 0 7 = stI (bestF (stpF (grH H t wdn) g c p h l) 6) → Q (coI (bestF (stpF (grH H t wdn) g c p h l) 6)) H1) : c_Search_least E (d + 4) (nI p) (nI h) (lI l) H Q := by
  obtain ⟨hr, hw, hw61, hgl, hg2⟩ := id hs
  have cb : ∀ p h wy i, cst (grH H t wdn) g p h l wy i ≤ 99 := by
    intro p h wy i
    unfold cst
    split
    · exact weR_le H t p h _
    · split <;> omega
  have fd : ∀ j, stpF (grH H t wdn) g c p h l j = match nxt (tuR H) (nI wdn) (nI (j / 3)) (nI (j % 3) - 1) p h with
    | none => none
    | some q => match c (sno q.1 q.2 (if g = 0 then j / 3 else 0)) with
      | none => none
      | some r => some (cst (grH H t wdn) g p h l (j / 3) (j % 3) + r) := fun j => rfl
  have fb : ∀ j, j < 6 → ∀ k, stpF (grH H t wdn) g c p h l j = some k → k < 2000000 := by
    intro j hj k hk
    rw [fd] at hk
    cases hn : nxt (tuR H) (nI wdn) (nI (j / 3)) (nI (j % 3) - 1) p h with
    | none => rw [hn] at hk; cases hk
    | some q =>
      rw [hn] at hk
      simp only at hk
      obtain ⟨n1, n2, -, -⟩ := nxt_some hw61 hn
      cases hcr : c (sno q.1 q.2 (if g = 0 then j / 3 else 0)) with
      | none => rw [hcr] at hk; cases hk
      | some r =>
        rw [hcr] at hk
        cases hk
        have := cb p h (j / 3) (j % 3)
        have h52 : sno q.1 q.2 (if g = 0 then j / 3 else 0) < 1952 := by
          unfold sno
          split <;> omega
        have := ((hc _ h52).2 r hcr).2
        omega
  generalize stpF (grH H t wdn) g c p h l = f at *
  have bl : ∀ n, n ≤ 6 → bI 2147483647 (bestF f n) < 2147483648 := by
    intro n hn
    cases hb : bestF f n with
    | none => show 2147483647 < 2147483648; omega
    | some q =>
      obtain ⟨h1, h2⟩ := bestF_in hb
      have := fb _ (by omega) _ h1
      show q.1 < _
      omega
  have wi : ∀ i, i < 4 → (1 < nI i - 1 ↔ i = 3) ∧ nI i - 1 + 1 = nI (i + 1) - 1 := by decide +kernel
  have wy : ∀ n, n < 3 → (1 < nI n ↔ n = 2) := by decide +kernel
  have w10 : ∀ n, n < 2 → ∀ i, i < 3 → 10 * nI n + (nI i - 1) + 1 = nI (10 * ((3 * n + i) / 3) + (3 * n + i) % 3) ∧ (3 * n + i) / 3 = n ∧ (3 * n + i) % 3 = i := by decide +kernel
  have mu1 : ∀ n, n < 2 → 2 - (nI n + 1).toNatClampNeg < 2 - (nI n).toNatClampNeg := by decide +kernel
  have mu2 : ∀ i, i < 3 → 3 - (nI i - 1 + 1 + 1).toNatClampNeg < 3 - (nI i - 1 + 1).toNatClampNeg := by decide +kernel
  refine l_Search_least (fun H1 e1 => ?_)
  have F1 : lsFr H H1 := by rw [e1]; exact lsFr.rf.w
  have w1 : H1 21 0 7 = -1 := by rw [e1, hu_at]
  refine ⟨fun z3 z4 H5 => ∃ n, n ≤ 2 ∧ z4 = nI n ∧ z3 = nI (bI 2147483647 (bestF f (3 * n))) ∧ lsFr H H5 ∧ H5 21 0 7 = stI (bestF f (3 * n)), fun _ z4 _ => 2 - z4.toNatClampNeg, ⟨0, by omega, rfl, rfl, F1, w1⟩, fun z3 z4 H5 hI => ?_⟩
  obtain ⟨n, hn, rfl, rfl, f5, e5⟩ := hI
  refine ⟨fun q => ?_, fun q => s_Ride_shift ?_⟩
  · have e : n = 2 := (wy n (by omega)).mp q
    subst e
    have hb := bl 6 (by omega)
    have ec : (if nI (bI 2147483647 (bestF f (3 * 2))) = 2147483647 then (-1) else nI (bI 2147483647 (bestF f (3 * 2))) : Int32) = coI (bestF f 6) := by
      show (if nI (bI 2147483647 (bestF f 6)) = 2147483647 then (-1) else nI (bI 2147483647 (bestF f 6)) : Int32) = coI (bestF f 6)
      cases hb6 : bestF f 6 with
      | none => rfl
      | some q6 =>
        obtain ⟨h1, h2⟩ := bestF_in hb6
        have := fb _ (by omega) _ h1
        show (if nI q6.1 = 2147483647 then (-1) else nI q6.1 : Int32) = nI q6.1
        rw [if_neg]
        rw [show (2147483647 : Int32) = nI 2147483647 from rfl, nI_eq (by omega) (by omega)]
        omega
    rw [ec]
    exact hq H5 f5 e5
  · have hn2 : n < 2 := by
      rcases Nat.lt_or_ge n 2 with y | y
      · exact y
      · exact absurd ((wy n (by omega)).mpr (by omega)) q
    have h2_5 : H5 2 2 0 = nI wdn := by rw [f5.1 2 (by decide)]; exact hw
    have skip : (nI p + shF (nI h) (nI n) < 0 ∨ ¬ nI p + shF (nI h) (nI n) ≤ nI wdn) → (∃ n', n' ≤ 2 ∧ nI n + 1 = nI n' ∧ nI (bI 2147483647 (bestF f (3 * n))) = nI (bI 2147483647 (bestF f (3 * n'))) ∧ lsFr H H5 ∧ H5 21 0 7 = stI (bestF f (3 * n'))) ∧ 2 - (nI n + 1).toNatClampNeg < 2 - (nI n).toNatClampNeg := by
      intro cc
      have nn : ∀ i, i < 3 → f (3 * n + i) = none := by
        intro i hi
        rw [fd, (w10 n hn2 i hi).2.1, (w10 n hn2 i hi).2.2]
        have : nxt (tuR H) (nI wdn) (nI n) (nI i - 1) p h = none := by unfold nxt; rw [if_pos cc]
        rw [this]
      have e3 : bestF f (3 * (n + 1)) = bestF f (3 * n) := by
        rw [show 3 * (n + 1) = 3 * n + 2 + 1 by omega, bestF_none (nn 2 (by omega)), bestF_none (nn 1 (by omega)), show 3 * n + 1 = 3 * n + 0 + 1 by omega, bestF_none (nn 0 (by omega)), Nat.add_zero]
      exact ⟨⟨n + 1, hn2, nI_1 n, by rw [e3], f5, by rw [e3]; exact e5⟩, mu1 n hn2⟩
    rw [h2_5]
    refine ⟨fun c1 => skip (Or.inl c1), fun c1 => ⟨fun c2 => ?_, fun c2 => skip (Or.inr c2)⟩⟩
    refine ⟨fun z10 z11 H12 => ∃ i, i ≤ 3 ∧ z11 = nI i - 1 ∧ z10 = nI (bI 2147483647 (bestF f (3 * n + i))) ∧ lsFr H H12 ∧ H12 21 0 7 = stI (bestF f (3 * n + i)), fun _ z11 _ => 3 - (z11 + 1).toNatClampNeg, ⟨0, by omega, by decide, rfl, f5, e5⟩, fun z10 z11 H12 hI2 => ?_⟩
    obtain ⟨i, hi, rfl, rfl, f12, e12⟩ := hI2
    refine ⟨fun q7 => ?_, fun q7 v14 e14 => ?_⟩
    · have e : i = 3 := (wi i (by omega)).1.mp q7
      subst e
      exact ⟨⟨n + 1, hn2, nI_1 n, rfl, f12, e12⟩, mu1 n hn2⟩
    · have hi3 : i < 3 := by
        rcases Nat.lt_or_ge i 3 with y | y
        · exact y
        · exact absurd ((wi i (by omega)).1.mpr (by omega)) q7
      obtain ⟨w10a, w10b, w10c⟩ := w10 n hn2 i hi3
      obtain ⟨qq, hqq⟩ : ∃ qq, nxt (tuR H) (nI wdn) (nI n) (nI i - 1) p h = some qq := by
        unfold nxt
        rw [if_neg (fun z => z.elim c1 (fun y => y c2))]
        exact ⟨_, rfl⟩
      obtain ⟨n1, n2, n3, n4⟩ := nxt_some hw61 hqq
      have fj := fd (3 * n + i)
      rw [w10b, w10c, hqq] at fj
      simp only at fj
      have g12 : H12 21 0 0 = nI g := by rw [f12.2 0 0 (by decide)]; exact hgl
      have hsd : (if g = 0 then n else 0) < 2 := by split <;> omega
      have e14' : v14 = nI (if g = 0 then n else 0) := by
        rw [e14, g12]
        rcases (show g = 0 ∨ g = 1 by omega) with e | e
        · subst e; rfl
        · subst e; rfl
      have nxI : nI i - 1 + 1 = nI (i + 1) - 1 := (wi i (by omega)).2
      refine s_Ride_turnedBy ?_
      have et : tuF (H12 3 8 0) (H12 3 8 1) (nI n) (nI i - 1) = tuR H (nI n) (nI i - 1) := by rw [f12.1 3 (by decide)]; rfl
      rw [et, n3, n4, e14']
      refine s_Search_state (by omega) n2 hsd ?_
      have h52 : sno qq.1 qq.2 (if g = 0 then n else 0) < 1952 := by unfold sno; omega
      refine ⟨vp_in_nI h52 (by omega), fun v19 e19 => ?_⟩
      rw [nI_clamp (by omega), f12.1 23 (by decide)] at e19
      obtain ⟨cs1, cs2⟩ := hc _ h52
      have fin : ∀ H17 (own : Nat), lsFr H H17 → H17 21 0 7 = stI (bestF f (3 * n + i)) → own = cst (grH H t wdn) g p h l n i → ¬ v19 = 2147483647 →
          ((nI own + v19 < nI (bI 2147483647 (bestF f (3 * n + i))) → ∀ H23 : HH, H23 = hu H17 21 0 7 (((10 * nI n) + (nI i - 1)) + 1) → (∃ i', i' ≤ 3 ∧ nI i - 1 + 1 = nI i' - 1 ∧ nI own + v19 = nI (bI 2147483647 (bestF f (3 * n + i'))) ∧ lsFr H H23 ∧ H23 21 0 7 = stI (bestF f (3 * n + i'))) ∧ 3 - (nI i - 1 + 1 + 1).toNatClampNeg < 3 - (nI i - 1 + 1).toNatClampNeg) ∧
          (¬ nI own + v19 < nI (bI 2147483647 (bestF f (3 * n + i))) → (∃ i', i' ≤ 3 ∧ nI i - 1 + 1 = nI i' - 1 ∧ nI (bI 2147483647 (bestF f (3 * n + i))) = nI (bI 2147483647 (bestF f (3 * n + i'))) ∧ lsFr H H17 ∧ H17 21 0 7 = stI (bestF f (3 * n + i'))) ∧ 3 - (nI i - 1 + 1 + 1).toNatClampNeg < 3 - (nI i - 1 + 1).toNatClampNeg)) := by
        intro H17 own f17 e17 eo hv
        cases hcc : c (sno qq.1 qq.2 (if g = 0 then n else 0)) with
        | none => exact absurd (e19.trans (cs1 hcc)) hv
        | some r =>
          obtain ⟨er, hr6⟩ := cs2 r hcc
          rw [er] at e19
          rw [hcc] at fj
          simp only at fj
          rw [← eo] at fj
          have ho : own ≤ 99 := by rw [eo]; exact cb p h n i
          have bs := bestF_some (M := 2147483647) fj (by omega)
          have bi6 := bl (3 * n + i) (by omega)
          rw [e19, nI_add, nI_ltI (by omega) bi6]
          refine ⟨fun k1 H23 e23 => ?_, fun k1 => ?_⟩
          · rw [if_pos k1] at bs
            refine ⟨⟨i + 1, hi3, nxI, ?_, by rw [e23]; exact f17.w, ?_⟩, mu2 i hi3⟩
            · rw [← Nat.add_assoc, bs]; rfl
            · rw [← Nat.add_assoc, bs, e23, hu_at, w10a]; rfl
          · rw [if_neg k1] at bs
            exact ⟨⟨i + 1, hi3, nxI, by rw [← Nat.add_assoc, bs], f17, by rw [← Nat.add_assoc, bs]; exact e17⟩, mu2 i hi3⟩
      refine ⟨fun hv v22 e22 => ⟨fun cg => ?_, fun cg => ?_⟩, fun hv => ?_⟩
      · have g0 : ¬ g = 1 := fun e => cg (by rw [g12, e]; rfl)
        have ev : v22 = nI (if l = n then 0 else 1) := by
          rw [e22]
          by_cases e : l = n
          · rw [if_pos e, if_pos ((lI_all l hl n hn2).mpr e)]; rfl
          · rw [if_neg e, if_neg (fun z => e ((lI_all l hl n hn2).mp z))]; rfl
        rw [ev]
        exact fin H12 (if l = n then 0 else 1) f12 e12 (by unfold cst; rw [if_neg g0]) hv
      · have g1 : g = 1 := by
          rw [g12, show (1 : Int32) = nI 1 from rfl, nI_eq (by omega) (by omega)] at cg; exact cg
        have hr12 : rdOK H12 t := by
          unfold rdOK
          rw [f12.1 12 (by decide), f12.1 13 (by decide), f12.1 19 (by decide)]
          exact hr
        refine s_Ride_wears hr12 (fun H24 f24 => ?_)
        have f24' := f12.tr f24.ls
        have es : sayR H12 t = sayR H t := by
          funext p place heading wall steers
          unfold sayR
          rw [f12.1 12 (by decide), f12.1 13 (by decide), f12.1 3 (by decide), f12.1 2 (by decide)]
        rw [es, (weR_nI H t p h (nI i - 1)).1]
        exact fin H24 (weR H t p h (nI i - 1)) f24' (by rw [f24 21 (by decide)]; exact e12) (by unfold cst; rw [if_pos g1]; rfl) hv
      · have hn6 : f (3 * n + i) = none := by
          rw [fj]
          cases hcc : c (sno qq.1 qq.2 (if g = 0 then n else 0)) with
          | none => rfl
          | some r =>
            obtain ⟨er, hr6⟩ := cs2 r hcc
            rw [er] at e19
            rw [e19, show (2147483647 : Int32) = nI 2147483647 from rfl, nI_eq (by omega) (by omega)] at hv
            omega
        have bs := bestF_none hn6
        exact ⟨⟨i + 1, hi3, nxI, by rw [← Nat.add_assoc, bs], f12, by rw [← Nat.add_assoc, bs]; exact e12⟩, mu2 i hi3⟩
