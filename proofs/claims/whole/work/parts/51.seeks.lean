/-! SPECS 18 (the reference): seeks. -/
/-- a state's number as the reference has it -/
def smo (p h l : Nat) : Nat := 3 * (16 * p + h) + l
theorem smo_d {p h l : Nat} (hh : h < 16) (hl : l < 3) : smo p h l / 48 = p ∧ smo p h l / 3 % 16 = h ∧ smo p h l % 3 = l ∧ smo p h l / 3 = 16 * p + h := by unfold smo; omega
/-- where a step (3 times the way, and the wheel and 1) leads -/
noncomputable def nxS (G : GR) (x c : Nat) : Option Nat := match nxt G.tu (nI G.wdn) (nI (c / 3)) (nI (c % 3) - 1) (x / 48) (x / 3 % 16) with
  | none => none
  | some q => @ite (Option Nat) (G.ft q.1 q.2) (Classical.propDecidable _) (some (smo q.1 q.2 (c / 3))) none
def csS (G : GR) (g x c : Nat) : Nat := cst G g (x / 48) (x / 3 % 16) (x % 3) (c / 3) (c % 3)
/-- the reference's tables of a lane tell this -/
def tbOK (H : HH) (j g : Nat) (G : GR) : Prop :=
  mcOK H ∧ G.tu = tuF (H 32 0 j) (H 33 0 j) ∧ H 30 0 1 = nI G.wdn ∧ G.wdn < 61 ∧ j < 4 ∧ g < 2 ∧
  (∀ p h, p ≤ G.wdn → h < 16 → (H 48 0 (16 * p + h) = 0 ↔ ¬ G.ft p h)) ∧
  (g = 1 → ∀ p h i, p ≤ G.wdn → h < 16 → i < 3 → H 49 0 (2 * (16 * p + h) + (if i = 1 then 0 else 1)) = nI (G.we p h (nI i - 1)) ∧ G.we p h (nI i - 1) ≤ 99)
theorem tbOK.fr {H H1 : HH} {j g : Nat} {G : GR} (h : tbOK H j g G) (hf : hfr [50, 51, 52] H H1) : tbOK H1 j g G := by
  unfold tbOK mcOK
  rw [hf 31 (by decide), hf 32 (by decide), hf 33 (by decide), hf 30 (by decide), hf 48 (by decide), hf 49 (by decide)]
  exact h
theorem csS_le {H : HH} {j g : Nat} {G : GR} (h : tbOK H j g G) {x c : Nat} (hx : x / 48 ≤ G.wdn) : csS G g x c ≤ 99 := by
  unfold csS cst
  by_cases g1 : g = 1
  · rw [if_pos g1]
    exact (h.2.2.2.2.2.2.2 g1 _ _ _ hx (Nat.mod_lt _ (by decide)) (Nat.mod_lt _ (by decide))).2
  · rw [if_neg g1]; split <;> omega
theorem nxS_in {G : GR} {x c y : Nat} (hw : G.wdn < 61) (hc : c < 6) (h : nxS G x c = some y) : y < 2928 ∧ y / 48 ≤ G.wdn ∧ ∃ q, nxt G.tu (nI G.wdn) (nI (c / 3)) (nI (c % 3) - 1) (x / 48) (x / 3 % 16) = some q ∧ G.ft q.1 q.2 ∧ y = smo q.1 q.2 (c / 3) := by
  unfold nxS at h
  cases hq : nxt G.tu (nI G.wdn) (nI (c / 3)) (nI (c % 3) - 1) (x / 48) (x / 3 % 16) with
  | none => rw [hq] at h; cases h
  | some q =>
    rw [hq] at h
    simp only at h
    obtain ⟨n1, n2, -, -⟩ := nxt_some hw hq
    by_cases hf : G.ft q.1 q.2
    · rw [if_pos hf] at h
      cases h
      obtain ⟨d1, -, -, -⟩ := smo_d (p := q.1) (l := c / 3) n2 (by omega)
      refine ⟨by unfold smo; omega, by rw [d1]; exact n1, q, rfl, hf, rfl⟩
    · rw [if_neg hf] at h; cases h
theorem ch_all : ∀ c, c < 6 → nI c / 3 = nI (c / 3) ∧ xrem (nI c) 3 - 1 = nI (c % 3) - 1 ∧ (nI (c % 3) - 1 = -1 ∨ nI (c % 3) - 1 = 0 ∨ nI (c % 3) - 1 = 1) ∧ (nI (c % 3) - 1 = 0 ↔ c % 3 = 1) := by decide +kernel
theorem s_Model_stateBehind {E : XE} {d j g x c : Nat} {G : GR} {H : HH} {Q : Int32 → HH → Prop} (ht : tbOK H j g G) (hx : x < 2928) (hc : c < 6)
    (h : Q (match nxS G x c with | none => -1 | some y => nI y) H) : c_Model_stateBehind E (d + 2) (nI j) (nI x) (nI (c / 3)) (nI (c % 3) - 1) H Q := by
  obtain ⟨t1, t2, t3, t4, t5, t6, t7, t8⟩ := ht
  obtain ⟨c1, c2, c3, c4⟩ := ch_all c hc
  refine l_Model_stateBehind (fun v1 e1 => ?_)
  rw [show (3 : Int32) = nI 3 from rfl, div_nI (by omega) (by decide) (by decide), show (16 : Int32) = nI 16 from rfl, xrem_nI (by omega) (by decide) (by decide)] at e1
  rw [show (3 : Int32) = nI 3 from rfl, div_nI (a := x) (by omega) (by decide) (by decide), show (16 : Int32) = nI 16 from rfl, div_nI (by omega) (by decide) (by decide), e1, show x / 3 / 16 = x / 48 by omega]
  have h16 : x / 3 % 16 < 16 := Nat.mod_lt _ (by decide)
  have hd : nxS G x c = match nxt G.tu (nI G.wdn) (nI (c / 3)) (nI (c % 3) - 1) (x / 48) (x / 3 % 16) with
    | none => none
    | some q => @ite (Option Nat) (G.ft q.1 q.2) (Classical.propDecidable _) (some (smo q.1 q.2 (c / 3))) none := rfl
  have hno : (nI (x / 48) + shF (nI (x / 3 % 16)) (nI (c / 3)) < 0 ∨ ¬ nI (x / 48) + shF (nI (x / 3 % 16)) (nI (c / 3)) ≤ nI G.wdn) → nxS G x c = none := by
    intro z
    have e : nxt G.tu (nI G.wdn) (nI (c / 3)) (nI (c % 3) - 1) (x / 48) (x / 3 % 16) = none := by unfold nxt; rw [if_pos z]
    rw [hd, e]
  refine s_Model_placeBy t1 h16 (s_Model_isPlace (fun q1 q2 => ?_) (fun q => ?_))
  · refine ⟨fun _ => ?_, fun z => absurd z (by decide)⟩
    rw [t3] at q2
    obtain ⟨qq, hqq⟩ : ∃ qq, nxt G.tu (nI G.wdn) (nI (c / 3)) (nI (c % 3) - 1) (x / 48) (x / 3 % 16) = some qq := by
      unfold nxt
      rw [if_neg (fun z => z.elim q1 (fun y => y q2))]
      exact ⟨_, rfl⟩
    obtain ⟨n1, n2, n3, n4⟩ := nxt_some t4 hqq
    rw [hd, hqq] at h
    simp only at h
    refine s_Model_headingBy t5 h16 c3 (fun v8 e8 => ?_)
    rw [← t2, n4, n3, nI_mul, nI_add] at e8
    subst e8
    refine ⟨vp_in_nI (by omega) (by omega), ?_⟩
    rw [nI_clamp (by omega)]
    by_cases hf : G.ft qq.1 qq.2
    · rw [if_pos hf] at h
      rw [if_neg (fun z => (t7 _ _ n1 n2).mp z hf), nI_mul, nI_add]
      exact h
    · rw [if_neg hf] at h
      rw [if_pos ((t7 _ _ n1 n2).mpr hf)]
      exact h
  · refine ⟨fun z => absurd rfl z, fun _ => ?_⟩
    rw [t3] at q
    have e := hno (by
      rcases Classical.em (nI (x / 48) + shF (nI (x / 3 % 16)) (nI (c / 3)) < 0) with z | z
      · exact Or.inl z
      · exact Or.inr (fun y => q ⟨z, y⟩))
    rw [e] at h
    exact h
theorem s_Model_costsStep {E : XE} {d j g x c : Nat} {G : GR} {H : HH} {Q : Int32 → HH → Prop} (ht : tbOK H j g G) (hx : x < 2928) (hxw : x / 48 ≤ G.wdn) (hc : c < 6)
    (h : Q (nI (csS G g x c)) H) : c_Model_costsStep E d (nI x) (nI (c / 3)) (nI (c % 3) - 1) (nI g) H Q := by
  obtain ⟨t1, t2, t3, t4, t5, t6, t7, t8⟩ := ht
  obtain ⟨c1, c2, c3, c4⟩ := ch_all c hc
  refine l_Model_costsStep ⟨fun q => ?_, fun q => ?_⟩
  · have g1 : ¬ g = 1 := fun e => q (by rw [e]; rfl)
    rw [show (3 : Int32) = nI 3 from rfl, xrem_nI (by omega) (by decide) (by decide)]
    unfold csS cst at h
    rw [if_neg g1] at h
    by_cases e : x % 3 = c / 3
    · rw [if_pos e] at h; rw [if_pos (by rw [e])]; exact h
    · rw [if_neg e] at h; rw [if_neg (fun z => e ((nI_eq (by omega) (by omega)).mp z))]; exact h
  · have g1 : g = 1 := by rw [show (1 : Int32) = nI 1 from rfl, nI_eq (by omega) (by omega)] at q; exact q
    obtain ⟨w1, w2⟩ := t8 g1 (x / 48) (x / 3 % 16) (c % 3) hxw (Nat.mod_lt _ (by decide)) (Nat.mod_lt _ (by decide))
    have ei : (2 * (nI x / 3)) + (if nI (c % 3) - 1 = 0 then 0 else 1 : Int32) = nI (2 * (16 * (x / 48) + x / 3 % 16) + (if c % 3 = 1 then 0 else 1)) := by
      rw [show (3 : Int32) = nI 3 from rfl, div_nI (by omega) (by decide) (by decide), show (2 : Int32) = nI 2 from rfl, nI_mul, show 16 * (x / 48) + x / 3 % 16 = x / 3 by omega]
      by_cases e : c % 3 = 1
      · rw [if_pos e, if_pos (c4.mpr e), Int32.add_zero, Nat.add_zero]
      · rw [if_neg e, if_neg (fun z => e (c4.mp z)), show (1 : Int32) = nI 1 from rfl, nI_add]
    have hlt : 2 * (16 * (x / 48) + x / 3 % 16) + (if c % 3 = 1 then 0 else 1) < 1952 := by
      split <;> omega
    rw [ei]
    refine ⟨vp_in_nI hlt (by omega), ?_⟩
    rw [nI_clamp (by omega), w1]
    unfold csS cst at h
    rw [if_pos g1] at h
    exact h
/-- what is told, as the reference's row bears it -/
def dsOK (H : HH) (D : Nat → Option Nat) : Prop := ∀ x, x < 2928 → (D x = none → H 50 0 x = 1000000000) ∧ ∀ k, D x = some k → H 50 0 x = nI k ∧ k < 1000000
/-- the row of who waits, from hd on -/
def quOK (H : HH) (hd : Nat) (L : List Nat) : Prop := hd < 2928 ∧ ∀ i x, L[i]? = some x → H 52 0 ((hd + i) % 2928) = nI x
def skH (H : HH) (s : SK) : Prop := dsOK H s.1 ∧ ∀ x, x < 2928 → H 51 0 x = if s.2.1 x = true then 1 else 0
def sumH (H : HH) : Nat := sumF (fun x => (H 50 0 x).toNatClampNeg) 2928
theorem s_Model_seeks {E : XE} {d j g frm : Nat} {G : GR} {H : HH} {Q : HH → Prop} (ht : tbOK H j g G) (hf : frm < 2928) (hfw : frm / 48 ≤ G.wdn)
    (h : ∀ H1 D, hfr [50, 51, 52] H H1 → dsOK H1 D → (∀ x k, D x = some k → ∃ n, pthN (nxS G) (csS G g) n frm x k) → (∀ n y k, pthN (nxS G) (csS G g) n frm y k → ∃ k2, D y = some k2 ∧ k2 ≤ k) → Q H1) : c_Model_seeks E (d + 3) (nI j) (nI frm) (nI g) H Q := by
  have t4 := ht.2.2.2.1
  refine l_Model_seeks ⟨fun z H1 => ∃ n, n ≤ 2928 ∧ z = nI n ∧ hfr [50, 51, 52] H H1 ∧ ∀ x, x < n → H1 50 0 x = 1000000000 ∧ H1 51 0 x = 0, fun z _ => 2928 - z.toNatClampNeg, ⟨0, by omega, rfl, hfr.rf, fun x hx => by omega⟩, fun z2 H3 hI => ?_⟩
  obtain ⟨n, hn, rfl, f3, i3⟩ := hI
  refine ⟨fun H5 => hfr [50, 51, 52] H H5 ∧ ∀ x, x < 2928 → H5 50 0 x = 1000000000 ∧ H5 51 0 x = 0, ⟨fun q => ?_, fun q => ?_⟩, fun H5 hJ => ?_⟩
  · rw [show (2928 : Int32) = nI 2928 from rfl, nI_leI (by omega) (by omega)] at q
    exact ⟨f3, fun x hx => i3 x (by omega)⟩
  · rw [show (2928 : Int32) = nI 2928 from rfl, nI_leI (by omega) (by omega)] at q
    have hv : vp_in (nI n) 2928 := vp_in_nI (by omega) (by omega)
    refine ⟨hv, hv, fun H37 e37 => ⟨⟨n + 1, by omega, nI_1 n, by rw [e37]; exact (f3.hu (by decide)).hu (by decide), fun x hx => ?_⟩, ?_⟩⟩
    · rw [e37, nI_clamp (by omega)]
      by_cases e : x = n
      · subst e; simp [hu]
      · obtain ⟨a, b⟩ := i3 x (by omega)
        simp [hu, e, a, b]
    · show 2928 - (nI n + 1).toNatClampNeg < 2928 - (nI n).toNatClampNeg
      rw [nI_1, nI_clamp (by omega), nI_clamp (by omega)]; omega
  obtain ⟨f5, i5⟩ := hJ
  have hvf : vp_in (nI frm) 2928 := vp_in_nI hf (by omega)
  refine ⟨hvf, hvf, fun H6 e6 => ?_⟩
  rw [nI_clamp (by omega)] at e6
  have f6 : hfr [50, 51, 52] H H6 := by rw [e6]; exact ((f5.hu (by decide)).hu (by decide)).hu (by decide)
  refine ⟨fun z8 z9 H10 => ∃ hd x0 s, z8 = nI hd ∧ z9 = nI s.2.2.length ∧ hfr [50, 51, 52] H H10 ∧ skI (nxS G) (csS G g) (fun x => x / 48 ≤ G.wdn) frm x0 6 s ∧ skH H10 s ∧ quOK H10 hd s.2.2, fun _ z9 H10 => 2 * sumH H10 + z9.toNatClampNeg, ⟨0, 0, (fun z => if z = frm then some 0 else none, fun z => if z = frm then true else false, [frm]), rfl, rfl, f6, skI_init hf hfw, ?_, ?_⟩, fun z8 z9 H10 hI => ?_⟩
  · refine ⟨fun x hx => ?_, fun x hx => ?_⟩
    · obtain ⟨a, b⟩ := i5 x hx
      by_cases e : x = frm
      · subst e
        refine ⟨fun q => ?_, fun k q => ?_⟩
        · simp at q
        · simp at q
          subst q
          rw [e6]; exact ⟨by simp [hu]; rfl, by omega⟩
      · refine ⟨fun q => ?_, fun k q => ?_⟩
        · rw [e6]; simp [hu, e, a]
        · simp [e] at q
    · obtain ⟨a, b⟩ := i5 x hx
      show H6 51 0 x = if (if x = frm then true else false) = true then 1 else 0
      rw [e6]
      by_cases e : x = frm
      · subst e; simp [hu]
      · simp [hu, e, b]
  · refine ⟨by omega, fun i x hi => ?_⟩
    cases i with
    | zero =>
      simp at hi
      subst hi
      rw [e6]; simp [hu]
    | succ i => simp at hi
  obtain ⟨hd, x00, s, rfl, rfl, f10, sk, sh, qu⟩ := hI
  obtain ⟨D, W, L⟩ := s
  have hll : L.length ≤ 2928 := by rw [show L.length = _ from sk.2.2.1]; exact cntF_le _ _
  refine ⟨fun q => ?_, fun q => ?_⟩
  · have hL : L = [] := by
      rw [show (0 : Int32) = nI 0 from rfl, nI_leI (by show L.length < _; omega) (by omega)] at q
      exact List.eq_nil_of_length_eq_zero (by show L.length = 0; exact Nat.le_zero.mp q)
    exact h H10 D f10 sh.1 (fun x k hx => (sk.1 x k hx).2.2.2) (skI_end sk hL)
  · rw [show (0 : Int32) = nI 0 from rfl, nI_leI (by show L.length < _; omega) (by omega)] at q
    cases hLc : L with
    | nil => rw [hLc] at q; exact absurd (Nat.le_refl 0) q
    | cons x0 r =>
      subst hLc
      have hw0 : W x0 = true := (sk.2.2.2.1 x0).mp List.mem_cons_self
      obtain ⟨k0, hk0⟩ := sk.2.2.2.2.1 x0 hw0
      obtain ⟨px, hx0, bx, -⟩ := sk.1 x0 k0 hk0
      have hk0b : k0 < 300000 := by
        have := cntF_le (fun y => ((D, W, x0 :: r).1 y).isSome) 2928
        omega
      have sk1 := skI_pop sk
      have hd2 := qu.1
      refine ⟨vp_in_nI hd2 (by omega), fun v11 e11 v12 e12 => ?_⟩
      have q0 := qu.2 0 x0 rfl
      rw [Nat.add_zero, Nat.mod_eq_of_lt hd2] at q0
      rw [nI_clamp (by omega), q0] at e11
      rw [nI_1, show (2928 : Int32) = nI 2928 from rfl, xrem_nI (by omega) (by decide) (by decide)] at e12
      subst e11; subst e12
      refine ⟨vp_in_nI hx0 (by omega), fun H13 e13 => ?_⟩
      rw [nI_clamp (by omega)] at e13
      have f13 : hfr [50, 51, 52] H H13 := by rw [e13]; exact f10.hu (by decide)
      have sh13 : skH H13 (D, fun z => if z = x0 then false else W z, r) := by
        refine ⟨fun x hx => ?_, fun x hx => ?_⟩
        · rw [e13, hu_kd _ _ _ _ (by decide)]; exact sh.1 x hx
        · show H13 51 0 x = if (if x = x0 then false else W x) = true then 1 else 0
          rw [e13]
          by_cases e : x = x0
          · subst e; simp [hu]
          · have := sh.2 x hx
            simp only at this
            simp [hu, e, this]
      have qu13 : quOK H13 ((hd + 1) % 2928) r := by
        refine ⟨Nat.mod_lt _ (by decide), fun i x hi => ?_⟩
        rw [e13, hu_kd _ _ _ _ (by decide), show ((hd + 1) % 2928 + i) % 2928 = (hd + (i + 1)) % 2928 by omega]
        exact qu.2 (i + 1) x hi
      have sum13 : sumH H13 = sumH H10 := by
        unfold sumH
        rw [show H13 50 = H10 50 by rw [e13]; exact hu_kd _ _ _ _ (by decide)]
      have elen : nI (x0 :: r).length + (-1) = nI r.length := by
        rw [show (x0 :: r).length = r.length + 1 from rfl, ← nI_1, Int32.add_assoc]; exact Int32.add_zero _
      have hrl : r.length < 2928 := by simp only [List.length_cons] at hll; omega
      refine ⟨fun z15 z16 z17 H18 => ∃ c hd s, c ≤ 6 ∧ z17 = nI c ∧ z15 = nI hd ∧ z16 = nI s.2.2.length ∧ hfr [50, 51, 52] H H18 ∧ skI (nxS G) (csS G g) (fun x => x / 48 ≤ G.wdn) frm x0 c s ∧ s.1 x0 = some k0 ∧ s.2.1 x0 = false ∧ skH H18 s ∧ quOK H18 hd s.2.2 ∧ 2 * sumH H18 + s.2.2.length < 2 * sumH H10 + (x0 :: r).length, fun _ _ z17 _ => 6 - z17.toNatClampNeg, ⟨0, (hd + 1) % 2928, (D, fun z => if z = x0 then false else W z, r), by omega, rfl, rfl, elen, f13, sk1, hk0, by simp, sh13, qu13, by rw [sum13]; simp⟩, fun z15 z16 z17 H18 hI2 => ?_⟩
      obtain ⟨c, hd3, s, hc6, rfl, rfl, rfl, f18, sk18, hk18, hw18, sh18, qu18, sum18⟩ := hI2
      have hl18 : s.2.2.length ≤ 2928 := by rw [sk18.2.2.1]; exact cntF_le _ _
      refine ⟨fun q6 => ?_, fun q6 => ?_⟩
      · have ec : c = 6 := by rw [show (6 : Int32) = nI 6 from rfl, nI_leI (by omega) (by omega)] at q6; omega
        subst ec
        refine ⟨⟨hd3, x0, s, rfl, rfl, f18, sk18, sh18, qu18⟩, ?_⟩
        show 2 * sumH H18 + (nI s.2.2.length).toNatClampNeg < 2 * sumH H10 + (nI (x0 :: r).length).toNatClampNeg
        rw [nI_clamp (by omega), nI_clamp (by simp only [List.length_cons]; omega)]
        exact sum18
      · have hc : c < 6 := by rw [show (6 : Int32) = nI 6 from rfl, nI_leI (by omega) (by omega)] at q6; omega
        obtain ⟨c1, c2, c3, c4⟩ := ch_all c hc
        have mu : 6 - (nI c + 1).toNatClampNeg < 6 - (nI c).toNatClampNeg := by rw [nI_1, nI_clamp (by omega), nI_clamp (by omega)]; omega
        have ht18 := ht.fr f18
        have cle := csS_le ht (c := c) px
        have skip : (∀ y, nxS G x0 c = some y → ∃ k2, s.1 y = some k2 ∧ k2 ≤ k0 + csS G g x0 c) → (∃ c' hd u, c' ≤ 6 ∧ nI c + 1 = nI c' ∧ nI hd3 = nI hd ∧ nI s.2.2.length = nI (List.length (Prod.snd (Prod.snd (u : SK)))) ∧ hfr [50, 51, 52] H H18 ∧ skI (nxS G) (csS G g) (fun x => x / 48 ≤ G.wdn) frm x0 c' u ∧ u.1 x0 = some k0 ∧ u.2.1 x0 = false ∧ skH H18 u ∧ quOK H18 hd u.2.2 ∧ 2 * sumH H18 + u.2.2.length < 2 * sumH H10 + (x0 :: r).length) ∧ 6 - (nI c + 1).toNatClampNeg < 6 - (nI c).toNatClampNeg :=
          fun hn => ⟨⟨c + 1, hd3, s, hc, nI_1 c, rfl, rfl, f18, skI_skip sk18 hk18 hn, hk18, hw18, sh18, qu18, sum18⟩, mu⟩
        rw [c1, c2]
        refine s_Model_stateBehind ht18 hx0 hc ?_
        cases hnx : nxS G x0 c with
        | none =>
          refine ⟨fun y22 H23 => H18 = H23, ⟨fun z => absurd rfl z, fun _ => rfl⟩, fun y22 H23 e23 => ?_⟩
          subst e23
          exact ⟨fun _ => skip (fun y hy => by rw [hnx] at hy; cases hy), fun z => absurd rfl z⟩
        | some y =>
          obtain ⟨hy, hyw, -⟩ := nxS_in t4 hc hnx
          have hyn : ¬ nI y = -1 := nI_n1 (by omega)
          have d0 := (sh18.1 x0 hx0).2 k0 hk18
          refine ⟨fun y22 H23 => H18 = H23 ∧ nI (k0 + csS G g x0 c) = y22, ⟨fun _ => ⟨vp_in_nI hx0 (by omega), s_Model_costsStep ht18 hx0 px hc ⟨rfl, ?_⟩⟩, fun z => absurd z hyn⟩, fun y22 H23 e23 => ?_⟩
          · rw [nI_clamp (by omega), d0.1, nI_add]
          obtain ⟨e23, ey⟩ := e23
          subst e23; subst ey
          have hvy : vp_in (nI y) 2928 := vp_in_nI hy (by omega)
          refine ⟨fun z => absurd z hyn, fun _ => ⟨hvy, fun q7 => ?_, fun q7 => ⟨hvy, hvy, fun H24 e24 => ?_⟩⟩⟩
          · refine skip (fun y2 hy2 => ?_)
            rw [hnx] at hy2; cases hy2
            rw [nI_clamp (by omega)] at q7
            cases hD : s.1 y with
            | none =>
              rw [(sh18.1 y hy).1 hD, show (1000000000 : Int32) = nI 1000000000 from rfl, nI_leI (by omega) (by omega)] at q7
              omega
            | some k2 =>
              obtain ⟨a1, a2⟩ := (sh18.1 y hy).2 k2 hD
              rw [a1, nI_leI (by omega) (by omega)] at q7
              exact ⟨k2, rfl, q7⟩
          · rw [nI_clamp (by omega)] at q7 e24
            have hlt : ∀ k2, s.1 y = some k2 → k0 + csS G g x0 c < k2 := by
              intro k2 hD
              obtain ⟨a1, a2⟩ := (sh18.1 y hy).2 k2 hD
              rw [a1, nI_leI (by omega) (by omega)] at q7
              omega
            have f24 : hfr [50, 51, 52] H H24 := by rw [e24]; exact f18.hu (by decide)
            have sum24 : sumH H24 < sumH H18 := by
              unfold sumH
              refine sumF_lt (y := y) (fun x hx => ?_) ?_ hy
              · rw [e24, hu_k _ _ hx]
              · rw [e24, hu_at, nI_clamp (by omega)]
                cases hD : s.1 y with
                | none =>
                  rw [(sh18.1 y hy).1 hD, show (1000000000 : Int32) = nI 1000000000 from rfl, nI_clamp (by omega)]
                  omega
                | some k2 =>
                  obtain ⟨a1, a2⟩ := (sh18.1 y hy).2 k2 hD
                  rw [a1, nI_clamp (by omega)]
                  exact hlt k2 hD
            have hyx : x0 ≠ y := by
              intro e; subst e
              have := hlt k0 hk18
              omega
            have ds24 : dsOK H24 (fun z => if z = y then some (k0 + csS G g x0 c) else s.1 z) := by
              intro x hx
              by_cases e : x = y
              · subst e
                refine ⟨fun z => ?_, fun k z => ?_⟩
                · simp at z
                · simp at z; subst z
                  rw [e24, hu_at]; exact ⟨rfl, by omega⟩
              · simp only [if_neg e]
                rw [e24, hu_k _ _ e]
                exact sh18.1 x hx
            have w24 : H24 51 0 y = if s.2.1 y = true then 1 else 0 := by rw [e24, hu_kd _ _ _ _ (by decide)]; exact sh18.2 y hy
            have skr := fun front => skI_rel front sk18 hk18 hc hw18 hnx hlt hyw hy cle
            refine ⟨fun q8 => ?_, fun q8 => ⟨hvy, fun H25 e25 => ?_⟩⟩
            · rw [nI_clamp (by omega), w24] at q8
              have hwy : s.2.1 y = true := by
                cases hz : s.2.1 y with
                | true => rfl
                | false => rw [hz] at q8; exact absurd rfl q8
              have er : relF false s y (k0 + csS G g x0 c) = (fun z => if z = y then some (k0 + csS G g x0 c) else s.1 z, fun z => if z = y then true else s.2.1 z, s.2.2) := by unfold relF; rw [if_pos hwy]
              have sk2 := skr false
              rw [er] at sk2
              refine ⟨⟨c + 1, hd3, (fun z => if z = y then some (k0 + csS G g x0 c) else s.1 z, fun z => if z = y then true else s.2.1 z, s.2.2), hc, nI_1 c, rfl, rfl, f24, sk2, by show (if x0 = y then _ else s.1 x0) = _; rw [if_neg hyx]; exact hk18, by show (if x0 = y then true else s.2.1 x0) = false; rw [if_neg hyx]; exact hw18, ⟨ds24, fun x hx => ?_⟩, ?_, by show 2 * sumH H24 + s.2.2.length < _; omega⟩, mu⟩
              · show H24 51 0 x = if (if x = y then true else s.2.1 x) = true then 1 else 0
                by_cases e : x = y
                · subst e; rw [w24, if_pos hwy, if_pos rfl]; rfl
                · rw [if_neg e, e24, hu_kd _ _ _ _ (by decide)]; exact sh18.2 x hx
              · refine ⟨qu18.1, fun i x hi => ?_⟩
                rw [e24, hu_kd _ _ _ _ (by decide)]; exact qu18.2 i x hi
            · rw [nI_clamp (by omega), w24] at q8
              rw [nI_clamp (by omega)] at e25
              have hwy : s.2.1 y = false := by
                cases hz : s.2.1 y with
                | false => rfl
                | true => rw [hz] at q8; exact absurd q8 (by decide)
              have f25 : hfr [50, 51, 52] H H25 := by rw [e25]; exact f24.hu (by decide)
              have hlen : s.2.2.length < 2928 := by
                have := cntF_set (w := s.2.1) hy hwy
                have := cntF_le (fun k => if k = y then true else s.2.1 k) 2928
                rw [sk18.2.2.1]; omega
              have hd3lt := qu18.1
              have qu25 : quOK H25 hd3 s.2.2 := ⟨hd3lt, fun i x hi => by rw [e25, hu_kd _ _ _ _ (by decide), e24, hu_kd _ _ _ _ (by decide)]; exact qu18.2 i x hi⟩
              have sum25 : sumH H25 = sumH H24 := by
                unfold sumH
                rw [show H25 50 = H24 50 by rw [e25]; exact hu_kd _ _ _ _ (by decide)]
              have w25 : ∀ x, x < 2928 → H25 51 0 x = if (if x = y then true else s.2.1 x) = true then 1 else 0 := by
                intro x hx
                rw [e25]
                by_cases e : x = y
                · subst e; simp [hu]
                · rw [if_neg e, hu_k _ _ e, e24, hu_kd _ _ _ _ (by decide)]; exact sh18.2 x hx
              have ds25 : dsOK H25 (fun z => if z = y then some (k0 + csS G g x0 c) else s.1 z) := by
                intro x hx
                rw [e25, hu_kd _ _ _ _ (by decide)]; exact ds24 x hx
              have hny : ¬ s.2.1 y = true := by rw [hwy]; decide
              have fin : ∀ (front : Bool) (hd4 a : Nat) (z : Int32) (Hn : HH), z = nI s.2.2.length + 1 → Hn = hu H25 52 0 a (nI y) → hd4 < 2928 → (∀ i x, (if front = true then y :: s.2.2 else s.2.2 ++ [y])[i]? = some x → ((hd4 + i) % 2928 = a ∧ x = y) ∨ (¬ (hd4 + i) % 2928 = a ∧ H25 52 0 ((hd4 + i) % 2928) = nI x)) →
                  (∃ c' hd u, c' ≤ 6 ∧ nI c + 1 = nI c' ∧ nI hd4 = nI hd ∧ z = nI (List.length (Prod.snd (Prod.snd (u : SK)))) ∧ hfr [50, 51, 52] H Hn ∧ skI (nxS G) (csS G g) (fun x => x / 48 ≤ G.wdn) frm x0 c' u ∧ u.1 x0 = some k0 ∧ u.2.1 x0 = false ∧ skH Hn u ∧ quOK Hn hd u.2.2 ∧ 2 * sumH Hn + u.2.2.length < 2 * sumH H10 + (x0 :: r).length) ∧ 6 - (nI c + 1).toNatClampNeg < 6 - (nI c).toNatClampNeg := by
                intro front hd4 a z Hn ez eHn hhd4 hqu
                have eL : (relF front s y (k0 + csS G g x0 c)).2.2 = (if front = true then y :: s.2.2 else s.2.2 ++ [y]) := by
                  unfold relF
                  show (if s.2.1 y = true then s.2.2 else _) = _
                  rw [if_neg hny]
                have eLl : (relF front s y (k0 + csS G g x0 c)).2.2.length = s.2.2.length + 1 := by
                  rw [eL]
                  by_cases f : front = true
                  · rw [if_pos f]; rfl
                  · rw [if_neg f]; simp
                have sumn : sumH Hn = sumH H25 := by
                  unfold sumH
                  rw [show Hn 50 = H25 50 by rw [eHn]; exact hu_kd _ _ _ _ (by decide)]
                refine ⟨⟨c + 1, hd4, relF front s y (k0 + csS G g x0 c), hc, nI_1 c, rfl, by rw [eLl, ez, nI_1], by rw [eHn]; exact f25.hu (by decide), skr front, ?_, ?_, ⟨?_, ?_⟩, ⟨hhd4, ?_⟩, ?_⟩, mu⟩
                · show (if x0 = y then _ else s.1 x0) = _; rw [if_neg hyx]; exact hk18
                · show (if x0 = y then true else s.2.1 x0) = false; rw [if_neg hyx]; exact hw18
                · intro x hx
                  rw [eHn, hu_kd _ _ _ _ (by decide)]; exact ds25 x hx
                · intro x hx
                  rw [eHn, hu_kd _ _ _ _ (by decide)]; exact w25 x hx
                · intro i x hi
                  rw [eL] at hi
                  rcases hqu i x hi with ⟨g1, g2⟩ | ⟨g1, g2⟩
                  · rw [eHn, g1, hu_at, g2]
                  · rw [eHn, hu_k _ _ g1]; exact g2
                · rw [eLl, sumn, sum25]; omega
              refine ⟨fun y27 H28 => H25 = H28, ⟨fun _ => rfl, fun q9 => ?_⟩, fun y27 H28 e28 => ?_⟩
              · have hv15 : vp_in (nI hd3) 2928 := vp_in_nI hd3lt (by omega)
                refine ⟨hv15, ?_, rfl⟩
                rw [show (0 : Int32) = nI 0 from rfl, nI_leI (by omega) (by omega)] at q9
                cases hL2 : s.2.2 with
                | nil => rw [hL2] at q9; exact absurd (Nat.le_refl 0) q9
                | cons a b =>
                  have qa := qu25.2 0 a (by rw [hL2]; rfl)
                  rw [Nat.add_zero, Nat.mod_eq_of_lt hd3lt] at qa
                  rw [nI_clamp (by omega), qa]
                  obtain ⟨ka, hka⟩ := sk18.2.2.2.2.1 a ((sk18.2.2.2.1 a).mp (by rw [hL2]; exact List.mem_cons_self))
                  exact vp_in_nI (sk18.1 a ka hka).2.1 (by omega)
              · subst e28
                refine ⟨fun q9 => ⟨fun _ => ?_, fun z => absurd q9 z⟩, fun q9 v31 e31 => ⟨fun z => absurd z q9, fun _ => ?_⟩⟩
                · have ea : xrem (nI hd3 + nI s.2.2.length) 2928 = nI ((hd3 + s.2.2.length) % 2928) := by
                    rw [nI_add, show (2928 : Int32) = nI 2928 from rfl, xrem_nI (by omega) (by decide) (by decide)]
                  rw [ea]
                  refine ⟨vp_in_nI (Nat.mod_lt _ (by decide)) (by omega), fun H29 e29 => ?_⟩
                  rw [nI_clamp (by omega)] at e29
                  refine fin false hd3 _ _ H29 rfl e29 hd3lt (fun i x hi => ?_)
                  rw [if_neg (by decide)] at hi
                  rcases Nat.lt_or_ge i s.2.2.length with c9 | c9
                  · rw [List.getElem?_append_left c9] at hi
                    exact Or.inr ⟨by omega, qu25.2 i x hi⟩
                  · rw [List.getElem?_append_right c9] at hi
                    have ei : i = s.2.2.length := by
                      rcases Nat.eq_or_lt_of_le c9 with e | e
                      · exact e.symm
                      · rw [List.getElem?_eq_none (by simp; omega)] at hi; cases hi
                    rw [ei, Nat.sub_self] at hi
                    simp at hi
                    exact Or.inl ⟨by rw [ei], hi.symm⟩
                · have ea : v31 = nI ((hd3 + 2927) % 2928) := by
                    rw [e31, show (2928 : Int32) = nI 2928 from rfl, nI_add, show hd3 + 2928 = (hd3 + 2927) + 1 by omega, nI_pred, xrem_nI (by omega) (by decide) (by decide)]
                  rw [ea]
                  refine ⟨vp_in_nI (Nat.mod_lt _ (by decide)) (by omega), fun H33 e33 => ?_⟩
                  rw [nI_clamp (by omega)] at e33
                  refine fin true _ _ _ H33 rfl e33 (Nat.mod_lt _ (by decide)) (fun i x hi => ?_)
                  rw [if_pos rfl] at hi
                  cases i with
                  | zero =>
                    simp at hi
                    exact Or.inl ⟨by omega, hi.symm⟩
                  | succ i =>
                    simp only [List.getElem?_cons_succ] at hi
                    have hil : i < s.2.2.length := by
                      rcases Nat.lt_or_ge i s.2.2.length with z | z
                      · exact z
                      · rw [List.getElem?_eq_none z] at hi; cases hi
                    have e9 : ((hd3 + 2927) % 2928 + (i + 1)) % 2928 = (hd3 + i) % 2928 := by omega
                    rw [e9]
                    exact Or.inr ⟨by omega, qu25.2 i x hi⟩
/-! SPECS 19 (the reference): leastTo, tellsLane; PURE 10: what seeks tells is the least of all ways. -/
def lsT (D : Nat → Option Nat) (hd i : Nat) : Option Nat := D (smo (i / 3) hd (i % 3))
theorem dsOK_v {H : HH} {D : Nat → Option Nat} (h : dsOK H D) {x : Nat} (hx : x < 2928) : (D x = none ∧ H 50 0 x = nI 1000000000) ∨ ∃ k, D x = some k ∧ H 50 0 x = nI k ∧ k < 1000000 := by
  cases hD : D x with
  | none => exact Or.inl ⟨rfl, (h x hx).1 hD⟩
  | some k => exact Or.inr ⟨k, rfl, (h x hx).2 k hD⟩
theorem s_Model_leastTo {E : XE} {d wdn hd : Nat} {D : Nat → Option Nat} {H : HH} {Q : Int32 → HH → Prop} (hw : H 30 0 1 = nI wdn) (hw61 : wdn < 61) (hh : hd < 16) (hD : dsOK H D)
    (h : Q (nI (bI 1000000000 (bestF (lsT D hd) (3 * (wdn + 1))))) H) : c_Model_leastTo E d (nI hd) H Q := by
  have fb : ∀ j, j < 3 * (wdn + 1) → ∀ k, lsT D hd j = some k → k < 1000000000 := by
    intro j hj k hk
    have := ((hD (smo (j / 3) hd (j % 3)) (by unfold smo; omega)).2 k hk).2
    omega
  have bl : ∀ n, n ≤ 3 * (wdn + 1) → bI 1000000000 (bestF (lsT D hd) n) ≤ 1000000000 := by
    intro n hn
    cases hb : bestF (lsT D hd) n with
    | none => exact Nat.le_refl _
    | some q =>
      obtain ⟨h1, h2⟩ := bestF_in hb
      exact Nat.le_of_lt (fb _ (by omega) _ h1)
  refine l_Model_leastTo ⟨fun z2 z3 H4 => ∃ p, p ≤ wdn + 1 ∧ z3 = nI p ∧ z2 = nI (bI 1000000000 (bestF (lsT D hd) (3 * p))) ∧ H4 = H, fun _ z3 _ => 100 - z3.toNatClampNeg, ⟨0, by omega, rfl, rfl, rfl⟩, fun z2 z3 H4 hI => ?_⟩
  obtain ⟨p, hp, rfl, rfl, rfl⟩ := hI
  rw [hw]
  refine ⟨fun q => ?_, fun q => ?_⟩
  · rw [nI_ltI (by omega) (by omega)] at q
    have e : p = wdn + 1 := by omega
    subst e
    exact h
  · rw [nI_ltI (by omega) (by omega)] at q
    refine ⟨fun z6 z7 H8 => ∃ k, k ≤ 3 ∧ z7 = nI k ∧ z6 = nI (bI 1000000000 (bestF (lsT D hd) (3 * p + k))) ∧ H8 = H4, fun _ z7 _ => 3 - z7.toNatClampNeg, ⟨0, by omega, rfl, rfl, rfl⟩, fun z6 z7 H8 hI2 => ?_⟩
    obtain ⟨k, hk, rfl, rfl, rfl⟩ := hI2
    refine ⟨fun q2 => ?_, fun q2 => ?_⟩
    · rw [show (3 : Int32) = nI 3 from rfl, nI_leI (by omega) (by omega)] at q2
      have e : k = 3 := by omega
      subst e
      refine ⟨⟨p + 1, by omega, nI_1 p, rfl, rfl⟩, ?_⟩
      show 100 - (nI p + 1).toNatClampNeg < 100 - (nI p).toNatClampNeg
      rw [nI_1, nI_clamp (by omega), nI_clamp (by omega)]; omega
    · rw [show (3 : Int32) = nI 3 from rfl, nI_leI (by omega) (by omega)] at q2
      have ei : (3 : Int32) * (16 * nI p + nI hd) + nI k = nI (smo p hd k) := by
        rw [show (3 : Int32) = nI 3 from rfl, show (16 : Int32) = nI 16 from rfl, nI_mul, nI_add, nI_mul, nI_add]; rfl
      have hsm : smo p hd k < 2928 := by unfold smo; omega
      rw [ei]
      refine ⟨vp_in_nI hsm (by omega), fun v9 e9 v11 e11 => ?_⟩
      rw [nI_clamp (by omega)] at e9
      have mu : 3 - (nI k + 1).toNatClampNeg < 3 - (nI k).toNatClampNeg := by rw [nI_1, nI_clamp (by omega), nI_clamp (by omega)]; omega
      refine ⟨⟨k + 1, by omega, nI_1 k, ?_, rfl⟩, mu⟩
      have b6 := bl (3 * p + k) (by omega)
      have el : lsT D hd (3 * p + k) = D (smo p hd k) := by
        unfold lsT
        rw [show (3 * p + k) / 3 = p by omega, show (3 * p + k) % 3 = k by omega]
      rcases dsOK_v hD hsm with ⟨d1, d2⟩ | ⟨k2, d1, d2, d3⟩
      · rw [← Nat.add_assoc, bestF_none (by rw [el]; exact d1), e11, e9, d2, if_pos ((nI_leI (by omega) (by omega)).mpr b6)]
      · rw [← Nat.add_assoc, bestF_some (M := 1000000000) (by rw [el]; exact d1) (by omega), e11, e9, d2]
        by_cases c : k2 < bI 1000000000 (bestF (lsT D hd) (3 * p + k))
        · rw [if_pos c, if_neg (fun z => by rw [nI_leI (by omega) (by omega)] at z; omega)]; rfl
        · rw [if_neg c, if_pos ((nI_leI (by omega) (by omega)).mpr (by omega))]
theorem way_pth {G : GR} {g hd : Nat} (hw : G.wdn < 61) (hh2 : hd < 16) : ∀ {n p h l k : Nat}, p ≤ G.wdn → h < 16 → l < 3 → (wayS G g hd n p h l k ↔ ∃ p2 l2, p2 ≤ G.wdn ∧ l2 < 3 ∧ pthN (nxS G) (csS G g) n (smo p h l) (smo p2 hd l2) k) := by
  intro n
  induction n with
  | zero =>
    intro p h l k hp hh hl
    constructor
    · rintro ⟨e1, e2⟩
      subst e1
      exact ⟨p, l, hp, hl, rfl, e2⟩
    · rintro ⟨p2, l2, h1, h2, h3, h4⟩
      unfold smo at h3
      exact ⟨by omega, h4⟩
  | succ n ih =>
    intro p h l k hp hh hl
    obtain ⟨d1, d2, d3, -⟩ := smo_d (p := p) hh hl
    constructor
    · rintro ⟨way, i, p2, h2, k2, a1, a2, a3, a4, a5, a6⟩
      obtain ⟨n1, n2, -, -⟩ := nxt_some hw a3
      obtain ⟨p3, l3, b1, b2, b3⟩ := (ih n1 n2 (show way < 3 by omega)).mp a5
      refine ⟨p3, l3, b1, b2, 3 * way + i, smo p2 h2 way, k2, by omega, ?_, b3, ?_⟩
      · unfold nxS
        rw [d1, d2, show (3 * way + i) / 3 = way by omega, show (3 * way + i) % 3 = i by omega, a3]
        simp only
        rw [if_pos a4]
      · unfold csS
        rw [d1, d2, d3, show (3 * way + i) / 3 = way by omega, show (3 * way + i) % 3 = i by omega]
        exact a6
    · rintro ⟨p3, l3, b1, b2, c, z, k2, c1, c2, c3, c4⟩
      obtain ⟨-, -, q, q1, q2, q3⟩ := nxS_in hw c1 c2
      rw [d1, d2] at q1
      obtain ⟨n1, n2, -, -⟩ := nxt_some hw q1
      subst q3
      refine ⟨c / 3, c % 3, q.1, q.2, k2, by omega, Nat.mod_lt _ (by decide), q1, q2, (ih n1 n2 (by omega)).mpr ⟨p3, l3, b1, b2, c3⟩, ?_⟩
      unfold csS at c4
      rw [d1, d2, d3] at c4
      exact c4
/-- the costs of ways to a heading, out of what seeks tells -/
theorem isL_lsT {G : GR} {g hd p h l : Nat} {D : Nat → Option Nat} (hw : G.wdn < 61) (hh2 : hd < 16) (hp : p ≤ G.wdn) (hh : h < 16) (hl : l < 3) (h1 : ∀ x k, D x = some k → ∃ n, pthN (nxS G) (csS G g) n (smo p h l) x k) (h2 : ∀ n y k, pthN (nxS G) (csS G g) n (smo p h l) y k → ∃ k2, D y = some k2 ∧ k2 ≤ k) :
    isL (WS G g hd p h l) ((bestF (lsT D hd) (3 * (G.wdn + 1))).map Prod.fst) := by
  have up : ∀ k, WS G g hd p h l k → ∃ q, bestF (lsT D hd) (3 * (G.wdn + 1)) = some q ∧ q.1 ≤ k := by
    rintro k ⟨n, hn⟩
    obtain ⟨p2, l2, a1, a2, a3⟩ := (way_pth hw hh2 hp hh hl).mp hn
    obtain ⟨k2, b1, b2⟩ := h2 n _ k a3
    obtain ⟨q, c1, c2⟩ := bestF_min (f := lsT D hd) (n := 3 * (G.wdn + 1)) (j := 3 * p2 + l2) (k := k2) (by omega) (by
      unfold lsT
      rw [show (3 * p2 + l2) / 3 = p2 by omega, show (3 * p2 + l2) % 3 = l2 by omega]
      exact b1)
    exact ⟨q, c1, by omega⟩
  cases hb : bestF (lsT D hd) (3 * (G.wdn + 1)) with
  | none =>
    intro k hk
    obtain ⟨q, c1, -⟩ := up k hk
    rw [hb] at c1; cases c1
  | some q =>
    refine ⟨?_, fun k hk => ?_⟩
    · obtain ⟨e1, e2⟩ := bestF_in hb
      unfold lsT at e1
      obtain ⟨n, hn⟩ := h1 _ _ e1
      exact ⟨n, (way_pth hw hh2 hp hh hl).mpr ⟨q.2 / 3, q.2 % 3, by omega, Nat.mod_lt _ (by decide), hn⟩⟩
    · obtain ⟨q2, c1, c2⟩ := up k hk
      rw [hb] at c1; cases c1
      exact c2
/-- the reference's lane and vehicle -/
def weM (H : HH) (code ends : Nat → Int32) (j p h : Nat) (wh : Int32) : Nat := (lwF code ends 1 (H 33 0 j) 0 (nI h) (nI p) (H 30 0 1) (if wh = 0 then 0 else 1)).toNatClampNeg
def grM (H : HH) (code ends : Nat → Int32) (j wdn : Nat) : GR := (tuF (H 32 0 j) (H 33 0 j), wdn, fun p h => fitM H code ends j (nI p) (nI h), weM H code ends j)
theorem lw1_rng (code ends : Nat → Int32) (a b c d e f : Int32) : 0 ≤ (lwF code ends 1 a b c d e f).toInt ∧ (lwF code ends 1 a b c d e f).toInt ≤ 99 := by
  show 0 ≤ (clF 1 _).toInt ∧ (clF 1 _).toInt ≤ 99
  generalize (List.headD _ 0 : Int32) = x
  unfold clF
  have e : xBND.getD 1 0 = 99 := rfl
  rw [e]
  unfold xmax xmin
  have z : (0 : Int32).toInt = 0 := rfl
  have z1 : (99 : Int32).toInt = 99 := rfl
  simp only [ti_lt]
  constructor
  · repeat' split
    all_goals omega
  · repeat' split
    all_goals omega
theorem weM_nI (H : HH) (code ends : Nat → Int32) (j p h : Nat) (wh : Int32) : lwF code ends 1 (H 33 0 j) 0 (nI h) (nI p) (H 30 0 1) (if wh = 0 then 0 else 1) = nI (weM H code ends j p h wh) ∧ weM H code ends j p h wh ≤ 99 := by
  have hwr := lw1_rng code ends (H 33 0 j) 0 (nI h) (nI p) (H 30 0 1) (if wh = 0 then 0 else 1)
  refine ⟨?_, ?_⟩
  · rw [ti_eq, ti_nI (by unfold weM; show (Int32.toInt _).toNat < 2147483648; omega)]
    unfold weM
    exact (ti_cl hwr.1).symm
  · unfold weM
    show (Int32.toInt _).toNat ≤ 99
    omega
theorem fitM.fr {H H1 : HH} {code ends : Nat → Int32} {j : Nat} {K : List Nat} (hf : hfr K H H1) (h1 : 30 ∉ K) (h2 : 32 ∉ K) (h3 : 33 ∉ K) (h4 : 34 ∉ K) : fitM H1 code ends j = fitM H code ends j := by
  funext p h
  unfold fitM
  rw [hf 30 h1, vM_of j (hf 32 h2) (hf 33 h3) (hf 34 h4)]
/-- what the tables tell of the first m places and headings -/
def tlD (H : HH) (code ends : Nat → Int32) (j wdn wv m : Nat) (H1 : HH) : Prop := ∀ p h, 16 * p + h < m → p ≤ wdn → h < 16 → (H1 48 0 (16 * p + h) = 0 ↔ ¬ fitM H code ends j (nI p) (nI h)) ∧ (wv = 1 → ∀ i, i < 3 → H1 49 0 (2 * (16 * p + h) + (if i = 1 then 0 else 1)) = nI (weM H code ends j p h (nI i - 1)))
theorem tlD_end {H : HH} {code ends : Nat → Int32} {j wdn wv m : Nat} {H1 : HH} (h : tlD H code ends j wdn wv m H1) (hm : 16 * (wdn + 1) ≤ m) (hmc : mcOK H1) (h32 : H1 32 = H 32) (h33 : H1 33 = H 33) (h30 : H1 30 0 1 = nI wdn) (hw61 : wdn < 61) (hj : j < 4) (hwv : wv < 2) : tbOK H1 j wv (grM H code ends j wdn) := by
  unfold tbOK
  refine ⟨hmc, ?_, h30, hw61, hj, hwv, fun p a hp ha => ?_, fun w1 p a i hp ha hi => ⟨?_, ?_⟩⟩
  · rw [h32, h33]; rfl
  · have hp2 : p ≤ wdn := hp
    exact (h p a (by omega) hp2 ha).1
  · have hp2 : p ≤ wdn := hp
    exact (h p a (by omega) hp2 ha).2 w1 i hi
  · show weM H code ends j p a (nI i - 1) ≤ 99
    exact (weM_nI H code ends j p a (nI i - 1)).2
set_option maxHeartbeats 4000000 in
theorem s_Model_tellsLane {E : XE} {d t j wdn wv : Nat} {code ends : Nat → Int32} {H : HH} {Q : HH → Prop} (hr : mlOK H t code ends) (hj : j < 4) (hw : H 30 0 1 = nI wdn) (hw61 : wdn < 61) (hwv : wv < 2)
    (h : ∀ H1, hfr [46, 47, 48, 49] H H1 → tbOK H1 j wv (grM H code ends j wdn) → Q H1) : c_Model_tellsLane E (d + 4) (nI j) (nI wv) H Q := by
  have mc := hr.2.2.2
  have key : ∀ H3, hfr [46, 47, 48, 49] H H3 → mlOK H3 t code ends := fun H3 f => hr.fr f (by decide) (by decide) (by decide) (by decide)
  refine l_Model_tellsLane ⟨fun z2 H3 => ∃ n, n ≤ wdn + 1 ∧ z2 = nI n ∧ hfr [46, 47, 48, 49] H H3 ∧ tlD H code ends j wdn wv (16 * n) H3, fun z2 _ => 100 - z2.toNatClampNeg, ⟨0, by omega, rfl, hfr.rf, fun p h q => absurd q (by omega)⟩, fun z2 H3 hI => ?_⟩
  obtain ⟨n, hn, rfl, f3, i3⟩ := hI
  rw [f3 30 (by decide), hw]
  refine ⟨fun q => ?_, fun q => ?_⟩
  · rw [nI_ltI (by omega) (by omega)] at q
    exact h H3 f3 (tlD_end i3 (by omega) (by unfold mcOK; rw [f3 31 (by decide)]; exact mc) (f3 32 (by decide)) (f3 33 (by decide)) (by rw [f3 30 (by decide)]; exact hw) hw61 hj hwv)
  · rw [nI_ltI (by omega) (by omega)] at q
    have mu0 : 100 - (nI n + 1).toNatClampNeg < 100 - (nI n).toNatClampNeg := by rw [nI_1, nI_clamp (by omega), nI_clamp (by omega)]; omega
    refine ⟨fun z5 H6 => ∃ a, a ≤ 16 ∧ z5 = nI a ∧ hfr [46, 47, 48, 49] H H6 ∧ tlD H code ends j wdn wv (16 * n + a) H6, fun z5 _ => 16 - z5.toNatClampNeg, ⟨0, by omega, rfl, f3, i3⟩, fun z5 H6 hI2 => ?_⟩
    obtain ⟨a, ha, rfl, f6, i6⟩ := hI2
    refine ⟨fun q2 => ?_, fun q2 => ?_⟩
    · rw [show (16 : Int32) = nI 16 from rfl, nI_leI (by omega) (by omega)] at q2
      have e : a = 16 := by omega
      subst e
      exact ⟨⟨n + 1, by omega, nI_1 n, f6, fun p h hq => i6 p h (by omega)⟩, mu0⟩
    · rw [show (16 : Int32) = nI 16 from rfl, nI_leI (by omega) (by omega)] at q2
      have ha16 : a < 16 := by omega
      have mu : 16 - (nI a + 1).toNatClampNeg < 16 - (nI a).toNatClampNeg := by rw [nI_1, nI_clamp (by omega), nI_clamp (by omega)]; omega
      have ei : (16 : Int32) * nI n + nI a = nI (16 * n + a) := by rw [show (16 : Int32) = nI 16 from rfl, nI_mul, nI_add]
      have e2 : (2 : Int32) * nI (16 * n + a) = nI (2 * (16 * n + a)) := by rw [show (2 : Int32) = nI 2 from rfl, nI_mul]
      rw [ei, e2, nI_1]
      -- the rest, once it is told whether it fits
      have rest : ∀ (b : Int32) H7, hfr [46, 47, 48, 49] H H7 → H7 48 = H6 48 → H7 49 = H6 49 → (b = 0 ∨ b = 1) → (b = 0 ↔ ¬ fitM H code ends j (nI n) (nI a)) → (vp_in (nI (16 * n + a)) 976 ∧ ((b = 0 ∨ b = 1) ∧ (∀ H9 : HH, H9 = (hu H7 48 0 ((nI (16 * n + a)).toNatClampNeg) b) → (∃ J10 : Int32 → HH → Prop, ((nI wv = 0 → (J10 0 H9)) ∧ (¬ nI wv = 0 → (c_Model_asksOf E (d + 3) 1 (nI j) (nI n) (nI a) 0 0 H9 (fun r19 H18 => J10 r19 H18)))) ∧ ∀ (y11 : Int32) (H12 : HH), J10 y11 H12 → (vp_in (nI (2 * (16 * n + a))) 1952 ∧ (∀ H13 : HH, H13 = (hu H12 49 0 ((nI (2 * (16 * n + a))).toNatClampNeg) y11) → ((nI wv = 0 → (vp_in (nI (2 * (16 * n + a) + 1)) 1952 ∧ (∀ H14 : HH, H14 = (hu H13 49 0 ((nI (2 * (16 * n + a) + 1)).toNatClampNeg) 0) → ((∃ a', a' ≤ 16 ∧ nI a + 1 = nI a' ∧ hfr [46, 47, 48, 49] H H14 ∧ tlD H code ends j wdn wv (16 * n + a') H14) ∧ 16 - (nI a + 1).toNatClampNeg < 16 - (nI a).toNatClampNeg)))) ∧ (¬ nI wv = 0 → (c_Model_asksOf E (d + 3) 1 (nI j) (nI n) (nI a) 0 1 H13 (fun r16 H15 => vp_in (nI (2 * (16 * n + a) + 1)) 1952 ∧ (∀ H17 : HH, H17 = (hu H15 49 0 ((nI (2 * (16 * n + a) + 1)).toNatClampNeg) r16) → ((∃ a', a' ≤ 16 ∧ nI a + 1 = nI a' ∧ hfr [46, 47, 48, 49] H H17 ∧ tlD H code ends j wdn wv (16 * n + a') H17) ∧ 16 - (nI a + 1).toNatClampNeg < 16 - (nI a).toNatClampNeg)))))))))))) := by
        intro b H7 f7 e48 e49 hb hb2
        refine ⟨vp_in_nI (by omega) (by omega), hb, fun H9 e9 => ?_⟩
        rw [nI_clamp (by omega)] at e9
        have f9 : hfr [46, 47, 48, 49] H H9 := by rw [e9]; exact f7.hu (by decide)
        have k9 : ∀ p h, p ≤ wdn → h < 16 → 16 * p + h < 16 * n + (a + 1) → (H9 48 0 (16 * p + h) = 0 ↔ ¬ fitM H code ends j (nI p) (nI h)) := by
          intro p h hp hh hq
          rw [e9]
          by_cases e : 16 * p + h = 16 * n + a
          · have e1 : p = n := by omega
            have e22 : h = a := by omega
            subst e1; subst e22
            rw [hu_at]; exact hb2
          · rw [hu_k _ _ e, e48]
            exact (i6 p h (by omega) hp hh).1
        have g9 : H9 49 = H6 49 := by rw [e9, hu_kd _ _ _ _ (by decide)]; exact e49
        -- the end, both rows of what it wears told
        have fin : ∀ (y11 y12 : Int32) (H12 H13 H15 H17 : HH), hfr [46, 47] H9 H12 → H13 = hu H12 49 0 (2 * (16 * n + a)) y11 → hfr [46, 47] H13 H15 → H17 = hu H15 49 0 (2 * (16 * n + a) + 1) y12 → (wv = 1 → y11 = nI (weM H code ends j n a 0) ∧ y12 = nI (weM H code ends j n a 1)) → (∃ a', a' ≤ 16 ∧ nI a + 1 = nI a' ∧ hfr [46, 47, 48, 49] H H17 ∧ tlD H code ends j wdn wv (16 * n + a') H17) ∧ 16 - (nI a + 1).toNatClampNeg < 16 - (nI a).toNatClampNeg := by
          intro y11 y12 H12 H13 H15 H17 f12 e13 f15 e17 hy
          have f17 : hfr [46, 47, 48, 49] H H17 := by
            rw [e17]
            refine hfr.hu ((f9.tr (f12.wk (by decide))).tr (hfr.tr ?_ (f15.wk (by decide)))) (by decide)
            rw [e13]; exact hfr.rf.hu (by decide)
          have e17' : ∀ k, H17 49 0 k = if k = 2 * (16 * n + a) + 1 then y12 else if k = 2 * (16 * n + a) then y11 else H6 49 0 k := by
            intro k
            rw [e17]
            by_cases e : k = 2 * (16 * n + a) + 1
            · subst e; rw [hu_at, if_pos rfl]
            · rw [hu_k _ _ e, if_neg e, f15 49 (by decide), e13]
              by_cases e2 : k = 2 * (16 * n + a)
              · subst e2; rw [hu_at, if_pos rfl]
              · rw [hu_k _ _ e2, if_neg e2, f12 49 (by decide), g9]
          refine ⟨⟨a + 1, ha16, nI_1 a, f17, fun p h hq hp hh => ⟨?_, fun w1 i hi => ?_⟩⟩, mu⟩
          · rw [e17, hu_kd _ _ _ _ (by decide), f15 48 (by decide), e13, hu_kd _ _ _ _ (by decide), f12 48 (by decide)]
            exact k9 p h hp hh hq
          · rw [e17']
            obtain ⟨y1, y2⟩ := hy w1
            by_cases e : 16 * p + h = 16 * n + a
            · have e1 : p = n := by omega
              have e22 : h = a := by omega
              subst e1; subst e22
              rcases (show i = 0 ∨ i = 1 ∨ i = 2 by omega) with rfl | rfl | rfl
              · rw [show (if (0 : Nat) = 1 then 0 else 1 : Nat) = 1 from rfl, if_pos rfl, y2]
                unfold weM
                rw [if_neg (by decide), if_neg (by decide)]
              · rw [if_pos rfl, Nat.add_zero, if_neg (by omega), if_pos rfl, y1]; rfl
              · rw [show (if (2 : Nat) = 1 then 0 else 1 : Nat) = 1 from rfl, if_pos rfl, y2]
                unfold weM
                rw [if_neg (by decide), if_neg (by decide)]
            · have hne : ∀ z, z < 2 → ¬ 2 * (16 * p + h) + z = 2 * (16 * n + a) + 1 ∧ ¬ 2 * (16 * p + h) + z = 2 * (16 * n + a) := by intro z hz; omega
              have hz : (if i = 1 then 0 else 1) < 2 := by split <;> omega
              obtain ⟨z1, z2⟩ := hne _ hz
              rw [if_neg z1, if_neg z2]
              exact (i6 p h (by omega) hp hh).2 w1 i hi
        have c2 : (nI (2 * (16 * n + a))).toNatClampNeg = 2 * (16 * n + a) := nI_clamp (by omega)
        have c3 : (nI (2 * (16 * n + a) + 1)).toNatClampNeg = 2 * (16 * n + a) + 1 := nI_clamp (by omega)
        rw [c2, c3]
        have v2 : vp_in (nI (2 * (16 * n + a))) 1952 := vp_in_nI (by omega) (by omega)
        have v3 : vp_in (nI (2 * (16 * n + a) + 1)) 1952 := vp_in_nI (by omega) (by omega)
        by_cases w1 : wv = 1
        · subst w1
          refine ⟨fun y11 H12 => hfr [46, 47] H9 H12 ∧ y11 = nI (weM H code ends j n a 0), ⟨fun z => absurd z (by decide), fun _ => ?_⟩, fun y11 H12 hJ => ?_⟩
          · refine s_Model_asksOf (p := 1) (key H9 f9) (by decide) hj (fun H18 f18 => ⟨f18, ?_⟩)
            rw [f9 33 (by decide), f9 30 (by decide)]
            exact (weM_nI H code ends j n a 0).1
          · obtain ⟨f12, ey⟩ := hJ
            refine ⟨v2, fun H13 e13 => ⟨fun z => absurd z (by decide), fun _ => ?_⟩⟩
            have f13 : hfr [46, 47, 48, 49] H H13 := by rw [e13]; exact (f9.tr (f12.wk (by decide))).hu (by decide)
            refine s_Model_asksOf (p := 1) (key H13 f13) (by decide) hj (fun H15 f15 => ⟨v3, fun H17 e17 => ?_⟩)
            refine fin y11 _ H12 H13 H15 H17 f12 e13 f15 e17 (fun _ => ⟨ey, ?_⟩)
            rw [f13 33 (by decide), f13 30 (by decide)]
            exact (weM_nI H code ends j n a 1).1
        · have w0 : wv = 0 := by omega
          subst w0
          refine ⟨fun y11 H12 => H9 = H12, ⟨fun _ => rfl, fun z => absurd rfl z⟩, fun y11 H12 hJ => ?_⟩
          subst hJ
          exact ⟨v2, fun H13 e13 => ⟨fun _ => ⟨v3, fun H14 e14 => fin y11 0 H9 H13 H13 H14 hfr.rf e13 hfr.rf e14 (fun z => absurd z (by decide))⟩, fun z => absurd rfl z⟩⟩
      refine s_Model_fitsAt (key H6 f6) hj ha16 ⟨nI_pos (by omega), by rw [f6 30 (by decide), hw]; exact nI_le (by omega) (by omega)⟩ (fun hf H7 f7 => ?_) (fun hf H7 f7 => ?_)
      · rw [fitM.fr f6 (by decide) (by decide) (by decide) (by decide)] at hf
        exact rest 1 H7 (f6.tr (f7.wk (by decide))) (f7 48 (by decide)) (f7 49 (by decide)) (Or.inr rfl) ⟨fun z => absurd z (by decide), fun z => absurd hf z⟩
      · rw [fitM.fr f6 (by decide) (by decide) (by decide) (by decide)] at hf
        exact rest 0 H7 (f6.tr (f7.wk (by decide))) (f7 48 (by decide)) (f7 49 (by decide)) (Or.inl rfl) ⟨fun _ => hf, fun _ => rfl⟩
