/-! PURE 7: ways of steps, told forward; the least that a set has. -/
abbrev GR : Type := (Int32 → Int32 → Int32) × Nat × (Nat → Nat → Prop) × (Nat → Nat → Int32 → Nat)
abbrev GR.tu (G : GR) := G.1
abbrev GR.wdn (G : GR) := G.2.1
abbrev GR.ft (G : GR) := G.2.2.1
abbrev GR.we (G : GR) := G.2.2.2
/-- where a step leads to -/
def nxt (tu : Int32 → Int32 → Int32) (wd : Int32) (way wh : Int32) (p h : Nat) : Option (Nat × Nat) :=
  if nI p + shF (nI h) way < 0 ∨ ¬ nI p + shF (nI h) way ≤ wd then none else some ((nI p + shF (nI h) way).toNatClampNeg, ((nI h + tu way wh) &&& 15).toNatClampNeg)
theorem nxt_some {tu : Int32 → Int32 → Int32} {wdn : Nat} {way wh : Int32} {p h : Nat} (hw : wdn < 61) {q : Nat × Nat} (e : nxt tu (nI wdn) way wh p h = some q) : q.1 ≤ wdn ∧ q.2 < 16 ∧ nI p + shF (nI h) way = nI q.1 ∧ (nI h + tu way wh) &&& 15 = nI q.2 := by
  unfold nxt at e
  by_cases c : nI p + shF (nI h) way < 0 ∨ ¬ nI p + shF (nI h) way ≤ nI wdn
  · rw [if_pos c] at e; cases e
  · rw [if_neg c] at e
    cases e
    simp only [not_or] at c
    obtain ⟨c1, c2⟩ := c
    obtain ⟨a, ha, ea⟩ := and15_nI (nI h + tu way wh)
    obtain ⟨f, hf, ef⟩ := nI_of c1
    rw [ef, nI_leI (by omega) (by omega)] at c2
    have c3 : f ≤ wdn := by
      rcases Nat.lt_or_ge wdn f with q | q
      · exact absurd q (by omega)
      · exact q
    refine ⟨?_, ?_, ?_, ?_⟩
    · rw [ef, nI_clamp hf]; exact c3
    · rw [ea, nI_clamp (by omega)]; exact ha
    · rw [ef, nI_clamp hf]
    · rw [ea, nI_clamp (by omega)]
theorem nxt_mk {tu : Int32 → Int32 → Int32} {wdn p h f b : Nat} {way wh : Int32} (hw : wdn < 61) (hf : f ≤ wdn) (hb : b < 16) (e1 : nI p + shF (nI h) way = nI f) (e2 : (nI h + tu way wh) &&& 15 = nI b) : nxt tu (nI wdn) way wh p h = some (f, b) := by
  unfold nxt
  rw [e1, e2, if_neg, nI_clamp (by omega), nI_clamp (by omega)]
  rintro (c | c)
  · exact nI_pos (by omega) c
  · rw [nI_leI (by omega) (by omega)] at c; exact c hf
theorem prd_mk {tu : Int32 → Int32 → Int32} {wdn p h f b : Nat} {way wh : Int32} (hw : wdn < 61) (hf : f ≤ wdn) (hb : b < 16) (e1 : nI p - shF (nI b) way = nI f) (e2 : (nI h - tu way wh) &&& 15 = nI b) : prd tu (nI wdn) way wh p h = some (f, b) := by
  unfold prd
  simp only [e2, e1]
  rw [if_neg, nI_clamp (by omega), nI_clamp (by omega)]
  rintro (c | c)
  · exact nI_pos (by omega) c
  · rw [nI_leI (by omega) (by omega)] at c; exact c hf
theorem hd_inv : ∀ a, a < 16 → ∀ b, b < 5 → (((nI a - (nI b - 2)) &&& 15) + (nI b - 2)) &&& 15 = nI a ∧ (((nI a + (nI b - 2)) &&& 15) - (nI b - 2)) &&& 15 = nI a := by decide +kernel
theorem whl3 : ∀ i, i < 3 → nI i - 1 = -1 ∨ nI i - 1 = 0 ∨ nI i - 1 = 1 := by decide +kernel
/-- a step back and forth -/
theorem prd_nxt {k m way : Int32} {wdn p h i f b : Nat} (hw : wdn < 61) (hp : p ≤ wdn) (hh : h < 16) (hi : i < 3) : prd (tuF k m) (nI wdn) way (nI i - 1) p h = some (f, b) ↔ f ≤ wdn ∧ b < 16 ∧ nxt (tuF k m) (nI wdn) way (nI i - 1) f b = some (p, h) := by
  obtain ⟨j, hj, ej⟩ := tu_rng (k := k) (m := m) (way := way) (whl3 i hi)
  constructor
  · intro e
    obtain ⟨p1, p2, p3, p4⟩ := prd_some hw e
    simp only at p1 p2 p3 p4
    refine ⟨p1, p2, nxt_mk hw hp hh ?_ ?_⟩
    · rw [← p3, p4]; exact Int32.sub_add_cancel _ _
    · rw [← p4, ej]; exact (hd_inv h hh j hj).1
  · rintro ⟨hf, hb, e⟩
    obtain ⟨p1, p2, p3, p4⟩ := nxt_some hw e
    simp only at p1 p2 p3 p4
    refine prd_mk hw hf hb ?_ ?_
    · rw [← p3]; exact Int32.add_sub_cancel _ _
    · rw [← p4, ej]; exact (hd_inv b hb j hj).2
def cst (G : GR) (g p h l way i : Nat) : Nat := if g = 1 then G.we p h (nI i - 1) else if l = way then 0 else 1
/-- by n steps from a place, a heading and a last way to the heading hd, what it costs -/
def wayS (G : GR) (g hd : Nat) : Nat → Nat → Nat → Nat → Nat → Prop
  | 0, _, h, _, k => h = hd ∧ k = 0
  | n + 1, p, h, l, k => ∃ way i p2 h2 k2, way < 2 ∧ i < 3 ∧ nxt G.tu (nI G.wdn) (nI way) (nI i - 1) p h = some (p2, h2) ∧ G.ft p2 h2 ∧ wayS G g hd n p2 h2 way k2 ∧ k = cst G g p h l way i + k2
theorem wayS_l {G : GR} {hd : Nat} : ∀ {n p h l l2 k : Nat}, wayS G 1 hd n p h l k → wayS G 1 hd n p h l2 k := by
  intro n
  cases n with
  | zero => intro p h l l2 k q; exact q
  | succ n =>
    rintro p h l l2 k ⟨way, i, p2, h2, k2, a1, a2, a3, a4, a5, a6⟩
    refine ⟨way, i, p2, h2, k2, a1, a2, a3, a4, a5, ?_⟩
    rw [a6]; rfl
/-- costs of ways -/
def WS (G : GR) (g hd p h l : Nat) : Nat → Prop := fun k => ∃ n, wayS G g hd n p h l k
def isL (S : Nat → Prop) : Option Nat → Prop
  | none => ∀ k, ¬ S k
  | some k => S k ∧ ∀ k2, S k2 → k ≤ k2
theorem isL_uniq {S : Nat → Prop} {a b : Option Nat} (ha : isL S a) (hb : isL S b) : a = b := by
  cases a with
  | none =>
    cases b with
    | none => rfl
    | some y => exact absurd hb.1 (ha y)
  | some x =>
    cases b with
    | none => exact absurd ha.1 (hb x)
    | some y =>
      have := ha.2 y hb.1
      have := hb.2 x ha.1
      congr 1; omega
/-- the lane and vehicle in thought of the heap -/
def grH (H : HH) (t wdn : Nat) : GR := (tuR H, wdn, fun p h => fitR H t (nI p) (nI h), weR H t)
theorem sno_d {p h l : Nat} (hh : h < 16) (hl : l < 2) : sno p h l / 32 = p ∧ sno p h l / 2 % 16 = h ∧ sno p h l % 2 = l := by
  unfold sno; omega
theorem sno_i {x : Nat} : x = sno (x / 32) (x / 2 % 16) (x % 2) := by unfold sno; omega
theorem ftR_iff {H : HH} {t wdn x : Nat} : ftR H t wdn x = true ↔ x / 32 ≤ wdn ∧ fitR H t (nI (x / 32)) (nI (x / 2 % 16)) := by
  unfold ftR
  rw [Bool.and_eq_true]
  constructor
  · rintro ⟨h1, h2⟩; exact ⟨of_decide_eq_true h1, @of_decide_eq_true _ (_) h2⟩
  · rintro ⟨h1, h2⟩; exact ⟨decide_eq_true h1, @decide_eq_true _ (_) h2⟩
theorem pcA_mem {H : HH} {t wdn g x y e : Nat} : (y, e) ∈ pcA H t wdn g x 0 ↔ ∃ way i, way < 2 ∧ i < 3 ∧ (g = 0 → way = x % 2) ∧ (y, e) ∈ pcG H t wdn g x 0 way i := by
  unfold pcA
  constructor
  · intro h
    obtain ⟨way, hw, h⟩ := List.mem_flatMap.mp h
    by_cases c : g = 0 ∧ ¬ way = x % 2
    · rw [if_pos c] at h; cases h
    · rw [if_neg c] at h
      obtain ⟨i, hi, h⟩ := List.mem_flatMap.mp h
      refine ⟨way, i, List.mem_range.mp hw, List.mem_range.mp hi, fun g0 => ?_, h⟩
      rcases Nat.decEq way (x % 2) with q | q
      · exact absurd ⟨g0, q⟩ c
      · exact q
  · rintro ⟨way, i, hw, hi, hc, h⟩
    refine List.mem_flatMap.mpr ⟨way, List.mem_range.mpr hw, ?_⟩
    rw [if_neg (fun c => c.2 (hc c.1))]
    exact List.mem_flatMap.mpr ⟨i, List.mem_range.mpr hi, h⟩
theorem wyN_way {H : HH} {t wdn g hd : Nat} (hw : wdn < 61) (hg : g < 2) : ∀ {n y k : Nat}, wyN (ftR H t wdn) (glN wdn hd g) (fun x => pcA H t wdn g x 0) n y k → ftR H t wdn y = true ∧ (g = 1 → y % 2 = 0) ∧ wayS (grH H t wdn) g hd n (y / 32) (y / 2 % 16) (y % 2) k := by
  intro n
  induction n with
  | zero =>
    rintro y k ⟨h1, h2, h3⟩
    unfold glN at h2
    simp only [decide_eq_true_eq] at h2
    exact ⟨h1, h2.2.2, h2.2.1, h3⟩
  | succ n ih =>
    rintro y k ⟨h1, x, e, k2, h2, h3, h4⟩
    obtain ⟨i1, i2, i3⟩ := ih h3
    obtain ⟨way, i, a1, a2, a3, a4⟩ := pcA_mem.mp h2
    obtain ⟨fx1, fx2⟩ := ftR_iff.mp i1
    unfold pcG at a4
    cases hp : prd (tuR H) (nI wdn) (nI way) (nI i - 1) (x / 32) (x / 2 % 16) with
    | none => rw [hp] at a4; cases a4
    | some q =>
      rw [hp] at a4
      obtain ⟨b1, b2, b3⟩ := (prd_nxt hw fx1 (Nat.mod_lt _ (by decide)) a2).mp hp
      simp only at a4
      by_cases g0 : g = 0
      · rw [if_pos g0] at a4
        have ew := a3 g0
        simp only [List.mem_cons, List.not_mem_nil, or_false, Prod.mk.injEq] at a4
        have key : ∀ l, l < 2 → y = sno q.1 q.2 l → e = (if l = way then 0 else 1) → ftR H t wdn y = true ∧ (g = 1 → y % 2 = 0) ∧ wayS (grH H t wdn) g hd (n + 1) (y / 32) (y / 2 % 16) (y % 2) k := by
          intro l hl ey ee
          obtain ⟨s1, s2, s3⟩ := sno_d (p := q.1) (h := q.2) (l := l) b2 hl
          rw [← ey] at s1 s2 s3
          refine ⟨h1, fun q => by omega, way, i, x / 32, x / 2 % 16, k2, a1, a2, by rw [s1, s2]; exact b3, fx2, ?_, ?_⟩
          · rw [ew]; exact i3
          · rw [h4, ee, s3]; unfold cst; rw [if_neg (show ¬ g = 1 by omega)]
        rcases a4 with ⟨ey, ee⟩ | ⟨ey, ee⟩
        · exact key way a1 ey (by rw [ee, if_pos rfl])
        · exact key (1 - way) (by omega) ey (by rw [ee, if_neg (by omega)])
      · rw [if_neg g0] at a4
        simp only [List.mem_cons, List.not_mem_nil, or_false, Prod.mk.injEq] at a4
        obtain ⟨ey, ee⟩ := a4
        have g1 : g = 1 := by omega
        subst g1
        obtain ⟨s1, s2, s3⟩ := sno_d (p := q.1) (h := q.2) (l := 0) b2 (by decide)
        rw [← ey] at s1 s2 s3
        refine ⟨h1, fun _ => s3, way, i, x / 32, x / 2 % 16, k2, a1, a2, by rw [s1, s2]; exact b3, fx2, wayS_l i3, ?_⟩
        rw [h4, ee, s1, s2, Nat.zero_add]; rfl
theorem way_wyN {H : HH} {t wdn g hd : Nat} (hw : wdn < 61) (hg : g < 2) : ∀ {n p h l k : Nat}, p ≤ wdn → h < 16 → l < 2 → (g = 1 → l = 0) → fitR H t (nI p) (nI h) → wayS (grH H t wdn) g hd n p h l k → wyN (ftR H t wdn) (glN wdn hd g) (fun x => pcA H t wdn g x 0) n (sno p h l) k := by
  intro n
  induction n with
  | zero =>
    rintro p h l k hp hh hl hgl hf ⟨e1, e2⟩
    obtain ⟨s1, s2, s3⟩ := sno_d (p := p) hh hl
    refine ⟨ftR_iff.mpr (by rw [s1, s2]; exact ⟨hp, hf⟩), ?_, e2⟩
    unfold glN
    simp only [decide_eq_true_eq]
    rw [s1, s2, s3]
    exact ⟨hp, e1, hgl⟩
  | succ n ih =>
    rintro p h l k hp hh hl hgl hf ⟨way, i, p2, h2, k2, a1, a2, a3, a4, a5, a6⟩
    obtain ⟨s1, s2, s3⟩ := sno_d (p := p) hh hl
    obtain ⟨n1, n2, -, -⟩ := nxt_some (q := (p2, h2)) hw a3
    have hprd := (prd_nxt (k := H 3 8 0) (m := H 3 8 1) (way := nI way) hw n1 n2 a2).mpr ⟨hp, hh, a3⟩
    refine ⟨ftR_iff.mpr (by rw [s1, s2]; exact ⟨hp, hf⟩), sno p2 h2 (if g = 0 then way else 0), cst (grH H t wdn) g p h l way i, k2, ?_, ?_, a6⟩
    · have hl2 : (if g = 0 then way else 0) < 2 := by by_cases c : g = 0 <;> simp [c, a1]
      obtain ⟨t1, t2, t3⟩ := sno_d (p := p2) n2 hl2
      refine pcA_mem.mpr ⟨way, i, a1, a2, fun g0 => by rw [t3, if_pos g0], ?_⟩
      unfold pcG
      rw [t1, t2]
      rw [show prd (tuR H) (nI wdn) (nI way) (nI i - 1) p2 h2 = some (p, h) from hprd]
      simp only
      by_cases g0 : g = 0
      · rw [if_pos g0]
        simp only [List.mem_cons, List.not_mem_nil, or_false, Prod.mk.injEq]
        unfold cst
        rw [if_neg (by omega)]
        by_cases c : l = way
        · left; rw [c, if_pos rfl]; exact ⟨rfl, rfl⟩
        · right; rw [if_neg c]; exact ⟨by congr 1; omega, rfl⟩
      · rw [if_neg g0]
        have g1 : g = 1 := by omega
        simp only [List.mem_cons, List.not_mem_nil, or_false, Prod.mk.injEq]
        rw [hgl g1]
        refine ⟨rfl, ?_⟩
        unfold cst
        rw [if_pos g1, Nat.zero_add]; rfl
    · by_cases g0 : g = 0
      · rw [if_pos g0]
        exact ih n1 n2 a1 (fun q => by omega) a4 a5
      · rw [if_neg g0]
        have g1 : g = 1 := by omega
        subst g1
        exact ih n1 n2 (by decide) (fun _ => rfl) a4 (wayS_l a5)
/-- the search's costs are the least of all ways -/
def coOK (G : GR) (g hd : Nat) (c : Nat → Option Nat) : Prop := ∀ p h l, p ≤ G.wdn → h < 16 → l < 2 → (g = 1 → l = 0) → isL (fun k => G.ft p h ∧ WS G g hd p h l k) (c (sno p h l))
theorem coOK_mk {H : HH} {t wdn g hd : Nat} {c : Nat → Option Nat} (hw : wdn < 61) (hg : g < 2) (h1 : ∀ y k, c y = some k → wyF (ftR H t wdn) (glN wdn hd g) (fun x => pcA H t wdn g x 0) y k) (h2 : ∀ y k, wyF (ftR H t wdn) (glN wdn hd g) (fun x => pcA H t wdn g x 0) y k → ∃ k2, c y = some k2 ∧ k2 ≤ k) : coOK (grH H t wdn) g hd c := by
  intro p h l hp hh hl hgl
  obtain ⟨s1, s2, s3⟩ := sno_d (p := p) hh hl
  have up : ∀ k, fitR H t (nI p) (nI h) ∧ WS (grH H t wdn) g hd p h l k → ∃ k2, c (sno p h l) = some k2 ∧ k2 ≤ k := by
    rintro k ⟨hf, n, hn⟩
    exact h2 _ _ ⟨n, way_wyN hw hg hp hh hl hgl hf hn⟩
  cases hc : c (sno p h l) with
  | none =>
    intro k q
    obtain ⟨k2, e, -⟩ := up k q
    rw [hc] at e; cases e
  | some k =>
    refine ⟨?_, fun k2 q => ?_⟩
    · obtain ⟨n, hn⟩ := h1 _ _ hc
      obtain ⟨a1, a2, a3⟩ := wyN_way hw hg hn
      rw [s1, s2, s3] at a3
      have := (ftR_iff.mp a1).2
      rw [s1, s2] at this
      exact ⟨this, n, a3⟩
    · obtain ⟨k3, e, e2⟩ := up k2 q
      rw [hc] at e; cases e; exact e2
