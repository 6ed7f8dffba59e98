/-! THE READING OF AN E, as steps of a configuration: the token's number, whether an operand must come, whether a not may, the signs held (the last one first), what came out. -/
def rkS (s : Nat) : Nat := if s = 0 then 0 else if s = 11 then 1 else if s = 12 then 2 else if s = 13 then 3 else if s ≤ 15 then 4 else if s ≤ 17 then 5 else if s = 18 then 6 else 7
def unw (l : Nat) : List Nat → List Int32 → List Nat × List Int32
  | [], o => ([], o)
  | s :: hs, o => if l ≤ rkS s then unw l hs (o ++ [nI (19989 + s)]) else (s :: hs, o)
def cnt : List Nat → Nat
  | [] => 0
  | s :: hs => cnt hs + (if s = 0 ∨ s = 13 ∨ s = 19 then 1 else 0)
def tpr : List Nat → Nat
  | [] => 0
  | s :: _ => rkS s
theorem unw_lt {l : Nat} {hs : List Nat} {o : List Int32} (h : tpr hs < l) : unw l hs o = (hs, o) := by
  cases hs with
  | nil => rfl
  | cons s hs => exact if_neg (by have : rkS s < l := h; omega)
theorem unw_pop {l s : Nat} {hs : List Nat} {o : List Int32} (h : l ≤ rkS s) : unw l (s :: hs) o = unw l hs (o ++ [nI (19989 + s)]) := if_pos h
theorem unw_unw {l l2 : Nat} (hl : l ≤ l2) : ∀ (hs : List Nat) (o : List Int32), unw l (unw l2 hs o).1 (unw l2 hs o).2 = unw l hs o := by
  intro hs
  induction hs with
  | nil => intro o; rfl
  | cons s hs ih =>
    intro o
    by_cases c : l2 ≤ rkS s
    · rw [unw_pop c, unw_pop (Nat.le_trans hl c)]; exact ih _
    · rw [unw_lt (l := l2) (hs := s :: hs) (by show rkS s < l2; omega)]
theorem unw_to {l l2 : Nat} (hl : l ≤ l2) {hs hs2 : List Nat} {o o2 : List Int32} (h : unw l2 hs o = unw l2 hs2 o2) : unw l hs o = unw l hs2 o2 := by
  rw [← unw_unw hl hs o, ← unw_unw hl hs2 o2, h]
theorem unw_tpr {l : Nat} (h1 : 0 < l) : ∀ (hs : List Nat) (o : List Int32), tpr (unw l hs o).1 < l := by
  intro hs
  induction hs with
  | nil => intro o; exact h1
  | cons s hs ih =>
    intro o
    by_cases c : l ≤ rkS s
    · rw [unw_pop c]; exact ih _
    · rw [unw_lt (l := l) (hs := s :: hs) (by show rkS s < l; omega)]; show rkS s < l; omega
theorem unw_len (l : Nat) : ∀ (hs : List Nat) (o : List Int32), (unw l hs o).1.length + (unw l hs o).2.length = hs.length + o.length := by
  intro hs
  induction hs with
  | nil => intro o; rfl
  | cons s hs ih =>
    intro o
    by_cases c : l ≤ rkS s
    · rw [unw_pop c, ih]; simp; omega
    · rw [unw_lt (l := l) (hs := s :: hs) (by show rkS s < l; omega)]
abbrev CF : Type := Nat × Bool × Bool × List Nat × List Int32
def sgS (k : Int32) : Nat := if k = 259 then 11 else if k = 260 then 12 else if k = 60 then 14 else if k = 61 then 15 else if k = 43 then 16 else if k = 45 then 17 else if k = 42 then 18 else 0
def mst (K V : Nat → Int32) (c : CF) : Option CF :=
  if c.2.1 = true then
    if K c.1 = 263 then some (c.1 + 1, false, c.2.2.1, unw 7 c.2.2.2.1 (c.2.2.2.2 ++ [V c.1]))
    else if K c.1 = 262 then some (c.1 + 1, false, c.2.2.1, unw 7 c.2.2.2.1 (c.2.2.2.2 ++ [10000 + V c.1]))
    else if K c.1 = 261 ∧ c.2.2.1 = true then (if cnt c.2.2.2.1 = 5 then none else some (c.1 + 1, true, true, 13 :: c.2.2.2.1, c.2.2.2.2))
    else if K c.1 = 45 then (if cnt c.2.2.2.1 = 5 then none else some (c.1 + 1, true, false, 19 :: c.2.2.2.1, c.2.2.2.2))
    else if K c.1 = 40 then (if cnt c.2.2.2.1 = 5 then none else some (c.1 + 1, true, true, 0 :: c.2.2.2.1, c.2.2.2.2))
    else none
  else if K c.1 = 59 then none
  else if K c.1 = 41 then (if (unw 1 c.2.2.2.1 c.2.2.2.2).1 = [] then none else some (c.1 + 1, false, c.2.2.1, unw 7 (unw 1 c.2.2.2.1 c.2.2.2.2).1.tail (unw 1 c.2.2.2.1 c.2.2.2.2).2))
  else if sgS (K c.1) = 0 then none
  else if rkS (sgS (K c.1)) = 4 then (if tpr (unw 5 c.2.2.2.1 c.2.2.2.2).1 = 4 then none else some (c.1 + 1, true, false, sgS (K c.1) :: (unw 5 c.2.2.2.1 c.2.2.2.2).1, (unw 5 c.2.2.2.1 c.2.2.2.2).2))
  else some (c.1 + 1, true, decide (sgS (K c.1) ≤ 12), sgS (K c.1) :: (unw (rkS (sgS (K c.1))) c.2.2.2.1 c.2.2.2.2).1, (unw (rkS (sgS (K c.1))) c.2.2.2.1 c.2.2.2.2).2)
/-- the E ends here, without a fault -/
def mok (K : Nat → Int32) (c : CF) : Prop := c.2.1 = false ∧ K c.1 = 59 ∧ (unw 1 c.2.2.2.1 c.2.2.2.2).1 = []
def mN (K V : Nat → Int32) : Nat → CF → CF → Prop
  | 0, c, c2 => c = c2
  | k + 1, c, c2 => ∃ c1, mst K V c = some c1 ∧ mN K V k c1 c2
def mR (K V : Nat → Int32) (c c2 : CF) : Prop := ∃ k, mN K V k c c2
theorem mR.refl {K V : Nat → Int32} (c : CF) : mR K V c c := ⟨0, rfl⟩
theorem mN.trans {K V : Nat → Int32} {c3 : CF} : ∀ {k : Nat} {c c2 : CF}, mN K V k c c2 → mR K V c2 c3 → mR K V c c3 := by
  intro k
  induction k with
  | zero => intro c c2 h1 h2; cases h1; exact h2
  | succ k ih =>
    intro c c2 h1 h2
    obtain ⟨c1, e, h⟩ := h1
    obtain ⟨j, hj⟩ := ih h h2
    exact ⟨j + 1, c1, e, hj⟩
theorem mR.trans {K V : Nat → Int32} {c c2 c3 : CF} (h1 : mR K V c c2) (h2 : mR K V c2 c3) : mR K V c c3 := by
  obtain ⟨k, h⟩ := h1
  exact h.trans h2
theorem mR.step {K V : Nat → Int32} {c c2 c3 : CF} (h1 : mR K V c c2) (h2 : mst K V c2 = some c3) : mR K V c c3 := h1.trans ⟨1, c3, h2, rfl⟩
theorem mR.head {K V : Nat → Int32} {c c2 c3 : CF} (h1 : mst K V c = some c2) (h2 : mR K V c2 c3) : mR K V c c3 := by
  obtain ⟨k, h⟩ := h2
  exact ⟨k + 1, c2, h1, h⟩
theorem mN_det {K V : Nat → Int32} {f f2 : CF} (hf : mst K V f = none) (hf2 : mst K V f2 = none) : ∀ (k j : Nat) (c : CF), mN K V k c f → mN K V j c f2 → f = f2 := by
  intro k
  induction k with
  | zero =>
    intro j c h1 h2
    cases h1
    cases j with
    | zero => exact h2
    | succ j => obtain ⟨c1, e, _⟩ := h2; rw [hf] at e; cases e
  | succ k ih =>
    intro j c h1 h2
    obtain ⟨c1, e, h⟩ := h1
    cases j with
    | zero => cases h2; rw [hf2] at e; cases e
    | succ j =>
      obtain ⟨c2, e2, h3⟩ := h2
      rw [e] at e2
      cases e2
      exact ih j c1 h h3
theorem mR_det {K V : Nat → Int32} {c f f2 : CF} (h1 : mR K V c f) (hf : mst K V f = none) (h2 : mR K V c f2) (hf2 : mst K V f2 = none) : f = f2 := by
  obtain ⟨k, h⟩ := h1
  obtain ⟨j, h3⟩ := h2
  exact mN_det hf hf2 k j c h h3
section
variable {K V : Nat → Int32} {t : Nat} {mn : Bool} {hs : List Nat} {o : List Int32}
theorem mst_num (h : K t = 263) : mst K V (t, true, mn, hs, o) = some (t + 1, false, mn, unw 7 hs (o ++ [V t])) := by
  unfold mst; rw [if_pos rfl, if_pos h]
theorem mst_nam (h : K t = 262) : mst K V (t, true, mn, hs, o) = some (t + 1, false, mn, unw 7 hs (o ++ [10000 + V t])) := by
  unfold mst; rw [if_pos rfl, if_neg (by rw [h]; decide), if_pos h]
theorem mst_not (h : K t = 261) : mst K V (t, true, true, hs, o) = if cnt hs = 5 then none else some (t + 1, true, true, 13 :: hs, o) := by
  unfold mst; rw [if_pos rfl, if_neg (by rw [h]; decide), if_neg (by rw [h]; decide), if_pos ⟨h, rfl⟩]
theorem mst_neg (h : K t = 45) : mst K V (t, true, mn, hs, o) = if cnt hs = 5 then none else some (t + 1, true, false, 19 :: hs, o) := by
  unfold mst; rw [if_pos rfl, if_neg (by rw [h]; decide), if_neg (by rw [h]; decide), if_neg (by intro z; rw [h] at z; exact absurd z.1 (by decide)), if_pos h]
theorem mst_opn (h : K t = 40) : mst K V (t, true, mn, hs, o) = if cnt hs = 5 then none else some (t + 1, true, true, 0 :: hs, o) := by
  unfold mst; rw [if_pos rfl, if_neg (by rw [h]; decide), if_neg (by rw [h]; decide), if_neg (by intro z; rw [h] at z; exact absurd z.1 (by decide)), if_neg (by rw [h]; decide), if_pos h]
theorem mst_no (h1 : K t ≠ 263) (h2 : K t ≠ 262) (h3 : mn = false ∨ K t ≠ 261) (h4 : K t ≠ 45) (h5 : K t ≠ 40) : mst K V (t, true, mn, hs, o) = none := by
  unfold mst
  rw [if_pos rfl, if_neg h1, if_neg h2, if_neg (fun z => by rcases h3 with y | y; exact absurd (y ▸ z.2 : false = true) (by decide); exact y z.1), if_neg h4, if_neg h5]
theorem mst_cls (h : K t = 41) {hs1 : List Nat} {o1 : List Int32} (hu4 : unw 1 hs o = (0 :: hs1, o1)) : mst K V (t, false, mn, hs, o) = some (t + 1, false, mn, unw 7 hs1 o1) := by
  unfold mst
  rw [if_neg Bool.false_ne_true, if_neg (by rw [h]; decide), if_pos h]
  show (if (unw 1 hs o).1 = [] then none else some (t + 1, false, mn, unw 7 (unw 1 hs o).1.tail (unw 1 hs o).2)) = _
  rw [hu4, if_neg (by simp)]
  rfl
theorem mst_two {s l : Nat} (hk : K t ≠ 59 ∧ K t ≠ 41) (hsg : sgS (K t) = s) (h0 : s ≠ 0) (hr : rkS s = l) (h4 : l ≠ 4) {hs1 : List Nat} {o1 : List Int32} (hu4 : unw l hs o = (hs1, o1)) : mst K V (t, false, mn, hs, o) = some (t + 1, true, decide (s ≤ 12), s :: hs1, o1) := by
  unfold mst
  subst hsg
  subst hr
  rw [if_neg Bool.false_ne_true, if_neg hk.1, if_neg hk.2, if_neg h0, if_neg h4]
  show some (t + 1, true, decide (sgS (K t) ≤ 12), sgS (K t) :: (unw (rkS (sgS (K t))) hs o).1, (unw (rkS (sgS (K t))) hs o).2) = _
  rw [hu4]
theorem mst_cmp {s : Nat} (hk : K t ≠ 59 ∧ K t ≠ 41) (hsg : sgS (K t) = s) (h0 : s ≠ 0) (hr : rkS s = 4) {hs1 : List Nat} {o1 : List Int32} (hu4 : unw 5 hs o = (hs1, o1)) (ht : tpr hs1 ≠ 4) : mst K V (t, false, mn, hs, o) = some (t + 1, true, false, s :: hs1, o1) := by
  unfold mst
  subst hsg
  rw [if_neg Bool.false_ne_true, if_neg hk.1, if_neg hk.2, if_neg h0, if_pos hr]
  show (if tpr (unw 5 hs o).1 = 4 then none else some (t + 1, true, false, sgS (K t) :: (unw 5 hs o).1, (unw 5 hs o).2)) = _
  rw [hu4, if_neg ht]
/-- what cannot follow, by the level of what was read -/
def blk (K : Nat → Int32) (L t : Nat) (hs : List Nat) (o : List Int32) : Prop := (L ≤ 6 → K t ≠ 42) ∧ (L ≤ 5 → K t ≠ 43 ∧ K t ≠ 45) ∧ (L ≤ 4 → (K t = 60 ∨ K t = 61) → tpr (unw 5 hs o).1 = 4) ∧ (L ≤ 2 → K t ≠ 260) ∧ (L ≤ 1 → K t ≠ 259)
/-- behind a whole E, what neither ends it nor closes it is a fault -/
theorem mst_end (hb : blk K 1 t hs o) (h59 : K t ≠ 59) (h41 : K t = 41 → (unw 1 hs o).1 = []) : mst K V (t, false, mn, hs, o) = none := by
  obtain ⟨b1, b2, b3, b4, b5⟩ := hb
  unfold mst
  rw [if_neg Bool.false_ne_true, if_neg h59]
  by_cases c : K t = 41
  · rw [if_pos c]; exact if_pos (h41 c)
  · rw [if_neg c]
    by_cases c2 : sgS (K t) = 0
    · exact if_pos c2
    · rw [if_neg c2]
      have c3 : K t = 60 ∨ K t = 61 := by
        by_cases y : K t = 60 ∨ K t = 61
        · exact y
        · refine absurd ?_ c2
          show sgS (K t) = 0
          unfold sgS
          rw [if_neg (b5 (by decide)), if_neg (b4 (by decide)), if_neg (fun z => y (Or.inl z)), if_neg (fun z => y (Or.inr z)), if_neg (b2 (by decide)).1, if_neg (b2 (by decide)).2, if_neg (b1 (by decide))]
      have c4 : rkS (sgS (K t)) = 4 := by rcases c3 with z | z <;> rw [z] <;> decide
      rw [if_pos c4]
      exact if_pos (b3 (by decide) c3)
end
/-- codes that leave one more on the stack -/
def lds : Nat → List Int32 → Option Nat
  | D, [] => some D
  | D, c :: cs => match cd1 c D with
    | some D2 => lds D2 cs
    | none => none
def gdS (ys : List Int32) : Prop := ∀ D, lds D ys = some (D + 1)
theorem lds_app : ∀ (xs ys : List Int32) (D D2 : Nat), lds D xs = some D2 → lds D (xs ++ ys) = lds D2 ys := by
  intro xs
  induction xs with
  | nil => intro ys D D2 h; cases h; rfl
  | cons c cs ih =>
    intro ys D D2 h
    show (match cd1 c D with | some D3 => lds D3 (cs ++ ys) | none => none) = _
    have h2 : (match cd1 c D with | some D3 => lds D3 cs | none => none) = some D2 := h
    cases e : cd1 c D with
    | none => rw [e] at h2; cases h2
    | some D3 => rw [e] at h2; exact ih ys D3 D2 h2
theorem gd_one {c : Int32} (h : 0 ≤ c ∧ c < 10006) : gdS [c] := by
  intro D
  have e : cd1 c D = some (D + 1) := by
    unfold cd1
    rw [if_pos (by have := h.2; simp only [ti_lt] at *; have c1 : (20000 : Int32).toInt = 20000 := rfl; have c2 : (10006 : Int32).toInt = 10006 := rfl; omega), if_pos h]
  show (match cd1 c D with | some D3 => lds D3 [] | none => none) = _
  rw [e]; rfl
theorem gd_un {c : Int32} {ys : List Int32} (hc : c = 20002 ∨ c = 20008) (h : gdS ys) : gdS (ys ++ [c]) := by
  intro D
  rw [lds_app ys [c] D (D + 1) (h D)]
  have e : cd1 c (D + 1) = some (D + 1) := by
    unfold cd1
    rw [if_neg (by rcases hc with z | z <;> rw [z] <;> decide), if_pos hc, if_pos (by omega)]
  show (match cd1 c (D + 1) with | some D3 => lds D3 [] | none => none) = _
  rw [e]; rfl
theorem gd_bin {c : Int32} {xs ys : List Int32} (hc : c = 20000 ∨ c = 20001 ∨ c = 20003 ∨ c = 20004 ∨ c = 20005 ∨ c = 20006 ∨ c = 20007) (h1 : gdS xs) (h2 : gdS ys) : gdS (xs ++ ys ++ [c]) := by
  intro D
  rw [lds_app (xs ++ ys) [c] D (D + 2) (by rw [lds_app xs ys D (D + 1) (h1 D)]; exact h2 (D + 1))]
  have e : cd1 c (D + 2) = some (D + 1) := by
    unfold cd1
    rw [if_neg (by rcases hc with z | z | z | z | z | z | z <;> rw [z] <;> decide), if_neg (by rcases hc with z | z | z | z | z | z | z <;> rw [z] <;> decide), if_pos ⟨by rcases hc with z | z | z | z | z | z | z <;> rw [z] <;> decide, by omega⟩]
    rfl
  show (match cd1 c (D + 2) with | some D3 => lds D3 [] | none => none) = _
  rw [e]; rfl
