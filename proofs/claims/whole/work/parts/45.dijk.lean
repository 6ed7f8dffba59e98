/-! PURE 5: the buckets' search: ed x: the states ahead of x with what the step costs; gl: where it ends. -/
section DIJ
variable (ft gl : Nat → Bool) (ed : Nat → List (Nat × Nat))
/-- from y it ends by n steps at cost k -/
def wyN : Nat → Nat → Nat → Prop
  | 0, y, k => ft y = true ∧ gl y = true ∧ k = 0
  | n + 1, y, k => ft y = true ∧ ∃ x e k2, (y, e) ∈ ed x ∧ wyN n x k2 ∧ k = e + k2
def wyF (y k : Nat) : Prop := ∃ n, wyN ft gl ed n y k
def popB (s : CW) (y : Nat) : Bool := (s.1 y).isSome && !(s.2 y)
def djI (s : CW) (cur : Nat) : Prop :=
  (∀ y k, s.1 y = some k → wyF ft gl ed y k ∧ y < 1952 ∧ ft y = true) ∧
  (∀ y, y < 1952 → gl y = true → ft y = true → s.1 y = some 0) ∧
  (∀ y, s.2 y = true → ∃ k, s.1 y = some k ∧ cur ≤ k ∧ k ≤ cur + 99) ∧
  (∀ x k, s.1 x = some k → s.2 x = false → k ≤ cur ∧ ∀ q ∈ ed x, ft q.1 = true → ∃ k2, s.1 q.1 = some k2 ∧ k2 ≤ q.2 + k) ∧
  (∀ y k, s.1 y = some k → k ≤ 99 * cntF (popB s) 1952)
end DIJ
theorem lowF_or (ft : Nat → Bool) (s : CW) (e : Nat × Nat) : (lowF ft s e = s ∧ ((∃ k, s.1 e.1 = some k ∧ k ≤ e.2) ∨ ft e.1 = false)) ∨ (lowF ft s e = (fun y => if y = e.1 then some e.2 else s.1 y, fun y => if y = e.1 then true else s.2 y) ∧ ft e.1 = true ∧ ∀ k, s.1 e.1 = some k → e.2 < k) := by
  unfold lowF
  cases h : s.1 e.1 with
  | none =>
    cases hf : ft e.1 with
    | false => exact Or.inl ⟨by simp, Or.inr rfl⟩
    | true => exact Or.inr ⟨by simp, rfl, fun k q => by cases q⟩
  | some k =>
    by_cases hk : k ≤ e.2
    · exact Or.inl ⟨by simp [hk], Or.inl ⟨k, rfl, hk⟩⟩
    · cases hf : ft e.1 with
      | false => exact Or.inl ⟨by simp, Or.inr rfl⟩
      | true => exact Or.inr ⟨by simp [hk], rfl, fun k2 q => by cases q; omega⟩
theorem lowF_mono {ft : Nat → Bool} {s : CW} {e : Nat × Nat} {y k : Nat} (h : s.1 y = some k) : ∃ k2, (lowF ft s e).1 y = some k2 ∧ k2 ≤ k := by
  rcases lowF_or ft s e with ⟨c, -⟩ | ⟨c, -, c2⟩
  · rw [c]; exact ⟨k, h, Nat.le_refl _⟩
  · rw [c]
    by_cases q : y = e.1
    · subst q
      have := c2 k h
      exact ⟨e.2, by simp, by omega⟩
    · exact ⟨k, by simp [q, h], Nat.le_refl _⟩
theorem lowF_has {ft : Nat → Bool} {s : CW} {e : Nat × Nat} (hf : ft e.1 = true) : ∃ k2, (lowF ft s e).1 e.1 = some k2 ∧ k2 ≤ e.2 := by
  rcases lowF_or ft s e with ⟨c, c2⟩ | ⟨c, -, c2⟩
  · rw [c]
    rcases c2 with c2 | c2
    · exact c2
    · rw [hf] at c2; cases c2
  · rw [c]
    exact ⟨e.2, by simp, Nat.le_refl _⟩
theorem fold_mono {ft : Nat → Bool} : ∀ {l : List (Nat × Nat)} {s : CW} {y k : Nat}, s.1 y = some k → ∃ k2, (l.foldl (lowF ft) s).1 y = some k2 ∧ k2 ≤ k := by
  intro l
  induction l with
  | nil => intro s y k h; exact ⟨k, h, Nat.le_refl _⟩
  | cons e l ih =>
    intro s y k h
    obtain ⟨k1, h1, h2⟩ := lowF_mono (ft := ft) (e := e) h
    obtain ⟨k2, h3, h4⟩ := ih h1
    exact ⟨k2, h3, by omega⟩
theorem fold_has {ft : Nat → Bool} : ∀ {l : List (Nat × Nat)} {s : CW} {e : Nat × Nat}, e ∈ l → ft e.1 = true → ∃ k2, (l.foldl (lowF ft) s).1 e.1 = some k2 ∧ k2 ≤ e.2 := by
  intro l
  induction l with
  | nil => intro s e h; cases h
  | cons a l ih =>
    intro s e h hf
    rcases List.mem_cons.mp h with q | q
    · subst q
      obtain ⟨k1, h1, h2⟩ := lowF_has (s := s) hf
      obtain ⟨k2, h3, h4⟩ := fold_mono (ft := ft) (l := l) h1
      exact ⟨k2, h3, by omega⟩
    · exact ih q hf
/-- what a fold of lowers leaves: a state as it was, or waiting with a told cost -/
theorem fold_or {ft : Nat → Bool} : ∀ {l : List (Nat × Nat)} {s : CW} (y : Nat), ((l.foldl (lowF ft) s).1 y = s.1 y ∧ (l.foldl (lowF ft) s).2 y = s.2 y) ∨ ((l.foldl (lowF ft) s).2 y = true ∧ ft y = true ∧ ∃ k, (y, k) ∈ l ∧ (l.foldl (lowF ft) s).1 y = some k ∧ ∀ k0, s.1 y = some k0 → k < k0) := by
  intro l
  induction l with
  | nil => intro s y; exact Or.inl ⟨rfl, rfl⟩
  | cons e l ih =>
    intro s y
    have step : ((lowF ft s e).1 y = s.1 y ∧ (lowF ft s e).2 y = s.2 y) ∨ (y = e.1 ∧ (lowF ft s e).2 y = true ∧ ft y = true ∧ (lowF ft s e).1 y = some e.2 ∧ ∀ k0, s.1 y = some k0 → e.2 < k0) := by
      rcases lowF_or ft s e with ⟨c, -⟩ | ⟨c, c1, c2⟩
      · rw [c]; exact Or.inl ⟨rfl, rfl⟩
      · rw [c]
        by_cases q : y = e.1
        · subst q
          exact Or.inr ⟨rfl, by simp, c1, by simp, c2⟩
        · exact Or.inl ⟨by simp [q], by simp [q]⟩
    rcases ih (s := lowF ft s e) y with ⟨h1, h2⟩ | ⟨h1, h2, k, h3, h4, h5⟩
    · rcases step with ⟨g1, g2⟩ | ⟨g0, g1, g2, g3, g4⟩
      · exact Or.inl ⟨h1.trans g1, h2.trans g2⟩
      · refine Or.inr ⟨h2.trans g1, g2, e.2, ?_, h1.trans g3, g4⟩
        rw [g0]; exact List.mem_cons_self
    · refine Or.inr ⟨h1, h2, k, List.mem_cons_of_mem _ h3, h4, fun k0 h0 => ?_⟩
      rcases step with ⟨g1, g2⟩ | ⟨g0, g1, g2, g3, g4⟩
      · exact h5 k0 (g1.trans h0)
      · have := h5 e.2 g3
        have := g4 k0 h0
        omega
/-- a state of the least cost is taken and what leads to it is lowered: all holds on -/
theorem djI_pop {ft gl : Nat → Bool} {ed : Nat → List (Nat × Nat)} {s : CW} {cur x : Nat} (h : djI ft gl ed s cur) (hx : s.1 x = some cur) (hw : s.2 x = true) (he : ∀ x, ∀ q ∈ ed x, q.1 < 1952 ∧ q.2 ≤ 99) :
    djI ft gl ed (((ed x).map fun q => (q.1, cur + q.2)).foldl (lowF ft) (s.1, fun y => if y = x then false else s.2 y)) cur ∧
    cntF (popB (((ed x).map fun q => (q.1, cur + q.2)).foldl (lowF ft) (s.1, fun y => if y = x then false else s.2 y))) 1952 = cntF (popB s) 1952 + 1 := by
  obtain ⟨h1, h2, h3, h4, h5⟩ := h
  obtain ⟨hwx, hx52, hfx⟩ := h1 x cur hx
  generalize hl : (ed x).map (fun q => (q.1, cur + q.2)) = l
  generalize hs1 : ((s.1, fun y => if y = x then false else s.2 y) : CW) = s1
  have e1 : s1.1 = s.1 := by rw [← hs1]
  have e2 : ∀ y, s1.2 y = if y = x then false else s.2 y := fun y => by rw [← hs1]
  have hor := fun y => fold_or (ft := ft) (l := l) (s := s1) y
  have hmem : ∀ y k, (y, k) ∈ l → ∃ e, (y, e) ∈ ed x ∧ k = cur + e := by
    intro y k hm
    rw [← hl] at hm
    obtain ⟨q, hq, hq2⟩ := List.mem_map.mp hm
    cases hq2
    exact ⟨q.2, hq, rfl⟩
  generalize hs2 : l.foldl (lowF ft) s1 = s2 at *
  rw [e1] at hor
  -- x itself stays
  have hx2 : s2.1 x = some cur ∧ s2.2 x = false := by
    rcases hor x with ⟨a, b⟩ | ⟨a, b, k, c1, c2, c3⟩
    · exact ⟨a.trans hx, by rw [b, e2, if_pos rfl]⟩
    · obtain ⟨e, g1, g2⟩ := hmem x k c1
      have := c3 cur hx
      omega
  -- who was taken stays taken; who wasn't, but x, isn't now
  have hpop : ∀ y, y < 1952 → popB s2 y = if y = x then true else popB s y := by
    intro y hy
    unfold popB
    by_cases q : y = x
    · subst q; rw [if_pos rfl, hx2.1, hx2.2]; rfl
    · rw [if_neg q]
      rcases hor y with ⟨a, b⟩ | ⟨a, b, k, c1, c2, c3⟩
      · rw [a, b, e2, if_neg q]
      · rw [a]
        obtain ⟨e, g1, g2⟩ := hmem y k c1
        cases hc : s.1 y with
        | none => simp
        | some k0 =>
          cases hw2 : s.2 y with
          | true => simp
          | false =>
            have := (h4 y k0 hc hw2).1
            have := c3 k0 hc
            omega
  have hcnt : cntF (popB s2) 1952 = cntF (popB s) 1952 + 1 := by
    have : popB s x = false := by unfold popB; rw [hw]; simp
    rw [← cntF_set hx52 this]
    exact cntF_cong hpop
  refine ⟨⟨fun y k hy => ?_, fun y hy hg hf => ?_, fun y hy => ?_, fun y k hy hwy => ?_, fun y k hy => ?_⟩, hcnt⟩
  · rcases hor y with ⟨a, b⟩ | ⟨a, b, k1, c1, c2, c3⟩
    · exact h1 y k (a ▸ hy)
    · rw [c2] at hy; cases hy
      obtain ⟨e, g1, g2⟩ := hmem y k c1
      obtain ⟨n, hn⟩ := hwx
      exact ⟨⟨n + 1, b, x, e, cur, g1, hn, by omega⟩, (he x _ g1).1, b⟩
  · have := h2 y hy hg hf
    obtain ⟨k2, g1, g2⟩ := fold_mono (ft := ft) (l := l) (s := s1) (y := y) (k := 0) (by rw [e1]; exact this)
    rw [hs2] at g1
    rw [g1]; congr 1; omega
  · rcases hor y with ⟨a, b⟩ | ⟨a, b, k1, c1, c2, c3⟩
    · rw [a]
      rw [b, e2] at hy
      by_cases q : y = x
      · rw [if_pos q] at hy; cases hy
      · rw [if_neg q] at hy; exact h3 y hy
    · obtain ⟨e, g1, g2⟩ := hmem y k1 c1
      have := (he x _ g1).2
      exact ⟨k1, c2, by omega, by simp only at this; omega⟩
  · rcases hor y with ⟨a, b⟩ | ⟨a, b, k1, c1, c2, c3⟩
    · rw [a] at hy
      by_cases q : y = x
      · subst q
        rw [hx] at hy; cases hy
        refine ⟨Nat.le_refl _, fun q hq hf => ?_⟩
        have hm : (q.1, cur + q.2) ∈ l := by rw [← hl]; exact List.mem_map.mpr ⟨q, hq, rfl⟩
        obtain ⟨k2, g1, g2⟩ := fold_has (ft := ft) (s := s1) hm hf
        rw [hs2] at g1
        simp only at g1 g2
        exact ⟨k2, g1, by omega⟩
      · rw [b, e2, if_neg q] at hwy
        obtain ⟨g1, g2⟩ := h4 y k hy hwy
        refine ⟨g1, fun q hq hf => ?_⟩
        obtain ⟨k2, g3, g4⟩ := g2 q hq hf
        obtain ⟨k3, g5, g6⟩ := fold_mono (ft := ft) (l := l) (s := s1) (y := q.1) (k := k2) (by rw [e1]; exact g3)
        rw [hs2] at g5
        exact ⟨k3, g5, by omega⟩
    · rw [a] at hwy; cases hwy
  · rw [hcnt]
    rcases hor y with ⟨a, b⟩ | ⟨a, b, k1, c1, c2, c3⟩
    · rw [a] at hy
      have := h5 y k hy
      omega
    · rw [c2] at hy; cases hy
      obtain ⟨e, g1, g2⟩ := hmem y k c1
      have := (he x _ g1).2
      have := h5 x cur hx
      simp only at *
      omega
/-- nobody of cost cur waits any more -/
theorem djI_next {ft gl : Nat → Bool} {ed : Nat → List (Nat × Nat)} {s : CW} {cur : Nat} (h : djI ft gl ed s cur) (hn : ∀ y, s.2 y = true → s.1 y ≠ some cur) : djI ft gl ed s (cur + 1) := by
  obtain ⟨h1, h2, h3, h4, h5⟩ := h
  refine ⟨h1, h2, fun y hy => ?_, fun x k hx hw => ?_, h5⟩
  · obtain ⟨k, g1, g2, g3⟩ := h3 y hy
    have : k ≠ cur := fun e => hn y hy (by rw [g1, e])
    exact ⟨k, g1, by omega, by omega⟩
  · obtain ⟨g1, g2⟩ := h4 x k hx hw
    exact ⟨by omega, g2⟩
/-- nobody waits: the costs are the least -/
theorem djI_end {ft gl : Nat → Bool} {ed : Nat → List (Nat × Nat)} {s : CW} {cur : Nat} (h : djI ft gl ed s cur) (hn : ∀ y, s.2 y = false) (hl : ∀ x, ∀ q ∈ ed x, q.1 < 1952) (hg : ∀ y, gl y = true → y < 1952) : ∀ n y k, wyN ft gl ed n y k → ∃ k2, s.1 y = some k2 ∧ k2 ≤ k := by
  obtain ⟨h1, h2, h3, h4, h5⟩ := h
  intro n
  induction n with
  | zero =>
    rintro y k ⟨hf, hgl, rfl⟩
    exact ⟨0, h2 y (hg y hgl) hgl hf, Nat.le_refl _⟩
  | succ n ih =>
    rintro y k ⟨hf, x, e, k2, hm, hw, rfl⟩
    obtain ⟨k3, g1, g2⟩ := ih x k2 hw
    obtain ⟨-, g3⟩ := h4 x k3 g1 (hn x)
    obtain ⟨k4, g4, g5⟩ := g3 (y, e) hm hf
    simp only at g4 g5
    exact ⟨k4, g4, by omega⟩
