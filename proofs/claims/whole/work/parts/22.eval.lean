/-! PURE 1: a text's code (operands ahead of what joins them), and what it comes to. -/
/-- a code that can stand: a number, a name, what joins -/
def cok (c : Int32) : Prop := 0 ≤ c ∧ (c < 10006 ∨ (20000 ≤ c ∧ c < 20009))
def c1 (c : Int32) : Prop := c = 20002 ∨ c = 20008
def evop (op a b : Int32) : Int32 := if op = 20000 then (if a = 0 then (if b = 0 then 0 else 1) else 1) else if op = 20001 then (if a = 0 then 0 else (if b = 0 then 0 else 1)) else if op = 20003 then (if b ≤ a then 0 else 1) else if op = 20004 then (if a = b then 1 else 0) else if op = 20005 then a + b else if op = 20006 then a - b else a * b
def evnm (nm : Nat → Int32) (c : Int32) : Int32 := if 10000 ≤ c then (if 6 ≤ c - 10000 then 0 else nm (c - 10000).toNatClampNeg) else c
def ev1 (nm : Nat → Int32) (c : Int32) (s : List Int32) : List Int32 :=
  if c < 20000 then evnm nm c :: s
  else if c = 20002 then (match s with | a :: r => (if a = 0 then 1 else 0) :: r | [] => [])
  else if c = 20008 then (match s with | a :: r => (-a) :: r | [] => [])
  else match s with | b :: a :: r => evop c a b :: r | _ => []
def evs (nm code : Nat → Int32) (a : Nat) : Nat → List Int32
  | 0 => []
  | n + 1 => ev1 nm (code (a + n)) (evs nm code a n)
/-- how deep the stack is behind n codes; none: it cannot stand -/
def cd1 (c : Int32) (d : Nat) : Option Nat :=
  if c < 20000 then (if 0 ≤ c ∧ c < 10006 then some (d + 1) else none)
  else if c = 20002 ∨ c = 20008 then (if 1 ≤ d then some d else none)
  else if c < 20009 ∧ 2 ≤ d then some (d - 1) else none
def cdep (code : Nat → Int32) (a : Nat) : Nat → Option Nat
  | 0 => some 0
  | n + 1 => match cdep code a n with
    | some d => cd1 (code (a + n)) d
    | none => none
theorem cd1_len {nm : Nat → Int32} {c : Int32} {d d2 : Nat} {s : List Int32} (h : cd1 c d = some d2) (hs : s.length = d) : (ev1 nm c s).length = d2 := by
  unfold cd1 at h
  unfold ev1
  by_cases h1 : c < 20000
  · rw [if_pos h1] at h ⊢
    by_cases h2 : 0 ≤ c ∧ c < 10006
    · rw [if_pos h2] at h; cases h; simp [hs]
    · rw [if_neg h2] at h; cases h
  · rw [if_neg h1] at h ⊢
    by_cases h2 : c = 20002 ∨ c = 20008
    · rw [if_pos h2] at h
      by_cases h3 : 1 ≤ d
      · rw [if_pos h3] at h
        cases h
        cases s with
        | nil => simp at hs; omega
        | cons x r =>
          rcases h2 with rfl | rfl
          · simp at hs ⊢; exact hs
          · simp at hs ⊢; exact hs
      · rw [if_neg h3] at h; cases h
    · rw [if_neg h2] at h
      by_cases h3 : c < 20009 ∧ 2 ≤ d
      · rw [if_pos h3] at h
        cases h
        simp only [not_or] at h2
        rw [if_neg h2.1, if_neg h2.2]
        match s, hs with
        | [], q => simp at q; omega
        | [x], q => simp at q; omega
        | x :: y :: r, q => simp at q ⊢; omega
      · rw [if_neg h3] at h; cases h
theorem cdep_len {nm code : Nat → Int32} {a : Nat} : ∀ {n d : Nat}, cdep code a n = some d → (evs nm code a n).length = d := by
  intro n
  induction n with
  | zero => intro d h; cases h; rfl
  | succ n ih =>
    intro d h
    unfold cdep at h
    cases hc : cdep code a n with
    | none => rw [hc] at h; cases h
    | some d0 =>
      rw [hc] at h
      exact cd1_len h (ih hc)
theorem cdep_pre {code : Nat → Int32} {a : Nat} {d : Nat} : ∀ {m n : Nat}, n ≤ m → cdep code a m = some d → ∃ d0, cdep code a n = some d0 := by
  intro m
  induction m generalizing d with
  | zero =>
    intro n h q
    have e : n = 0 := by omega
    rw [e]
    exact ⟨_, q⟩
  | succ m ih =>
    intro n h q
    rcases Nat.eq_or_lt_of_le h with e | e
    · subst e; exact ⟨_, q⟩
    · unfold cdep at q
      cases hc : cdep code a m with
      | none => rw [hc] at q; cases q
      | some d0 => exact ih (by omega) hc
theorem cdep_le {code : Nat → Int32} {a : Nat} : ∀ {n d : Nat}, cdep code a n = some d → d ≤ n := by
  intro n
  induction n with
  | zero => intro d h; cases h; exact Nat.le_refl _
  | succ n ih =>
    intro d h
    unfold cdep at h
    cases hc : cdep code a n with
    | none => rw [hc] at h; cases h
    | some d0 =>
      rw [hc] at h
      have := ih hc
      simp only at h
      unfold cd1 at h
      split at h
      · split at h
        · cases h; omega
        · cases h
      · split at h
        · split at h
          · cases h; omega
          · cases h
        · split at h
          · cases h; omega
          · cases h
theorem cdep_cong {f g : Nat → Int32} {a b : Nat} : ∀ {n : Nat}, (∀ k, k < n → f (a + k) = g (b + k)) → cdep f a n = cdep g b n := by
  intro n
  induction n with
  | zero => intro _; rfl
  | succ n ih =>
    intro h
    unfold cdep
    rw [ih (fun k hk => h k (by omega)), h n (by omega)]
theorem evs_cong {nm f g : Nat → Int32} {a b : Nat} : ∀ {n : Nat}, (∀ k, k < n → f (a + k) = g (b + k)) → evs nm f a n = evs nm g b n := by
  intro n
  induction n with
  | zero => intro _; rfl
  | succ n ih =>
    intro h
    unfold evs
    rw [ih (fun k hk => h k (by omega)), h n (by omega)]
/-- a list as it lies in a row, its head on top -/
def rstk (f : Nat → Int32) : List Int32 → Prop
  | [] => True
  | v :: r => f r.length = v ∧ rstk f r
theorem rstk_up {f : Nat → Int32} {k : Nat} {x : Int32} : ∀ {s : List Int32}, s.length ≤ k → rstk f s → rstk (upd f k x) s := by
  intro s
  induction s with
  | nil => intro _ _; trivial
  | cons v r ih =>
    intro h q
    simp only [List.length_cons] at h
    refine ⟨?_, ih (by omega) q.2⟩
    simp only [upd]
    rw [if_neg (by omega)]
    exact q.1
theorem rstk_push {f : Nat → Int32} {x : Int32} {s : List Int32} (h : rstk f s) : rstk (upd f s.length x) (x :: s) := ⟨by simp [upd], rstk_up (Nat.le_refl _) h⟩
