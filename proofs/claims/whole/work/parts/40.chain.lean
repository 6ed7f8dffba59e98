/-! PURE 3: chains in rows (a state for each place), as the class's buckets hold them. -/
/-- from h on the chain is l: nx leads on, pv back; p stands ahead of it -/
def chn (nx pv : Nat → Int32) : Int32 → List Nat → Int32 → Prop
  | _, [], h => h = -1
  | p, x :: r, h => h = nI x ∧ pv x = p ∧ chn nx pv (nI x) r (nx x)
theorem chn_cong {nx pv nx2 pv2 : Nat → Int32} : ∀ {l : List Nat} {p h : Int32}, (∀ x ∈ l, nx2 x = nx x ∧ pv2 x = pv x) → chn nx pv p l h → chn nx2 pv2 p l h := by
  intro l
  induction l with
  | nil => intro p h _ q; exact q
  | cons x r ih =>
    intro p h hc q
    obtain ⟨h1, h2, h3⟩ := q
    obtain ⟨c1, c2⟩ := hc x List.mem_cons_self
    exact ⟨h1, c2.trans h2, by rw [c1]; exact ih (fun y hy => hc y (List.mem_cons_of_mem _ hy)) h3⟩
/-- the first one's way back is another -/
theorem chn_head {nx pv : Nat → Int32} {x : Nat} {r : List Nat} {p p2 h : Int32} (hx : x ∉ r) (q : chn nx pv p (x :: r) h) : chn nx (upd pv x p2) p2 (x :: r) h := by
  obtain ⟨h1, h2, h3⟩ := q
  refine ⟨h1, by simp [upd], chn_cong (fun y hy => ⟨rfl, ?_⟩) h3⟩
  have : y ≠ x := fun e => hx (e ▸ hy)
  simp [upd, this]
/-- a new one in front -/
theorem chn_push {nx pv : Nat → Int32} {l : List Nat} {h : Int32} {x : Nat} (hx : x ∉ l) (hn : l.Nodup) (q : chn nx pv (-1) l h) : chn (upd nx x h) (match l with | [] => upd pv x (-1) | y :: _ => upd (upd pv x (-1)) y (nI x)) (-1) (x :: l) (nI x) := by
  cases l with
  | nil => exact ⟨rfl, by simp [upd], by have : h = -1 := q; simp [chn, upd, this]⟩
  | cons y r =>
    have hxy : x ≠ y := fun e => hx (e ▸ List.mem_cons_self)
    have hxr : x ∉ r := fun e => hx (List.mem_cons_of_mem _ e)
    have hyr : y ∉ r := (List.nodup_cons.mp hn).1
    refine ⟨rfl, by simp [upd, hxy], ?_⟩
    have q2 : chn (upd nx x h) (upd pv x (-1)) (-1) (y :: r) h := chn_cong (fun z hz => by
      have hzx : z ≠ x := fun e => hx (e ▸ hz)
      simp [upd, hzx]) q
    have e : upd nx x h x = h := by simp [upd]
    rw [e]
    exact chn_head hyr q2
/-- one is taken out: what stood behind it follows what stood ahead -/
theorem chn_del {nx pv : Nat → Int32} {x : Nat} {C : List Nat} : ∀ {A : List Nat} {p h : Int32}, (A ++ x :: C).Nodup → chn nx pv p (A ++ x :: C) h →
    chn (match A.getLast? with | none => nx | some a => upd nx a (nx x)) (match C with | [] => pv | y :: _ => upd pv y (pv x)) p (A ++ C) (match A with | [] => nx x | _ => h) := by
  intro A
  induction A with
  | nil =>
    intro p h hn q
    obtain ⟨h1, h2, h3⟩ := q
    simp only [List.nil_append, List.getLast?_nil] at *
    cases C with
    | nil => exact h3
    | cons y r =>
      have hyr : y ∉ r := (List.nodup_cons.mp (List.nodup_cons.mp hn).2).1
      rw [h2]
      exact chn_head hyr h3
  | cons a A ih =>
    intro p h hn q
    obtain ⟨h1, h2, h3⟩ := q
    have hn2 : (A ++ x :: C).Nodup := (List.nodup_cons.mp hn).2
    have ha : a ∉ A ++ x :: C := (List.nodup_cons.mp hn).1
    have q2 := ih hn2 h3
    have pva : (match C with | [] => pv | y :: _ => upd pv y (pv x)) a = pv a := by
      cases C with
      | nil => rfl
      | cons y r =>
        have : a ≠ y := fun e => ha (by rw [e]; simp)
        simp [upd, this]
    cases A with
    | nil =>
      simp only [List.nil_append, List.getLast?_nil, List.getLast?_singleton, List.cons_append] at *
      refine ⟨h1, pva.trans h2, ?_⟩
      have e : upd nx a (nx x) a = nx x := by simp [upd]
      rw [e]
      exact chn_cong (fun z hz => by
        have hza : z ≠ a := fun e => ha (by rw [← e]; exact List.mem_cons_of_mem _ hz)
        simp [upd, hza]) q2
    | cons b B =>
      simp only [List.getLast?_cons_cons, List.cons_append] at *
      refine ⟨h1, pva.trans h2, ?_⟩
      cases hl : (b :: B).getLast? with
      | none => simp at hl
      | some c =>
        rw [hl] at q2
        have hca : a ≠ c := fun e => ha (by rw [e]; exact List.mem_append_left _ (List.mem_of_getLast? hl))
        have e : upd nx c (nx x) a = nx a := by simp [upd, hca]
        simp only [e]
        exact q2
theorem chn_mid {nx pv : Nat → Int32} {x : Nat} {C : List Nat} : ∀ {A : List Nat} {p h : Int32}, chn nx pv p (A ++ x :: C) h → pv x = (match A.getLast? with | none => p | some a => nI a) ∧ chn nx pv (nI x) C (nx x) := by
  intro A
  induction A with
  | nil => intro p h q; exact ⟨q.2.1, q.2.2⟩
  | cons a A ih =>
    intro p h q
    obtain ⟨e1, e2⟩ := ih q.2.2
    refine ⟨?_, e2⟩
    rw [e1]
    cases A with
    | nil => rfl
    | cons b B =>
      simp only [List.getLast?_cons_cons]
      cases hl : (b :: B).getLast? with
      | none => simp at hl
      | some c => rfl
theorem chn_fst {nx pv : Nat → Int32} {l : List Nat} {p h : Int32} (q : chn nx pv p l h) : h = (match l with | [] => -1 | y :: _ => nI y) := by
  cases l with
  | nil => exact q
  | cons y r => exact q.1
/-- how many of the first n are in a set -/
def cntF (w : Nat → Bool) : Nat → Nat
  | 0 => 0
  | n + 1 => cntF w n + (if w n then 1 else 0)
theorem cntF_le (w : Nat → Bool) : ∀ n, cntF w n ≤ n := by
  intro n
  induction n with
  | zero => exact Nat.le_refl _
  | succ n ih => unfold cntF; split <;> omega
theorem cntF_cong {w w2 : Nat → Bool} : ∀ {n : Nat}, (∀ k, k < n → w k = w2 k) → cntF w n = cntF w2 n := by
  intro n
  induction n with
  | zero => intro _; rfl
  | succ n ih => intro h; unfold cntF; rw [ih (fun k hk => h k (by omega)), h n (by omega)]
theorem cntF_set {w : Nat → Bool} {x : Nat} : ∀ {n : Nat}, x < n → w x = false → cntF (fun k => if k = x then true else w k) n = cntF w n + 1 := by
  intro n
  induction n with
  | zero => intro h; omega
  | succ n ih =>
    intro h hw
    unfold cntF
    by_cases e : x = n
    · subst e
      rw [cntF_cong (w2 := w) (fun k hk => by rw [if_neg (by omega)])]
      simp [hw]
    · rw [ih (by omega) hw]
      have : ¬ n = x := fun q => e q.symm
      simp only [this, if_false]
      omega
theorem cntF_clr {w : Nat → Bool} {x : Nat} {n : Nat} (h : x < n) (hw : w x = true) : cntF (fun k => if k = x then false else w k) n + 1 = cntF w n := by
  have e := cntF_set (w := fun k => if k = x then false else w k) h (by simp)
  rw [← e]
  apply cntF_cong
  intro k _
  by_cases q : k = x
  · subst q; simp [hw]
  · simp [q]
theorem cntF_pos {w : Nat → Bool} : ∀ {n : Nat}, 0 < cntF w n → ∃ x, x < n ∧ w x = true := by
  intro n
  induction n with
  | zero => intro h; exact absurd h (Nat.lt_irrefl 0)
  | succ n ih =>
    intro h
    unfold cntF at h
    by_cases hw : w n = true
    · exact ⟨n, by omega, hw⟩
    · rw [if_neg hw] at h
      obtain ⟨x, hx, hx2⟩ := ih h
      exact ⟨x, by omega, hx2⟩
def dnx (nx : Nat → Int32) (A : List Nat) (v : Int32) : Nat → Int32 := match A.getLast? with
  | none => nx
  | some a => upd nx a v
def dpv (pv : Nat → Int32) (C : List Nat) (p : Int32) : Nat → Int32 := match C with
  | [] => pv
  | y :: _ => upd pv y p
def dhd (A : List Nat) (v h : Int32) : Int32 := match A with
  | [] => v
  | _ => h
def lsI (A : List Nat) (p : Int32) : Int32 := match A.getLast? with
  | none => p
  | some a => nI a
def hdI (C : List Nat) : Int32 := match C with
  | [] => -1
  | y :: _ => nI y
def ppv (pv : Nat → Int32) (l : List Nat) (x : Nat) : Nat → Int32 := match l with
  | [] => upd pv x (-1)
  | y :: _ => upd (upd pv x (-1)) y (nI x)
theorem chn_delD {nx pv : Nat → Int32} {x : Nat} {C A : List Nat} {p h : Int32} (hn : (A ++ x :: C).Nodup) (q : chn nx pv p (A ++ x :: C) h) : chn (dnx nx A (nx x)) (dpv pv C (pv x)) p (A ++ C) (dhd A (nx x) h) := chn_del hn q
theorem chn_midD {nx pv : Nat → Int32} {x : Nat} {C A : List Nat} {p h : Int32} (q : chn nx pv p (A ++ x :: C) h) : pv x = lsI A p ∧ chn nx pv (nI x) C (nx x) := chn_mid q
theorem chn_fstD {nx pv : Nat → Int32} {l : List Nat} {p h : Int32} (q : chn nx pv p l h) : h = hdI l := by
  cases l with
  | nil => exact q
  | cons y r => exact q.1
theorem chn_pushD {nx pv : Nat → Int32} {l : List Nat} {h : Int32} {x : Nat} (hx : x ∉ l) (hn : l.Nodup) (q : chn nx pv (-1) l h) : chn (upd nx x h) (ppv pv l x) (-1) (x :: l) (nI x) := chn_push hx hn q
