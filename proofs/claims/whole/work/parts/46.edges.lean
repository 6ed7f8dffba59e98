/-! PURE 6: the states ahead, as edges. -/
theorem weR_le (H : HH) (t p h : Nat) (wh : Int32) : weR H t p h wh ≤ 99 := by
  have := sayR1_rng H t (nI p) (nI h) 0 (if wh = 0 then 0 else 1)
  unfold weR
  show (Int32.toInt _).toNat ≤ 99
  omega
theorem pcG_map (H : HH) (t wdn g x k way i : Nat) : pcG H t wdn g x k way i = (pcG H t wdn g x 0 way i).map fun q => (q.1, k + q.2) := by
  unfold pcG
  cases prd (tuR H) (nI wdn) (nI way) (nI i - 1) (x / 32) (x / 2 % 16) with
  | none => rfl
  | some q =>
    simp only
    by_cases g0 : g = 0
    · rw [if_pos g0, if_pos g0]; simp
    · rw [if_neg g0, if_neg g0]; simp
theorem pcA_map (H : HH) (t wdn g x k : Nat) : pcA H t wdn g x k = (pcA H t wdn g x 0).map fun q => (q.1, k + q.2) := by
  unfold pcA
  rw [List.map_flatMap]
  congr 1
  funext way
  by_cases c : g = 0 ∧ ¬ way = x % 2
  · rw [if_pos c, if_pos c]; rfl
  · rw [if_neg c, if_neg c, List.map_flatMap]
    congr 1
    funext i
    exact pcG_map H t wdn g x k way i
theorem pcG_ok {H : HH} {t wdn g x way i : Nat} (hw : wdn < 61) (hway : way < 2) : ∀ q ∈ pcG H t wdn g x 0 way i, q.1 < 1952 ∧ q.2 ≤ 99 ∧ q.1 / 32 ≤ wdn := by
  intro q hq
  unfold pcG at hq
  cases hp : prd (tuR H) (nI wdn) (nI way) (nI i - 1) (x / 32) (x / 2 % 16) with
  | none => rw [hp] at hq; cases hq
  | some r =>
    rw [hp] at hq
    obtain ⟨p1, p2, -, -⟩ := prd_some hw hp
    simp only at hq
    by_cases g0 : g = 0
    · rw [if_pos g0] at hq
      simp only [List.mem_cons, List.not_mem_nil, or_false] at hq
      rcases hq with rfl | rfl
      · unfold sno; refine ⟨by simp only; omega, by simp only; omega, by simp only; omega⟩
      · unfold sno; refine ⟨by simp only; omega, by simp only; omega, by simp only; omega⟩
    · rw [if_neg g0] at hq
      simp only [List.mem_cons, List.not_mem_nil, or_false] at hq
      subst hq
      have := weR_le H t r.1 r.2 (nI i - 1)
      unfold sno; refine ⟨by simp only; omega, by simp only; omega, by simp only; omega⟩
theorem pcA_ok {H : HH} {t wdn g x : Nat} (hw : wdn < 61) : ∀ q ∈ pcA H t wdn g x 0, q.1 < 1952 ∧ q.2 ≤ 99 ∧ q.1 / 32 ≤ wdn := by
  intro q hq
  unfold pcA at hq
  obtain ⟨way, hway, hq⟩ := List.mem_flatMap.mp hq
  have hw2 : way < 2 := List.mem_range.mp hway
  by_cases c : g = 0 ∧ ¬ way = x % 2
  · rw [if_pos c] at hq; cases hq
  · rw [if_neg c] at hq
    obtain ⟨i, hi, hq⟩ := List.mem_flatMap.mp hq
    exact pcG_ok hw hw2 q hq
theorem pcA.fr {H H1 : HH} {t wdn g x k : Nat} (hf : sFr H H1) : pcA H1 t wdn g x k = pcA H t wdn g x k := by
  unfold pcA
  congr 1
  funext way
  by_cases c : g = 0 ∧ ¬ way = x % 2
  · rw [if_pos c, if_pos c]
  · rw [if_neg c, if_neg c]
    congr 1
    funext i
    exact pcG.fr hf
theorem cntF_all {p : Nat → Bool} : ∀ {n : Nat}, cntF p n = n → ∀ k, k < n → p k = true := by
  intro n
  induction n with
  | zero => intro _ k hk; omega
  | succ n ih =>
    intro h k hk
    unfold cntF at h
    have := cntF_le p n
    have hp : p n = true := by
      cases q : p n with
      | true => rfl
      | false => rw [q] at h; simp at h; omega
    rcases Nat.lt_or_ge k n with q | q
    · refine ih ?_ k q
      rw [hp] at h; simp at h; exact h
    · have : k = n := by omega
      rw [this]; exact hp
theorem cntF_zero {p : Nat → Bool} {n : Nat} (h : cntF p n = 0) : ∀ k, k < n → p k = false := by
  intro k hk
  cases q : p k with
  | false => rfl
  | true =>
    have := cntF_clr hk q
    omega
/-- nothing is found yet, nobody waits -/
theorem bkS_init {H : HH} (h23 : ∀ x, x < 1952 → H 23 0 x = 2147483647) (h24 : ∀ b, b < 128 → H 24 0 b = -1) (h21 : H 21 0 6 = 0) : bkS H (fun _ => none, fun _ => false) := by
  refine ⟨fun _ => [], fun b hb => ⟨h24 b hb, List.nodup_nil⟩, fun b hb x hx => (by cases hx), fun x hx => ⟨fun _ => h23 x hx, fun k q => (by cases q)⟩, fun x hx => ⟨fun q => (by cases q), fun ⟨k, q, _⟩ => (by cases q)⟩, ?_⟩
  have : ∀ n, cntF (fun _ => false) n = 0 := by
    intro n
    induction n with
    | zero => rfl
    | succ n ih => unfold cntF; rw [ih]; rfl
  show H 21 0 6 = nI (cntF (fun _ => false) 1952)
  rw [h21, this]; rfl
theorem fold_init {ft : Nat → Bool} {l : List (Nat × Nat)} (hl : ∀ q ∈ l, q.2 = 0) {ed : Nat → List (Nat × Nat)} {gl : Nat → Bool} (h52 : ∀ q ∈ l, q.1 < 1952) (hgl : ∀ q ∈ l, gl q.1 = true) (hall : ∀ y, y < 1952 → gl y = true → (y, 0) ∈ l) : djI ft gl ed (l.foldl (lowF ft) (fun _ => none, fun _ => false)) 0 := by
  have hor := fun y => fold_or (ft := ft) (l := l) (s := ((fun _ => none, fun _ => false) : CW)) y
  have key : ∀ y k, (l.foldl (lowF ft) ((fun _ => none, fun _ => false) : CW)).1 y = some k → (l.foldl (lowF ft) ((fun _ => none, fun _ => false) : CW)).2 y = true ∧ ft y = true ∧ k = 0 ∧ (y, 0) ∈ l := by
    intro y k hy
    rcases hor y with ⟨a, b⟩ | ⟨a, b, k1, c1, c2, c3⟩
    · rw [a] at hy; cases hy
    · rw [c2] at hy; cases hy
      have := hl _ c1
      simp only at this
      subst this
      exact ⟨a, b, rfl, c1⟩
  refine ⟨fun y k hy => ?_, fun y hy hg hf => ?_, fun y hy => ?_, fun x k hx hw => ?_, fun y k hy => ?_⟩
  · obtain ⟨-, h2, rfl, h4⟩ := key y k hy
    exact ⟨⟨0, h2, hgl _ h4, rfl⟩, h52 _ h4, h2⟩
  · obtain ⟨k2, g1, g2⟩ := fold_has (ft := ft) (s := ((fun _ => none, fun _ => false) : CW)) (hall y hy hg) hf
    have : k2 = 0 := Nat.le_zero.mp g2
    rw [g1, this]
  · rcases hor y with ⟨a, b⟩ | ⟨a, b, k1, c1, c2, c3⟩
    · rw [b] at hy; cases hy
    · have := hl _ c1
      simp only at this
      subst this
      exact ⟨0, c2, by omega, by omega⟩
  · obtain ⟨h1, -⟩ := key x k hx
    rw [hw] at h1; cases h1
  · obtain ⟨-, -, rfl, -⟩ := key y k hy
    exact Nat.zero_le _
