/-! PURE 9: a search forward that mends what it has told. -/
def pthN (nx : Nat → Nat → Option Nat) (co : Nat → Nat → Nat) : Nat → Nat → Nat → Nat → Prop
  | 0, x, y, k => x = y ∧ k = 0
  | n + 1, x, y, k => ∃ c z k2, c < 6 ∧ nx x c = some z ∧ pthN nx co n z y k2 ∧ k = co x c + k2
theorem pthN_snoc {nx : Nat → Nat → Option Nat} {co : Nat → Nat → Nat} : ∀ {n x y z c k : Nat}, pthN nx co n x y k → c < 6 → nx y c = some z → pthN nx co (n + 1) x z (k + co y c) := by
  intro n
  induction n with
  | zero =>
    rintro x y z c k ⟨e1, e2⟩ hc hn
    subst e1; subst e2
    exact ⟨c, z, 0, hc, hn, ⟨rfl, rfl⟩, by omega⟩
  | succ n ih =>
    rintro x y z c k ⟨c2, w, k2, h1, h2, h3, h4⟩ hc hn
    exact ⟨c2, w, k2 + co y c, h1, h2, ih h3 hc hn, by omega⟩
/-- what is told, who waits, the row of who waits -/
abbrev SK : Type := (Nat → Option Nat) × (Nat → Bool) × List Nat
def skI (nx : Nat → Nat → Option Nat) (co : Nat → Nat → Nat) (P : Nat → Prop) (frm x0 c0 : Nat) (s : SK) : Prop :=
  (∀ x k, s.1 x = some k → P x ∧ x < 2928 ∧ k + 99 ≤ 99 * cntF (fun y => (s.1 y).isSome) 2928 ∧ ∃ n, pthN nx co n frm x k) ∧
  s.2.2.Nodup ∧ s.2.2.length = cntF s.2.1 2928 ∧ (∀ x, x ∈ s.2.2 ↔ s.2.1 x = true) ∧
  (∀ x, s.2.1 x = true → ∃ k, s.1 x = some k) ∧
  (∀ x k, s.1 x = some k → s.2.1 x = false → ∀ c, c < 6 → (x = x0 → c < c0) → ∀ y, nx x c = some y → ∃ k2, s.1 y = some k2 ∧ k2 ≤ k + co x c) ∧
  s.1 frm = some 0
def relF (front : Bool) (s : SK) (y d : Nat) : SK := (fun z => if z = y then some d else s.1 z, fun z => if z = y then true else s.2.1 z, if s.2.1 y = true then s.2.2 else if front = true then y :: s.2.2 else s.2.2 ++ [y])
theorem skI_skip {nx : Nat → Nat → Option Nat} {co : Nat → Nat → Nat} {P : Nat → Prop} {frm x0 c0 k : Nat} {s : SK} (h : skI nx co P frm x0 c0 s) (hk : s.1 x0 = some k) (hn : ∀ y, nx x0 c0 = some y → ∃ k2, s.1 y = some k2 ∧ k2 ≤ k + co x0 c0) : skI nx co P frm x0 (c0 + 1) s := by
  obtain ⟨h1, h2, h3, h4, h5, h6, h7⟩ := h
  refine ⟨h1, h2, h3, h4, h5, fun x k1 hx hw c hc hcc y hy => ?_, h7⟩
  by_cases e : x = x0 ∧ c = c0
  · obtain ⟨e1, e2⟩ := e
    subst e1; subst e2
    rw [hk] at hx; cases hx
    exact hn y hy
  · refine h6 x k1 hx hw c hc (fun ex => ?_) y hy
    have := hcc ex
    have : ¬ c = c0 := fun ec => e ⟨ex, ec⟩
    omega
theorem cntF_mono {w w2 : Nat → Bool} : ∀ {n : Nat}, (∀ k, w k = true → w2 k = true) → cntF w n ≤ cntF w2 n := by
  intro n
  induction n with
  | zero => intro _; exact Nat.le_refl _
  | succ n ih =>
    intro h
    unfold cntF
    have := ih h
    by_cases c : w n = true
    · rw [if_pos c, if_pos (h n c)]; omega
    · rw [if_neg c]; split <;> omega
theorem skI_rel {nx : Nat → Nat → Option Nat} {co : Nat → Nat → Nat} {P : Nat → Prop} {frm x0 c0 k y : Nat} {s : SK} (front : Bool) (h : skI nx co P frm x0 c0 s) (hk : s.1 x0 = some k) (hc0 : c0 < 6) (hw0 : s.2.1 x0 = false) (hn : nx x0 c0 = some y) (hlt : ∀ k2, s.1 y = some k2 → k + co x0 c0 < k2) (hP : P y) (hy : y < 2928) (hco : co x0 c0 ≤ 99) : skI nx co P frm x0 (c0 + 1) (relF front s y (k + co x0 c0)) := by
  obtain ⟨h1, h2, h3, h4, h5, h6, h7⟩ := h
  have hyx : y ≠ x0 := by
    intro e; subst e
    have := hlt k hk; omega
  have hyf : y ≠ frm := by
    intro e; subst e
    have := hlt 0 h7; omega
  have cm : cntF (fun z => (s.1 z).isSome) 2928 ≤ cntF (fun z => ((relF front s y (k + co x0 c0)).1 z).isSome) 2928 := by
    refine cntF_mono (fun z hz => ?_)
    show (if z = y then some _ else s.1 z).isSome = true
    by_cases e : z = y
    · rw [if_pos e]; rfl
    · rw [if_neg e]; exact hz
  obtain ⟨b1, b2, b3, n0, b4⟩ := h1 x0 k hk
  have cy : k + co x0 c0 + 99 ≤ 99 * cntF (fun z => ((relF front s y (k + co x0 c0)).1 z).isSome) 2928 := by
    cases hD : s.1 y with
    | some k2 =>
      have := hlt k2 hD
      have := (h1 y k2 hD).2.2.1
      omega
    | none =>
      have e : cntF (fun z => ((relF front s y (k + co x0 c0)).1 z).isSome) 2928 = cntF (fun z => (s.1 z).isSome) 2928 + 1 := by
        rw [← cntF_set (w := fun z => (s.1 z).isSome) (x := y) hy (by simp [hD])]
        refine cntF_cong (fun z _ => ?_)
        show (if z = y then some _ else s.1 z).isSome = (if z = y then true else (s.1 z).isSome)
        by_cases e : z = y
        · rw [if_pos e, if_pos e]; rfl
        · rw [if_neg e, if_neg e]
      omega
  refine ⟨fun x k1 hx => ?_, ?_, ?_, fun x => ?_, fun x hx => ?_, fun x k1 hx hw c hc hcc z hz => ?_, ?_⟩
  · have hx' : (if x = y then some (k + co x0 c0) else s.1 x) = some k1 := hx
    by_cases e : x = y
    · rw [if_pos e] at hx'
      cases hx'
      subst e
      exact ⟨hP, hy, cy, n0 + 1, pthN_snoc b4 hc0 hn⟩
    · rw [if_neg e] at hx'
      obtain ⟨a1, a2, a3, a4⟩ := h1 x k1 hx'
      exact ⟨a1, a2, by omega, a4⟩
  · show (if s.2.1 y = true then s.2.2 else if front = true then y :: s.2.2 else s.2.2 ++ [y]).Nodup
    by_cases c : s.2.1 y = true
    · rw [if_pos c]; exact h2
    · rw [if_neg c]
      have hny : y ∉ s.2.2 := fun q => c ((h4 y).mp q)
      by_cases f : front = true
      · rw [if_pos f]; exact List.nodup_cons.mpr ⟨hny, h2⟩
      · rw [if_neg f]
        refine List.nodup_append.mpr ⟨h2, by simp, ?_⟩
        intro a ha b hb e
        simp only [List.mem_singleton] at hb
        subst hb; subst e
        exact hny ha
  · show (if s.2.1 y = true then s.2.2 else if front = true then y :: s.2.2 else s.2.2 ++ [y]).length = cntF (fun z => if z = y then true else s.2.1 z) 2928
    by_cases c : s.2.1 y = true
    · rw [if_pos c, h3]
      refine cntF_cong (fun z _ => ?_)
      by_cases e : z = y
      · rw [if_pos e, e, c]
      · rw [if_neg e]
    · rw [if_neg c, cntF_set hy (by simpa using c), ← h3]
      by_cases f : front = true
      · rw [if_pos f]; rfl
      · rw [if_neg f]; simp
  · show x ∈ (if s.2.1 y = true then s.2.2 else if front = true then y :: s.2.2 else s.2.2 ++ [y]) ↔ (if x = y then true else s.2.1 x) = true
    by_cases e : x = y
    · subst e
      rw [if_pos rfl]
      by_cases c : s.2.1 x = true
      · rw [if_pos c]; simp [(h4 x).mpr c]
      · rw [if_neg c]
        by_cases f : front = true
        · rw [if_pos f]; simp
        · rw [if_neg f]; simp
    · rw [if_neg e, ← h4 x]
      by_cases c : s.2.1 y = true
      · rw [if_pos c]
      · rw [if_neg c]
        by_cases f : front = true
        · rw [if_pos f]; simp [e]
        · rw [if_neg f]; simp [e]
  · show ∃ k1, (if x = y then some (k + co x0 c0) else s.1 x) = some k1
    by_cases e : x = y
    · rw [if_pos e]; exact ⟨_, rfl⟩
    · have hx' : (if x = y then true else s.2.1 x) = true := hx
      rw [if_neg e] at hx' ⊢
      exact h5 x hx'
  · have hw' : (if x = y then true else s.2.1 x) = false := hw
    have hx' : (if x = y then some (k + co x0 c0) else s.1 x) = some k1 := hx
    have e : ¬ x = y := fun e => by rw [if_pos e] at hw'; cases hw'
    rw [if_neg e] at hw' hx'
    show ∃ k2, (if z = y then some (k + co x0 c0) else s.1 z) = some k2 ∧ k2 ≤ k1 + co x c
    by_cases e2 : x = x0 ∧ c = c0
    · obtain ⟨e3, e4⟩ := e2
      subst e3; subst e4
      rw [hn] at hz; cases hz
      rw [hk] at hx'; cases hx'
      exact ⟨_, if_pos rfl, Nat.le_refl _⟩
    · obtain ⟨k2, g1, g2⟩ := h6 x k1 hx' hw' c hc (fun ex => by
        have := hcc ex
        have : ¬ c = c0 := fun ec => e2 ⟨ex, ec⟩
        omega) z hz
      by_cases ez : z = y
      · rw [if_pos ez]
        subst ez
        have := hlt k2 g1
        exact ⟨_, rfl, by omega⟩
      · rw [if_neg ez]; exact ⟨k2, g1, g2⟩
  · show (if frm = y then some (k + co x0 c0) else s.1 frm) = some 0
    rw [if_neg (fun e => hyf e.symm)]; exact h7
theorem skI_pop {nx : Nat → Nat → Option Nat} {co : Nat → Nat → Nat} {P : Nat → Prop} {frm x0 x : Nat} {r : List Nat} {D : Nat → Option Nat} {W : Nat → Bool} (h : skI nx co P frm x0 6 (D, W, x :: r)) : skI nx co P frm x 0 (D, fun z => if z = x then false else W z, r) := by
  obtain ⟨h1, h2, h3, h4, h5, h6, h7⟩ := h
  simp only at h1 h2 h3 h4 h5 h6 h7
  have hxr : x ∉ r := (List.nodup_cons.mp h2).1
  have hwx : W x = true := (h4 x).mp List.mem_cons_self
  obtain ⟨k, hk⟩ := h5 x hwx
  have hx := (h1 x k hk).2.1
  refine ⟨h1, (List.nodup_cons.mp h2).2, ?_, fun z => ?_, fun z hz => ?_, fun z k1 hz hw c hc hcc y hy => ?_, h7⟩
  · have := cntF_clr (w := W) hx hwx
    simp only [List.length_cons] at h3
    show r.length = cntF (fun z => if z = x then false else W z) 2928
    omega
  · show z ∈ r ↔ (if z = x then false else W z) = true
    by_cases e : z = x
    · subst e; simp [hxr]
    · rw [if_neg e, ← h4 z]; simp [e]
  · have hz' : (if z = x then false else W z) = true := hz
    by_cases e : z = x
    · rw [if_pos e] at hz'; cases hz'
    · rw [if_neg e] at hz'; exact h5 z hz'
  · have hw' : (if z = x then false else W z) = false := hw
    by_cases e : z = x
    · exact absurd (hcc e) (Nat.not_lt_zero _)
    · rw [if_neg e] at hw'
      exact h6 z k1 hz hw' c hc (fun _ => hc) y hy
theorem skI_end {nx : Nat → Nat → Option Nat} {co : Nat → Nat → Nat} {P : Nat → Prop} {frm x0 : Nat} {s : SK} (h : skI nx co P frm x0 6 s) (hL : s.2.2 = []) : ∀ n y k, pthN nx co n frm y k → ∃ k2, s.1 y = some k2 ∧ k2 ≤ k := by
  obtain ⟨h1, h2, h3, h4, h5, h6, h7⟩ := h
  have hw : ∀ x, s.2.1 x = false := by
    intro x
    cases hx : s.2.1 x with
    | false => rfl
    | true =>
      have := (h4 x).mpr hx
      rw [hL] at this; cases this
  have key : ∀ n x y k kx, s.1 x = some kx → pthN nx co n x y k → ∃ k2, s.1 y = some k2 ∧ k2 ≤ kx + k := by
    intro n
    induction n with
    | zero =>
      rintro x y k kx hx ⟨e1, e2⟩
      subst e1
      exact ⟨kx, hx, by omega⟩
    | succ n ih =>
      rintro x y k kx hx ⟨c, z, k2, c1, c2, c3, c4⟩
      obtain ⟨kz, z1, z2⟩ := h6 x kx hx (hw x) c c1 (fun _ => c1) z c2
      obtain ⟨ky, y1, y2⟩ := ih z y k2 kz z1 c3
      exact ⟨ky, y1, by omega⟩
  intro n y k hp
  obtain ⟨k2, a1, a2⟩ := key n frm y k 0 h7 hp
  exact ⟨k2, a1, by omega⟩
theorem skI_init {nx : Nat → Nat → Option Nat} {co : Nat → Nat → Nat} {P : Nat → Prop} {frm : Nat} (hf : frm < 2928) (hP : P frm) : skI nx co P frm 0 6 (fun z => if z = frm then some 0 else none, fun z => if z = frm then true else false, [frm]) := by
  have e1 : cntF (fun z => if z = frm then true else false) 2928 = 1 := by
    have := cntF_set (w := fun _ => false) (x := frm) hf rfl
    rw [cntF_none] at this
    exact this
  have e2 : cntF (fun z => ((if z = frm then some 0 else none : Option Nat)).isSome) 2928 = 1 := by
    rw [← e1]
    refine cntF_cong (fun z _ => ?_)
    by_cases e : z = frm
    · rw [if_pos e, if_pos e]; rfl
    · rw [if_neg e, if_neg e]; rfl
  refine ⟨fun x k hx => ?_, by simp, ?_, fun x => ?_, fun x hx => ?_, fun x k hx hw => ?_, ?_⟩
  · have hx' : (if x = frm then some 0 else none) = some k := hx
    by_cases e : x = frm
    · rw [if_pos e] at hx'; cases hx'
      subst e
      refine ⟨hP, hf, ?_, 0, rfl, rfl⟩
      show 0 + 99 ≤ 99 * cntF (fun z => ((if z = x then some 0 else none : Option Nat)).isSome) 2928
      rw [e2]; omega
    · rw [if_neg e] at hx'; cases hx'
  · show ([frm] : List Nat).length = cntF (fun z => if z = frm then true else false) 2928
    rw [e1]; rfl
  · show x ∈ [frm] ↔ (if x = frm then true else false) = true
    by_cases e : x = frm
    · rw [if_pos e]; simp [e]
    · rw [if_neg e]; simp [e]
  · have hx' : (if x = frm then true else false) = true := hx
    by_cases e : x = frm
    · exact ⟨0, if_pos e⟩
    · rw [if_neg e] at hx'; cases hx'
  · have hx' : (if x = frm then some 0 else none) = some k := hx
    have hw' : (if x = frm then true else false) = false := hw
    by_cases e : x = frm
    · rw [if_pos e] at hw'; cases hw'
    · rw [if_neg e] at hx'; cases hx'
  · show (if frm = frm then some 0 else none) = some 0
    rw [if_pos rfl]
/-- sums, by which a search ends -/
def sumF (f : Nat → Nat) : Nat → Nat
  | 0 => 0
  | n + 1 => sumF f n + f n
theorem sumF_cong {f g : Nat → Nat} : ∀ {n : Nat}, (∀ x, x < n → g x = f x) → sumF g n = sumF f n := by
  intro n
  induction n with
  | zero => intro _; rfl
  | succ n ih => intro h; unfold sumF; rw [ih (fun x hx => h x (by omega)), h n (by omega)]
theorem sumF_lt {f g : Nat → Nat} {y : Nat} : ∀ {n : Nat}, (∀ x, x ≠ y → g x = f x) → g y < f y → y < n → sumF g n < sumF f n := by
  intro n
  induction n with
  | zero => intro _ _ h; omega
  | succ n ih =>
    intro h1 h2 h3
    unfold sumF
    by_cases e : y = n
    · subst e
      rw [sumF_cong (f := f) (g := g) (fun x hx => h1 x (by omega))]
      omega
    · have := ih h1 h2 (by omega)
      rw [h1 n (fun q => e q.symm)]
      omega
