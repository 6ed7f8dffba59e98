/-! TOKENS, by words alone, and how the class reads them off THE TAPE. -/
abbrev isLt (v : Int32) : Prop := 97 ≤ v ∧ v ≤ 122
abbrev isDg (v : Int32) : Prop := 48 ≤ v ∧ v ≤ 57
abbrev isBk (v : Int32) : Prop := v = 32 ∨ v = 10
/-- goes on from a, while p, below n -/
def rnF (p : Int32 → Prop) [DecidablePred p] (T : Nat → Int32) (n : Nat) : Nat → Nat → Nat
  | 0, a => a
  | f + 1, a => if a < n ∧ p (T a) then rnF p T n f (a + 1) else a
def rn (p : Int32 → Prop) [DecidablePred p] (T : Nat → Int32) (n a : Nat) : Nat := rnF p T n (n - a) a
theorem rn_go {p : Int32 → Prop} [DecidablePred p] {T : Nat → Int32} {n a : Nat} (h : a < n) (hp : p (T a)) : rn p T n a = rn p T n (a + 1) := by
  unfold rn
  obtain ⟨f, hf⟩ : ∃ f, n - a = f + 1 := ⟨n - a - 1, by omega⟩
  rw [hf, show n - (a + 1) = f by omega]
  exact if_pos ⟨h, hp⟩
theorem rn_stop {p : Int32 → Prop} [DecidablePred p] {T : Nat → Int32} {n a : Nat} (h : ¬ (a < n ∧ p (T a))) : rn p T n a = a := by
  unfold rn
  generalize n - a = f
  cases f with
  | zero => rfl
  | succ f => exact if_neg h
theorem rnF_all (p : Int32 → Prop) [DecidablePred p] (T : Nat → Int32) (n : Nat) : ∀ f a, n - a ≤ f → a ≤ rnF p T n f a ∧ (a ≤ n → rnF p T n f a ≤ n) ∧ (∀ j, a ≤ j → j < rnF p T n f a → j < n ∧ p (T j)) ∧ ¬ (rnF p T n f a < n ∧ p (T (rnF p T n f a))) := by
  intro f
  induction f with
  | zero => intro a h; exact ⟨Nat.le_refl _, fun q => q, fun j h1 h2 => absurd h2 (Nat.not_lt.mpr h1), fun q => absurd q.1 (by show ¬ a < n; omega)⟩
  | succ f ih =>
    intro a h
    have e : rnF p T n (f + 1) a = if a < n ∧ p (T a) then rnF p T n f (a + 1) else a := rfl
    by_cases c : a < n ∧ p (T a)
    · rw [e, if_pos c]
      obtain ⟨i1, i2, i3, i4⟩ := ih (a + 1) (by omega)
      refine ⟨by omega, fun q => i2 (by omega), fun j h1 h2 => ?_, i4⟩
      by_cases ej : j = a
      · rw [ej]; exact c
      · exact i3 j (by omega) h2
    · rw [e, if_neg c]
      exact ⟨Nat.le_refl _, fun q => q, fun j h1 h2 => absurd h2 (Nat.not_lt.mpr h1), c⟩
theorem rn_ge {p : Int32 → Prop} [DecidablePred p] {T : Nat → Int32} {n a : Nat} : a ≤ rn p T n a := (rnF_all p T n _ a (Nat.le_refl _)).1
theorem rn_le {p : Int32 → Prop} [DecidablePred p] {T : Nat → Int32} {n a : Nat} (h : a ≤ n) : rn p T n a ≤ n := (rnF_all p T n _ a (Nat.le_refl _)).2.1 h
theorem rn_in {p : Int32 → Prop} [DecidablePred p] {T : Nat → Int32} {n a j : Nat} (h : a ≤ j) (h2 : j < rn p T n a) : j < n ∧ p (T j) := (rnF_all p T n _ a (Nat.le_refl _)).2.2.1 j h h2
theorem rn_end {p : Int32 → Prop} [DecidablePred p] {T : Nat → Int32} {n a : Nat} : ¬ (rn p T n a < n ∧ p (T (rn p T n a))) := (rnF_all p T n _ a (Nat.le_refl _)).2.2.2
/-- where a token that starts at a ends -/
def tEnd (T : Nat → Int32) (n a : Nat) : Nat := if isLt (T a) then rn isLt T n (a + 1) else if isDg (T a) then rn isDg T n (a + 1) else a + 1
theorem tEnd_gt {T : Nat → Int32} {n a : Nat} : a < tEnd T n a := by
  unfold tEnd
  split
  · have := @rn_ge isLt _ T n (a + 1); omega
  · split
    · have := @rn_ge isDg _ T n (a + 1); omega
    · omega
theorem tEnd_le {T : Nat → Int32} {n a : Nat} (h : a < n) : tEnd T n a ≤ n := by
  unfold tEnd
  split
  · exact rn_le (by omega)
  · split
    · exact rn_le (by omega)
    · omega
/-- the words: their lengths, their signs, the texts that the class has of them -/
def wdl (k : Nat) : Nat := [6, 5, 4, 4, 4, 7, 5, 5, 6, 2, 3, 3].getD k 0
def wdc (k i : Nat) : Int32 := wdsL.getD (8 * k + i) 0
def wtx (k : Nat) : Nat := [7, 8, 9, 1, 2, 3, 4, 5, 6, 10, 11, 12].getD k 0
theorem wtx_all : ∀ k, k < 12 → wtx k < 14 ∧ (xTX.getD (wtx k) []).length = wdl k ∧ ∀ i, i < wdl k → xchr (wtx k) i = wdc k i := by decide +kernel
theorem wdl_all : ∀ k, k < 12 → 1 < wdl k ∧ wdl k < 8 ∧ (∀ i, i < wdl k → isLt (wdc k i)) ∧ ∀ i, i < 8 → wdl k ≤ i → wdc k i = 32 := by decide +kernel
theorem wdl_uni : ∀ j, j < 12 → ∀ k, k < 12 → wdl j = wdl k → (∀ i, i < wdl k → wdc j i = wdc k i) → j = k := by decide +kernel
abbrev spl (T : Nat → Int32) (a e k : Nat) : Prop := e = a + wdl k ∧ ∀ i, i < wdl k → T (a + i) = wdc k i
theorem spl_uni {T : Nat → Int32} {a e j k : Nat} (hj : j < 12) (hk : k < 12) (h1 : spl T a e j) (h2 : spl T a e k) : j = k := by
  have el : wdl j = wdl k := by have := h1.1; have := h2.1; omega
  refine wdl_uni j hj k hk el (fun i hi => ?_)
  rw [← h1.2 i (by omega), ← h2.2 i hi]
/-- which word stands from a to e, of the first m; 12: none -/
def wG (T : Nat → Int32) (a e : Nat) : Nat → Nat
  | 0 => 12
  | m + 1 => if spl T a e m then m else wG T a e m
def wIx (T : Nat → Int32) (a e : Nat) : Nat := wG T a e 12
theorem wG_is {T : Nat → Int32} {a e k : Nat} (hk : k < 12) (h : spl T a e k) : ∀ m, k < m → m ≤ 12 → wG T a e m = k := by
  intro m
  induction m with
  | zero => intro q; omega
  | succ m ih =>
    intro q1 q2
    show (if spl T a e m then m else wG T a e m) = k
    by_cases c : spl T a e m
    · rw [if_pos c]; exact spl_uni (by omega) hk c h
    · rw [if_neg c]
      refine ih ?_ (by omega)
      have : k ≠ m := fun z => c (z ▸ h)
      omega
theorem wIx_is {T : Nat → Int32} {a e k : Nat} (hk : k < 12) (h : spl T a e k) : wIx T a e = k := wG_is hk h 12 hk (Nat.le_refl _)
theorem wG_no {T : Nat → Int32} {a e : Nat} : ∀ m, (∀ k, k < m → ¬ spl T a e k) → wG T a e m = 12 := by
  intro m
  induction m with
  | zero => intro _; rfl
  | succ m ih =>
    intro h
    show (if spl T a e m then m else wG T a e m) = 12
    rw [if_neg (h m (by omega))]
    exact ih (fun k hk => h k (by omega))
theorem wIx_no {T : Nat → Int32} {a e : Nat} (h : ∀ k, k < 12 → ¬ spl T a e k) : wIx T a e = 12 := wG_no 12 h
theorem wIx_cases (T : Nat → Int32) (a e : Nat) : (wIx T a e < 12 ∧ spl T a e (wIx T a e)) ∨ (wIx T a e = 12 ∧ ∀ k, k < 12 → ¬ spl T a e k) := by
  by_cases c : ∃ k, k < 12 ∧ spl T a e k
  · obtain ⟨k, hk, h⟩ := c
    rw [wIx_is hk h]
    exact Or.inl ⟨hk, h⟩
  · have h : ∀ k, k < 12 → ¬ spl T a e k := fun k hk z => c ⟨k, hk, z⟩
    exact Or.inr ⟨wIx_no h, h⟩
theorem wIx_iff {T : Nat → Int32} {a e k : Nat} (hk : k < 12) : spl T a e k ↔ wIx T a e = k := by
  constructor
  · exact wIx_is hk
  · intro h
    rcases wIx_cases T a e with ⟨h1, h2⟩ | ⟨h1, _⟩
    · rw [h] at h2; exact h2
    · omega
/-- the number in k signs from a -/
def numF (T : Nat → Int32) (a : Nat) : Nat → Int32
  | 0 => 0
  | k + 1 => numF T a k * 10 + T (a + k) - 48
abbrev isSg (v : Int32) : Prop := v = 40 ∨ v = 41 ∨ v = 59 ∨ v = 43 ∨ v = 45 ∨ v = 42 ∨ v = 60 ∨ v = 61
/-- the kind of a word, by its number -/
def wKd (w : Nat) : Int32 := if w = 0 then 256 else if w = 1 then 257 else if w = 2 then 258 else if w = 9 then 259 else if w = 10 then 260 else if w = 11 then 261 else if w = 12 then 265 else 262
def wNm (w : Nat) : Int32 := if 3 ≤ w ∧ w ≤ 8 then nI (w - 3) else -1
/-- the kind and the value of the token that starts at a -/
def tKd (T : Nat → Int32) (n a : Nat) : Int32 := if isLt (T a) then wKd (wIx T a (tEnd T n a)) else if isDg (T a) then (if tEnd T n a - a ≤ 4 then 263 else 265) else if isSg (T a) then T a else 265
def tVl (T : Nat → Int32) (n a : Nat) : Int32 := if isDg (T a) then numF T a (tEnd T n a - a) else wNm (wIx T a (tEnd T n a))
-- the class's
theorem nI_subI {a b : Nat} (h : b ≤ a) (ha : a < 2147483648) : nI a - nI b = nI (a - b) := by
  rw [ti_eq, ti_sub (by rw [ti_nI ha, ti_nI (by omega)]; omega) (by rw [ti_nI ha, ti_nI (by omega)]; omega), ti_nI ha, ti_nI (by omega), ti_nI (by omega)]
  omega
theorem s_Tape_byteAt {E : XE} {d n i : Nat} {H : HH} {Q : Int32 → HH → Prop} (hn : H 6 0 1 = nI n) (h160 : n ≤ 160) (hi : i < n) (h : Q (H 7 0 i) H) : c_Tape_byteAt E d (nI i) H Q := by
  refine l_Tape_byteAt ⟨fun q => absurd q (nI_pos (by omega)), fun _ => ⟨fun q => ?_, fun _ => ⟨fun q => ?_, fun _ => ⟨vp_in_nI (by omega) (by omega), ?_⟩⟩⟩⟩
  · rw [hn, nI_leI (by omega) (by omega)] at q; omega
  · rw [show (160 : Int32) = nI 160 from rfl, nI_leI (by omega) (by omega)] at q; omega
  · rw [nI_clamp (by omega)]; exact h
theorem s_Tape_isLetter {E : XE} {d : Nat} {v : Int32} {H : HH} {Q : Int32 → HH → Prop} (h1 : isLt v → Q 1 H) (h0 : ¬ isLt v → Q 0 H) : c_Tape_isLetter E d v H Q := by
  refine l_Tape_isLetter ?_
  unfold p_Tape_isLetter
  by_cases c : v < 97
  · rw [if_pos c]; exact ⟨Or.inl rfl, h0 (fun q => by have := q.1; simp only [ti_le, ti_lt] at *; omega)⟩
  · rw [if_neg c]
    by_cases c2 : 122 < v
    · rw [if_pos c2]; exact ⟨Or.inl rfl, h0 (fun q => by have := q.2; simp only [ti_le, ti_lt] at *; omega)⟩
    · rw [if_neg c2]; exact ⟨Or.inr rfl, h1 ⟨by simp only [ti_le, ti_lt] at *; omega, by simp only [ti_le, ti_lt] at *; omega⟩⟩
theorem s_Tape_isDigit {E : XE} {d : Nat} {v : Int32} {H : HH} {Q : Int32 → HH → Prop} (h1 : isDg v → Q 1 H) (h0 : ¬ isDg v → Q 0 H) : c_Tape_isDigit E d v H Q := by
  refine l_Tape_isDigit ?_
  unfold p_Tape_isDigit
  by_cases c : v < 48
  · rw [if_pos c]; exact ⟨Or.inl rfl, h0 (fun q => by have := q.1; simp only [ti_le, ti_lt] at *; omega)⟩
  · rw [if_neg c]
    by_cases c2 : 57 < v
    · rw [if_pos c2]; exact ⟨Or.inl rfl, h0 (fun q => by have := q.2; simp only [ti_le, ti_lt] at *; omega)⟩
    · rw [if_neg c2]; exact ⟨Or.inr rfl, h1 ⟨by simp only [ti_le, ti_lt] at *; omega, by simp only [ti_le, ti_lt] at *; omega⟩⟩
theorem s_Tape_isBlank {E : XE} {d : Nat} {v : Int32} {H : HH} {Q : Int32 → HH → Prop} (h1 : isBk v → Q 1 H) (h0 : ¬ isBk v → Q 0 H) : c_Tape_isBlank E d v H Q := by
  refine l_Tape_isBlank ?_
  unfold p_Tape_isBlank
  by_cases c : v = 32
  · rw [if_pos c]; exact ⟨Or.inr rfl, h1 (Or.inl c)⟩
  · rw [if_neg c]
    by_cases c2 : v = 10
    · rw [if_pos c2]; exact ⟨Or.inr rfl, h1 (Or.inr c2)⟩
    · rw [if_neg c2]; exact ⟨Or.inl rfl, h0 (fun q => q.elim c c2)⟩
theorem s_Tape_endOfToken {E : XE} {d n a : Nat} {H : HH} {Q : Int32 → HH → Prop} (hn : H 6 0 1 = nI n) (h160 : n ≤ 160) (ha : a < n) (h : Q (nI (tEnd (H 7 0) n a)) H) : c_Tape_endOfToken E (d + 1) (nI a) H Q := by
  refine l_Tape_endOfToken (s_Tape_byteAt hn h160 ha (s_Tape_isLetter (fun c => ⟨fun z => absurd z (by decide), fun _ => ?_⟩) (fun c => ⟨fun _ => s_Tape_byteAt hn h160 ha (s_Tape_isDigit (fun c2 => ⟨fun z => absurd z (by decide), fun _ => ?_⟩) (fun c2 => ⟨fun _ => ?_, fun z => absurd rfl z⟩)), fun z => absurd rfl z⟩)))
  · have e : tEnd (H 7 0) n a = rn isLt (H 7 0) n (a + 1) := if_pos c
    rw [e] at h
    refine ⟨fun z G => G = H ∧ ∃ k, a < k ∧ k ≤ n ∧ z = nI k ∧ rn isLt (H 7 0) n (a + 1) = rn isLt (H 7 0) n k, fun z _ => n - z.toNatClampNeg, ⟨rfl, a + 1, by omega, by omega, nI_1 a, rfl⟩, ?_⟩
    rintro z G ⟨rfl, k, hk1, hk2, rfl, hk⟩
    refine ⟨fun q => ?_, fun q => ?_⟩
    · rw [hn, nI_leI (by omega) (by omega)] at q
      rw [hk, rn_stop (fun z => by omega)] at h; exact h
    · rw [hn, nI_leI (by omega) (by omega)] at q
      refine s_Tape_byteAt hn h160 (by omega) (s_Tape_isLetter (fun y => ⟨fun z => absurd z (by decide), fun _ => ⟨⟨rfl, k + 1, by omega, by omega, nI_1 k, by rw [hk, rn_go (by omega) y]⟩, ?_⟩⟩) (fun y => ⟨fun _ => ?_, fun z => absurd rfl z⟩))
      · show n - (nI k + 1).toNatClampNeg < n - (nI k).toNatClampNeg
        rw [nI_1, nI_clamp (by omega), nI_clamp (by omega)]; omega
      · rw [hk, rn_stop (fun z => y z.2)] at h; exact h
  · have e : tEnd (H 7 0) n a = rn isDg (H 7 0) n (a + 1) := by unfold tEnd; rw [if_neg c, if_pos c2]
    rw [e] at h
    refine ⟨fun z G => G = H ∧ ∃ k, a < k ∧ k ≤ n ∧ z = nI k ∧ rn isDg (H 7 0) n (a + 1) = rn isDg (H 7 0) n k, fun z _ => n - z.toNatClampNeg, ⟨rfl, a + 1, by omega, by omega, nI_1 a, rfl⟩, ?_⟩
    rintro z G ⟨rfl, k, hk1, hk2, rfl, hk⟩
    refine ⟨fun q => ?_, fun q => ?_⟩
    · rw [hn, nI_leI (by omega) (by omega)] at q
      rw [hk, rn_stop (fun z => by omega)] at h; exact h
    · rw [hn, nI_leI (by omega) (by omega)] at q
      refine s_Tape_byteAt hn h160 (by omega) (s_Tape_isDigit (fun y => ⟨fun z => absurd z (by decide), fun _ => ⟨⟨rfl, k + 1, by omega, by omega, nI_1 k, by rw [hk, rn_go (by omega) y]⟩, ?_⟩⟩) (fun y => ⟨fun _ => ?_, fun z => absurd rfl z⟩))
      · show n - (nI k + 1).toNatClampNeg < n - (nI k).toNatClampNeg
        rw [nI_1, nI_clamp (by omega), nI_clamp (by omega)]; omega
      · rw [hk, rn_stop (fun z => y z.2)] at h; exact h
  · have e : tEnd (H 7 0) n a = a + 1 := by unfold tEnd; rw [if_neg c, if_neg c2]
    rw [e] at h
    rw [nI_1]; exact h
theorem s_Tape_numberAt {E : XE} {d n a e : Nat} {H : HH} {Q : Int32 → HH → Prop} (hn : H 6 0 1 = nI n) (h160 : n ≤ 160) (ha : a ≤ e) (he : e ≤ n) (h : Q (numF (H 7 0) a (e - a)) H) : c_Tape_numberAt E (d + 1) (nI a) (nI e) H Q := by
  refine l_Tape_numberAt ⟨fun z2 z3 G => G = H ∧ ∃ k, a + k ≤ e ∧ z3 = nI (a + k) ∧ z2 = numF (H 7 0) a k, fun _ z _ => e - z.toNatClampNeg, ⟨rfl, 0, by omega, rfl, rfl⟩, ?_⟩
  rintro z2 z3 G ⟨rfl, k, hk, rfl, rfl⟩
  refine ⟨fun q => ?_, fun q => ?_⟩
  · rw [nI_leI (by omega) (by omega)] at q
    rw [show e - a = k by omega] at h; exact h
  · rw [nI_leI (by omega) (by omega)] at q
    refine s_Tape_byteAt hn h160 (by omega) (fun v7 e7 => ⟨⟨rfl, k + 1, by omega, ?_, e7⟩, ?_⟩)
    · rw [nI_1]; rfl
    · show e - (nI (a + k) + 1).toNatClampNeg < e - (nI (a + k)).toNatClampNeg
      rw [nI_1, nI_clamp (by omega), nI_clamp (by omega)]; omega
theorem s_Tape_spells {E : XE} {d n a e k w : Nat} {H : HH} {Q : Int32 → HH → Prop} (hk : k < 12) (hw : w = wtx k) (hn : H 6 0 1 = nI n) (h160 : n ≤ 160) (ha : a ≤ e) (he : e ≤ n) (h1 : spl (H 7 0) a e k → Q 1 H) (h0 : ¬ spl (H 7 0) a e k → Q 0 H) : c_Tape_spells E (d + 4) (nI a) (nI e) w H Q := by
  obtain ⟨w1, w2, w3⟩ := wtx_all k hk
  obtain ⟨l1, l2, _, _⟩ := wdl_all k hk
  subst hw
  refine l_Tape_spells (s_String_length w1 ?_)
  rw [w2, nI_subI ha (by omega)]
  refine ⟨fun q => ?_, fun q => h0 (fun z => q (by rw [z.1, show a + wdl k - a = wdl k by omega]))⟩
  have el : e - a = wdl k := (nI_eq (by omega) (by omega)).mp q
  refine ⟨fun z G => G = H ∧ ∃ i, i ≤ wdl k ∧ z = nI i ∧ ∀ j, j < i → H 7 0 (a + j) = wdc k j, fun z _ => 8 - z.toNatClampNeg, ⟨rfl, 0, by omega, rfl, fun j hj => absurd hj (Nat.not_lt_zero _)⟩, ?_⟩
  rintro z G ⟨rfl, i, hi, rfl, hj⟩
  refine s_String_length w1 ?_
  rw [w2]
  refine ⟨fun q => ?_, fun q => ?_⟩
  · rw [nI_leI (by omega) (by omega)] at q
    exact h1 ⟨by omega, fun j hj2 => hj j (by omega)⟩
  · rw [nI_leI (by omega) (by omega)] at q
    rw [nI_add]
    refine s_Tape_byteAt hn h160 (by omega) (s_String_charAt w1 (by rw [w2]; omega) ?_)
    rw [w3 i (by omega)]
    refine ⟨fun y => ⟨⟨rfl, i + 1, by omega, nI_1 i, fun j hj2 => ?_⟩, ?_⟩, fun y => h0 (fun z => y (z.2 i (by omega)))⟩
    · by_cases ej : j = i
      · rw [ej]; exact y
      · exact hj j (by omega)
    · show 8 - (nI i + 1).toNatClampNeg < 8 - (nI i).toNatClampNeg
      rw [nI_1, nI_clamp (by omega), nI_clamp (by omega)]; omega
theorem s_Tape_nameAt {E : XE} {d n a e : Nat} {H : HH} {Q : Int32 → HH → Prop} (hn : H 6 0 1 = nI n) (h160 : n ≤ 160) (ha : a ≤ e) (he : e ≤ n) (h : Q (wNm (wIx (H 7 0) a e)) H) : c_Tape_nameAt E (d + 5) (nI a) (nI e) H Q := by
  have A : ∀ {k : Nat} {x : Int32}, k < 12 → wNm k = x → spl (H 7 0) a e k → Q x H := by
    intro k x hk hx hs
    rw [wIx_is hk hs, hx] at h; exact h
  refine l_Tape_nameAt (s_Tape_spells (k := 3) (by decide) rfl hn h160 ha he (fun c => ⟨fun z => absurd z (by decide), fun _ => A (by decide) rfl c⟩) (fun c3 => ⟨fun _ => ?_, fun z => absurd rfl z⟩))
  refine s_Tape_spells (k := 4) (by decide) rfl hn h160 ha he (fun c => ⟨fun z => absurd z (by decide), fun _ => A (by decide) rfl c⟩) (fun c4 => ⟨fun _ => ?_, fun z => absurd rfl z⟩)
  refine s_Tape_spells (k := 5) (by decide) rfl hn h160 ha he (fun c => ⟨fun z => absurd z (by decide), fun _ => A (by decide) rfl c⟩) (fun c5 => ⟨fun _ => ?_, fun z => absurd rfl z⟩)
  refine s_Tape_spells (k := 6) (by decide) rfl hn h160 ha he (fun c => ⟨fun z => absurd z (by decide), fun _ => A (by decide) rfl c⟩) (fun c6 => ⟨fun _ => ?_, fun z => absurd rfl z⟩)
  refine s_Tape_spells (k := 7) (by decide) rfl hn h160 ha he (fun c => ⟨fun z => absurd z (by decide), fun _ => A (by decide) rfl c⟩) (fun c7 => ⟨fun _ => ?_, fun z => absurd rfl z⟩)
  refine s_Tape_spells (k := 8) (by decide) rfl hn h160 ha he (fun c => ⟨fun z => absurd z (by decide), fun _ => A (by decide) rfl c⟩) (fun c8 => ⟨fun _ => ?_, fun z => absurd rfl z⟩)
  rw [wIx_iff (by decide)] at c3 c4 c5 c6 c7 c8
  have e0 : wNm (wIx (H 7 0) a e) = -1 := by
    unfold wNm
    exact if_neg (by omega)
  rw [e0] at h; exact h
theorem s_Tape_wordKindAt {E : XE} {d n a e : Nat} {H : HH} {Q : Int32 → HH → Prop} (hn : H 6 0 1 = nI n) (h160 : n ≤ 160) (ha : a ≤ e) (he : e ≤ n) (h : Q (wKd (wIx (H 7 0) a e)) H) : c_Tape_wordKindAt E (d + 6) (nI a) (nI e) H Q := by
  have A : ∀ {k : Nat} {x : Int32}, k < 12 → wKd k = x → spl (H 7 0) a e k → Q x H := by
    intro k x hk hx hs
    rw [wIx_is hk hs, hx] at h; exact h
  refine l_Tape_wordKindAt (s_Tape_spells (k := 0) (by decide) rfl hn h160 ha he (fun c => ⟨fun z => absurd z (by decide), fun _ => A (by decide) rfl c⟩) (fun c3 => ⟨fun _ => ?_, fun z => absurd rfl z⟩))
  refine s_Tape_spells (k := 1) (by decide) rfl hn h160 ha he (fun c => ⟨fun z => absurd z (by decide), fun _ => A (by decide) rfl c⟩) (fun c4 => ⟨fun _ => ?_, fun z => absurd rfl z⟩)
  refine s_Tape_spells (k := 2) (by decide) rfl hn h160 ha he (fun c => ⟨fun z => absurd z (by decide), fun _ => A (by decide) rfl c⟩) (fun c5 => ⟨fun _ => ?_, fun z => absurd rfl z⟩)
  refine s_Tape_spells (k := 9) (by decide) rfl hn h160 ha he (fun c => ⟨fun z => absurd z (by decide), fun _ => A (by decide) rfl c⟩) (fun c6 => ⟨fun _ => ?_, fun z => absurd rfl z⟩)
  refine s_Tape_spells (k := 10) (by decide) rfl hn h160 ha he (fun c => ⟨fun z => absurd z (by decide), fun _ => A (by decide) rfl c⟩) (fun c7 => ⟨fun _ => ?_, fun z => absurd rfl z⟩)
  refine s_Tape_spells (k := 11) (by decide) rfl hn h160 ha he (fun c => ⟨fun z => absurd z (by decide), fun _ => A (by decide) rfl c⟩) (fun c8 => ⟨fun _ => ?_, fun z => absurd rfl z⟩)
  rw [wIx_iff (by decide)] at c3 c4 c5 c6 c7 c8
  refine s_Tape_nameAt hn h160 ha he ?_
  have e0 : (if wNm (wIx (H 7 0) a e) = -1 then 265 else 262 : Int32) = wKd (wIx (H 7 0) a e) := by
    rcases wIx_cases (H 7 0) a e with ⟨h1, _⟩ | ⟨h1, _⟩
    · generalize hw : wIx (H 7 0) a e = w at *
      rcases (show w = 3 ∨ w = 4 ∨ w = 5 ∨ w = 6 ∨ w = 7 ∨ w = 8 by omega) with rfl | rfl | rfl | rfl | rfl | rfl <;> rfl
    · rw [h1]; rfl
  rw [e0]; exact h
-- which sign
def sgL (j : Nat) : Int32 := (xTX.getD 13 []).getD j 0
theorem sg_all : ∀ b, b < 256 → ((nI b).toUInt32 % 65536).toInt32 = nI b ∧ (∀ j, j < 8 → (sgL j = (nI b).toInt8.toInt32 ↔ sgL j = nI b)) ∧ (isSg (nI b) ↔ ∃ j, j < 8 ∧ sgL j = nI b) := by decide +kernel
theorem byte_nat {v : Int32} (h0 : 0 ≤ v.toInt) (h1 : v.toInt ≤ 255) : ∃ b, b < 256 ∧ v = nI b := ⟨v.toInt.toNat, by omega, by rw [ti_eq, ti_nI (by omega)]; omega⟩
theorem s_String_indexOf {E : XE} {d : Nat} {v : Int32} {H : HH} {Q : Int32 → HH → Prop} (h0 : 0 ≤ v.toInt) (h1 : v.toInt ≤ 255) (hq1 : isSg v → ∀ x : Int32, ¬ x < 0 → Q x H) (hq0 : ¬ isSg v → ∀ x : Int32, x < 0 → Q x H) : c_String_indexOf_I E (d + 5) 13 v H Q := by
  obtain ⟨b, hb, rfl⟩ := byte_nat h0 h1
  obtain ⟨e1, e2, e3⟩ := sg_all b hb
  refine l_String_indexOf_I (l_String_indexOf_II (s_String_isLatin1 ⟨fun z => absurd z (by decide), fun _ => s_String_length (by decide) (l_Latin1_indexOf (l_Latin1_canEncode ?_))⟩))
  unfold p_Latin1_canEncode
  rw [if_neg (nI_pos (by omega)), if_neg (by rw [ti_lt, ti_nI (by omega)]; show ¬ (255 : Int) < _; omega)]
  refine ⟨Or.inr rfl, fun _ v3 e4 => ?_, fun z => absurd z (by decide)⟩
  have k3 : v3 = nI 8 := by rw [e4]; rfl
  subst k3
  refine ⟨fun _ => l_Latin1_indexOfChar (fun v1 ev1 => ?_), fun z => absurd (by decide) z⟩
  subst ev1
  refine ⟨fun z G => G = H ∧ ∃ j, j ≤ 8 ∧ z = nI j ∧ ∀ i, i < j → ¬ sgL i = nI b, fun z _ => 8 - z.toNatClampNeg, ⟨rfl, 0, by omega, rfl, fun i hi => absurd hi (Nat.not_lt_zero _)⟩, ?_⟩
  rintro z G ⟨rfl, j, hj, rfl, hi⟩
  refine ⟨fun q => ?_, fun q => ?_⟩
  · rw [nI_leI (by omega) (by omega)] at q
    refine hq0 (fun y => ?_) _ (by decide)
    obtain ⟨i, h8, hy⟩ := e3.mp y
    exact hi i (by omega) hy
  · rw [nI_leI (by omega) (by omega)] at q
    refine ⟨vp_in_nI (N := (xTX.getD 13 []).length) (show j < 8 by omega) (by decide), fun y => ⟨⟨rfl, j + 1, by omega, nI_1 j, fun i h9 => ?_⟩, ?_⟩, fun y => ?_⟩
    · rw [nI_clamp (by omega)] at y
      by_cases ei : i = j
      · subst ei
        exact fun z => y ((e2 i (by omega)).mpr z)
      · exact hi i (by omega)
    · show 8 - (nI j + 1).toNatClampNeg < 8 - (nI j).toNatClampNeg
      rw [nI_1, nI_clamp (by omega), nI_clamp (by omega)]; omega
    · rw [nI_clamp (by omega)] at y
      exact hq1 (e3.mpr ⟨j, by omega, (e2 j (by omega)).mp y⟩) _ (nI_pos (by omega))
theorem s_Tape_kindAt {E : XE} {d n a : Nat} {H : HH} {Q : Int32 → HH → Prop} (hn : H 6 0 1 = nI n) (h160 : n ≤ 160) (ha : a < n) (hb : 0 ≤ (H 7 0 a).toInt ∧ (H 7 0 a).toInt ≤ 255) (h : Q (tKd (H 7 0) n a) H) : c_Tape_kindAt E (d + 7) (nI a) (nI (tEnd (H 7 0) n a)) H Q := by
  have g1 := @tEnd_gt (H 7 0) n a
  have g2 := tEnd_le (T := H 7 0) ha
  unfold tKd at h
  refine l_Tape_kindAt (s_Tape_byteAt hn h160 ha (s_Tape_isLetter (fun c => ⟨fun z => absurd z (by decide), fun _ => ?_⟩) (fun c => ⟨fun _ => s_Tape_isDigit (fun c2 => ⟨fun z => absurd z (by decide), fun _ => ?_⟩) (fun c2 => ⟨fun _ => ?_, fun z => absurd rfl z⟩), fun z => absurd rfl z⟩)))
  · rw [if_pos c] at h
    exact s_Tape_wordKindAt hn h160 (by omega) g2 h
  · rw [if_neg c, if_pos c2] at h
    rw [nI_subI (by omega) (by omega)]
    have e4 : nI (tEnd (H 7 0) n a - a) ≤ (4 : Int32) ↔ tEnd (H 7 0) n a - a ≤ 4 := nI_leI (b := 4) (by omega) (by omega)
    by_cases c4 : tEnd (H 7 0) n a - a ≤ 4
    · rw [if_pos (e4.mpr c4)]; rw [if_pos c4] at h; exact h
    · rw [if_neg (fun z => c4 (e4.mp z))]; rw [if_neg c4] at h; exact h
  · rw [if_neg c, if_neg c2] at h
    obtain ⟨b, hb2, eb⟩ := byte_nat hb.1 hb.2
    have eu : ((H 7 0 a).toUInt32 % 65536).toInt32 = H 7 0 a := by rw [eb]; exact (sg_all b hb2).1
    rw [eu]
    refine s_String_indexOf hb.1 hb.2 (fun s x hx => ?_) (fun s x hx => ?_)
    · rw [if_pos s] at h; rw [if_neg hx]; exact h
    · rw [if_neg s] at h; rw [if_pos hx]; exact h
