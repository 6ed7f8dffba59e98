/-! PURE 4 and SPECS 14: the states from which a step leads to one. -/
theorem st_all : ∀ q, q < 61 → xmax 0 (xmin (nI q) 60) = nI q := by decide +kernel
theorem a15_all : ∀ a, a < 16 → nI a &&& 15 = nI a := by decide +kernel
theorem a1_all : ∀ b, b < 2 → nI b &&& 1 = nI b := by decide +kernel
/-- a state's number -/
def sno (p h l : Nat) : Nat := 32 * p + 2 * h + l
theorem s_Search_state {E : XE} {d p a b : Nat} {H : HH} {Q : Int32 → HH → Prop} (hp : p < 61) (ha : a < 16) (hb : b < 2) (h : Q (nI (sno p a b)) H) : c_Search_state E (d + 1) (nI p) (nI a) (nI b) H Q := by
  refine l_Search_state (fun v1 e1 => ?_)
  have e : (v1 * 16 + (nI a &&& 15)) * 2 + (nI b &&& 1) = nI (sno p a b) := by
    rw [e1, st_all p hp, a15_all a ha, a1_all b hb, show (16 : Int32) = nI 16 from rfl, show (2 : Int32) = nI 2 from rfl, nI_mul, nI_add, nI_mul, nI_add]
    unfold sno
    congr 1
    omega
  rw [e]
  exact h
abbrev CW : Type := (Nat → Option Nat) × (Nat → Bool)
/-- lower, on costs and who waits -/
def lowF (ft : Nat → Bool) (s : CW) (e : Nat × Nat) : CW :=
  if (match s.1 e.1 with | some k => decide (k ≤ e.2) | none => false) || !(ft e.1) then s else (fun y => if y = e.1 then some e.2 else s.1 y, fun y => if y = e.1 then true else s.2 y)
/-- where a state fits, by the table -/
def ftH (H : HH) (x : Nat) : Bool := !decide (H 22 0 (x / 2) = 0)
/-- costs, buckets, for some lists -/
def bkS (H : HH) (s : CW) : Prop := ∃ L, bkOK H s.1 L s.2
/-- who doesn't wait has cost k at most -/
def popLE (s : CW) (k : Nat) : Prop := ∀ y k0, s.1 y = some k0 → s.2 y = false → k0 ≤ k
theorem popLE.low {ft : Nat → Bool} {s : CW} {k : Nat} {e : Nat × Nat} (h : popLE s k) : popLE (lowF ft s e) k := by
  intro y k0 h1 h2
  unfold lowF at h1 h2
  by_cases c : ((match s.1 e.1 with | some k => decide (k ≤ e.2) | none => false) || !(ft e.1)) = true
  · rw [if_pos c] at h1 h2; exact h y k0 h1 h2
  · rw [if_neg c] at h1 h2
    by_cases q : y = e.1
    · simp [q] at h2
    · simp only [if_neg q] at h1 h2; exact h y k0 h1 h2
theorem s_low {E : XE} {d k : Nat} {s : CW} {e : Nat × Nat} {H : HH} {Q : HH → Prop} (hb : bkS H s) (hx : e.1 < 1952) (hk : e.2 < 1000000) (hp : popLE s k) (hke : k ≤ e.2)
    (h : ∀ H1, bkFr H H1 → bkS H1 (lowF (ftH H) s e) → Q H1) : c_Search_lower E (d + 1) (nI e.1) (nI e.2) H Q := by
  obtain ⟨L, hb⟩ := hb
  refine s_Search_lower hb hx hk (fun k0 h0 hlt => ?_) (fun hno => ?_) (fun hlow hf H1 L1 hF hb1 => ?_)
  · cases hw : s.2 e.1 with
    | true => rfl
    | false => exact absurd (hp e.1 k0 h0 hw) (by omega)
  · refine h H bkFr.rf ⟨L, ?_⟩
    unfold lowF
    rw [if_pos]
    · exact hb
    · rcases hno with ⟨k0, h0, h1⟩ | h0
      · rw [h0]; simp [h1]
      · simp [ftH, h0]
  · refine h H1 hF ⟨L1, ?_⟩
    unfold lowF
    rw [if_neg]
    · exact hb1
    · intro q
      rw [Bool.or_eq_true] at q
      rcases q with q | q
      · cases hc : s.1 e.1 with
        | none => rw [hc] at q; simp at q
        | some k0 =>
          rw [hc] at q
          have := hlow k0 hc
          simp at q
          omega
      · simp [ftH, hf] at q
/-- a place and heading from which a step (way, wheel) leads to place p, heading h; t: what TURNS tells -/
def prd (tu : Int32 → Int32 → Int32) (wd : Int32) (way wh : Int32) (p h : Nat) : Option (Nat × Nat) :=
  let b := (nI h - tu way wh) &&& 15
  let f := nI p - shF b way
  if f < 0 ∨ ¬ f ≤ wd then none else some (f.toNatClampNeg, b.toNatClampNeg)
theorem prd_some {tu : Int32 → Int32 → Int32} {wdn : Nat} {way wh : Int32} {p h : Nat} (hw : wdn < 61) {q : Nat × Nat} (e : prd tu (nI wdn) way wh p h = some q) : q.1 ≤ wdn ∧ q.2 < 16 ∧ nI p - shF ((nI h - tu way wh) &&& 15) way = nI q.1 ∧ (nI h - tu way wh) &&& 15 = nI q.2 := by
  unfold prd at e
  by_cases c : nI p - shF ((nI h - tu way wh) &&& 15) way < 0 ∨ ¬ nI p - shF ((nI h - tu way wh) &&& 15) way ≤ nI wdn
  · simp only [if_pos c] at e; cases e
  · simp only [if_neg c] at e
    cases e
    simp only [not_or] at c
    obtain ⟨c1, c2⟩ := c
    obtain ⟨a, ha, ea⟩ := and15_nI (nI h - tu way wh)
    obtain ⟨f, hf, ef⟩ := nI_of c1
    rw [ef, nI_leI (by omega) (by omega)] at c2
    have c3 : f ≤ wdn := by
      rcases Nat.lt_or_ge wdn f with q | q
      · exact absurd q (by omega)
      · exact q
    refine ⟨?_, ?_, ?_, ?_⟩
    · rw [ef, nI_clamp hf]; exact c3
    · rw [ea, nI_clamp (by omega)]; exact ha
    · rw [ef, nI_clamp hf]
    · rw [ea, nI_clamp (by omega)]
