/-! SPECS 2: the small methods of the class. -/
theorem s_Main_isWithin {E : XE} {d : Nat} {v a b : Int32} {H : HH} {Q : Int32 → HH → Prop} (h1 : a ≤ v → v ≤ b → Q 1 H) (h0 : ¬ (a ≤ v ∧ v ≤ b) → Q 0 H) : c_Main_isWithin E d v a b H Q := by
  refine l_Main_isWithin ?_
  by_cases q1 : v < a
  · simp only [p_Main_isWithin, if_pos q1]
    refine ⟨Or.inl trivial, h0 fun q => ?_⟩
    have := q.1
    simp only [ti_lt, ti_le] at *
    omega
  · by_cases q2 : b < v
    · simp only [p_Main_isWithin, if_neg q1, if_pos q2]
      refine ⟨Or.inl trivial, h0 fun q => ?_⟩
      have := q.2
      simp only [ti_lt, ti_le] at *
      omega
    · simp only [p_Main_isWithin, if_neg q1, if_neg q2]
      refine ⟨Or.inr trivial, h1 ?_ ?_⟩
      · simp only [ti_lt, ti_le] at *; omega
      · simp only [ti_lt, ti_le] at *; omega
theorem s_Main_isByte {E : XE} {d : Nat} {v : Int32} {H : HH} {Q : Int32 → HH → Prop} (h1 : 0 ≤ v → v ≤ 255 → Q 1 H) (h0 : ¬ (0 ≤ v ∧ v ≤ 255) → Q 0 H) : c_Main_isByte E (d + 1) v H Q :=
  l_Main_isByte (s_Main_isWithin (fun a b => ⟨Or.inr rfl, h1 a b⟩) (fun a => ⟨Or.inl rfl, h0 a⟩))
theorem s_Main_isTwoFlags {E : XE} {d : Nat} {v : Int32} {H : HH} {Q : Int32 → HH → Prop} (h1 : (v = 0 ∨ v = 1 ∨ v = 10 ∨ v = 11) → Q 1 H) (h0 : ¬ (v = 0 ∨ v = 1 ∨ v = 10 ∨ v = 11) → Q 0 H) : c_Main_isTwoFlags E d v H Q := by
  refine l_Main_isTwoFlags ?_
  by_cases q : v = 0 ∨ v = 1 ∨ v = 10 ∨ v = 11
  · have e : (if v = 0 then 1 else (if v = 1 then 1 else (if v = 10 then 1 else (if v = 11 then 1 else 0 : Int32) : Int32) : Int32) : Int32) = 1 := by
      rcases q with rfl | rfl | rfl | rfl <;> rfl
    simp only [p_Main_isTwoFlags, e]
    exact ⟨Or.inr trivial, h1 q⟩
  · simp only [not_or] at q
    simp only [p_Main_isTwoFlags, if_neg q.1, if_neg q.2.1, if_neg q.2.2.1, if_neg q.2.2.2]
    exact ⟨Or.inl trivial, h0 (by simp only [not_or]; exact q)⟩
/-- ACROSS -/
def acr (h : Int32) : Int32 := xACR.getD (h &&& 15).toNatClampNeg 0
theorem and15 (h : Int32) : 0 ≤ (h &&& 15).toInt ∧ (h &&& 15).toInt < 16 := by
  obtain ⟨j, hj, e⟩ := pk_andE h (m := 15) 4 (by decide)
  rw [show h &&& 15 = nI j from e, ti_nI (by omega)]
  omega
theorem s_Main_across {E : XE} {d : Nat} {x : Int32} {H : HH} {Q : Int32 → HH → Prop} (h : Q (acr x) H) : c_Main_across E d x H Q :=
  l_Main_across ⟨ti_in (and15 x).1 (and15 x).2, h⟩
theorem s_Main_otherHeading {E : XE} {d : Nat} {x : Int32} {H : HH} {Q : Int32 → HH → Prop} (h : Q ((x + 8) &&& 15) H) : c_Main_otherHeading E d x H Q := l_Main_otherHeading h
theorem s_Main_isSheet {E : XE} {d : Nat} {x : Int32} {H : HH} {Q : Int32 → HH → Prop} (h1 : 0 ≤ x → x < 4 → Q 1 H) (h0 : ¬ (0 ≤ x ∧ x < 4) → Q 0 H) : c_Main_isSheet E d x H Q := by
  refine l_Main_isSheet ?_
  by_cases q1 : x < 0
  · simp only [p_Main_isSheet, if_pos q1]
    refine ⟨Or.inl trivial, h0 fun q => ?_⟩
    have := q.1
    simp only [ti_lt, ti_le] at *
    omega
  · by_cases q2 : 4 ≤ x
    · simp only [p_Main_isSheet, if_neg q1, if_pos q2]
      refine ⟨Or.inl trivial, h0 fun q => ?_⟩
      have := q.2
      simp only [ti_lt, ti_le] at *
      omega
    · simp only [p_Main_isSheet, if_neg q1, if_neg q2]
      refine ⟨Or.inr trivial, h1 ?_ ?_⟩
      · simp only [ti_lt, ti_le] at *; omega
      · simp only [ti_lt, ti_le] at *; omega
/-- FRONT, BACK, TURNS by kind and more -/
def frF (k m : Int32) : Int32 := if k = 1 ∨ k = 3 then 5 + m else if k = 4 then 3 else 5
def bkF (k m : Int32) : Int32 := if k = 2 ∨ k = 4 then 2 else if k = 3 then 4 + m else 4
def tuF (k m way w : Int32) : Int32 := if k = 3 then (if way = 0 then w else if 4 < m then 0 else w) else if k = 4 then 2 * (if way = 0 then w else -w) else if k = 5 then (if (0 < w ↔ xrem m 2 = 0) then (if way = 0 then w else -w) else 0) else (if way = 0 then w else -w)
theorem s_Vehicle_front {E : XE} {d t : Nat} {H : HH} {Q : Int32 → HH → Prop} (h : Q (frF (H 3 t 0) (H 3 t 1)) H) : c_Vehicle_front E d t H Q := by
  refine l_Vehicle_front ⟨fun e => ?_, fun e => ?_, fun e => ?_, fun e1 e2 e3 => ?_⟩
  · rw [frF, if_pos (Or.inl e)] at h; exact h
  · rw [frF, if_pos (Or.inr e)] at h; exact h
  · rw [frF, if_neg (by rw [e]; decide), if_pos e] at h; exact h
  · rw [frF, if_neg (fun q => q.elim e1 e2), if_neg e3] at h; exact h
theorem s_Vehicle_behind {E : XE} {d t : Nat} {H : HH} {Q : Int32 → HH → Prop} (h : Q (bkF (H 3 t 0) (H 3 t 1)) H) : c_Vehicle_behind E d t H Q := by
  refine l_Vehicle_behind ⟨fun e => ?_, fun e => ?_, fun e => ?_, fun e1 e2 e3 => ?_⟩
  · rw [bkF, if_pos (Or.inl e)] at h; exact h
  · rw [bkF, if_neg (by rw [e]; decide), if_pos e] at h; exact h
  · rw [bkF, if_pos (Or.inr e)] at h; exact h
  · rw [bkF, if_neg (fun q => q.elim e1 e3), if_neg e2] at h; exact h
theorem s_Vehicle_turns {E : XE} {d t : Nat} {way w : Int32} {H : HH} {Q : Int32 → HH → Prop} (h : Q (tuF (H 3 t 0) (H 3 t 1) way w) H) : c_Vehicle_turns E d t way w H Q := by
  refine l_Vehicle_turns (fun v2 e2 => ⟨fun e => ⟨fun q => ?_, fun q => ?_⟩, fun e => ?_, fun e => ?_, fun e3 e4 e5 => ?_⟩)
  · rw [tuF, if_pos e, if_neg q] at h
    have ev : (if (H 3 t 1) ≤ 4 then (-v2) else 0 : Int32) = if 4 < (H 3 t 1) then 0 else w := by
      rw [e2, if_neg q]
      by_cases z : (H 3 t 1) ≤ 4
      · rw [if_pos z, if_neg (by simp only [ti_lt, ti_le] at *; omega), Int32.neg_neg]
      · rw [if_neg z, if_pos (by simp only [ti_lt, ti_le] at *; omega)]
    rw [ev]; exact h
  · rw [tuF, if_pos e, if_pos q] at h
    rw [e2, if_pos q]; exact h
  · rw [tuF, if_neg (by rw [e]; decide), if_pos e] at h
    rw [e2]; exact h
  · rw [tuF, if_neg (by rw [e]; decide), if_neg (by rw [e]; decide), if_pos e] at h
    have ev : (if (if w ≤ 0 then 0 else 1 : Int32) = (if (xrem (H 3 t 1) 2) = 0 then 1 else 0 : Int32) then v2 else 0 : Int32) = (if (0 < w ↔ xrem (H 3 t 1) 2 = 0) then (if way = 0 then w else -w) else 0) := by
      rw [e2]
      have hw : (0 < w) ↔ ¬ w ≤ 0 := by simp only [ti_lt, ti_le]; omega
      by_cases z : w ≤ 0
      · by_cases y : xrem (H 3 t 1) 2 = 0
        · rw [if_pos z, if_pos y, if_neg (by decide), if_neg (fun q => hw.mp (q.mpr y) z)]
        · rw [if_pos z, if_neg y, if_pos (show (0 : Int32) = 0 from rfl), if_pos (show (0 < w ↔ xrem (H 3 t 1) 2 = 0) from ⟨fun q => absurd z (hw.mp q), fun q => absurd q y⟩)]
      · by_cases y : xrem (H 3 t 1) 2 = 0
        · rw [if_neg z, if_pos y, if_pos (show (1 : Int32) = 1 from rfl), if_pos (show (0 < w ↔ xrem (H 3 t 1) 2 = 0) from ⟨fun _ => y, fun _ => hw.mpr z⟩)]
        · rw [if_neg z, if_neg y, if_neg (by decide), if_neg (fun q => y (q.mp (hw.mpr z)))]
    rw [ev]; exact h
  · rw [tuF, if_neg e3, if_neg e4, if_neg e5] at h
    rw [e2]; exact h
theorem s_Lane_become {E : XE} {d t u : Nat} {H : HH} {Q : HH → Prop} (h : Q (hrow H 2 t (fun k => if k < 3 then H 2 u k else H 2 t k))) : c_Lane_become E d t u H Q := by
  refine l_Lane_become (fun H1 e1 H2 e2 H3 e3 => ?_)
  have e : H3 = hrow H 2 t (fun k => if k < 3 then H 2 u k else H 2 t k) := by
    subst e3; subst e2; subst e1
    funext a b c
    by_cases ha : a = 2 ∧ b = t
    · obtain ⟨rfl, rfl⟩ := ha
      rcases (show c = 0 ∨ c = 1 ∨ c = 2 ∨ 3 ≤ c by omega) with rfl | rfl | rfl | hc
      · simp [hu, hrow]
      · simp [hu, hrow]
      · simp [hu, hrow]
      · have h0 : ¬ c = 0 := by omega
        have h1 : ¬ c = 1 := by omega
        have h2 : ¬ c = 2 := by omega
        have h3 : ¬ c < 3 := by omega
        simp [hu, hrow, h0, h1, h2, h3]
    · have hb : ∀ k : Nat, ¬ (a = 2 ∧ b = t ∧ c = k) := fun k q => ha ⟨q.1, q.2.1⟩
      simp only [hu, hrow, if_neg ha, if_neg (hb _)]
  rw [e]; exact h
theorem s_Vehicle_become {E : XE} {d t u : Nat} {H : HH} {Q : HH → Prop} (h : Q (hrow H 3 t (fun k => if k < 7 then H 3 u k else H 3 t k))) : c_Vehicle_become E d t u H Q := by
  refine l_Vehicle_become (fun H1 e1 H2 e2 H3 e3 H4 e4 H5 e5 H6 e6 H7 e7 => ?_)
  have e : H7 = hrow H 3 t (fun k => if k < 7 then H 3 u k else H 3 t k) := by
    subst e7; subst e6; subst e5; subst e4; subst e3; subst e2; subst e1
    funext a b c
    by_cases ha : a = 3 ∧ b = t
    · obtain ⟨rfl, rfl⟩ := ha
      rcases (show c = 0 ∨ c = 1 ∨ c = 2 ∨ c = 3 ∨ c = 4 ∨ c = 5 ∨ c = 6 ∨ 7 ≤ c by omega) with rfl | rfl | rfl | rfl | rfl | rfl | rfl | hc
      · simp [hu, hrow]
      · simp [hu, hrow]
      · simp [hu, hrow]
      · simp [hu, hrow]
      · simp [hu, hrow]
      · simp [hu, hrow]
      · simp [hu, hrow]
      · have h0 : ¬ c = 0 := by omega
        have h1 : ¬ c = 1 := by omega
        have h2 : ¬ c = 2 := by omega
        have h3 : ¬ c = 3 := by omega
        have h4 : ¬ c = 4 := by omega
        have h5 : ¬ c = 5 := by omega
        have h6 : ¬ c = 6 := by omega
        have h7 : ¬ c < 7 := by omega
        simp [hu, hrow, h0, h1, h2, h3, h4, h5, h6, h7]
    · have hb : ∀ k : Nat, ¬ (a = 3 ∧ b = t ∧ c = k) := fun k q => ha ⟨q.1, q.2.1⟩
      simp only [hu, hrow, if_neg ha, if_neg (hb _)]
  rw [e]; exact h
theorem s_Vehicle_startAt {E : XE} {d t : Nat} {x : Int32} {H : HH} {Q : HH → Prop} (h : Q (hu (hu (hu (hu (hu H 3 t 2 x) 3 t 3 0) 3 t 4 0) 3 t 5 0) 3 t 6 (-1))) : c_Vehicle_startAt E d t x H Q :=
  l_Vehicle_startAt (fun H1 e1 => by rw [e1]; exact h)
theorem s_Vehicle_stepTo {E : XE} {d t : Nat} {p hd way wn : Int32} {H : HH} {Q : HH → Prop} (h : Q (hu (hu (hu (hu (hu H 3 t 2 p) 3 t 3 hd) 3 t 5 (xmin (H 3 t 5 + wn) 9999)) 3 t 4 (if way = H 3 t 6 then H 3 t 4 else xmin (H 3 t 4 + 1) 9999)) 3 t 6 way)) : c_Vehicle_stepTo E (d + 1) t p hd way wn H Q := by
  refine l_Vehicle_stepTo (fun H1 e1 H2 e2 => ?_)
  have a6 : H2 3 t 6 = H 3 t 6 := by rw [e2, e1]; simp [hu]
  have a4 : H2 3 t 4 = H 3 t 4 := by rw [e2, e1]; simp [hu]
  have a5 : H1 3 t 5 = H 3 t 5 := by rw [e1]; simp [hu]
  rw [a6, a4]
  refine ⟨fun c H3 e3 => ?_, fun c H4 e4 => ?_⟩
  · rw [if_pos c] at h
    have e : H3 = hu (hu (hu (hu (hu H 3 t 2 p) 3 t 3 hd) 3 t 5 (xmin (H 3 t 5 + wn) 9999)) 3 t 4 (H 3 t 4)) 3 t 6 way := by
      rw [e3, e2, e1, show (hu (hu H 3 t 2 p) 3 t 3 hd) 3 t 5 = H 3 t 5 by simp [hu]]
      congr 1
      funext a b c
      by_cases q : a = 3 ∧ b = t ∧ c = 4
      · obtain ⟨rfl, rfl, rfl⟩ := q
        simp [hu]
      · simp only [hu, if_neg q]
    rw [e]; exact h
  · rw [if_neg c] at h
    rw [e4, e2, a5, e1]; exact h
/-- is a k of a kind an asked one, too -/
def isaF (k a : Int32) : Int32 := if k = a ∨ (0 ≤ k ∧ k < 6 ∧ (a = 0 ∨ (a = 1 ∧ k = 3) ∨ (a = 2 ∧ k = 4))) then 1 else 0
theorem s_Sheet_isMissing {E : XE} {d t : Nat} {H : HH} {Q : Int32 → HH → Prop} (h1 : H 16 t 1 = -1 → Q 1 H) (h0 : ¬ H 16 t 1 = -1 → Q 0 H) : c_Sheet_isMissing E d t H Q := by
  refine l_Sheet_isMissing ?_
  by_cases q : H 16 t 1 = (-1)
  · simp only [p_Sheet_isMissing, if_pos q]; exact ⟨Or.inr trivial, h1 q⟩
  · simp only [p_Sheet_isMissing, if_neg q]; exact ⟨Or.inl trivial, h0 q⟩
theorem s_Sheet_has {E : XE} {d t : Nat} {i : Int32} {H : HH} {Q : Int32 → HH → Prop} (h1 : 0 ≤ i → i < H 16 t 2 → Q 1 H) (h0 : ¬ (0 ≤ i ∧ i < H 16 t 2) → Q 0 H) : c_Sheet_has E d t i H Q := by
  refine l_Sheet_has ?_
  by_cases q1 : i < 0
  · simp only [p_Sheet_has, if_pos q1]
    refine ⟨Or.inl trivial, h0 fun q => ?_⟩
    have := q.1
    simp only [ti_lt, ti_le] at *; omega
  · by_cases q2 : H 16 t 2 ≤ i
    · simp only [p_Sheet_has, if_neg q1, if_pos q2]
      refine ⟨Or.inl trivial, h0 fun q => ?_⟩
      have := q.2
      simp only [ti_lt, ti_le] at *; omega
    · simp only [p_Sheet_has, if_neg q1, if_neg q2]
      refine ⟨Or.inr trivial, h1 ?_ ?_⟩
      · simp only [ti_lt, ti_le] at *; omega
      · simp only [ti_lt, ti_le] at *; omega
/-- a sheet's size is within its row -/
def shOK (H : HH) (t : Nat) : Prop := 0 ≤ (H 16 t 2).toInt ∧ (H 16 t 2).toInt ≤ 40
theorem s_Sheet_get {E : XE} {d t : Nat} {i : Int32} {H : HH} {Q : Int32 → HH → Prop} (hs : shOK H t) (h : Q (if 0 ≤ i ∧ i < H 16 t 2 then H 17 t i.toNatClampNeg else 0) H) : c_Sheet_get E (d + 1) t i H Q := by
  refine l_Sheet_get (s_Sheet_has (fun a b => ⟨fun q => absurd q (by decide), fun _ => ?_⟩) (fun a => ⟨fun _ => ?_, fun q => absurd rfl q⟩))
  · rw [if_pos ⟨a, b⟩] at h
    have := hs.2
    simp only [ti_lt, ti_le] at a b
    exact ⟨ti_in a (by have := hs.2; omega), h⟩
  · rw [if_neg a] at h; exact h
theorem s_Sheet_hasRow {E : XE} {d t : Nat} {i n : Int32} {H : HH} {Q : Int32 → HH → Prop} (hs : shOK H t) (h1 : 0 ≤ i → 0 ≤ n → i.toInt + n.toInt ≤ (H 16 t 2).toInt → Q 1 H) (h0 : ¬ (0 ≤ i ∧ 0 ≤ n ∧ i.toInt + n.toInt ≤ (H 16 t 2).toInt) → Q 0 H) : c_Sheet_hasRow E d t i n H Q := by
  refine l_Sheet_hasRow ?_
  have b1 := hs.1
  have b2 := hs.2
  have z0 : (0 : Int32).toInt = 0 := rfl
  by_cases q1 : i < 0
  · simp only [p_Sheet_hasRow, if_pos q1]
    refine ⟨Or.inl trivial, h0 fun q => ?_⟩
    have := q.1
    simp only [ti_lt, ti_le] at *; omega
  · by_cases q2 : n < 0
    · simp only [p_Sheet_hasRow, if_neg q1, if_pos q2]
      refine ⟨Or.inl trivial, h0 fun q => ?_⟩
      have := q.2.1
      simp only [ti_lt, ti_le] at *; omega
    · have hn := ti_hi n
      have es : (H 16 t 2 - n).toInt = (H 16 t 2).toInt - n.toInt := ti_sub (by simp only [ti_lt] at q2; omega) (by simp only [ti_lt] at q2; omega)
      by_cases q3 : H 16 t 2 - n < i
      · simp only [p_Sheet_hasRow, if_neg q1, if_neg q2, if_pos q3]
        refine ⟨Or.inl trivial, h0 fun q => ?_⟩
        have := q.2.2
        simp only [ti_lt, ti_le] at *; omega
      · simp only [p_Sheet_hasRow, if_neg q1, if_neg q2, if_neg q3]
        refine ⟨Or.inr trivial, h1 ?_ ?_ ?_⟩
        · simp only [ti_lt, ti_le] at *; omega
        · simp only [ti_lt, ti_le] at *; omega
        · simp only [ti_lt, ti_le] at *; omega
