/-! SPECS 4: a ride: what the law says, what fits, a step. -/
/-- the names' values -/
def nmF (more wall heading place width steers : Int32) : Nat → Int32
  | 0 => more
  | 1 => wall
  | 2 => heading
  | 3 => place
  | 4 => width
  | _ => steers
theorem evnm_cong {nm nm2 : Nat → Int32} (h : ∀ k, k < 6 → nm k = nm2 k) (c : Int32) : evnm nm c = evnm nm2 c := by
  unfold evnm
  by_cases h1 : 10000 ≤ c
  · rw [if_pos h1, if_pos h1]
    by_cases h2 : 6 ≤ c - 10000
    · rw [if_pos h2, if_pos h2]
    · rw [if_neg h2, if_neg h2]
      refine h _ ?_
      simp only [ti_le] at h2
      have z : (6 : Int32).toInt = 6 := rfl
      show (c - 10000).toInt.toNat < 6
      omega
  · rw [if_neg h1, if_neg h1]
theorem evs_nm {nm nm2 code : Nat → Int32} {a : Nat} (h : ∀ k, k < 6 → nm k = nm2 k) : ∀ n, evs nm code a n = evs nm2 code a n := by
  intro n
  induction n with
  | zero => rfl
  | succ n ih =>
    show ev1 nm _ (evs nm code a n) = ev1 nm2 _ (evs nm2 code a n)
    rw [ih]
    unfold ev1
    rw [evnm_cong h]
/-- what part p of a text says, its ends read off -/
def sayF (code ends : Nat → Int32) (p : Nat) (nm : Nat → Int32) : Int32 :=
  clF p ((evs nm code (if p = 0 then 0 else (ends (p - 1)).toNatClampNeg) ((ends p).toNatClampNeg - (if p = 0 then 0 else (ends (p - 1)).toNatClampNeg))).headD 0)
theorem sayF_eq {code ends : Nat → Int32} {p a b : Nat} (hp : p < 3) (h : txP code ends p a b) (nm : Nat → Int32) : sayF code ends p nm = clF p ((evs nm code a (b - a)).headD 0) := by
  obtain ⟨te, t0, t1, tab, tb, tc⟩ := h
  unfold sayF
  rw [te, nI_clamp (by omega)]
  by_cases hp0 : p = 0
  · rw [if_pos hp0, t0 hp0]
  · rw [if_neg hp0, t1 (by omega), nI_clamp (by omega)]
def txOK (code ends : Nat → Int32) : Prop := ∀ p, p < 3 → ∃ a b, txP code ends p a b
/-- the ride's law is text t, and can be worked out -/
def rdOK (H : HH) (t : Nat) : Prop := H 19 0 2 = nI (t + 1) ∧ t < 7 ∧ txOK (H 12 t) (H 13 t)
/-- what the ride's law says -/
def sayR (H : HH) (t p : Nat) (place heading wall steers : Int32) : Int32 := sayF (H 12 t) (H 13 t) p (nmF (H 3 8 1) wall heading place (H 2 2 0) steers)
theorem s_Ride_says {E : XE} {d t p : Nat} {place heading wall steers : Int32} {H : HH} {Q : Int32 → HH → Prop} (hr : rdOK H t) (hp : p < 3) (h : ∀ H1, hfr [14, 20] H H1 → Q (sayR H t p place heading wall steers) H1) : c_Ride_says E (d + 2) (nI p) place heading wall steers H Q := by
  obtain ⟨hl, ht, hx⟩ := hr
  obtain ⟨a, b, htx⟩ := hx p hp
  refine l_Ride_says ⟨fun q => ?_, fun t2 ht2 e2 H1 e1 H2 e2' => ?_⟩
  · exfalso
    rw [hl, show (0 : Int32) = nI 0 from rfl, show (8 : Int32) = nI 8 from rfl, nI_ltI (by omega) (by omega), nI_ltI (by omega) (by omega)] at q
    omega
  · have et : t2 = t := by
      rw [hl, nI_eq (by omega) (by omega)] at e2; omega
    subst et
    have k12 : H2 12 = H 12 := by rw [e2', e1]; simp [hu_kd]
    have k13 : H2 13 = H 13 := by rw [e2', e1]; simp [hu_kd]
    have k20 : ∀ k, k < 6 → H2 20 0 k = nmF (H 3 8 1) wall heading place (H 2 2 0) steers k := by
      intro k hk
      have w : H1 2 2 0 = H 2 2 0 := by rw [e1]; simp [hu_kd]
      rw [e2', w, e1]
      rcases (show k = 0 ∨ k = 1 ∨ k = 2 ∨ k = 3 ∨ k = 4 ∨ k = 5 by omega) with rfl | rfl | rfl | rfl | rfl | rfl <;> simp [hu, nmF]
    refine s_Text_says (a := a) (b := b) hp (by rw [k12, k13]; exact htx) (fun f => ?_)
    rw [k12, evs_nm k20, ← sayF_eq hp htx]
    refine h _ ?_
    have h1 : hfr [14, 20] H H1 := by rw [e1]; exact (((hfr.rf.hu (by decide)).hu (by decide)).hu (by decide)).hu (by decide)
    have h2 : hfr [14, 20] H H2 := by rw [e2']; exact (h1.hu (by decide)).hu (by decide)
    exact h2.hrow (by decide)
theorem s_Ride_wears {E : XE} {d t : Nat} {place heading w : Int32} {H : HH} {Q : Int32 → HH → Prop} (hr : rdOK H t) (h : ∀ H1, hfr [14, 20] H H1 → Q (sayR H t 1 place heading 0 (if w = 0 then 0 else 1)) H1) : c_Ride_wears E (d + 3) place heading w H Q :=
  l_Ride_wears (s_Ride_says (p := 1) hr (by decide) h)
theorem s_Ride_isAtOpening {E : XE} {d : Nat} {x : Int32} {H : HH} {Q : Int32 → HH → Prop} (h : Q (if (3 ≤ x &&& 7 ∧ x &&& 7 ≤ 5) then 1 else 0) H) : c_Ride_isAtOpening E d x H Q := by
  refine l_Ride_isAtOpening ?_
  by_cases q1 : (x &&& 7) < 3
  · rw [if_neg (fun q => by have := q.1; simp only [ti_lt, ti_le] at *; omega)] at h
    simp only [p_Ride_isAtOpening, if_pos q1]; exact ⟨Or.inl trivial, h⟩
  · by_cases q2 : 5 < (x &&& 7)
    · rw [if_neg (fun q => by have := q.2; simp only [ti_lt, ti_le] at *; omega)] at h
      simp only [p_Ride_isAtOpening, if_neg q1, if_pos q2]; exact ⟨Or.inl trivial, h⟩
    · rw [if_pos ⟨by simp only [ti_lt, ti_le] at *; omega, by simp only [ti_lt, ti_le] at *; omega⟩] at h
      simp only [p_Ride_isAtOpening, if_neg q1, if_neg q2]; exact ⟨Or.inr trivial, h⟩
/-- does one fit: L what the law says of the clears (0 near, 1 far), the width, the opening, front, back -/
abbrev fitF (L : Int32 → Int32 → Int32 → Int32) (wd op fr bk p h : Int32) : Prop :=
  ¬ p < 0 ∧ p ≤ wd ∧ L p h 0 ≤ xmin p (xmin (p + acr h * fr / 8) (p - acr h * bk / 8)) ∧ ¬ (if (3 ≤ h &&& 7 ∧ h &&& 7 ≤ 5) then wd + op else wd) - L p h 1 < xmax p (xmax (p + acr h * fr / 8) (p - acr h * bk / 8))
abbrev fitR (H : HH) (t : Nat) (p h : Int32) : Prop := fitF (fun p h w => sayR H t 0 p h w 0) (H 2 2 0) (H 2 2 1) (frF (H 3 8 0) (H 3 8 1)) (bkF (H 3 8 0) (H 3 8 1)) p h
theorem rdOK.fr {H H1 : HH} {t : Nat} {K : List Nat} (h : rdOK H t) (hf : hfr K H H1) (h1 : 12 ∉ K) (h2 : 13 ∉ K) (h3 : 19 ∉ K) : rdOK H1 t := by
  unfold rdOK
  rw [hf 12 h1, hf 13 h2, hf 19 h3]
  exact h
theorem sayR.fr {H H1 : HH} {t : Nat} {K : List Nat} (hf : hfr K H H1) (h1 : 12 ∉ K) (h2 : 13 ∉ K) (h3 : 3 ∉ K) (h4 : 2 ∉ K) : sayR H1 t = sayR H t := by
  funext p place heading wall steers
  unfold sayR
  rw [hf 12 h1, hf 13 h2, hf 3 h3, hf 2 h4]
theorem s_Ride_fits {E : XE} {d t : Nat} {p h : Int32} {H : HH} {Q : Int32 → HH → Prop} (hr : rdOK H t) (h1 : fitR H t p h → ∀ H1, hfr [14, 20] H H1 → Q 1 H1) (h0 : ¬ fitR H t p h → ∀ H1, hfr [14, 20] H H1 → Q 0 H1) : c_Ride_fits E (d + 3) p h H Q := by
  refine l_Ride_fits ⟨fun q => h0 (fun z => z.1 q) H hfr.rf, fun q => ⟨fun q2 => ?_, fun q2 => h0 (fun z => q2 z.2.1) H hfr.rf⟩⟩
  refine s_Main_across (s_Vehicle_front (fun v5 e5 => s_Main_across (s_Vehicle_behind (fun v10 e10 v11 e11 => ?_))))
  refine s_Ride_says (p := 0) hr (by decide) (fun H12 f12 => ⟨fun c v14 e14 => ?_, fun c => ?_⟩)
  · refine s_Ride_isAtOpening (fun v18 e18 => ?_)
    have f2 := f12 2 (by decide)
    have hr12 := hr.fr f12 (by decide) (by decide) (by decide)
    refine s_Ride_says (p := 0) hr12 (by decide) (fun H19 f19 => ?_)
    rw [sayR.fr f12 (by decide) (by decide) (by decide) (by decide)]
    have f := f12.tr f19
    have ev : v18 = (if (3 ≤ h &&& 7 ∧ h &&& 7 ≤ 5) then H 2 2 0 + H 2 2 1 else H 2 2 0) := by
      rw [e18, f2]
      by_cases z : (3 ≤ h &&& 7 ∧ h &&& 7 ≤ 5)
      · rw [if_pos z, if_pos z, if_neg (by decide)]
      · rw [if_neg z, if_neg z, if_pos rfl]
    rw [ev, e14, e10, e5]
    rw [e11, e10, e5] at c
    by_cases z : ((if (3 ≤ h &&& 7 ∧ h &&& 7 ≤ 5) then H 2 2 0 + H 2 2 1 else H 2 2 0) - sayR H t 0 p h 1 0) < xmax p (xmax (p + acr h * frF (H 3 8 0) (H 3 8 1) / 8) (p - acr h * bkF (H 3 8 0) (H 3 8 1) / 8))
    · rw [if_pos z]
      exact ⟨Or.inl rfl, h0 (fun y => y.2.2.2 z) _ f⟩
    · rw [if_neg z]
      exact ⟨Or.inr rfl, h1 ⟨q, q2, c, z⟩ _ f⟩
  · refine h0 (fun z => ?_) _ f12
    rw [e11, e10, e5] at c
    exact c z.2.2.1
