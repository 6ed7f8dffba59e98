/-! PURE 2 and SPECS 5: steps, told moves, drives by lots. -/
theorem nI_mul (a b : Nat) : nI a * nI b = nI (a * b) := (Int32.ofNat_mul a b).symm
abbrev LW : Type := Nat → Int32 → Int32 → Int32 → Int32 → Int32 → Int32 → Int32
/-- the law out of a text: part, more, wall, heading, place, width, steers -/
def lwF (code ends : Nat → Int32) : LW := fun p m wall h pl wd st => sayF code ends p (nmF m wall h pl wd st)
abbrev VV : Type := Nat → Int32
abbrev fitV (lw : LW) (wd op : Int32) (v : VV) (p h : Int32) : Prop := fitF (fun p h w => lw 0 (v 1) w h p wd 0) wd op (frF (v 0) (v 1)) (bkF (v 0) (v 1)) p h
def shF (h way : Int32) : Int32 := if way = 0 then acr h / 2 else -(acr h / 2)
def goV (v : VV) (p h way wn : Int32) : VV := fun k => if k = 2 then p else if k = 3 then h else if k = 5 then xmin (v 5 + wn) 9999 else if k = 4 then (if way = v 6 then v 4 else xmin (v 4 + 1) 9999) else if k = 6 then way else v k
/-- a step: the vehicle behind it; none: it can not be -/
def stF (lw : LW) (wd op : Int32) (v : VV) (way w : Int32) : Option VV :=
  if fitV lw wd op v (v 2 + shF (v 3) way) ((v 3 + tuF (v 0) (v 1) way w) &&& 15) then some (goV v (v 2 + shF (v 3) way) ((v 3 + tuF (v 0) (v 1) way w) &&& 15) way (lw 1 (v 1) 0 (v 3) (v 2) wd (if w = 0 then 0 else 1))) else none
/-- as often as told -/
def repF (f : VV → Option VV) : Nat → VV → Bool × VV
  | 0, v => (true, v)
  | n + 1, v => match f v with
    | some v2 => repF f n v2
    | none => (false, v)
/-- n rows of told moves from row r on: the first that cannot be, -1: none; the vehicle then -/
def thrF (st : VV → Int32 → Int32 → Option VV) (mv : Nat → Int32) : Nat → Nat → VV → Int32 × VV
  | 0, _, v => (-1, v)
  | n + 1, r, v => match repF (fun v => st v (mv (3 * r)) (mv (3 * r + 1))) (mv (3 * r + 2)).toNatClampNeg v with
    | (true, v2) => thrF st mv n (r + 1) v2
    | (false, v2) => (nI r, v2)
def lotF (x : Int64) : Int64 := x * 48271 - x * 48271 / 2147483647 * 2147483647
def wayF (x : Int64) : Int32 := if (lg_cmp (x - x / 2 * 2) 0) = 0 then 0 else 1
def whlF (x : Int64) : Int32 := ((x / 2) - (x / 2) / 3 * 3).toInt32 - 1
/-- n steps of a drive by lots, the first the k-th -/
def drvF (st : VV → Int32 → Int32 → Option VV) (sure : VV → Int32 → Int32) : Nat → Nat → Int64 → VV → Int32 × VV
  | 0, _, _, v => (-1, v)
  | n + 1, k, x, v => match st v (wayF (lotF x)) (whlF (lotF x)) with
    | some v2 => drvF st sure n (k + 1) (lotF x) v2
    | none => if (lg_cmp ((lotF x / 6) - (lotF x / 6) / 100 * 100) (sure v (whlF (lotF x))).toInt64) < 0 then drvF st sure n (k + 1) (lotF x) v else (nI k, v)
def surF (lw : LW) (wd : Int32) (v : VV) (w : Int32) : Int32 := lw 2 (v 1) 0 (v 3) (v 2) wd (if w = 0 then 0 else 1)
/-- H is H0 with v in the ride's vehicle; stacks and names may differ -/
def rat (H0 H : HH) (v : VV) : Prop := hfr [3, 14, 20] H0 H ∧ H 3 = fun i => if i = 8 then v else H0 3 i
theorem rat.v8 {H0 H : HH} {v : VV} (h : rat H0 H v) : H 3 8 = v := by rw [h.2]; rfl
theorem rat.self {H : HH} : rat H H (H 3 8) := ⟨hfr.rf, by
  funext i
  by_cases h : i = 8
  · rw [if_pos h, h]
  · rw [if_neg h]⟩
theorem rat.fr {H0 H H1 : HH} {v : VV} (h : rat H0 H v) (hf : hfr [14, 20] H H1) : rat H0 H1 v := ⟨h.1.tr (hf.wk (by decide)), by rw [hf 3 (by decide)]; exact h.2⟩
theorem rat.ok {H0 H : HH} {v : VV} {t : Nat} (h : rat H0 H v) (hr : rdOK H0 t) : rdOK H t := hr.fr h.1 (by decide) (by decide) (by decide)
theorem rat.say {H0 H : HH} {v : VV} (h : rat H0 H v) (t p : Nat) (place heading wall steers : Int32) : sayR H t p place heading wall steers = lwF (H0 12 t) (H0 13 t) p (v 1) wall heading place (H0 2 2 0) steers := by
  unfold sayR lwF
  rw [h.v8, h.1 12 (by decide), h.1 13 (by decide), h.1 2 (by decide)]
theorem rat.fit {H0 H : HH} {v : VV} (h : rat H0 H v) (t : Nat) (p hd : Int32) : fitR H t p hd = fitV (lwF (H0 12 t) (H0 13 t)) (H0 2 2 0) (H0 2 2 1) v p hd := by
  unfold fitR fitV
  rw [h.v8, h.1 2 (by decide)]
  congr 1
  funext p h2 w
  rw [h.say]
theorem s_Ride_shift {E : XE} {d : Nat} {h way : Int32} {H : HH} {Q : Int32 → HH → Prop} (hq : Q (shF h way) H) : c_Ride_shift E (d + 1) h way H Q :=
  l_Ride_shift (s_Main_across hq)
theorem s_Ride_turnedBy {E : XE} {d : Nat} {h way w : Int32} {H : HH} {Q : Int32 → HH → Prop} (hq : Q ((h + tuF (H 3 8 0) (H 3 8 1) way w) &&& 15) H) : c_Ride_turnedBy E (d + 1) h way w H Q :=
  l_Ride_turnedBy (s_Vehicle_turns hq)
theorem s_Ride_go {E : XE} {d t : Nat} {way w : Int32} {H0 H : HH} {v : VV} {Q : Int32 → HH → Prop} (hr : rdOK H0 t) (ha : rat H0 H v)
    (h1 : ∀ v2, stF (lwF (H0 12 t) (H0 13 t)) (H0 2 2 0) (H0 2 2 1) v way w = some v2 → ∀ H1, rat H0 H1 v2 → Q 1 H1)
    (h0 : stF (lwF (H0 12 t) (H0 13 t)) (H0 2 2 0) (H0 2 2 1) v way w = none → ∀ H1, rat H0 H1 v → Q 0 H1) : c_Ride_go E (d + 4) way w H Q := by
  refine l_Ride_go (s_Ride_shift (fun v3 e3 => s_Ride_turnedBy (s_Ride_fits (ha.ok hr) (fun hf H1 f1 => ?_) (fun hf H1 f1 => ?_))))
  · have ha1 := ha.fr f1
    refine ⟨fun _ => ?_, fun q => absurd q (by decide)⟩
    refine s_Ride_wears (ha1.ok hr) (fun H8 f8 => ?_)
    have ha8 := ha1.fr f8
    rw [ha1.say]
    refine s_Vehicle_stepTo ?_
    rw [ha.fit, e3, ha.v8] at hf
    rw [ha1.v8, ha.v8, e3, ha8.v8, ha.v8]
    refine h1 (goV v (v 2 + shF (v 3) way) ((v 3 + tuF (v 0) (v 1) way w) &&& 15) way (lwF (H0 12 t) (H0 13 t) 1 (v 1) 0 (v 3) (v 2) (H0 2 2 0) (if w = 0 then 0 else 1))) ?_ _ ⟨?_, ?_⟩
    · unfold stF
      rw [if_pos hf]
    · exact ((((ha8.1.hu (by decide)).hu (by decide)).hu (by decide)).hu (by decide)).hu (by decide)
    · funext i k
      by_cases hi : i = 8
      · subst hi
        have e8 : ∀ k, H8 3 8 k = v k := fun k => by rw [ha8.v8]
        by_cases k6 : k = 6
        · subst k6; simp [hu, goV]
        · by_cases k4 : k = 4
          · subst k4; simp [hu, goV]
          · by_cases k5 : k = 5
            · subst k5; simp [hu, goV]
            · by_cases k3 : k = 3
              · subst k3; simp [hu, goV]
              · by_cases k2 : k = 2
                · subst k2; simp [hu, goV]
                · simp [hu, goV, k2, k3, k4, k5, k6, e8]
      · have e8 : H8 3 i k = H0 3 i k := by rw [ha8.2]; simp [hi]
        simp [hu, hi, e8]
  · have ha1 := ha.fr f1
    rw [ha.fit, e3, ha.v8] at hf
    exact ⟨fun q => absurd rfl q, fun _ => h0 (by unfold stF; rw [if_neg hf]) _ ha1⟩

theorem div3_all : ∀ n, n < 14 → nI (3 * n) / 3 = nI n := by decide +kernel
/-- a sheet tells n rows of moves -/
def mvOK (H : HH) (u n : Nat) : Prop := n < 14 ∧ H 16 u 2 = nI (3 * n) ∧ ∀ r, r < n → 1 ≤ H 17 u (3 * r + 2) ∧ H 17 u (3 * r + 2) ≤ 30
theorem mvOK.sh {H : HH} {u n : Nat} (h : mvOK H u n) : shOK H u := by
  obtain ⟨h1, h2, -⟩ := h
  unfold shOK
  rw [h2, ti_nI (by omega)]
  omega
theorem s_Sheet_getN {E : XE} {d u n i : Nat} {H : HH} {Q : Int32 → HH → Prop} (hs : mvOK H u n) (hi : i < 3 * n) (h : Q (H 17 u i) H) : c_Sheet_get E (d + 1) u (nI i) H Q := by
  have h1 := hs.1
  refine s_Sheet_get hs.sh ?_
  rw [if_pos ⟨nI_pos' (by omega), by rw [hs.2.1]; exact nI_lt hi (by omega)⟩, nI_clamp (by omega)]
  exact h
theorem s_Ride_through {E : XE} {d t u n : Nat} {H0 H : HH} {v : VV} {Q : Int32 → HH → Prop} (hr : rdOK H0 t) (hm : mvOK H0 u n) (ha : rat H0 H v)
    (h : ∀ r v2, thrF (stF (lwF (H0 12 t) (H0 13 t)) (H0 2 2 0) (H0 2 2 1)) (H0 17 u) n 0 v = (r, v2) → ∀ H1, rat H0 H1 v2 → Q r H1) : c_Ride_through E (d + 5) u H Q := by
  have hn := hm.1
  have mv16 : ∀ {H1 : HH} {w : VV}, rat H0 H1 w → mvOK H1 u n := fun hw => by
    unfold mvOK
    rw [hw.1 16 (by decide), hw.1 17 (by decide)]
    exact hm
  refine l_Ride_through ⟨fun z H1 => ∃ r v2, r ≤ n ∧ z = nI r ∧ rat H0 H1 v2 ∧ thrF (stF (lwF (H0 12 t) (H0 13 t)) (H0 2 2 0) (H0 2 2 1)) (H0 17 u) n 0 v = thrF (stF (lwF (H0 12 t) (H0 13 t)) (H0 2 2 0) (H0 2 2 1)) (H0 17 u) (n - r) r v2, fun z _ => n - z.toNatClampNeg, ⟨0, v, Nat.zero_le _, rfl, ha, rfl⟩, fun z H3 hI => ?_⟩
  obtain ⟨r, v2, hrn, rfl, ha3, e3⟩ := hI
  rw [(mv16 ha3).2.1, div3_all n hn]
  refine ⟨fun q => ?_, fun q => ?_⟩
  · rw [nI_leI (by omega) (by omega)] at q
    have e : r = n := by omega
    subst e
    rw [Nat.sub_self] at e3
    exact h _ _ e3 _ ha3
  · have hlt : r < n := by rw [nI_leI (by omega) (by omega)] at q; omega
    have i2 : 3 * nI r + 2 = nI (3 * r + 2) := by rw [show (3 : Int32) = nI 3 from rfl, show (2 : Int32) = nI 2 from rfl, nI_mul, nI_add]
    have i1 : 3 * nI r + 1 = nI (3 * r + 1) := by rw [show (3 : Int32) = nI 3 from rfl, nI_mul, nI_1]
    have i0 : 3 * nI r = nI (3 * r) := by rw [show (3 : Int32) = nI 3 from rfl, nI_mul]
    rw [i2, i1, i0]
    refine s_Sheet_getN (mv16 ha3) (by omega) ?_
    rw [ha3.1 17 (by decide)]
    obtain ⟨c1, c2⟩ := hm.2.2 r hlt
    obtain ⟨cnt, hcl, ec⟩ := nI_of (x := H0 17 u (3 * r + 2)) (by simp only [ti_le, ti_lt] at *; have z : (1 : Int32).toInt = 1 := rfl; have z0 : (0 : Int32).toInt = 0 := rfl; omega)
    have hc30 : cnt ≤ 30 := by
      rw [ec, show (30 : Int32) = nI 30 from rfl, nI_leI (by omega) (by omega)] at c2; exact c2
    have e3' : thrF (stF (lwF (H0 12 t) (H0 13 t)) (H0 2 2 0) (H0 2 2 1)) (H0 17 u) n 0 v = match repF (fun v => stF (lwF (H0 12 t) (H0 13 t)) (H0 2 2 0) (H0 2 2 1) v (H0 17 u (3 * r)) (H0 17 u (3 * r + 1))) cnt v2 with
      | (true, v3) => thrF (stF (lwF (H0 12 t) (H0 13 t)) (H0 2 2 0) (H0 2 2 1)) (H0 17 u) (n - (r + 1)) (r + 1) v3
      | (false, v3) => (nI r, v3) := by
      have ecc : (H0 17 u (3 * r + 2)).toNatClampNeg = cnt := by rw [ec, nI_clamp (by omega)]
      rw [e3, show n - r = (n - (r + 1)) + 1 by omega, ← ecc]
      rfl
    rw [ec]
    refine ⟨fun z H1 => ∃ i w, i ≤ cnt ∧ z = nI i ∧ rat H0 H1 w ∧ repF (fun v => stF (lwF (H0 12 t) (H0 13 t)) (H0 2 2 0) (H0 2 2 1) v (H0 17 u (3 * r)) (H0 17 u (3 * r + 1))) cnt v2 = repF (fun v => stF (lwF (H0 12 t) (H0 13 t)) (H0 2 2 0) (H0 2 2 1) v (H0 17 u (3 * r)) (H0 17 u (3 * r + 1))) (cnt - i) w, fun z _ => cnt - z.toNatClampNeg, ⟨0, v2, Nat.zero_le _, rfl, ha3, rfl⟩, fun z7 H8 hI8 => ?_⟩
    obtain ⟨i, w, hic, rfl, ha8, e8⟩ := hI8
    refine ⟨fun q2 => ?_, fun q2 => ?_⟩
    · rw [nI_leI (by omega) (by omega)] at q2
      have ei : i = cnt := by omega
      subst ei
      rw [Nat.sub_self] at e8
      rw [e8] at e3'
      refine ⟨⟨r + 1, w, hlt, by rw [nI_1], ha8, e3'⟩, ?_⟩
      show n - (nI r + 1).toNatClampNeg < n - (nI r).toNatClampNeg
      rw [nI_1, nI_clamp (by omega), nI_clamp (by omega)]; omega
    · have hic2 : i < cnt := by rw [nI_leI (by omega) (by omega)] at q2; omega
      refine s_Sheet_getN (mv16 ha8) (by omega) (s_Sheet_getN (mv16 ha8) (by omega) ?_)
      rw [ha8.1 17 (by decide)]
      have e9 : repF (fun v => stF (lwF (H0 12 t) (H0 13 t)) (H0 2 2 0) (H0 2 2 1) v (H0 17 u (3 * r)) (H0 17 u (3 * r + 1))) cnt v2 = match stF (lwF (H0 12 t) (H0 13 t)) (H0 2 2 0) (H0 2 2 1) w (H0 17 u (3 * r)) (H0 17 u (3 * r + 1)) with
        | some w3 => repF (fun v => stF (lwF (H0 12 t) (H0 13 t)) (H0 2 2 0) (H0 2 2 1) v (H0 17 u (3 * r)) (H0 17 u (3 * r + 1))) (cnt - (i + 1)) w3
        | none => (false, w) := by
        rw [e8, show cnt - i = (cnt - (i + 1)) + 1 by omega]
        rfl
      refine s_Ride_go hr ha8 (fun w2 hw2 H13 ha13 => ?_) (fun hw2 H13 ha13 => ?_)
      · rw [hw2] at e9
        refine ⟨fun _ => ⟨⟨i + 1, w2, hic2, by rw [nI_1], ha13, e9⟩, ?_⟩, fun q3 => absurd q3 (by decide)⟩
        show cnt - (nI i + 1).toNatClampNeg < cnt - (nI i).toNatClampNeg
        rw [nI_1, nI_clamp (by omega), nI_clamp (by omega)]; omega
      · refine ⟨fun q3 => absurd rfl q3, fun _ => ?_⟩
        rw [hw2] at e9
        rw [e9] at e3'
        exact h _ _ e3' _ ha13
