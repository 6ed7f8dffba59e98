/-! SPECS 9 (the reference): steps. -/
def rowsV (r : Nat → Int32) (j : Nat) (v : VV) : Nat → Int32 := fun k => if k = 5 * j then v 2 else if k = 5 * j + 1 then v 3 else if k = 5 * j + 2 then v 4 else if k = 5 * j + 3 then v 5 else if k = 5 * j + 4 then v 6 else r k
/-- a vehicle as it can be: a heading 0 .. 15, points and wear 0 .. 9999, nothing behind its fields -/
def vOK (v : VV) : Prop := (∃ a, a < 16 ∧ v 3 = nI a) ∧ (0 ≤ (v 4).toInt ∧ (v 4).toInt ≤ 9999) ∧ (0 ≤ (v 5).toInt ∧ (v 5).toInt ≤ 9999) ∧ ∀ k, 7 ≤ k → v k = 0
/-- H is H0 with v's places in vehicle j; stacks and names may differ -/
def mat (H0 H : HH) (j : Nat) (v : VV) : Prop := hfr [34, 46, 47] H0 H ∧ H 34 0 = rowsV (H0 34 0) j v ∧ (∀ i, i ≠ 0 → H 34 i = H0 34 i) ∧ v 0 = H0 32 0 j ∧ v 1 = H0 33 0 j
theorem rowsV_self {H : HH} {j : Nat} : rowsV (H 34 0) j (vM H j) = H 34 0 := by
  funext k
  unfold rowsV
  repeat' split
  all_goals (first | rfl | (subst_vars; rfl))
theorem mat.self {H : HH} {j : Nat} : mat H H j (vM H j) := ⟨hfr.rf, rowsV_self.symm, fun _ _ => rfl, rfl, rfl⟩
theorem mat.vM {H0 H : HH} {j : Nat} {v : VV} (h : mat H0 H j v) (ho : vOK v) : vM H j = v := by
  funext k
  rcases (show k = 0 ∨ k = 1 ∨ k = 2 ∨ k = 3 ∨ k = 4 ∨ k = 5 ∨ k = 6 ∨ 7 ≤ k by omega) with rfl | rfl | rfl | rfl | rfl | rfl | rfl | hk
  · show H 32 0 j = v 0; rw [h.1 32 (by decide), h.2.2.2.1]
  · show H 33 0 j = v 1; rw [h.1 33 (by decide), h.2.2.2.2]
  · show H 34 0 (5 * j) = v 2; rw [h.2.1]; simp [rowsV]
  · show H 34 0 (5 * j + 1) = v 3; rw [h.2.1]; simp [rowsV]
  · show H 34 0 (5 * j + 2) = v 4; rw [h.2.1]; simp [rowsV]
  · show H 34 0 (5 * j + 3) = v 5; rw [h.2.1]; simp [rowsV]
  · show H 34 0 (5 * j + 4) = v 6; rw [h.2.1]; simp [rowsV]
  · rw [ho.2.2.2 k hk]
    match k, hk with
    | k + 7, _ => rfl
theorem mat.fr {H0 H H1 : HH} {j : Nat} {v : VV} (h : mat H0 H j v) (hf : hfr [46, 47] H H1) : mat H0 H1 j v := by
  refine ⟨h.1.tr (hf.wk (by decide)), ?_, ?_, h.2.2.2⟩
  · rw [hf 34 (by decide)]; exact h.2.1
  · rw [hf 34 (by decide)]; exact h.2.2.1
theorem mat.ok {H0 H : HH} {j t : Nat} {v : VV} {code ends : Nat → Int32} (h : mat H0 H j v) (hr : mlOK H0 t code ends) : mlOK H t code ends := hr.fr h.1 (by decide) (by decide) (by decide) (by decide)
theorem w9 {x : Int32} (h : 0 ≤ x.toInt) : (if 0 ≤ x then (if x ≤ 9999 then x else 9999 : Int32) else 0 : Int32) = xmin x 9999 := by
  unfold xmin
  have z : (0 : Int32).toInt = 0 := rfl
  simp only [ti_lt, ti_le]
  rw [if_pos (show (0 : Int32).toInt ≤ x.toInt by omega)]
  by_cases c : x.toInt ≤ (9999 : Int32).toInt
  · rw [if_pos c, if_neg (by omega)]
  · rw [if_neg c, if_pos (by omega)]
theorem and15_nI (x : Int32) : ∃ a, a < 16 ∧ x &&& 15 = nI a := by
  obtain ⟨j, hj, e⟩ := pk_andE x (m := 15) 4 (by decide)
  exact ⟨j, hj, e⟩
/-- the vehicle behind a step -/
def gsF (lw : LW) (wd : Int32) (v : VV) (way w : Int32) : VV := goV v (v 2 + shF (v 3) way) ((v 3 + tuF (v 0) (v 1) way w) &&& 15) way (lw 1 (v 1) 0 (v 3) (v 2) wd (if w = 0 then 0 else 1))
theorem stF_gs {lw : LW} {wd op : Int32} {v v2 : VV} {way w : Int32} (h : stF lw wd op v way w = some v2) : v2 = gsF lw wd v way w := by
  unfold stF at h
  split at h
  · exact (Option.some.inj h).symm
  · cases h
theorem lwF_rng {code ends : Nat → Int32} {p : Nat} (hp : p < 3) (a b c d e f : Int32) : 0 ≤ (lwF code ends p a b c d e f).toInt ∧ (lwF code ends p a b c d e f).toInt ≤ 100 := clF_rng hp _
theorem xm99 {x : Int32} (h : 0 ≤ x.toInt) : 0 ≤ (xmin x 9999).toInt ∧ (xmin x 9999).toInt ≤ 9999 := by
  have z9 : (9999 : Int32).toInt = 9999 := rfl
  unfold xmin
  by_cases q : (9999 : Int32) < x
  · rw [if_pos q, z9]; omega
  · rw [if_neg q]
    simp only [ti_lt] at q
    omega
theorem goV_ok {v : VV} {p h way wn : Int32} (ho : vOK v) (hh : ∃ a, a < 16 ∧ h = nI a) (hw : 0 ≤ wn.toInt ∧ wn.toInt ≤ 100) : vOK (goV v p h way wn) := by
  obtain ⟨h1, h2, h3, h4⟩ := ho
  have z1 : (1 : Int32).toInt = 1 := rfl
  have g3 : goV v p h way wn 3 = h := by unfold goV; rw [if_neg (by decide), if_pos rfl]
  have g4 : goV v p h way wn 4 = (if way = v 6 then v 4 else xmin (v 4 + 1) 9999) := by unfold goV; rw [if_neg (by decide), if_neg (by decide), if_neg (by decide), if_pos rfl]
  have g5 : goV v p h way wn 5 = xmin (v 5 + wn) 9999 := by unfold goV; rw [if_neg (by decide), if_neg (by decide), if_pos rfl]
  refine ⟨by rw [g3]; exact hh, ?_, ?_, fun k hk => ?_⟩
  · rw [g4]
    by_cases c : way = v 6
    · rw [if_pos c]; exact h2
    · rw [if_neg c]
      have e : (v 4 + 1).toInt = (v 4).toInt + 1 := ti_add (by omega) (by omega)
      exact xm99 (by omega)
  · rw [g5]
    have e : (v 5 + wn).toInt = (v 5).toInt + wn.toInt := ti_add (by omega) (by omega)
    exact xm99 (by omega)
  · unfold goV
    rw [if_neg (by omega), if_neg (by omega), if_neg (by omega), if_neg (by omega), if_neg (by omega)]
    exact h4 k hk
theorem gsF_ok {code ends : Nat → Int32} {wd : Int32} {v : VV} {way w : Int32} (h : vOK v) : vOK (gsF (lwF code ends) wd v way w) :=
  goV_ok h (and15_nI _) (lwF_rng (by decide) _ _ _ _ _ _)
theorem s_Model_canGo {E : XE} {d t j : Nat} {code ends : Nat → Int32} {way w : Int32} {H0 H : HH} {v : VV} {Q : Int32 → HH → Prop} (hr : mlOK H0 t code ends) (hj : j < 4) (hw : w = -1 ∨ w = 0 ∨ w = 1) (ho : vOK v) (ha : mat H0 H j v)
    (h1 : stF (lwF code ends) (H0 30 0 1) (H0 30 0 2) v way w = some (gsF (lwF code ends) (H0 30 0 1) v way w) → ∀ H1, mat H0 H1 j v → Q 1 H1)
    (h0 : stF (lwF code ends) (H0 30 0 1) (H0 30 0 2) v way w = none → ∀ H1, mat H0 H1 j v → Q 0 H1) : c_Model_canGo E (d + 4) (nI j) way w H Q := by
  have hv := ha.vM ho
  obtain ⟨a, ha16, e3⟩ := ho.1
  have r2 : H 34 0 (5 * j) = v 2 := congrFun hv 2
  have r3 : H 34 0 (5 * j + 1) = nI a := (congrFun hv 3).trans e3
  have hmc := (ha.ok hr).2.2.2
  refine l_Model_canGo ?_
  unfold p_Model_canGo
  rw [i5_1, i5_0]
  refine ⟨vp_in_nI (by omega) (by omega), vp_in_nI (by omega) (by omega), ?_⟩
  rw [nI_clamp (by omega), nI_clamp (by omega), r2, r3]
  refine s_Model_placeBy hmc ha16 (s_Model_isPlace (fun q1 q2 => ?_) (fun q => ?_))
  · refine ⟨fun k => absurd k (by decide), fun _ => ⟨vp_in_nI (by omega) (by omega), ?_⟩⟩
    rw [r3]
    obtain ⟨a2, ha2, e2⟩ := and15_nI (nI a + tuF (H 32 0 j) (H 33 0 j) way w)
    refine s_Model_headingBy hj ha16 hw ?_
    rw [e2]
    have r0 : H 32 0 j = v 0 := congrFun hv 0
    have r1 : H 33 0 j = v 1 := congrFun hv 1
    have efit : fitM H code ends j (v 2 + shF (nI a) way) (nI a2) = fitV (lwF code ends) (H0 30 0 1) (H0 30 0 2) v (v 2 + shF (v 3) way) ((v 3 + tuF (v 0) (v 1) way w) &&& 15) := by
      unfold fitM
      rw [hv, ha.1 30 (by decide), ← e2, r0, r1, e3]
    refine s_Model_fitsAt (ha.ok hr) hj ha2 ⟨q1, q2⟩ (fun hf H1 f1 => ?_) (fun hf H1 f1 => ?_)
    · rw [efit] at hf
      rw [if_neg (by decide)]
      exact ⟨Or.inr rfl, h1 (by unfold stF; rw [if_pos hf]; rfl) _ (ha.fr f1)⟩
    · rw [efit] at hf
      rw [if_pos rfl]
      exact ⟨Or.inl rfl, h0 (by unfold stF; rw [if_neg hf]) _ (ha.fr f1)⟩
  · refine ⟨fun _ => h0 ?_ _ ha, fun k => absurd rfl k⟩
    unfold stF
    rw [if_neg]
    intro z
    refine q ⟨?_, ?_⟩
    · have := z.1; rw [e3] at this; exact this
    · have := z.2.1; rw [e3] at this; rw [ha.1 30 (by decide)]; exact this
theorem hu_same (H : HH) (kd ix k : Nat) : hu H kd ix k (H kd ix k) = H := by
  funext a b c
  by_cases q : a = kd ∧ b = ix ∧ c = k
  · obtain ⟨rfl, rfl, rfl⟩ := q; simp [hu]
  · simp [hu, q]
theorem s_Model_goes {E : XE} {d t j : Nat} {code ends : Nat → Int32} {way w : Int32} {H0 H : HH} {v : VV} {Q : HH → Prop} (hr : mlOK H0 t code ends) (hj : j < 4) (hw : w = -1 ∨ w = 0 ∨ w = 1) (ho : vOK v) (ha : mat H0 H j v)
    (h : ∀ H1, mat H0 H1 j (gsF (lwF code ends) (H0 30 0 1) v way w) → Q H1) : c_Model_goes E (d + 3) (nI j) way w H Q := by
  have hv := ha.vM ho
  obtain ⟨a, ha16, e3⟩ := ho.1
  have r0 : H 32 0 j = v 0 := congrFun hv 0
  have r1 : H 33 0 j = v 1 := congrFun hv 1
  have r2 : H 34 0 (5 * j) = v 2 := congrFun hv 2
  have r3 : H 34 0 (5 * j + 1) = nI a := (congrFun hv 3).trans e3
  have r4 : H 34 0 (5 * j + 2) = v 4 := congrFun hv 4
  have r5 : H 34 0 (5 * j + 3) = v 5 := congrFun hv 5
  have r6 : H 34 0 (5 * j + 4) = v 6 := congrFun hv 6
  refine l_Model_goes ?_
  unfold p_Model_goes
  rw [i5_1, i5_2, i5_3, i5_4, i5_0]
  refine ⟨vp_in_nI (by omega) (by omega), fun v1 e1 => ⟨vp_in_nI (by omega) (by omega), fun v2 e2 => ⟨vp_in_nI (by omega) (by omega), ?_⟩⟩⟩
  rw [nI_clamp (by omega), r2] at e1
  rw [nI_clamp (by omega), r3] at e2
  rw [nI_clamp (n := 5 * j + 3) (by omega), nI_clamp (n := 5 * j + 2) (by omega), nI_clamp (n := 5 * j + 4) (by omega), nI_clamp (n := 5 * j + 1) (by omega), nI_clamp (n := 5 * j) (by omega)]
  subst e1; subst e2
  refine s_Model_asksOf (p := 1) (ha.ok hr) (by decide) hj (fun H4 f4 => ?_)
  rw [r1, r5, ha.1 30 (by decide)]
  have hlr := lwF_rng (code := code) (ends := ends) (p := 1) (by decide) (v 1) 0 (nI a) (v 2) (H0 30 0 1) (if w = 0 then 0 else 1)
  have hp5 := ho.2.2.1
  have hp4 := ho.2.1
  have z1 : (1 : Int32).toInt = 1 := rfl
  have e5 : (v 5 + lwF code ends 1 (v 1) 0 (nI a) (v 2) (H0 30 0 1) (if w = 0 then 0 else 1)).toInt = (v 5).toInt + (lwF code ends 1 (v 1) 0 (nI a) (v 2) (H0 30 0 1) (if w = 0 then 0 else 1)).toInt := ti_add (by omega) (by omega)
  refine l_Model_within ?_
  show _ ∧ _
  rw [w9 (by omega)]
  generalize hwr : xmin (v 5 + lwF code ends 1 (v 1) 0 (nI a) (v 2) (H0 30 0 1) (if w = 0 then 0 else 1)) 9999 = wr
  refine ⟨vp_in_nI (by omega) (by omega), vp_in_nI (by omega) (by omega), fun H8 e8 => ⟨vp_in_nI (by omega) (by omega), ?_⟩⟩
  have q4 : H8 34 0 (5 * j + 2) = v 4 := by rw [e8, hu_k _ _ (by omega), f4 34 (by decide), r4]
  have q6 : H8 34 0 (5 * j + 4) = v 6 := by rw [e8, hu_k _ _ (by omega), f4 34 (by decide), r6]
  rw [q4, q6]
  refine l_Model_within ?_
  show _ ∧ _
  have ept : (if 0 ≤ (v 4 + (if v 6 = way then 0 else 1 : Int32)) then (if (v 4 + (if v 6 = way then 0 else 1 : Int32)) ≤ 9999 then (v 4 + (if v 6 = way then 0 else 1 : Int32)) else 9999 : Int32) else 0 : Int32) = (if way = v 6 then v 4 else xmin (v 4 + 1) 9999) := by
    by_cases c : v 6 = way
    · rw [if_pos c, if_pos c.symm, Int32.add_zero, w9 (by omega)]
      unfold xmin
      rw [if_neg]
      have z9 : (9999 : Int32).toInt = 9999 := rfl
      simp only [ti_lt]
      omega
    · have e1 : (v 4 + 1).toInt = (v 4).toInt + 1 := ti_add (by omega) (by omega)
      rw [if_neg c, w9 (by omega), if_neg (show ¬ way = v 6 from fun q => c q.symm)]
  rw [ept]
  generalize hpt : (if way = v 6 then v 4 else xmin (v 4 + 1) 9999 : Int32) = pt
  refine ⟨vp_in_nI (by omega) (by omega), fun H12 e12 => ?_⟩
  have k8 : hfr [34, 46, 47] H0 H8 := by rw [e8]; exact (ha.1.tr (f4.wk (by decide))).hu (by decide)
  have k12 : hfr [34, 46, 47] H0 H12 := by rw [e12]; exact k8.hu (by decide)
  have mc12 : mcOK H12 := (hr.fr k12 (by decide) (by decide) (by decide) (by decide)).2.2.2
  refine s_Model_placeBy mc12 ha16 ⟨vp_in_nI (by omega) (by omega), fun H15 e15 => ?_⟩
  have k15 : hfr [34, 46, 47] H0 H15 := by rw [e15]; exact k12.hu (by decide)
  refine s_Model_headingBy hj ha16 hw ⟨vp_in_nI (by omega) (by omega), vp_in_nI (by omega) (by omega), fun H18 e18 => ?_⟩
  have k18 : hfr [34, 46, 47] H0 H18 := by rw [e18]; exact (k15.hu (by decide)).hu (by decide)
  rw [k15 32 (by decide), k15 33 (by decide), ← ha.2.2.2.1, ← ha.2.2.2.2] at e18
  refine h _ ⟨k18, ?_, ?_, ?_, ?_⟩
  · funext k
    have hb : H4 34 0 k = rowsV (H0 34 0) j v k := by rw [f4 34 (by decide), ha.2.1]
    rw [e18, e15, e12, e8]
    unfold gsF
    unfold rowsV at hb ⊢
    by_cases c0 : k = 5 * j
    · subst c0
      simp only [hu, goV, e3]
      simp
    · by_cases c1 : k = 5 * j + 1
      · subst c1
        simp only [hu, goV, e3]
        simp
      · by_cases c2 : k = 5 * j + 2
        · subst c2
          simp [hu, goV, ← hpt]
        · by_cases c3 : k = 5 * j + 3
          · subst c3
            simp [hu, goV, ← hwr, e3]
          · by_cases c4 : k = 5 * j + 4
            · subst c4
              simp [hu, goV]
            · rw [if_neg c0, if_neg c1, if_neg c2, if_neg c3, if_neg c4] at hb
              simp [hu, c0, c1, c2, c3, c4, hb]
  · intro i hi
    have hb : H4 34 i = H0 34 i := by rw [f4 34 (by decide)]; exact ha.2.2.1 i hi
    rw [e18, hu_ix _ _ _ hi, hu_ix _ _ _ hi, e15, hu_ix _ _ _ hi, e12, hu_ix _ _ _ hi, e8, hu_ix _ _ _ hi, hb]
  · exact ha.2.2.2.1
  · exact ha.2.2.2.2
