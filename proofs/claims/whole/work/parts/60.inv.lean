/-! THE RELATION of both: what the class's objects and the reference's rows have in common between the calls. -/
/-- slots that a call may use as it likes -/
def scr (a i k : Nat) : Prop := a = 5 ∨ (8 ≤ a ∧ a ≤ 10) ∨ a = 14 ∨ (19 ≤ a ∧ a ≤ 26) ∨ (45 ≤ a ∧ a ≤ 54) ∨ (a = 2 ∧ i = 2) ∨ (a = 3 ∧ i = 8 ∧ k < 7) ∨ (a = 6 ∧ k = 5) ∨ ((a = 11 ∨ a = 12 ∨ a = 13) ∧ i = 6) ∨ (a = 30 ∧ i = 0 ∧ 20 ≤ k)
def scF (H H1 : HH) : Prop := ∀ a i k, ¬ scr a i k → H1 a i k = H a i k
theorem scF.rf {H : HH} : scF H H := fun _ _ _ _ => rfl
theorem scF.tr {H H1 H2 : HH} (h1 : scF H H1) (h2 : scF H1 H2) : scF H H2 := fun a i k q => (h2 a i k q).trans (h1 a i k q)
theorem scF.hu {H H1 : HH} {kd ix k : Nat} {x : Int32} (h : scF H H1) (hs : scr kd ix k) : scF H (hu H1 kd ix k x) := by
  intro a i c q
  have : ¬ (a = kd ∧ i = ix ∧ c = k) := by rintro ⟨rfl, rfl, rfl⟩; exact q hs
  show (if a = kd ∧ i = ix ∧ c = k then x else H1 a i c) = _
  rw [if_neg this]
  exact h a i c q
def scK (a : Nat) : Bool := decide (a = 5 ∨ (8 ≤ a ∧ a ≤ 10) ∨ a = 14 ∨ (19 ≤ a ∧ a ≤ 26) ∨ (45 ≤ a ∧ a ≤ 54))
theorem hfr.sc {K : List Nat} {H H1 : HH} (h : hfr K H H1) (hs : ∀ a ∈ K, scK a = true) : scF H H1 := by
  intro a i k q
  by_cases c : a ∈ K
  · have := hs a c
    unfold scK at this
    simp only [decide_eq_true_eq] at this
    refine absurd ?_ q
    unfold scr
    rcases this with e | e | e | e | e
    · exact Or.inl e
    · exact Or.inr (Or.inl e)
    · exact Or.inr (Or.inr (Or.inl e))
    · exact Or.inr (Or.inr (Or.inr (Or.inl e)))
    · exact Or.inr (Or.inr (Or.inr (Or.inr (Or.inl e))))
  · rw [h a c]
theorem rat.sc {H0 H : HH} {v : VV} (h : rat H0 H v) (hv : ∀ k, 7 ≤ k → v k = H0 3 8 k) : scF H0 H := by
  intro a i k q
  by_cases h3 : a = 3
  · subst h3
    rw [h.2]
    by_cases hi : i = 8
    · subst hi
      show (if 8 = 8 then v else H0 3 8) k = _
      rw [if_pos rfl]
      rcases Nat.lt_or_ge k 7 with y | y
      · exact absurd (by unfold scr; omega) q
      · exact hv k y
    · show (if i = 8 then v else H0 3 i) k = _
      rw [if_neg hi]
  · have hk : a ∉ [3, 14, 20] := by
      intro z
      simp only [List.mem_cons, List.not_mem_nil, or_false] at z
      exact q (by unfold scr; omega)
    rw [h.1 a hk]
/-- the state's numbers: vehicles, width, opening, law, texts, bytes -/
abbrev SN : Type := Nat × Nat × Nat × Nat × Nat × Nat
abbrev SN.nv (s : SN) := s.1
abbrev SN.wd (s : SN) := s.2.1
abbrev SN.op (s : SN) := s.2.2.1
abbrev SN.lw (s : SN) := s.2.2.2.1
abbrev SN.nt (s : SN) := s.2.2.2.2.1
abbrev SN.ns (s : SN) := s.2.2.2.2.2
def snOK (s : SN) : Prop := s.nv ≤ 4 ∧ 8 ≤ s.wd ∧ s.wd ≤ 60 ∧ s.op ≤ 20 ∧ s.lw < s.nt ∧ s.nt ≤ 6 ∧ s.ns ≤ 160
def piC (H : HH) (s : SN) : Prop := H 1 0 2 = nI s.nv ∧ H 2 0 0 = nI s.wd ∧ H 2 0 1 = nI s.op ∧ H 2 0 2 = nI s.lw ∧ H 0 0 5 = nI s.nt ∧ H 6 0 1 = nI s.ns
def piR (H : HH) (s : SN) : Prop := H 30 0 3 = nI s.nv ∧ H 30 0 1 = nI s.wd ∧ H 30 0 2 = nI s.op ∧ H 30 0 12 = nI s.lw ∧ H 30 0 11 = nI s.nt ∧ H 30 0 8 = nI s.ns
def piT (H : HH) (ns : Nat) : Prop := ∀ i, i < ns → H 35 0 i = H 7 0 i ∧ 0 ≤ (H 7 0 i).toInt ∧ (H 7 0 i).toInt ≤ 255
/-- the reference's words, eight signs each -/
def wdsL : List Int32 := [99, 108, 101, 97, 114, 115, 32, 32, 119, 101, 97, 114, 115, 32, 32, 32, 115, 117, 114, 101, 32, 32, 32, 32, 109, 111, 114, 101, 32, 32, 32, 32, 119, 97, 108, 108, 32, 32, 32, 32, 104, 101, 97, 100, 105, 110, 103, 32, 112, 108, 97, 99, 101, 32, 32, 32, 119, 105, 100, 116, 104, 32, 32, 32, 115, 116, 101, 101, 114, 115, 32, 32, 111, 114, 32, 32, 32, 32, 32, 32, 97, 110, 100, 32, 32, 32, 32, 32, 110, 111, 116, 32, 32, 32, 32, 32]
def piK (H : HH) : Prop := mcOK H ∧ (∀ k, k < 96 → H 44 0 k = wdsL.getD k 0) ∧ ∀ k, 7 ≤ k → H 3 8 k = 0
/-- a vehicle's numbers, as they can be -/
def vhN (v : VV) (wd : Nat) : Prop := (∃ a, a < 6 ∧ v 0 = nI a) ∧ (∃ a, a < 10 ∧ v 1 = nI a) ∧ (∃ a, a ≤ wd ∧ v 2 = nI a) ∧ (∃ l, l < 3 ∧ v 6 = lI l) ∧ vOK v
def vhOK (H : HH) (wd j : Nat) : Prop := (∀ k, k < 7 → vM H j k = H 3 j k) ∧ vhN (vM H j) wd
def piV (H : HH) (nv wd : Nat) : Prop := ∀ j, j < nv → vhOK H wd j
def piX (H : HH) (nt : Nat) : Prop := ∀ t, t < nt → msOK H t (H 12 t) (H 13 t)
/-- sheet u -/
def shI (H : HH) (u : Nat) : Prop := H 40 0 u = H 16 u 1 ∧ (H 16 u 1 = -1 ∨ H 16 u 1 = 0 ∨ H 16 u 1 = 1 ∨ H 16 u 1 = 2) ∧ (∃ n, n ≤ 40 ∧ H 16 u 2 = nI n ∧ H 41 0 u = nI n) ∧ ∀ i, i < 40 → H 42 0 (40 * u + i) = H 17 u i
def piS (H : HH) : Prop := ∀ u, u < 4 → shI H u
/-- the image -/
def imN (H : HH) (nv nt : Nat) (m : Nat × Nat × Nat × Nat) : Prop := m.1 ≤ nv ∧ 8 ≤ m.2.1 ∧ m.2.1 ≤ 60 ∧ m.2.2.1 ≤ 20 ∧ m.2.2.2 < nt ∧
  H 1 1 2 = nI m.1 ∧ H 2 1 0 = nI m.2.1 ∧ H 2 1 1 = nI m.2.2.1 ∧ H 2 1 2 = nI m.2.2.2 ∧ H 39 0 0 = nI m.1 ∧ H 39 0 1 = nI m.2.1 ∧ H 39 0 2 = nI m.2.2.1 ∧ H 39 0 3 = nI m.2.2.2 ∧
  ∀ j, j < m.1 → H 3 (4 + j) 0 = H 3 j 0 ∧ H 3 (4 + j) 1 = H 3 j 1 ∧ (∀ k, k < 5 → H 38 0 (5 * j + k) = H 3 (4 + j) (k + 2)) ∧ vhN (fun k => if k < 7 then H 3 (4 + j) k else 0) m.2.1
def piI (H : HH) (nv nt : Nat) : Prop := H 0 0 2 = H 30 0 13 ∧ (H 0 0 2 = 0 ∨ (H 0 0 2 = 1 ∧ ∃ m, imN H nv nt m))
def INV (H : HH) (s : SN) : Prop := snOK s ∧ piC H s ∧ piR H s ∧ piT H s.ns ∧ piK H ∧ piV H s.nv s.wd ∧ piX H s.nt ∧ piS H ∧ piI H s.nv s.nt
theorem vM_pt {H H1 : HH} {j : Nat} (h32 : H1 32 0 j = H 32 0 j) (h33 : H1 33 0 j = H 33 0 j) (h34 : ∀ k, k < 5 → H1 34 0 (5 * j + k) = H 34 0 (5 * j + k)) : vM H1 j = vM H j := by
  funext k
  match k with
  | 0 => exact h32
  | 1 => exact h33
  | 2 => exact h34 0 (by omega)
  | 3 => exact h34 1 (by omega)
  | 4 => exact h34 2 (by omega)
  | 5 => exact h34 3 (by omega)
  | 6 => exact h34 4 (by omega)
  | k + 7 => rfl
theorem vhOK.pt {H H1 : HH} {wd j : Nat} (h : vhOK H wd j) (h3 : ∀ k, k < 7 → H1 3 j k = H 3 j k) (h32 : H1 32 0 j = H 32 0 j) (h33 : H1 33 0 j = H 33 0 j) (h34 : ∀ k, k < 5 → H1 34 0 (5 * j + k) = H 34 0 (5 * j + k)) : vhOK H1 wd j := by
  unfold vhOK
  rw [vM_pt h32 h33 h34]
  exact ⟨fun k hk => by rw [h3 k hk]; exact h.1 k hk, h.2⟩
theorem msOK.pt {H H1 : HH} {t : Nat} {code ends : Nat → Int32} (h : msOK H t code ends) (h37 : ∀ k, k < 4 → H1 37 0 (4 * t + k) = H 37 0 (4 * t + k)) (h36 : ∀ k, k < 160 → H1 36 0 (200 * t + k) = H 36 0 (200 * t + k)) : msOK H1 t code ends := by
  intro p hp
  obtain ⟨a, b, h1, h2, h3, h4⟩ := h p hp
  have hb := h1.2.2.2.2.1
  exact ⟨a, b, h1, by rw [h37 p (by omega)]; exact h2, by rw [show 4 * t + p + 1 = 4 * t + (p + 1) by omega, h37 (p + 1) (by omega)]; exact h3, fun k hk => by rw [h36 k (by omega)]; exact h4 k hk⟩
theorem msOK.tx {H : HH} {t : Nat} {code ends : Nat → Int32} (h : msOK H t code ends) : txOK code ends := fun p hp => by
  obtain ⟨a, b, h1, -⟩ := h p hp
  exact ⟨a, b, h1⟩
theorem shI.pt {H H1 : HH} {u : Nat} (h : shI H u) (h16 : ∀ k, H1 16 u k = H 16 u k) (h17 : ∀ k, H1 17 u k = H 17 u k) (h40 : H1 40 0 u = H 40 0 u) (h41 : H1 41 0 u = H 41 0 u) (h42 : ∀ k, k < 40 → H1 42 0 (40 * u + k) = H 42 0 (40 * u + k)) : shI H1 u := by
  obtain ⟨a, b, c, d⟩ := h
  refine ⟨?_, ?_, ?_, fun i hi => ?_⟩
  · rw [h16, h40]; exact a
  · rw [h16]; exact b
  · rw [h16, h41]; exact c
  · rw [h42 i hi, h17]; exact d i hi
theorem imN.pt {H H1 : HH} {nv nt nv1 nt1 : Nat} {m : Nat × Nat × Nat × Nat} (h : imN H nv nt m) (hn : nv ≤ nv1) (ht : nt ≤ nt1) (h1 : H1 1 1 2 = H 1 1 2) (h2 : ∀ k, H1 2 1 k = H 2 1 k) (h39 : ∀ k, H1 39 0 k = H 39 0 k) (h38 : ∀ k, H1 38 0 k = H 38 0 k) (h3 : ∀ j, j < nv → H1 3 j 0 = H 3 j 0 ∧ H1 3 j 1 = H 3 j 1) (h4 : ∀ j k, j < nv → H1 3 (4 + j) k = H 3 (4 + j) k) : imN H1 nv1 nt1 m := by
  obtain ⟨a1, a2, a3, a4, a5, a6, a7, a8, a9, a10, a11, a12, a13, a14⟩ := h
  refine ⟨by omega, a2, a3, a4, by omega, by rw [h1]; exact a6, by rw [h2]; exact a7, by rw [h2]; exact a8, by rw [h2]; exact a9, by rw [h39]; exact a10, by rw [h39]; exact a11, by rw [h39]; exact a12, by rw [h39]; exact a13, fun j hj => ?_⟩
  obtain ⟨b1, b2, b3, b4⟩ := a14 j hj
  have hjn : j < nv := by omega
  refine ⟨by rw [h4 j _ hjn, (h3 j hjn).1]; exact b1, by rw [h4 j _ hjn, (h3 j hjn).2]; exact b2, fun k hk => by rw [h38, h4 j _ hjn]; exact b3 k hk, ?_⟩
  have e : (fun k => if k < 7 then H1 3 (4 + j) k else 0) = (fun k => if k < 7 then H 3 (4 + j) k else 0) := by
    funext k
    rw [h4 j k hjn]
  rw [e]
  exact b4
theorem INV.sc {H H1 : HH} {s : SN} (h : INV H s) (hf : scF H H1) : INV H1 s := by
  obtain ⟨i1, i2, i3, i4, i5, i6, i7, i8, i9⟩ := h
  obtain ⟨c1, c2, c3, c4, c5, c6, c7⟩ := i1
  have nv4 : s.nv ≤ 4 := c1
  have nt6 : s.nt ≤ 6 := c6
  refine ⟨⟨c1, c2, c3, c4, c5, c6, c7⟩, ?_, ?_, fun i hi => ?_, ⟨fun k hk => ?_, fun k hk => ?_, fun k hk => ?_⟩, fun j hj => ?_, fun t ht => ?_, fun u hu => ?_, ?_, ?_⟩
  · obtain ⟨a1, a2, a3, a4, a5, a6⟩ := i2
    exact ⟨by rw [hf 1 0 2 (by unfold scr; omega)]; exact a1, by rw [hf 2 0 0 (by unfold scr; omega)]; exact a2, by rw [hf 2 0 1 (by unfold scr; omega)]; exact a3, by rw [hf 2 0 2 (by unfold scr; omega)]; exact a4, by rw [hf 0 0 5 (by unfold scr; omega)]; exact a5, by rw [hf 6 0 1 (by unfold scr; omega)]; exact a6⟩
  · obtain ⟨a1, a2, a3, a4, a5, a6⟩ := i3
    exact ⟨by rw [hf 30 0 3 (by unfold scr; omega)]; exact a1, by rw [hf 30 0 1 (by unfold scr; omega)]; exact a2, by rw [hf 30 0 2 (by unfold scr; omega)]; exact a3, by rw [hf 30 0 12 (by unfold scr; omega)]; exact a4, by rw [hf 30 0 11 (by unfold scr; omega)]; exact a5, by rw [hf 30 0 8 (by unfold scr; omega)]; exact a6⟩
  · rw [hf 35 0 i (by unfold scr; omega), hf 7 0 i (by unfold scr; omega)]; exact i4 i hi
  · rw [hf 31 0 k (by unfold scr; omega)]; exact i5.1 k hk
  · rw [hf 44 0 k (by unfold scr; omega)]; exact i5.2.1 k hk
  · rw [hf 3 8 k (by unfold scr; omega)]; exact i5.2.2 k hk
  · exact (i6 j hj).pt (fun k hk => hf 3 j k (by unfold scr; omega)) (hf 32 0 j (by unfold scr; omega)) (hf 33 0 j (by unfold scr; omega)) (fun k hk => hf 34 0 _ (by unfold scr; omega))
  · have e12 : H1 12 t = H 12 t := by funext k; exact hf 12 t k (by unfold scr; omega)
    have e13 : H1 13 t = H 13 t := by funext k; exact hf 13 t k (by unfold scr; omega)
    rw [e12, e13]
    exact (i7 t ht).pt (fun k hk => hf 37 0 _ (by unfold scr; omega)) (fun k hk => hf 36 0 _ (by unfold scr; omega))
  · exact (i8 u hu).pt (fun k => hf 16 u k (by unfold scr; omega)) (fun k => hf 17 u k (by unfold scr; omega)) (hf 40 0 u (by unfold scr; omega)) (hf 41 0 u (by unfold scr; omega)) (fun k hk => hf 42 0 _ (by unfold scr; omega))
  · rw [hf 0 0 2 (by unfold scr; omega), hf 30 0 13 (by unfold scr; omega)]; exact i9.1
  · rw [hf 0 0 2 (by unfold scr; omega)]
    rcases i9.2 with e | ⟨e, m, hm⟩
    · exact Or.inl e
    · exact Or.inr ⟨e, m, hm.pt (Nat.le_refl _) (Nat.le_refl _) (hf 1 1 2 (by unfold scr; omega)) (fun k => hf 2 1 k (by unfold scr; omega)) (fun k => hf 39 0 k (by unfold scr; omega)) (fun k => hf 38 0 k (by unfold scr; omega)) (fun j hj => ⟨hf 3 j 0 (by unfold scr; omega), hf 3 j 1 (by unfold scr; omega)⟩) (fun j k hj => hf 3 (4 + j) k (by unfold scr; omega))⟩
/-- what both sides need of the law -/
theorem INV.ml {H : HH} {s : SN} (h : INV H s) : mlOK H s.lw (H 12 s.lw) (H 13 s.lw) := by
  obtain ⟨i1, i2, i3, i4, i5, i6, i7, i8, i9⟩ := h
  obtain ⟨c1, c2, c3, c4, c5, c6, c7⟩ := i1
  exact ⟨i3.2.2.2.1, by show s.lw < 6; omega, i7 s.lw c5, i5.1⟩
/-- the law that stands -/
def lwH (H : HH) (s : SN) : LW := lwF (H 12 s.lw) (H 13 s.lw)
theorem nat_of {x : Int32} {n : Nat} (hn : n < 2147483648) (h1 : 0 ≤ x) (h2 : x ≤ nI n) : ∃ j, j ≤ n ∧ x = nI j := by
  obtain ⟨j, hj, e⟩ := nI_of (x := x) (fun q => by simp only [ti_lt, ti_le] at *; omega)
  subst e
  rw [nI_leI hj hn] at h2
  exact ⟨j, h2, rfl⟩
theorem nI_in0 {n j : Nat} (hn : n < 2147483648) (hj : j ≤ n) : 0 ≤ nI j ∧ nI j ≤ nI n := ⟨nI_pos' (by omega), nI_le hj hn⟩
theorem s_Main_isVehicle {E : XE} {d : Nat} {x : Int32} {s : SN} {H : HH} {Q : Int32 → HH → Prop} (hI : INV H s) (h1 : ∀ j, j < s.nv → x = nI j → Q 1 H) (h0 : (∀ j, j < s.nv → ¬ x = nI j) → Q 0 H) : c_Main_isVehicle E d x H Q := by
  obtain ⟨c1, -⟩ := hI.1
  have nv4 : s.nv ≤ 4 := c1
  have e := hI.2.1.1
  refine l_Main_isVehicle ?_
  unfold p_Main_isVehicle
  rw [e]
  by_cases q1 : x < 0
  · rw [if_pos q1]
    refine ⟨Or.inl rfl, h0 fun j hj ej => ?_⟩
    rw [ej] at q1; exact nI_pos (by omega) q1
  · obtain ⟨j, hj, ej⟩ := nI_of q1
    subst ej
    rw [if_neg q1]
    by_cases q2 : nI s.nv ≤ nI j
    · rw [if_pos q2]
      rw [nI_leI (by omega) hj] at q2
      refine ⟨Or.inl rfl, h0 fun j2 hj2 e2 => ?_⟩
      rw [nI_eq hj (by omega)] at e2; omega
    · rw [if_neg q2]
      rw [nI_leI (by omega) hj] at q2
      rw [if_neg (by rw [show (4 : Int32) = nI 4 from rfl, nI_leI (by omega) hj]; omega)]
      exact ⟨Or.inr rfl, h1 j (by omega) rfl⟩
theorem s_Model_isVehicle {E : XE} {d : Nat} {x : Int32} {s : SN} {H : HH} {Q : Int32 → HH → Prop} (hI : INV H s) (h1 : ∀ j, j < s.nv → x = nI j → Q 1 H) (h0 : (∀ j, j < s.nv → ¬ x = nI j) → Q 0 H) : c_Model_isVehicle E (d + 1) x H Q := by
  obtain ⟨c1, -⟩ := hI.1
  have nv4 : s.nv ≤ 4 := c1
  have e := hI.2.2.1.1
  refine l_Model_isVehicle ?_
  unfold p_Model_isVehicle
  rw [e]
  have z1 : (nI s.nv - 1).toInt = (s.nv : Int) - 1 := by
    rw [ti_sub (by rw [ti_nI (by omega)]; have : (1 : Int32).toInt = 1 := rfl; omega) (by rw [ti_nI (by omega)]; have : (1 : Int32).toInt = 1 := rfl; omega), ti_nI (by omega)]; rfl
  refine s_Model_in (fun q1 q2 => ?_) (fun q => ?_)
  · obtain ⟨j, hj, ej⟩ := nI_of (x := x) (fun z => by simp only [ti_lt, ti_le] at *; omega)
    refine ⟨Or.inr rfl, h1 j ?_ ej⟩
    simp only [ti_le] at q2
    rw [ej, ti_nI hj, z1] at q2
    omega
  · refine ⟨Or.inl rfl, h0 fun j hj ej => q ⟨?_, ?_⟩⟩
    · rw [ej]; exact nI_pos' (by omega)
    · rw [ej]; simp only [ti_le]; rw [ti_nI (by omega), z1]; omega
theorem s_Main_isPlace {E : XE} {d : Nat} {x : Int32} {s : SN} {H : HH} {Q : Int32 → HH → Prop} (hI : INV H s) (h1 : ∀ p, p ≤ s.wd → x = nI p → Q 1 H) (h0 : (∀ p, p ≤ s.wd → ¬ x = nI p) → Q 0 H) : c_Main_isPlace E (d + 1) x H Q := by
  have w60 : s.wd ≤ 60 := hI.1.2.2.1
  refine l_Main_isPlace ?_
  unfold p_Main_isPlace
  rw [hI.2.1.2.1]
  refine s_Main_isWithin (fun q1 q2 => ?_) (fun q => ?_)
  · obtain ⟨j, hj, ej⟩ := nat_of (by omega) q1 q2
    exact ⟨Or.inr rfl, h1 j hj ej⟩
  · exact ⟨Or.inl rfl, h0 fun p hp e => q (by rw [e]; exact nI_in0 (by omega) hp)⟩
theorem s_Model_isPlaceI {E : XE} {d : Nat} {x : Int32} {s : SN} {H : HH} {Q : Int32 → HH → Prop} (hI : INV H s) (h1 : ∀ p, p ≤ s.wd → x = nI p → Q 1 H) (h0 : (∀ p, p ≤ s.wd → ¬ x = nI p) → Q 0 H) : c_Model_isPlace E (d + 1) x H Q := by
  have w60 : s.wd ≤ 60 := hI.1.2.2.1
  refine l_Model_isPlace ?_
  unfold p_Model_isPlace
  rw [hI.2.2.1.2.1]
  refine s_Model_in (fun q1 q2 => ?_) (fun q => ?_)
  · obtain ⟨j, hj, ej⟩ := nat_of (by omega) q1 q2
    exact ⟨Or.inr rfl, h1 j hj ej⟩
  · exact ⟨Or.inl rfl, h0 fun p hp e => q (by rw [e]; exact nI_in0 (by omega) hp)⟩
set_option maxHeartbeats 8000000 in
theorem s_Main_think {E : XE} {d j : Nat} {s : SN} {H : HH} {Q : HH → Prop} (hI : INV H s) (hj : j < s.nv) (h : ∀ H1, scF H H1 → rdOK H1 s.lw → H1 2 2 0 = nI s.wd → H1 2 2 1 = nI s.op → H1 3 8 = vM H j → Q H1) : c_Main_think E (d + 1) (nI j) H Q := by
  have nv4 : s.nv ≤ 4 := hI.1.1
  have lwt : s.lw < s.nt := hI.1.2.2.2.2.1
  have nt6 : s.nt ≤ 6 := hI.1.2.2.2.2.2.1
  obtain ⟨c1, c2, c3, c4, c5, c6⟩ := hI.2.1
  refine l_Main_think (s_Lane_become ?_)
  generalize hH1 : hrow H 2 2 (fun k => if k < 3 then H 2 0 k else H 2 2 k) = H1
  have s1 : scF H H1 := by
    intro a i k q
    rw [← hH1]
    by_cases e : a = 2 ∧ i = 2
    · exact absurd (by unfold scr; omega) q
    · unfold hrow; rw [if_neg e]
  have w0 : H1 2 2 0 = nI s.wd := by rw [← hH1, hrow_at]; exact c2
  have w1 : H1 2 2 1 = nI s.op := by rw [← hH1, hrow_at]; exact c3
  have w2 : H1 2 0 2 = nI s.lw := by rw [s1 2 0 2 (by unfold scr; omega)]; exact c4
  rw [w2]
  refine s_Main_isWithin (fun _ _ => ?_) (fun q => absurd ⟨nI_pos' (by omega), by rw [show (5 : Int32) = nI 5 from rfl]; exact nI_le (by omega) (by omega)⟩ q)
  refine ⟨fun z => absurd z (by decide), fun _ => ?_⟩
  rw [w2]
  refine ⟨vp_in_nI (by omega) (by omega), ?_, fun H8 e8 => ?_⟩
  · rw [nI_clamp (by omega)]; omega
  · rw [nI_clamp (by omega)] at e8
    have s8 : scF H H8 := by rw [e8]; exact s1.hu (by unfold scr; omega)
    refine s_Main_isVehicle (hI.sc s8) (fun j2 hj2 e2 => ?_) (fun no => absurd rfl (no j hj))
    refine ⟨fun z => absurd z (by decide), fun _ => ⟨vp_in_nI (by omega) (by omega), ?_⟩⟩
    rw [nI_clamp (by omega), show 4 * 0 + j = j by omega]
    refine s_Vehicle_become ?_
    have s9 : scF H (hrow H8 3 8 (fun k => if k < 7 then H8 3 j k else H8 3 8 k)) := by
      intro a i k q
      by_cases e : a = 3 ∧ i = 8
      · obtain ⟨rfl, rfl⟩ := e
        rw [hrow_at]
        rcases Nat.lt_or_ge k 7 with y | y
        · exact absurd (by unfold scr; omega) q
        · rw [if_neg (by omega)]; exact s8 3 8 k q
      · unfold hrow; rw [if_neg e]; exact s8 a i k q
    refine h _ s9 ⟨?_, by omega, ?_⟩ ?_ ?_ ?_
    · rw [hrow_kd _ _ _ (by decide), e8, hu_at]
    · have e12 : hrow H8 3 8 (fun k => if k < 7 then H8 3 j k else H8 3 8 k) 12 s.lw = H 12 s.lw := by funext k; exact s9 12 _ k (by unfold scr; omega)
      have e13 : hrow H8 3 8 (fun k => if k < 7 then H8 3 j k else H8 3 8 k) 13 s.lw = H 13 s.lw := by funext k; exact s9 13 _ k (by unfold scr; omega)
      rw [e12, e13]
      exact hI.ml.2.2.1.tx
    · rw [hrow_kd _ _ _ (by decide), e8, hu_kd _ _ _ _ (by decide)]; exact w0
    · rw [hrow_kd _ _ _ (by decide), e8, hu_kd _ _ _ _ (by decide)]; exact w1
    · rw [hrow_at]
      funext k
      have hv := hI.2.2.2.2.2.1 j hj
      rcases Nat.lt_or_ge k 7 with y | y
      · rw [if_pos y, s8 3 j k (by unfold scr; omega)]; exact (hv.1 k y).symm
      · rw [if_neg (by omega), s8 3 8 k (by unfold scr; omega), hI.2.2.2.2.1.2.2 k y]
        exact (hv.2.2.2.2.2.2.2.2 k y).symm
/-- what a ride says and fits, of the vehicle thought of -/
theorem think_lw {H H1 : HH} {s : SN} (hI : INV H s) (hs : scF H H1) : lwF (H1 12 s.lw) (H1 13 s.lw) = lwH H s := by
  have lwt : s.lw < s.nt := hI.1.2.2.2.2.1
  have nt6 : s.nt ≤ 6 := hI.1.2.2.2.2.2.1
  unfold lwH
  rw [show H1 12 s.lw = H 12 s.lw by funext k; exact hs 12 _ k (by unfold scr; omega), show H1 13 s.lw = H 13 s.lw by funext k; exact hs 13 _ k (by unfold scr; omega)]
