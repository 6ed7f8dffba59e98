/-! SPECS 12: the class's buckets: unlink, lower. -/
theorem t3_div {x y : Int32} {a b : Int} (hx : x.toInt = a) (hy : y.toInt = b) (h0 : 0 ≤ a) (h1 : 0 < b) : (x / y).toInt = a / b := by
  rw [Int32.toInt_div, hx, hy, Int.tdiv_eq_ediv_of_nonneg h0]
  have c1 : 0 ≤ a / b := Int.ediv_nonneg h0 (by omega)
  have c2 : a / b ≤ a := Int.ediv_le_self b h0
  have := ti_hi x
  exact ti_bm (by omega) (by omega)
theorem t3_rem {x y : Int32} {a b : Int} (hx : x.toInt = a) (hy : y.toInt = b) (h0 : 0 ≤ a) (h1 : 0 < b) : (xrem x y).toInt = a % b := by
  have hh := ti_hi x
  have e1 := t3_div hx hy h0 h1
  have e3 : b * (a / b) + a % b = a := Int.mul_ediv_add_emod a b
  have e4 : 0 ≤ a % b := Int.emod_nonneg a (by omega)
  have e5 : a % b < b := Int.emod_lt_of_pos a h1
  have e6 : 0 ≤ a / b := Int.ediv_nonneg h0 (by omega)
  have e7 : 0 ≤ b * (a / b) := Int.mul_nonneg (by omega) e6
  have e8 : a / b * b = b * (a / b) := Int.mul_comm _ _
  have e2 : (x / y * y).toInt = b * (a / b) := by rw [ti_mul (by rw [e1, hy]; omega) (by rw [e1, hy]; omega), e1, hy, e8]
  show (x - x / y * y).toInt = a % b
  rw [ti_sub (by rw [e2]; omega) (by rw [e2]; omega), e2]
  omega
theorem xrem_nI {a b : Nat} (ha : a < 2147483648) (hb : 0 < b) (hb2 : b < 2147483648) : xrem (nI a) (nI b) = nI (a % b) := by
  rw [ti_eq, t3_rem (ti_nI ha) (ti_nI hb2) (by omega) (by omega), ti_nI (Nat.lt_trans (Nat.mod_lt _ hb) hb2)]
  omega
theorem div_nI {a b : Nat} (ha : a < 2147483648) (hb : 0 < b) (hb2 : b < 2147483648) : nI a / nI b = nI (a / b) := by
  have : a / b ≤ a := Nat.div_le_self a b
  rw [ti_eq, t3_div (ti_nI ha) (ti_nI hb2) (by omega) (by omega), ti_nI (by omega)]
  omega
theorem sh_all : ∀ x, x < 1952 → nI x >>> ((1 : Int32) &&& 31) = nI (x / 2) ∧ (nI (x / 2)) &&& 15 = nI (x / 2 % 16) ∧ nI x >>> ((5 : Int32) &&& 31) = nI (x / 32) ∧ nI x &&& 1 = nI (x % 2) := by decide +kernel
/-- the costs and the buckets as lists -/
def bkOK (H : HH) (c : Nat → Option Nat) (L : Nat → List Nat) (w : Nat → Bool) : Prop :=
  (∀ b, b < 128 → chn (H 25 0) (H 26 0) (-1) (L b) (H 24 0 b) ∧ (L b).Nodup) ∧
  (∀ b, b < 128 → ∀ x ∈ L b, x < 1952 ∧ ∃ k, c x = some k ∧ k % 128 = b) ∧
  (∀ x, x < 1952 → (c x = none → H 23 0 x = 2147483647) ∧ ∀ k, c x = some k → H 23 0 x = nI k ∧ k < 1000000) ∧
  (∀ x, x < 1952 → (w x = true ↔ ∃ k, c x = some k ∧ x ∈ L (k % 128))) ∧
  H 21 0 6 = nI (cntF w 1952)
/-- only the buckets' kinds have changed, of the search's own fields the count alone -/
def bkFr (H H1 : HH) : Prop := (∀ a, a ≠ 21 → a ≠ 23 → a ≠ 24 → a ≠ 25 → a ≠ 26 → H1 a = H a) ∧ ∀ i k, ¬ (i = 0 ∧ k = 6) → H1 21 i k = H 21 i k
theorem bkFr.rf {H : HH} : bkFr H H := ⟨fun _ _ _ _ _ _ => rfl, fun _ _ _ => rfl⟩
theorem bkFr.tr {H H1 H2 : HH} (h1 : bkFr H H1) (h2 : bkFr H1 H2) : bkFr H H2 := ⟨fun a q1 q2 q3 q4 q5 => (h2.1 a q1 q2 q3 q4 q5).trans (h1.1 a q1 q2 q3 q4 q5), fun i k q => (h2.2 i k q).trans (h1.2 i k q)⟩
theorem bkFr.hu {H H1 : HH} {kd ix k : Nat} {x : Int32} (h : bkFr H H1) (hk : kd = 23 ∨ kd = 24 ∨ kd = 25 ∨ kd = 26 ∨ (kd = 21 ∧ ix = 0 ∧ k = 6)) : bkFr H (hu H1 kd ix k x) := by
  refine ⟨fun a q1 q2 q3 q4 q5 => ?_, fun i j q => ?_⟩
  · rw [hu_kd _ _ _ _ (by omega)]; exact h.1 a q1 q2 q3 q4 q5
  · rcases hk with rfl | rfl | rfl | rfl | ⟨rfl, rfl, rfl⟩
    · rw [hu_kd _ _ _ _ (by decide)]; exact h.2 i j q
    · rw [hu_kd _ _ _ _ (by decide)]; exact h.2 i j q
    · rw [hu_kd _ _ _ _ (by decide)]; exact h.2 i j q
    · rw [hu_kd _ _ _ _ (by decide)]; exact h.2 i j q
    · by_cases hi : i = 0
      · subst hi
        rw [hu_k _ _ (fun e => q ⟨rfl, e⟩)]; exact h.2 0 j q
      · rw [hu_ix _ _ _ hi]; exact h.2 i j q
theorem s_Search_unlink {E : XE} {d x k : Nat} {c : Nat → Option Nat} {L : Nat → List Nat} {w : Nat → Bool} {H : HH} {Q : HH → Prop} (hb : bkOK H c L w) (hx : x < 1952) (hw : w x = true) (hc : c x = some k)
    (h : ∀ H1 L1, bkFr H H1 → H1 23 = H 23 → bkOK H1 c L1 (fun y => if y = x then false else w y) → Q H1) : c_Search_unlink E d (nI x) H Q := by
  obtain ⟨b1, b2, b3, b4, b5⟩ := hb
  obtain ⟨k0, hk0, hm⟩ := (b4 x hx).mp hw
  rw [hc] at hk0
  cases hk0
  have hB : k % 128 < 128 := Nat.mod_lt _ (by decide)
  obtain ⟨ek, hk⟩ := (b3 x hx).2 k hc
  generalize hbk : k % 128 = B at *
  obtain ⟨A, C, hL⟩ := List.append_of_mem hm
  obtain ⟨q1, q2⟩ := b1 B hB
  rw [hL] at q1 q2
  obtain ⟨m1, m2⟩ := chn_midD q1
  have m3 := chn_fstD m2
  have hrem : xrem (H 23 0 x) 128 = nI B := by
    rw [ek, show (128 : Int32) = nI 128 from rfl, xrem_nI (by omega) (by decide) (by decide), hbk]
  have inB : ∀ z, z ∈ A ++ x :: C → z < 1952 ∧ ∃ k, c z = some k ∧ k % 128 = B := fun z hz => b2 B hB z (by rw [hL]; exact hz)
  have fin : ∀ H1 : HH, H1 25 0 = dnx (H 25 0) A (H 25 0 x) → H1 26 0 = dpv (H 26 0) C (H 26 0 x) → (∀ b, H1 24 0 b = if b = B then dhd A (H 25 0 x) (H 24 0 B) else H 24 0 b) → H1 23 = H 23 → H1 21 0 6 = H 21 0 6 - 1 → bkFr H H1 → Q H1 := by
    intro H1 e25 e26 e24 e23 e21 hF
    refine h H1 (fun b => if b = B then A ++ C else L b) hF e23 ⟨fun b hb' => ?_, fun b hb' z hz => ?_, fun z hz => ?_, fun z hz => ?_, ?_⟩
    · by_cases e : b = B
      · subst e
        simp only [if_true]
        rw [e25, e26, e24, if_pos rfl]
        exact ⟨chn_delD q2 q1, List.Pairwise.sublist (List.Sublist.append_left (List.sublist_cons_self x C) A) q2⟩
      · simp only [if_neg e]
        rw [e25, e26, e24, if_neg e]
        refine ⟨chn_cong (fun z hz => ?_) (b1 b hb').1, (b1 b hb').2⟩
        have hzn : ∀ y, y ∈ A ++ x :: C → z ≠ y := by
          intro y hy ezy
          obtain ⟨-, k1, f1, f2⟩ := b2 b hb' z hz
          obtain ⟨-, k2, g1, g2⟩ := inB y hy
          rw [ezy, g1] at f1
          cases f1
          exact e (f2.symm.trans g2)
        constructor
        · unfold dnx
          cases hl : A.getLast? with
          | none => rfl
          | some a =>
            have : z ≠ a := hzn a (List.mem_append_left _ (List.mem_of_getLast? hl))
            simp [upd, this]
        · cases C with
          | nil => rfl
          | cons y r =>
            have : z ≠ y := hzn y (by simp)
            simp [upd, dpv, this]
    · by_cases e : b = B
      · subst e
        simp only [if_true] at hz
        refine inB z ?_
        rcases List.mem_append.mp hz with q | q
        · exact List.mem_append_left _ q
        · exact List.mem_append_right _ (List.mem_cons_of_mem _ q)
      · simp only [if_neg e] at hz
        exact b2 b hb' z hz
    · rw [e23]; exact b3 z hz
    · have hxn : x ∉ A ++ C := by
        intro q
        have hn := q2
        rw [List.nodup_append] at hn
        rcases List.mem_append.mp q with q | q
        · exact hn.2.2 x q x List.mem_cons_self rfl
        · exact (List.nodup_cons.mp hn.2.1).1 q
      by_cases ez : z = x
      · subst ez
        simp only [if_true]
        constructor
        · intro q; cases q
        · rintro ⟨k1, f1, f2⟩
          rw [hc] at f1
          cases f1
          rw [hbk, if_pos rfl] at f2
          exact absurd f2 hxn
      · simp only [if_neg ez]
        rw [b4 z hz]
        constructor
        · rintro ⟨k1, f1, f2⟩
          refine ⟨k1, f1, ?_⟩
          by_cases e : k1 % 128 = B
          · rw [if_pos e]
            rw [e, hL] at f2
            rcases List.mem_append.mp f2 with q | q
            · exact List.mem_append_left _ q
            · rcases List.mem_cons.mp q with q | q
              · exact absurd q ez
              · exact List.mem_append_right _ q
          · rw [if_neg e]; exact f2
        · rintro ⟨k1, f1, f2⟩
          refine ⟨k1, f1, ?_⟩
          by_cases e : k1 % 128 = B
          · rw [if_pos e] at f2
            rw [e, hL]
            rcases List.mem_append.mp f2 with q | q
            · exact List.mem_append_left _ q
            · exact List.mem_append_right _ (List.mem_cons_of_mem _ q)
          · rw [if_neg e] at f2; exact f2
    · rw [e21, b5, ← cntF_clr hx hw, nI_pred]
  have z0 : ∀ n : Nat, n < 1952 → ¬ nI n < 0 ∧ ¬ (1952 : Int32) ≤ nI n ∧ vp_in (nI n) 1952 ∧ (nI n).toNatClampNeg = n := by
    intro n hn
    refine ⟨nI_pos (by omega), ?_, vp_in_nI hn (by omega), nI_clamp (by omega)⟩
    rw [show (1952 : Int32) = nI 1952 from rfl, nI_leI (by omega) (by omega)]
    omega
  obtain ⟨x0, x1, x2, x3⟩ := z0 x hx
  refine l_Search_unlink ⟨fun q => absurd q x0, fun _ => ⟨fun _ => ?_, fun q => absurd (by rw [show (1952 : Int32) = nI 1952 from rfl, nI_ltI (by omega) (by omega)]; exact hx) q⟩⟩
  rw [x3]
  refine ⟨x2, fun v1 e1 => ⟨x2, fun v2 e2 => ?_⟩⟩
  rw [hrem]
  have vB : vp_in (nI B) 128 := vp_in_nI hB (by omega)
  have cB : (nI B).toNatClampNeg = B := nI_clamp (by omega)
  rw [cB]
  subst e1; subst e2
  have ne1 : ((-1 : Int32) < 0) := by decide
  cases hA : A.getLast? with
  | none =>
    have hAn : A = [] := by simpa using hA
    subst hAn
    simp only [lsI, List.getLast?_nil] at m1
    have s1 : ∀ H1 : HH, bkFr H H1 → bkFr H (hu H1 24 0 B (H 25 0 x)) := fun H1 q => q.hu (by omega)
    refine ⟨fun _ => ⟨x2, vB, fun H3 e3 => ?_⟩, fun q => absurd (by rw [m1]; exact ne1) q⟩
    have F3 : bkFr H H3 := by rw [e3]; exact s1 H bkFr.rf
    have g24 : ∀ b, H3 24 0 b = if b = B then H 25 0 x else H 24 0 b := by intro b; rw [e3]; simp [hu]
    cases C with
    | nil =>
      simp only [hdI] at m3
      refine ⟨fun _ H4 e4 => fin H4 ?_ ?_ (fun b => ?_) ?_ ?_ ?_, fun q => absurd (by rw [m3]; exact ne1) q⟩
      · rw [e4, e3]; simp [hu_kd, dnx, dpv]
      · rw [e4, e3]; simp [hu_kd, dnx, dpv]
      · rw [e4, hu_kd _ _ _ _ (by decide)]; exact g24 b
      · rw [e4, e3]; simp [hu_kd, dnx, dpv]
      · rw [e4, hu_at, e3, hu_kd _ _ _ _ (by decide)]
      · rw [e4]; exact F3.hu (by omega)
    | cons y r =>
      simp only [hdI] at m3
      obtain ⟨y0, y1, y2, y3⟩ := z0 y (inB y (by simp)).1
      rw [m3]
      rw [m3] at e3 g24
      refine ⟨fun q => absurd q y0, fun _ => ⟨fun q => absurd q y1, fun _ => ⟨y2, fun H6 e6 H7 e7 => fin H7 ?_ ?_ (fun b => ?_) ?_ ?_ ?_⟩⟩⟩
      · rw [e7, e6, e3]; simp [hu_kd, dnx, dpv]
      · rw [e7, e6, y3, e3]
        funext z
        simp only [upd, dpv]
        by_cases q : z = y
        · subst q; simp [hu]
        · simp [hu, q]
      · rw [e7, hu_kd _ _ _ _ (by decide), e6, hu_kd _ _ _ _ (by decide), g24 b, m3]; rfl
      · rw [e7, e6, e3]; simp [hu_kd, dnx, dpv]
      · rw [e7, hu_at, e6, hu_kd _ _ _ _ (by decide), e3, hu_kd _ _ _ _ (by decide)]
      · rw [e7, e6]; exact (F3.hu (by omega)).hu (by omega)
  | some a =>
    have haA : a ∈ A := List.mem_of_getLast? hA
    simp only [lsI, hA] at m1
    obtain ⟨a0, a1, a2, a3⟩ := z0 a (inB a (List.mem_append_left _ haA)).1
    have hAc : dhd A (H 25 0 x) (H 24 0 B) = H 24 0 B := by
      cases A with
      | nil => simp at hA
      | cons _ _ => rfl
    rw [m1]
    refine ⟨fun q => absurd q a0, fun _ => ⟨fun q => absurd q a1, fun _ => ⟨a2, fun H13 e13 => ?_⟩⟩⟩
    rw [a3] at e13
    have F13 : bkFr H H13 := by rw [e13]; exact bkFr.rf.hu (by omega)
    have g25 : H13 25 0 = upd (H 25 0) a (H 25 0 x) := by
      rw [e13]; funext z
      simp only [upd]
      by_cases q : z = a
      · subst q; simp [hu]
      · simp [hu, q]
    cases C with
    | nil =>
      simp only [hdI] at m3
      refine ⟨fun _ H14 e14 => fin H14 ?_ ?_ (fun b => ?_) ?_ ?_ ?_, fun q => absurd (by rw [m3]; exact ne1) q⟩
      · rw [e14, hu_kd _ _ _ _ (by decide), g25, dnx, hA]
      · rw [e14, e13]; simp [hu_kd, dnx, dpv]
      · rw [e14, hu_kd _ _ _ _ (by decide), e13, hu_kd _ _ _ _ (by decide), hAc]
        by_cases q : b = B
        · rw [if_pos q, q]
        · rw [if_neg q]
      · rw [e14, e13]; simp [hu_kd, dnx, dpv]
      · rw [e14, hu_at, e13, hu_kd _ _ _ _ (by decide)]
      · rw [e14]; exact F13.hu (by omega)
    | cons y r =>
      simp only [hdI] at m3
      obtain ⟨y0, y1, y2, y3⟩ := z0 y (inB y (by simp)).1
      rw [m3]
      rw [m3] at e13 g25
      refine ⟨fun q => absurd q y0, fun _ => ⟨fun q => absurd q y1, fun _ => ⟨y2, fun H16 e16 H17 e17 => fin H17 ?_ ?_ (fun b => ?_) ?_ ?_ ?_⟩⟩⟩
      · rw [e17, hu_kd _ _ _ _ (by decide), e16, hu_kd _ _ _ _ (by decide), g25, dnx, hA, m3]
      · rw [e17, e16, y3, m1, e13]
        funext z
        simp only [upd, dpv]
        by_cases q : z = y
        · subst q; simp [hu]
        · simp [hu, q]
      · rw [e17, hu_kd _ _ _ _ (by decide), e16, hu_kd _ _ _ _ (by decide), e13, hu_kd _ _ _ _ (by decide), hAc]
        by_cases q : b = B
        · rw [if_pos q, q]
        · rw [if_neg q]
      · rw [e17, e16, e13]; simp [hu_kd, dnx, dpv]
      · rw [e17, hu_at, e16, hu_kd _ _ _ _ (by decide), e13, hu_kd _ _ _ _ (by decide)]
      · rw [e17, e16]; exact (F13.hu (by omega)).hu (by omega)
