/-! SPECS 3: what a text says (the class). -/
theorem s_Text_joined {E : XE} {d : Nat} {op a b : Int32} {H : HH} {Q : Int32 → HH → Prop} (h : Q (evop op a b) H) : c_Text_joined E d op a b H Q := by
  refine l_Text_joined ⟨fun e => ?_, fun e => ?_, fun e => ?_, fun e => ?_, fun e => ?_, fun e => ?_, fun e1 e2 e3 e4 e5 e6 => ?_⟩
  · subst e; exact h
  · subst e; exact h
  · subst e; exact h
  · subst e; exact h
  · subst e; exact h
  · subst e; exact h
  · rw [evop, if_neg e1, if_neg e2, if_neg e3, if_neg e4, if_neg e5, if_neg e6] at h; exact h
theorem s_Text_operand {E : XE} {d : Nat} {c : Int32} {H : HH} {Q : Int32 → HH → Prop} (h0 : 0 ≤ c ∧ c < 10006) (h : Q (evnm (H 20 0) c) H) : c_Text_operand E d c H Q := by
  refine l_Text_operand ⟨fun e => ⟨fun q => ?_, fun q => ⟨?_, ?_⟩⟩, fun e => ?_⟩
  · rw [evnm, if_pos e, if_pos q] at h; exact h
  · have z1 : (10000 : Int32).toInt = 10000 := rfl
    have z2 : (10006 : Int32).toInt = 10006 := rfl
    have z3 : (6 : Int32).toInt = 6 := rfl
    simp only [ti_lt, ti_le] at e q h0
    have es : (c - 10000).toInt = c.toInt - 10000 := ti_sub (by omega) (by omega)
    exact ti_in (by omega) (by omega)
  · rw [evnm, if_pos e, if_neg q] at h; exact h
  · rw [evnm, if_neg e] at h; exact h
theorem cdN {c : Int32} {d d2 : Nat} (h1 : c < 20000) (h : cd1 c d = some d2) : 0 ≤ c ∧ c < 10006 := by
  unfold cd1 at h
  rw [if_pos h1] at h
  by_cases h2 : 0 ≤ c ∧ c < 10006
  · exact h2
  · rw [if_neg h2] at h; cases h
theorem cdU {c : Int32} {s : List Int32} {d2 : Nat} (h1 : ¬ c < 20000) (h2 : c = 20002 ∨ c = 20008) (h : cd1 c s.length = some d2) : ∃ x r, s = x :: r := by
  unfold cd1 at h
  rw [if_neg h1, if_pos h2] at h
  cases s with
  | nil => simp at h
  | cons x r => exact ⟨x, r, rfl⟩
theorem cdB {c : Int32} {s : List Int32} {d2 : Nat} (h1 : ¬ c < 20000) (h2 : ¬ (c = 20002 ∨ c = 20008)) (h : cd1 c s.length = some d2) : ∃ y x r, s = y :: x :: r := by
  unfold cd1 at h
  rw [if_neg h1, if_neg h2] at h
  match s, h with
  | [], h => simp at h
  | [x], h => simp at h
  | y :: x :: r, _ => exact ⟨y, x, r, rfl⟩
/-- part p of a text stands at a .. b of its code, and can be worked out -/
def txP (code ends : Nat → Int32) (p a b : Nat) : Prop := ends p = nI b ∧ (p = 0 → a = 0) ∧ (0 < p → ends (p - 1) = nI a) ∧ a ≤ b ∧ b ≤ 160 ∧ cdep code a (b - a) = some 1
/-- what part p says -/
def clF (p : Nat) (v : Int32) : Int32 := xmax 0 (xmin v (xBND.getD p 0))
theorem s_Text_says {E : XE} {d t p a b : Nat} {H : HH} {Q : Int32 → HH → Prop} (hp : p < 3) (ht : txP (H 12 t) (H 13 t) p a b)
    (h : ∀ f, Q (clF p ((evs (H 20 0) (H 12 t) a (b - a)).headD 0)) (hrow H 14 t f)) : c_Text_says E (d + 1) t (nI p) H Q := by
  obtain ⟨te, t0, t1, tab, tb, tc⟩ := ht
  have z1 : (1 : Int32) = nI 1 := rfl
  have z3 : (3 : Int32) = nI 3 := rfl
  have z160 : (160 : Int32) = nI 160 := rfl
  refine l_Text_says ⟨fun q => absurd q (nI_pos (by omega)), fun _ => ⟨fun _ => ?_, fun q => ?_⟩⟩
  · refine ⟨fun y H' => y = nI a ∧ H' = H, ⟨fun q => ?_, fun q => ?_⟩, fun y2 H3 hJ => ?_⟩
    · have hp0 : 0 < p := by
        rcases Nat.eq_zero_or_pos p with e | e
        · subst e; exact absurd rfl q
        · exact e
      have e1 : nI p - 1 = nI (p - 1) := by rw [show p = (p - 1) + 1 by omega, nI_pred]; rfl
      rw [e1]
      exact ⟨vp_in_nI (by omega) (by omega), by rw [nI_clamp (by omega)]; exact t1 hp0, rfl⟩
    · have hp0 : p = 0 := by
        rw [show (0 : Int32) = nI 0 from rfl, nI_eq (by omega) (by omega)] at q; exact q
      exact ⟨by rw [t0 hp0]; rfl, rfl⟩
    · obtain ⟨rfl, rfl⟩ := hJ
      refine ⟨fun z5 z6 H' => ∃ n f, n ≤ b - a ∧ z6 = nI (a + n) ∧ z5 = nI (evs (H3 20 0) (H3 12 t) a n).length ∧ H' = hrow H3 14 t f ∧ rstk f (evs (H3 20 0) (H3 12 t) a n), fun _ z6 _ => b - z6.toNatClampNeg, ⟨0, H3 14 t, Nat.zero_le _, rfl, rfl, by rw [hrow_self], trivial⟩, fun z5 z6 H7 hI => ?_⟩
      obtain ⟨n, f, hn, rfl, rfl, rfl, hf⟩ := hI
      rw [hrow_kd _ _ _ (by decide : (13 : Nat) ≠ 14), hrow_kd _ _ _ (by decide : (12 : Nat) ≠ 14), hrow_at]
      rw [nI_clamp (n := p) (by omega), te]
      have hin3 : vp_in (nI p) 3 := vp_in_nI hp (by omega)
      obtain ⟨d0, hd0⟩ := cdep_pre hn tc
      have hlen : (evs (H3 20 0) (H3 12 t) a n).length = d0 := cdep_len hd0
      have hle : d0 ≤ n := cdep_le hd0
      refine ⟨hin3, fun q => ?_, fun q => ⟨fun q2 => ?_, fun q2 => ?_⟩⟩
      · have hnb : n = b - a := by
          rw [nI_leI (by omega) (by omega)] at q; omega
        subst hnb
        have hl1 : (evs (H3 20 0) (H3 12 t) a (b - a)).length = 1 := cdep_len tc
        rw [hl1]
        have hh := h f
        refine ⟨fun _ => ⟨vp_lit (by decide), hin3, ?_⟩, fun w => absurd (by decide) w⟩
        have e0 : ((nI 1 - 1 : Int32)).toNatClampNeg = 0 := by decide
        rw [e0]
        match hs : evs (H3 20 0) (H3 12 t) a (b - a), hl1 with
        | [v], _ =>
          rw [hs] at hf hh
          have hv : f 0 = v := hf.1
          rw [hv]
          exact hh
      · exfalso
        rw [z160, nI_leI (by omega) (by omega)] at q2
        rw [nI_leI (by omega) (by omega)] at q
        omega
      · have hnb : n < b - a := by
          rw [nI_leI (by omega) (by omega)] at q; omega
        obtain ⟨d1, hd1⟩ := cdep_pre (n := n + 1) hnb tc
        have hc1 : cd1 (H3 12 t (a + n)) d0 = some d1 := by
          unfold cdep at hd1
          rw [hd0] at hd1
          exact hd1
        have hlen1 : (evs (H3 20 0) (H3 12 t) a (n + 1)).length = d1 := cdep_len hd1
        have hev : evs (H3 20 0) (H3 12 t) a (n + 1) = ev1 (H3 20 0) (H3 12 t (a + n)) (evs (H3 20 0) (H3 12 t) a n) := rfl
        have hz6 : nI (a + n) + 1 = nI (a + (n + 1)) := by rw [nI_1]; rfl
        have hmu : b - (nI (a + (n + 1))).toNatClampNeg < b - (nI (a + n)).toNatClampNeg := by
          rw [nI_clamp (by omega), nI_clamp (by omega)]; omega
        rw [hz6]
        refine ⟨vp_in_nI (by omega) (by omega), fun v8 e8 => ?_⟩
        rw [nI_clamp (by omega)] at e8
        rw [← e8] at hc1 hev
        have hlt20 : v8 < 20000 ↔ ¬ 20000 ≤ v8 := by simp only [ti_lt, ti_le]; omega
        generalize hs0 : evs (H3 20 0) (H3 12 t) a n = s at *
        rw [← hlen] at hc1
        refine ⟨fun w => ⟨fun w2 => ?_, fun w2 => ⟨fun w3 => ?_, fun w3 => ?_⟩⟩, fun w => ⟨fun w2 => ?_, fun w2 => ?_⟩⟩
        · have hnl : ¬ v8 < 20000 := fun k => (hlt20.mp k) w
          obtain ⟨x, r, rfl⟩ := cdU hnl (Or.inl w2) hc1
          simp only [List.length_cons] at hlen
          have e1 : nI (x :: r).length - 1 = nI r.length := nI_pred _
          rw [e1]
          refine ⟨fun _ => ⟨vp_in_nI (by omega) (by omega), fun v9 e9 => ⟨vp_in_nI (by omega) (by omega), fun H12 e12 => ?_⟩⟩, fun k => absurd (by rw [z1, nI_leI (by omega) (by simp only [List.length_cons]; omega)]; simp) k⟩
          rw [nI_clamp (by omega)] at e9 e12
          have hx : v9 = x := by rw [e9]; exact hf.1
          rw [hu_hrow, if_pos w2, hx] at e12
          have hev2 : evs (H3 20 0) (H3 12 t) a (n + 1) = (if x = 0 then 1 else 0) :: r := by rw [hev]; unfold ev1; rw [if_neg hnl, if_pos w2]
          refine ⟨⟨n + 1, _, by omega, rfl, ?_, e12, ?_⟩, hmu⟩
          · rw [hev2]; rfl
          · rw [hev2]; exact ⟨by simp [upd], rstk_up (Nat.le_refl _) hf.2⟩
        · have hnl : ¬ v8 < 20000 := fun k => (hlt20.mp k) w
          obtain ⟨y, x, r, rfl⟩ := cdB hnl (fun k => k.elim w2 w3) hc1
          simp only [List.length_cons] at hlen
          have e1 : nI (y :: x :: r).length - 1 = nI (r.length + 1) := nI_pred _
          have e2 : nI (y :: x :: r).length - 2 = nI r.length := by
            rw [show (2 : Int32) = nI 2 from rfl]
            simp only [List.length_cons]
            rw [ti_eq, ti_sub (by rw [ti_nI (by omega), ti_nI (by omega)]; omega) (by rw [ti_nI (by omega), ti_nI (by omega)]; omega), ti_nI (by omega), ti_nI (by omega), ti_nI (by omega)]
            omega
          have e3 : nI (y :: x :: r).length + (-1) = nI (r.length + 1) := by rw [← e1, Int32.sub_eq_add_neg]
          rw [e1, e2, e3]
          refine ⟨fun _ => ⟨vp_in_nI (by omega) (by omega), vp_in_nI (by omega) (by omega), ?_⟩, fun k => absurd (by rw [show (2 : Int32) = nI 2 from rfl, nI_leI (by omega) (by simp only [List.length_cons]; omega)]; simp) k⟩
          rw [nI_clamp (by omega), nI_clamp (by omega)]
          refine s_Text_joined ⟨vp_in_nI (by omega) (by omega), fun H15 e15 => ?_⟩
          rw [hu_hrow, show f r.length = x from hf.2.1, show f (r.length + 1) = y from hf.1] at e15
          have hev2 : evs (H3 20 0) (H3 12 t) a (n + 1) = evop v8 x y :: r := by rw [hev]; unfold ev1; rw [if_neg hnl, if_neg w2, if_neg w3]
          refine ⟨⟨n + 1, _, by omega, rfl, ?_, e15, ?_⟩, hmu⟩
          · rw [hev2]; rfl
          · rw [hev2]; exact ⟨by simp [upd], rstk_up (Nat.le_refl _) hf.2.2⟩
        · have hnl : ¬ v8 < 20000 := fun k => (hlt20.mp k) w
          obtain ⟨x, r, rfl⟩ := cdU hnl (Or.inr w3) hc1
          simp only [List.length_cons] at hlen
          have e1 : nI (x :: r).length - 1 = nI r.length := nI_pred _
          rw [e1]
          refine ⟨fun _ => ⟨vp_in_nI (by omega) (by omega), fun v9 e9 => ⟨vp_in_nI (by omega) (by omega), fun H12 e12 => ?_⟩⟩, fun k => absurd (by rw [z1, nI_leI (by omega) (by simp only [List.length_cons]; omega)]; simp) k⟩
          rw [nI_clamp (by omega)] at e9 e12
          have hx : v9 = x := by rw [e9]; exact hf.1
          rw [hu_hrow, if_neg w2, hx] at e12
          have hev2 : evs (H3 20 0) (H3 12 t) a (n + 1) = (-x) :: r := by rw [hev]; unfold ev1; rw [if_neg hnl, if_neg w2, if_pos w3]
          refine ⟨⟨n + 1, _, by omega, rfl, ?_, e12, ?_⟩, hmu⟩
          · rw [hev2]; rfl
          · rw [hev2]; exact ⟨by simp [upd], rstk_up (Nat.le_refl _) hf.2⟩
        · have hl : v8 < 20000 := hlt20.mpr w
          refine s_Text_operand (cdN hl hc1) ⟨vp_in_nI (by omega) (by omega), fun H22 e22 => ?_⟩
          rw [nI_clamp (by omega), hu_hrow, hrow_kd _ _ _ (by decide : (20 : Nat) ≠ 14)] at e22
          have hev2 : evs (H3 20 0) (H3 12 t) a (n + 1) = evnm (H3 20 0) v8 :: s := by rw [hev]; unfold ev1; rw [if_pos hl]
          refine ⟨⟨n + 1, _, by omega, rfl, ?_, e22, ?_⟩, hmu⟩
          · rw [hev2, nI_1]; rfl
          · rw [hev2]; exact rstk_push hf
        · exact absurd (by rw [z160, nI_ltI (by omega) (by omega)]; omega) w2
  · exact absurd (by rw [z3, nI_ltI (by omega) (by omega)]; exact hp) q
