/-! THE REFERENCE'S READING 2: an E. -/
def kL : List Int32 := [256, 257, 258, 259, 260, 261, 262, 263, 264, 265, 40, 41, 59, 43, 45, 42, 60, 61]
theorem kT_set (T : Nat → Int32) (n t : Nat) : kT T n t ∈ kL := by
  unfold kT
  by_cases c : sT T n t < n
  · rw [if_pos c]
    unfold tKd
    by_cases l : isLt (T (sT T n t))
    · rw [if_pos l]
      have : ∀ w, w ≤ 12 → wKd w ∈ kL := by decide +kernel
      exact this _ (by rcases wIx_cases T (sT T n t) (tEnd T n (sT T n t)) with ⟨z, _⟩ | ⟨z, _⟩ <;> omega)
    · rw [if_neg l]
      by_cases dg : isDg (T (sT T n t))
      · rw [if_pos dg]; split <;> decide
      · rw [if_neg dg]
        by_cases s : isSg (T (sT T n t))
        · rw [if_pos s]
          have : ∀ v : Int32, isSg v → v ∈ kL := by rintro v (e | e | e | e | e | e | e | e) <;> rw [e] <;> decide
          exact this _ s
        · rw [if_neg s]; decide
  · rw [if_neg c]; decide
theorem rKd_all : ∀ k, k ∈ kL → ((rKd k = 1 ↔ k = 263) ∧ (rKd k = 2 ↔ k = 262) ∧ (rKd k = 6 ↔ k = 261) ∧ (rKd k = 45 ↔ k = 45)) ∧ ((rKd k = 40 ↔ k = 40) ∧ (rKd k = 59 ↔ k = 59) ∧ (rKd k = 41 ↔ k = 41) ∧ (rKd k = 0 ↔ k = 264)) ∧ ((if (rKd k) = 4 then 11 else (if (rKd k) = 5 then 12 else (if (rKd k) = 60 then 14 else (if (rKd k) = 61 then 15 else (if (rKd k) = 43 then 16 else (if (rKd k) = 45 then 17 else (if (rKd k) = 42 then 18 else (-1) : Int32) : Int32) : Int32) : Int32) : Int32) : Int32) : Int32) = (if sgS k = 0 then -1 else nI (sgS k)) ∧ (sgS k ≠ 0 → 11 ≤ sgS k ∧ sgS k ≤ 18 ∧ sgS k ≠ 13 ∧ k ≠ 264)) := by decide +kernel
def b2 (b : Bool) : Int32 := if b = true then 1 else 0
theorem unw_cnt (l : Nat) : ∀ (hs : List Nat) (o : List Int32), cnt (unw l hs o).1 ≤ cnt hs := by
  intro hs
  induction hs with
  | nil => intro o; exact Nat.le_refl _
  | cons s hs ih =>
    intro o
    by_cases c : l ≤ rkS s
    · rw [unw_pop c]
      have := ih (o ++ [nI (19989 + s)])
      show _ ≤ cnt hs + _
      omega
    · rw [unw_lt (l := l) (hs := s :: hs) (by show rkS s < l; omega)]; exact Nat.le_refl _
theorem unw_z : ∀ (hs : List Nat) (o : List Int32) (f : Nat → Int32), stR f hs → (unw 1 hs o).1 = [] ∨ ∃ hs1, (unw 1 hs o).1 = 0 :: hs1 := by
  intro hs
  induction hs with
  | nil => intro o f _; exact Or.inl rfl
  | cons s hs ih =>
    intro o f h
    by_cases c : 1 ≤ rkS s
    · rw [unw_pop c]; exact ih _ f h.2.2
    · rw [unw_lt (l := 1) (hs := s :: hs) (by show rkS s < 1; omega)]
      have : ∀ s, s < 20 → rkS s < 1 → s = 0 := by decide
      have e := this s (by have := h.2.1; omega) (by omega)
      exact Or.inr ⟨hs, by rw [e]⟩
theorem mcv_nN {m : Nat} (h : m < 10000) : 100000 + nI m = mcv (nI m) := by
  unfold mcv
  rw [if_pos (show nI m < 10000 from nI_lt (b := 10000) h (by omega)), Int32.add_comm]
theorem mcv_nJ : ∀ j, j < 6 → nI j = mcv (10000 + nI j) := by decide +kernel
/-- the heap of a configuration -/
def erT (B : HH) (n nt : Nat) (c : CF) (z3 z4 : Int32) (G : HH) : Prop := erH B nt c.2.2.2.1 (cnt c.2.2.2.1) c.2.2.2.2 G ∧ G 30 0 20 = nI (tP (B 7 0) n c.1) ∧ z3 = b2 c.2.1 ∧ z4 = b2 c.2.2.1 ∧ c.2.2.2.1.length + c.2.2.2.2.length ≤ c.1 ∧ c.1 ≤ n ∧ cnt c.2.2.2.1 ≤ 5
theorem erH.nx {B G G2 : HH} {nt op : Nat} {hs : List Nat} {o : List Int32} (h : erH B nt hs op o G) (hf : ∀ a i k, ¬ nxF a i k → G2 a i k = G a i k) : erH B nt hs op o G2 := by
  obtain ⟨h1, h2, h3, h4, h5, h7⟩ := h
  refine ⟨fun a i k q => ?_, ?_, h3.pt (fun k hk => ?_), ?_, ?_, fun i hi => ?_⟩
  · rw [hf a i k (fun z => q (by unfold nxF at z; unfold erF; omega))]; exact h1 a i k q
  · rw [hf 30 0 26 (by unfold nxF; omega)]; exact h2
  · exact hf 45 0 k (by unfold nxF; omega)
  · rw [hf 30 0 27 (by unfold nxF; omega)]; exact h4
  · rw [hf 30 0 28 (by unfold nxF; omega)]; exact h5
  · rw [hf 36 0 _ (by unfold nxF; omega)]; exact h7 i hi
theorem tP_lt {T : Nat → Int32} {n t : Nat} (h : kT T n t ≠ 264) : tP T n t < tP T n (t + 1) := by
  have c : sT T n t < n := by
    by_cases c : sT T n t < n
    · exact c
    · exact absurd (if_neg c) h
  rw [tP_in c]
  have h1 := @sT_ge T n t
  have h2 := @tEnd_gt T n (sT T n t)
  omega
theorem s_Model_eRead {E : XE} {d n nt t0 : Nat} {out : List Int32} {B H : HH} {Q : Int32 → HH → Prop} (hnt : B 30 0 11 = nI nt) (h6 : nt < 6) (h8 : B 30 0 8 = nI n) (h160 : n ≤ 160) (hK : ∀ k, k < 96 → B 44 0 k = wdsL.getD k 0) (hT : ∀ i, i < n → B 35 0 i = B 7 0 i)
    (hf : ∀ a i k, ¬ erF nt a i k → H a i k = B a i k) (h28 : H 30 0 28 = nI out.length) (hcd : ∀ i, i < out.length → H 36 0 (200 * nt + i) = mcv (out.getD i 0)) (h20 : H 30 0 20 = nI (tP (B 7 0) n t0)) (hol : out.length ≤ t0) (htn : t0 ≤ n)
    (hY : ∀ G cf, mR (kT (B 7 0) n) (vT (B 7 0) n) (t0, true, true, [], out) cf → mst (kT (B 7 0) n) (vT (B 7 0) n) cf = none → mok (kT (B 7 0) n) cf → erH B nt [] 0 (unw 1 cf.2.2.2.1 cf.2.2.2.2).2 G → G 30 0 20 = nI (tP (B 7 0) n (cf.1 + 1)) → G 30 0 21 = nI (sT (B 7 0) n cf.1) → (unw 1 cf.2.2.2.1 cf.2.2.2.2).2.length ≤ cf.1 → cf.1 < n → Q 1 G)
    (hN : ∀ G cf, mR (kT (B 7 0) n) (vT (B 7 0) n) (t0, true, true, [], out) cf → mst (kT (B 7 0) n) (vT (B 7 0) n) cf = none → ¬ mok (kT (B 7 0) n) cf → (∀ a i k, ¬ erF nt a i k → G a i k = B a i k) → G 30 0 21 = nI (sT (B 7 0) n cf.1) → Q 0 G) : c_Model_eRead E (d + 4) H Q := by
  refine l_Model_eRead (fun H1 e1 => ?_)
  let K := kT (B 7 0) n
  let V := vT (B 7 0) n
  refine ⟨fun z3 z4 G => ∃ c, mR K V (t0, true, true, [], out) c ∧ erT B n nt c z3 z4 G, fun _ _ G => n - (G 30 0 20).toNatClampNeg, ⟨(t0, true, true, [], out), mR.refl _, ⟨⟨fun a i k q => ?_, ?_, trivial, ?_, ?_, fun i hi => ?_⟩, ?_, rfl, rfl, by show 0 + out.length ≤ t0; omega, htn, by show 0 ≤ 5; omega⟩⟩, ?_⟩
  · have q' := q
    unfold erF at q'
    rw [e1, hu_ne (by omega), hu_ne (by omega)]; exact hf a i k q
  · rw [e1, hu_ne (by omega), hu_at]; rfl
  · rw [e1, hu_at]; rfl
  · rw [e1, hu_ne (by omega), hu_ne (by omega)]; exact h28
  · rw [e1, hu_ne (by omega), hu_ne (by omega)]; exact hcd i hi
  · rw [e1, hu_ne (by omega), hu_ne (by omega)]; exact h20
  rintro z3 z4 G ⟨⟨t, w, mn, hs, o⟩, my, ⟨g, g20, rfl, rfl, ln, tn, c5⟩⟩
  simp only at g g20 ln tn c5
  have gf := g.1
  have g7 : G 7 0 = B 7 0 := by funext k; exact gf 7 0 k (by unfold erF; omega)
  refine s_Model_next (n := n) (t := t) (by rw [gf 30 0 8 (by unfold erF; omega)]; exact h8) h160 (fun k hk => by rw [gf 44 0 k (by unfold erF; omega)]; exact hK k hk) (fun i hi => by rw [gf 35 0 i (by unfold erF; omega), g7]; exact hT i hi) (by rw [g7]; exact g20) (fun H6 hx hxf => ?_)
  rw [g7] at hx
  obtain ⟨x20, x21, x22, x23, _, _, _⟩ := hx
  have r := g.nx hxf
  -- goes on
  have cont : ∀ (c2 : CF) (z3 z4 : Int32) (G2 : HH), K t ≠ 264 → mst K V (t, w, mn, hs, o) = some c2 → c2.1 = t + 1 → erH B nt c2.2.2.2.1 (cnt c2.2.2.2.1) c2.2.2.2.2 G2 → er4 H6 G2 → z3 = b2 c2.2.1 → z4 = b2 c2.2.2.1 → c2.2.2.2.1.length + c2.2.2.2.2.length ≤ hs.length + o.length + 1 → cnt c2.2.2.2.1 ≤ 5 → (∃ c, mR K V (t0, true, true, [], out) c ∧ erT B n nt c z3 z4 G2) ∧ n - (G2 30 0 20).toNatClampNeg < n - (G 30 0 20).toNatClampNeg := by
    intro c2 z3 z4 G2 k264 e t1 a1 a2 a3 a4 a5 a6
    have k20 : G2 30 0 20 = nI (tP (B 7 0) n (t + 1)) := a2.1.trans x20
    have hin := kT_in k264
    refine ⟨⟨c2, my.step e, a1, by rw [t1]; exact k20, a3, a4, by omega, by omega, a6⟩, ?_⟩
    have l1 := tP_lt k264
    have l2 := @tP_le (B 7 0) n (t + 1)
    rw [k20, g20, nI_clamp (by omega), nI_clamp (by omega)]; omega
  have stop : ∀ G2 : HH, (∀ a i k, ¬ erF nt a i k → G2 a i k = B a i k) → er4 H6 G2 → mst K V (t, w, mn, hs, o) = none → ¬ mok K (t, w, mn, hs, o) → Q 0 G2 := fun G2 a1 a2 a3 a4 => hN G2 _ my a3 a4 a1 (a2.2.1.trans x21)
  obtain ⟨⟨e1', e2', e6', e45⟩, ⟨e40, e59, e41, e0⟩, esg, esn⟩ := rKd_all (K t) (kT_set _ _ _)
  have x22' : H6 30 0 22 = rKd (K t) := x22
  have s160 : hs.length + o.length ≤ 160 := by omega
  have uc7 : ∀ o', cnt (unw 7 hs o').1 ≤ 5 := fun o' => Nat.le_trans (unw_cnt 7 hs o') c5
  cases w with
  | true =>
    refine ⟨fun z => absurd (show b2 true = 0 from z) (by decide), fun _ => ?_⟩
    rw [x22']
    -- a number or a name
    have put : ∀ (x c : Int32), x = mcv c → K t ≠ 264 → mst K V (t, true, mn, hs, o) = some (t + 1, false, mn, unw 7 hs (o ++ [c])) → c_Model_puts E (d + 3) x H6 (fun H19 => c_Model_unwinds E (d + 3) 7 H19 (fun H20 => (∃ c, mR K V (t0, true, true, [], out) c ∧ erT B n nt c 0 (b2 mn) H20) ∧ n - (H20 30 0 20).toNatClampNeg < n - (G 30 0 20).toNatClampNeg)) := by
      intro x c hx k264 hm
      refine s_Model_puts hnt h6 r (by omega) hx (fun G1 g1 r1 => ?_)
      refine s_Model_unwinds (l := 7) hnt h6 g1 (by omega) (by omega) (by rw [List.length_append]; show hs.length + (o.length + 1) < 200; omega) (fun G2 g2 r2 => ?_)
      have ul := unw_len 7 hs (o ++ [c])
      rw [List.length_append] at ul
      have ul2 : (unw 7 hs (o ++ [c])).1.length + (unw 7 hs (o ++ [c])).2.length = hs.length + (o.length + 1) := ul
      exact cont _ 0 (b2 mn) G2 k264 hm rfl g2 (r1.trans r2) rfl rfl (by show (unw 7 hs (o ++ [c])).1.length + (unw 7 hs (o ++ [c])).2.length ≤ _; omega) (uc7 _)
    have opn : ∀ (s : Nat) (mn2 : Bool), (s = 0 ∨ s = 13 ∨ s = 19) → K t ≠ 264 → (mst K V (t, true, mn, hs, o) = if cnt hs = 5 then none else some (t + 1, true, mn2, s :: hs, o)) → c_Model_opensOne E (d + 3) (nI s) H6 (fun r24 H23 => (¬ r24 = 0 → ((∃ c, mR K V (t0, true, true, [], out) c ∧ erT B n nt c (b2 true) (b2 mn2) H23) ∧ n - (H23 30 0 20).toNatClampNeg < n - (G 30 0 20).toNatClampNeg)) ∧ (r24 = 0 → (Q 0 H23))) := by
      intro s mn2 hs2 k264 hm
      refine s_Model_opensOne r (by omega) c5 hs2 (fun q G2 g2 r2 => ⟨fun _ => ?_, fun z => absurd z (by decide)⟩) (fun q => ⟨fun z => absurd rfl z, fun _ => ?_⟩)
      · rw [if_neg q] at hm
        exact cont _ _ _ G2 k264 hm rfl g2 r2 rfl rfl (by show (s :: hs).length + o.length ≤ _; rw [List.length_cons]; omega) (by rw [cnt_up hs2]; omega)
      · rw [if_pos q] at hm
        exact stop H6 r.1 (er4.refl _) hm mok_w
    have num : K t = 263 → c_Model_puts E (d + 3) (100000 + H6 30 0 23) H6 (fun H19 => c_Model_unwinds E (d + 3) 7 H19 (fun H20 => (∃ c, mR K V (t0, true, true, [], out) c ∧ erT B n nt c 0 (b2 mn) H20) ∧ n - (H20 30 0 20).toNatClampNeg < n - (G 30 0 20).toNatClampNeg)) := by
      intro k
      obtain ⟨m, hm, em⟩ := kT_num k
      refine put _ (V t) ?_ (by rw [k]; decide) (mst_num k)
      rw [x23 (Or.inl k)]
      show 100000 + vT (B 7 0) n t = mcv (vT (B 7 0) n t)
      rw [em]; exact mcv_nN hm
    have nam : K t = 262 → c_Model_puts E (d + 3) (H6 30 0 23) H6 (fun H19 => c_Model_unwinds E (d + 3) 7 H19 (fun H20 => (∃ c, mR K V (t0, true, true, [], out) c ∧ erT B n nt c 0 (b2 mn) H20) ∧ n - (H20 30 0 20).toNatClampNeg < n - (G 30 0 20).toNatClampNeg)) := by
      intro k
      obtain ⟨m, hm, em⟩ := kT_nam k
      refine put _ (10000 + V t) ?_ (by rw [k]; decide) (mst_nam k)
      rw [x23 (Or.inr k)]
      show vT (B 7 0) n t = mcv (10000 + vT (B 7 0) n t)
      rw [em]; exact mcv_nJ m hm
    have neg : K t = 45 → c_Model_opensOne E (d + 3) 19 H6 (fun r26 H25 => (¬ r26 = 0 → ((∃ c, mR K V (t0, true, true, [], out) c ∧ erT B n nt c (b2 true) 0 H25) ∧ n - (H25 30 0 20).toNatClampNeg < n - (G 30 0 20).toNatClampNeg)) ∧ (r26 = 0 → (Q 0 H25))) := fun k => opn 19 false (by decide) (by rw [k]; decide) (mst_neg k)
    have par : K t = 40 → c_Model_opensOne E (d + 3) 0 H6 (fun r26 H25 => (¬ r26 = 0 → ((∃ c, mR K V (t0, true, true, [], out) c ∧ erT B n nt c (b2 true) 1 H25) ∧ n - (H25 30 0 20).toNatClampNeg < n - (G 30 0 20).toNatClampNeg)) ∧ (r26 = 0 → (Q 0 H25))) := fun k => opn 0 true (by decide) (by rw [k]; decide) (mst_opn k)
    rw [e1', e2', e6', e45, e40]
    refine ⟨fun k => ⟨fun z => absurd k z, fun _ => num k⟩, fun k1 => ⟨fun k2 => ⟨fun k6 => ⟨fun k45 => ⟨fun k40 => ?_, fun k40 => par k40⟩, fun k45 => neg k45⟩, fun k6 => ⟨fun zm => ⟨fun k45 => ⟨fun k40 => ?_, fun k40 => par k40⟩, fun k45 => neg k45⟩, fun zm => ?_⟩⟩, fun k2 => ⟨fun _ => nam k2, fun z => absurd z k1⟩⟩⟩
    · exact stop H6 r.1 (er4.refl _) (mst_no k1 k2 (Or.inr k6) k45 k40) mok_w
    · have m0 : mn = false := by cases mn with
        | false => rfl
        | true => exact absurd (show b2 true = 0 from zm) (by decide)
      exact stop H6 r.1 (er4.refl _) (mst_no k1 k2 (Or.inl m0) k45 k40) mok_w
    · have m1 : mn = true := by cases mn with
        | false => exact absurd rfl zm
        | true => rfl
      subst m1
      exact opn 13 true (by decide) (by rw [k6]; decide) (mst_not k6)
  | false =>
    refine ⟨fun _ => ?_, fun z => absurd rfl z⟩
    rw [x22', e59, e41]
    refine ⟨fun k59 => ⟨fun k41 => ?_, fun k41 => ?_⟩, fun k59 => ?_⟩
    -- a sign between two
    · refine l_Model_signOf ?_
      unfold p_Model_signOf
      rw [x22', esg]
      by_cases s0 : sgS (K t) = 0
      · rw [if_pos s0]
        refine ⟨fun _ => stop H6 r.1 (er4.refl _) ?_ (fun z => k59 z.2.1), fun z => absurd rfl z⟩
        unfold mst; rw [if_neg Bool.false_ne_true, if_neg k59, if_neg k41, if_pos s0]
      · rw [if_neg s0]
        obtain ⟨s1, s2, s3, k264⟩ := esn s0
        have nm1 : ¬ nI (sgS (K t)) = -1 := nI_n1 (by omega)
        have e12 : (12 : Int32) < nI (sgS (K t)) ↔ 12 < sgS (K t) := nI_ltI (a := 12) (by omega) (by omega)
        refine ⟨fun z => absurd z nm1, fun _ => ?_⟩
        have su : ∀ l : Nat, ∀ G2 : HH, l = (if rkS (sgS (K t)) = 4 then 5 else rkS (sgS (K t))) → erH B nt (sgS (K t) :: (unw l hs o).1) (cnt (sgS (K t) :: (unw l hs o).1)) (unw l hs o).2 G2 → er4 H6 G2 → mst K V (t, false, mn, hs, o) = some (t + 1, true, decide (sgS (K t) ≤ 12), sgS (K t) :: (unw l hs o).1, (unw l hs o).2) → ∀ v12 : Int32, v12 = (if 12 < nI (sgS (K t)) then 0 else 1 : Int32) → (∃ c, mR K V (t0, true, true, [], out) c ∧ erT B n nt c 1 v12 G2) ∧ n - (G2 30 0 20).toNatClampNeg < n - (G 30 0 20).toNatClampNeg := by
          intro l G2 hl g2 r2 hm v12 e12'
          have ul := unw_len l hs o
          have uc := unw_cnt l hs o
          refine cont _ 1 v12 G2 k264 hm rfl g2 r2 rfl ?_ (by show (sgS (K t) :: (unw l hs o).1).length + (unw l hs o).2.length ≤ _; rw [List.length_cons]; omega) (by rw [cnt_op (by omega)]; omega)
          show v12 = b2 (decide (sgS (K t) ≤ 12))
          rw [e12']
          unfold b2
          by_cases q : sgS (K t) ≤ 12
          · rw [if_neg (fun z => absurd (e12.mp z) (by omega)), if_pos (decide_eq_true q)]
          · rw [if_pos (e12.mpr (by omega)), if_neg (by simp; omega)]
        refine s_Model_between hnt h6 r (by omega) ⟨s1, s2, s3⟩ (fun r4 t4 G2 f2 r2 => ⟨fun z => absurd rfl z, fun _ => ?_⟩) (fun r4 t4 G2 g2 r2 => ⟨fun _ => ?_, fun z => absurd z (by decide)⟩) (fun r4 G2 g2 r2 => ⟨fun _ => ?_, fun z => absurd z (by decide)⟩)
        · refine stop G2 f2 r2 ?_ (fun z => k59 z.2.1)
          unfold mst; rw [if_neg Bool.false_ne_true, if_neg k59, if_neg k41, if_neg s0, if_pos r4, if_pos t4]
        · refine su 5 G2 (by rw [if_pos r4]) g2 r2 ?_
          have e := mst_cmp (V := V) (mn := mn) (hs := hs) (o := o) ⟨k59, k41⟩ (rfl : sgS (K t) = sgS (K t)) s0 r4 (rfl : unw 5 hs o = ((unw 5 hs o).1, (unw 5 hs o).2)) t4
          have d12 : decide (sgS (K t) ≤ 12) = false := by
            have : ∀ s, s < 20 → 11 ≤ s → rkS s = 4 → decide (s ≤ 12) = false := by decide
            exact this _ (by omega) s1 r4
          rw [d12]; exact e
        · exact su (rkS (sgS (K t))) G2 (by rw [if_neg r4]) g2 r2 (mst_two ⟨k59, k41⟩ rfl s0 rfl r4 rfl)
    -- )
    · have k264 : K t ≠ 264 := by rw [k41]; decide
      refine s_Model_unwinds (l := 1) hnt h6 r (by omega) (by omega) (by omega) (fun G2 g2 r2 => ?_)
      have ul := unw_len 1 hs o
      have uc := unw_cnt 1 hs o
      rw [g2.2.1]
      have e0' : nI (unw 1 hs o).1.length = 0 ↔ (unw 1 hs o).1.length = 0 := nI_eq (b := 0) (by omega) (by omega)
      rw [e0']
      refine ⟨fun q H14 e14 H15 e15 => ?_, fun q => ?_⟩
      · rcases unw_z hs o _ r.2.2.1 with z | ⟨hs1, z⟩
        · rw [z] at q; exact absurd rfl q
        · have eu : unw 1 hs o = (0 :: hs1, (unw 1 hs o).2) := by rw [← z]
          rw [z] at g2 e14 ul uc
          simp only [List.length_cons] at ul
          rw [cnt_up (by decide)] at uc
          obtain ⟨a1, a2, ⟨_, _, a3⟩, a4, a5, a6⟩ := g2
          rw [List.length_cons, nI_pred] at e14
          have k27 : H14 30 0 27 = nI (cnt hs1 + 1) := by rw [e14, hu_ne (by omega), a4, cnt_up (by decide)]
          rw [k27, nI_pred] at e15
          have g15 : erH B nt hs1 (cnt hs1) (unw 1 hs o).2 H15 := by
            refine ⟨fun a i k q => ?_, ?_, a3.pt (fun k hk => ?_), ?_, ?_, fun i hi => ?_⟩
            · have q' := q
              unfold erF at q'
              rw [e15, hu_ne (by omega), e14, hu_ne (by omega)]; exact a1 a i k q
            · rw [e15, hu_ne (by omega), e14, hu_at]
            · rw [e15, hu_ne (by omega), e14, hu_ne (by omega)]
            · rw [e15, hu_at]
            · rw [e15, hu_ne (by omega), e14, hu_ne (by omega)]; exact a5
            · rw [e15, hu_ne (by omega), e14, hu_ne (by omega)]; exact a6 i hi
          have r15 : er4 G2 H15 := by
            refine ⟨?_, ?_, ?_, ?_⟩
            · rw [e15, hu_ne (by omega), e14, hu_ne (by omega)]
            · rw [e15, hu_ne (by omega), e14, hu_ne (by omega)]
            · rw [e15, hu_ne (by omega), e14, hu_ne (by omega)]
            · rw [e15, hu_ne (by omega), e14, hu_ne (by omega)]
          refine s_Model_unwinds (l := 7) hnt h6 g15 (by omega) (by omega) (by omega) (fun G3 g3 r3 => ?_)
          have ul7 := unw_len 7 hs1 (unw 1 hs o).2
          have uc8 := unw_cnt 7 hs1 (unw 1 hs o).2
          exact cont _ _ _ G3 k264 (mst_cls k41 eu) rfl g3 ((r2.trans r15).trans r3) rfl rfl (by show (unw 7 hs1 (unw 1 hs o).2).1.length + (unw 7 hs1 (unw 1 hs o).2).2.length ≤ _; omega) (by show cnt (unw 7 hs1 (unw 1 hs o).2).1 ≤ 5; omega)
      · have e : (unw 1 hs o).1 = [] := List.eq_nil_of_length_eq_zero q
        refine stop G2 g2.1 r2 ?_ (fun z => k59 z.2.1)
        unfold mst; rw [if_neg Bool.false_ne_true, if_neg k59, if_pos k41, if_pos e]
    -- ;
    · have k264 : K t ≠ 264 := by rw [k59]; decide
      have hin := kT_in k264
      refine s_Model_unwinds (l := 1) hnt h6 r (by omega) (by omega) (by omega) (fun G2 g2 r2 => ?_)
      have ul := unw_len 1 hs o
      have hm : mst K V (t, false, mn, hs, o) = none := by unfold mst; rw [if_neg Bool.false_ne_true, if_pos k59]
      have e0' : nI (unw 1 hs o).1.length = 0 ↔ (unw 1 hs o).1.length = 0 := nI_eq (b := 0) (by omega) (by omega)
      rw [g2.2.1]
      by_cases q : (unw 1 hs o).1.length = 0
      · rw [if_pos (e0'.mpr q)]
        have e : (unw 1 hs o).1 = [] := List.eq_nil_of_length_eq_zero q
        refine ⟨Or.inr rfl, hY G2 _ my hm ⟨rfl, k59, e⟩ ?_ (r2.1.trans x20) (r2.2.1.trans x21) (by show (unw 1 hs o).2.length ≤ t; omega) hin⟩
        rw [e] at g2; exact g2
      · rw [if_neg (fun z => q (e0'.mp z))]
        refine ⟨Or.inl rfl, stop G2 g2.1 r2 hm (fun z => ?_)⟩
        have z2 : (unw 1 hs o).1 = [] := z.2.2
        rw [z2] at q; exact q rfl
