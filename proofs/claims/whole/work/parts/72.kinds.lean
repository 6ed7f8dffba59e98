/-! THE CALLS 11: kinds, widths, laws. -/
/-- what told moves come to, by the reference, whatever its lane, law, vehicle -/
theorem s_md_thr {E : XE} {d t j u n : Nat} {wd op : Int32} {v : VV} {code ends mv : Nat → Int32} {H : HH} {Q : Int32 → HH → Prop} (ml : mlOK H t code ends) (hw : H 30 0 1 = wd) (ho : H 30 0 2 = op) (hv : vM H j = v) (vok : vOK v) (hj : j < 4) (hu : u < 4) (hn : n < 14) (h41 : H 41 0 u = nI (3 * n)) (h42 : ∀ i, i < 3 * n → H 42 0 (40 * u + i) = mv i)
    (hrow : ∀ r, r < n → (mv (3 * r + 1) = -1 ∨ mv (3 * r + 1) = 0 ∨ mv (3 * r + 1) = 1) ∧ 1 ≤ mv (3 * r + 2) ∧ mv (3 * r + 2) ≤ 30)
    (hq : ∀ H1, hfr [46, 47, 53, 54] H H1 → (∀ k, k < 5 → H1 54 0 k = (thrF (stF (lwF code ends) wd op) mv n 0 v).2 (k + 2)) → Q (thrF (stF (lwF code ends) wd op) mv n 0 v).1 H1) : c_Model_firstWrong E (d + 5) (nI u) (nI j) H Q := by
  have mm : mmOK H u n := ⟨hn, h41, fun r hr => by rw [h42 _ (by omega), h42 _ (by omega)]; exact hrow r hr⟩
  refine s_Model_firstWrong ml hj hu mm (by rw [hv]; exact vok) (fun r v2 h H1 f1 k1 => ?_)
  have ec : thrF (stF (lwF code ends) wd op) (fun i => H 42 0 (40 * u + i)) n 0 v = thrF (stF (lwF code ends) wd op) mv n 0 v := thrF_cong (fun i _ hi => h42 i (by omega))
  rw [hw, ho, hv, ec] at h
  have h1 : r = (thrF (stF (lwF code ends) wd op) mv n 0 v).1 := by rw [h]
  have h2 : v2 = (thrF (stF (lwF code ends) wd op) mv n 0 v).2 := by rw [h]
  rw [h1]
  rw [h2] at k1
  exact hq H1 f1 k1
/-- a told sheet as both have it -/
theorem sh_told {H H1 : HH} {s : SN} {u n n3 : Nat} (hI : INV H s) (hu : u < 4) (en : H 16 u 2 = nI n) (hn : n ≤ 40) (e3 : n = 3 * n3) (h : ∀ a i k, a = 41 ∨ a = 42 → H1 a i k = H a i k) : H1 41 0 u = nI (3 * n3) ∧ ∀ i, i < 3 * n3 → H1 42 0 (40 * u + i) = H 17 u i := by
  obtain ⟨-, -, ⟨n', hn', en', f41⟩, f42⟩ := hI.2.2.2.2.2.2.2.1 u hu
  refine ⟨?_, fun i hi => ?_⟩
  · rw [h 41 0 u (Or.inl rfl), f41, ← en', en, e3]
  · rw [h 42 0 _ (Or.inr rfl)]; exact f42 i (by omega)
def kdV (v : VV) (kk : Nat) (x : Int32) : VV := fun k => if k = kk then x else v k
theorem m_kinds {E : XE} {d d2 : Nat} {x1 x2 x3 : Int32} {s : SN} {H : HH} (hI : INV H s) : c_Main_kinds E (d + 20) x1 x2 x3 H (fun r H1 => c_Model_kinds E (d2 + 20) x1 x2 x3 H1 (eqI r)) := by
  have nv4 : s.nv ≤ 4 := hI.1.1
  refine l_Main_kinds (s_Main_refusal hI (fun r hr hb => ?_) (fun u n j hu4 eu hj ej hn en hm mv => ?_))
  · refine ⟨fun z => absurd z hr, fun _ => ?_⟩
    exact l_Model_kinds (s_Model_refusal hI hb (fun _ => ⟨fun z => absurd z hr, fun _ => eqI_sc hI scF.rf rfl⟩))
  · refine ⟨fun _ => ?_, fun z => absurd rfl z⟩
    obtain ⟨n3, hn3, e3, hrow⟩ := mv_num mv hn
    subst ej
    have hv := hI.2.2.2.2.2.1 j hj
    obtain ⟨h, hh, eh⟩ := hv.2.2.2.2.2.1
    have vin4 : vp_in (nI j) 4 := vp_in_nI (by omega) (by omega)
    have vinu : vp_in x1 4 := by rw [eu]; exact vp_in_nI hu4 (by omega)
    have cu : x1.toNatClampNeg = u := by rw [eu, nI_clamp (by omega)]
    have cj : (nI j).toNatClampNeg = j := nI_clamp (by omega)
    refine s_Main_isWithin (fun q1 q2 => ?_) (fun q => ?_)
    · obtain ⟨so, hso, eso⟩ := bit_of q1 q2
      refine ⟨fun _ => ⟨vin4, ?_⟩, fun z => absurd z (by decide)⟩
      rw [cj, show 4 * 0 + j = j by omega, show H 3 j 3 = nI h from by rw [← hv.1 3 (by omega)]; exact eh]
      refine s_Main_otherHeading (fun v8 e8 => ?_)
      rw [oth_all h hh]
      -- so: which number changes; K: how many choices
      obtain ⟨K, hK, eK⟩ : ∃ K, K ≤ 10 ∧ (if x3 = 0 then 6 else 10 : Int32) = nI K := by
        by_cases c : x3 = 0
        · exact ⟨6, by omega, by rw [if_pos c]; rfl⟩
        · exact ⟨10, by omega, by rw [if_neg c]; rfl⟩
      have ev8 : v8 = nI K := by rw [e8]; exact eK
      subst ev8
      let sb : Nat → Bool := fun i => decide ((thrF (stF (lwH H s) (nI s.wd) (nI s.op)) (H 17 u) n3 0 (kdV (vM H j) so (nI i))).1 = -1 ∧ (thrF (stF (lwH H s) (nI s.wd) (nI s.op)) (H 17 u) n3 0 (kdV (vM H j) so (nI i))).2 3 = nI ((h + 8) % 16))
      have kv3 : ∀ i, kdV (vM H j) so (nI i) 3 = nI h := fun i => by unfold kdV; rw [if_neg (by omega)]; exact eh
      have kvok : ∀ i, vOK (kdV (vM H j) so (nI i)) := by
        intro i
        obtain ⟨a, b, c, dd⟩ := hv.2.2.2.2.2
        unfold kdV
        refine ⟨?_, ?_, ?_, fun k hk => ?_⟩
        · simp only [show ¬ 3 = so by omega, if_false]; exact a
        · simp only [show ¬ 4 = so by omega, if_false]; exact b
        · simp only [show ¬ 5 = so by omega, if_false]; exact c
        · simp only [show ¬ k = so by omega, if_false]; exact dd k hk
      refine ⟨fun z10 z11 H12 => ∃ i, i ≤ K ∧ z11 = nI i ∧ scF H H12 ∧ z10 = bsF sb i, fun _ z11 _ => 10 - z11.toNatClampNeg, ⟨0, by omega, rfl, scF.rf, rfl⟩, fun z10 z11 H12 hJ => ?_⟩
      obtain ⟨i, hi, rfl, s12, rfl⟩ := hJ
      have hI12 := hI.sc s12
      refine ⟨fun q => ?_, fun q => ?_⟩
      · rw [nI_leI (by omega) (by omega)] at q
        have e : i = K := by omega
        subst e
        -- the reference's side
        obtain ⟨f16, f17⟩ : H12 16 u 2 = nI n ∧ H12 17 u = H 17 u := ⟨by rw [s12 16 u 2 (by unfold scr; omega)]; exact en, by funext k; exact s12 17 u k (by unfold scr; omega)⟩
        rw [eu]
        refine l_Model_kinds (s_Model_fine hI12 hu4 rfl hj rfl hn f16 (by rw [s12 16 u 1 (by unfold scr; omega)]; exact hm) (by rw [f17]; exact mv) ⟨fun _ => ?_, fun z => absurd rfl z⟩)
        refine s_Model_in (fun _ _ => ⟨fun _ => ⟨vin4, fun v5 e5 => ⟨vin4, fun v6 e6 => ?_⟩⟩, fun z => absurd z (by decide)⟩) (fun q => absurd ⟨q1, q2⟩ q)
        rw [cj, s12 32 0 j (by unfold scr; omega)] at e5
        rw [cj, s12 33 0 j (by unfold scr; omega)] at e6
        rw [eK]
        refine ⟨fun z8 z9 H10 => ∃ i2, i2 ≤ i ∧ z9 = nI i2 ∧ (∀ a b k, ¬ scr a b k → ¬ ((a = 32 ∨ a = 33) ∧ b = 0 ∧ k = j) → H10 a b k = H a b k) ∧ z8 = bsF sb i2, fun _ z9 _ => 10 - z9.toNatClampNeg, ⟨0, by omega, rfl, fun a b k p _ => s12 a b k p, rfl⟩, fun z8 z9 H10 hJ2 => ?_⟩
        obtain ⟨i2, hi2, rfl, k10, rfl⟩ := hJ2
        refine ⟨fun q => ⟨vin4, vin4, fun H13 e13 => ?_⟩, fun q => ⟨vin4, vin4, fun H15 e15 => ?_⟩⟩
        · rw [nI_leI (by omega) (by omega)] at q
          have e : i2 = i := by omega
          subst e
          rw [cj, e5, e6] at e13
          refine eqI_sc hI (fun a b k p => ?_) rfl
          rw [e13]
          by_cases c33 : a = 33 ∧ b = 0 ∧ k = j
          · obtain ⟨rfl, rfl, rfl⟩ := c33; rw [hu_at]
          · rw [hu_ne c33]
            by_cases c32 : a = 32 ∧ b = 0 ∧ k = j
            · obtain ⟨rfl, rfl, rfl⟩ := c32; rw [hu_at]
            · rw [hu_ne c32]; exact k10 a b k p (by omega)
        · rw [nI_leI (by omega) (by omega)] at q
          have hi3 : i2 < i := by omega
          have mu : 10 - (nI i2 + 1).toNatClampNeg < 10 - (nI i2).toNatClampNeg := by rw [nI_1, nI_clamp (by omega), nI_clamp (by omega)]; omega
          rw [cj, e5, e6] at e15
          have k15 : ∀ a b k, ¬ scr a b k → ¬ ((a = 32 ∨ a = 33) ∧ b = 0 ∧ k = j) → H15 a b k = H a b k := by
            intro a b k p1 p2
            rw [e15, hu_ne (by omega), hu_ne (by omega)]; exact k10 a b k p1 p2
          have c32 : H15 32 0 j = kdV (vM H j) so (nI i2) 0 := by
            rw [e15, hu_ne (by omega), hu_at, eso]
            rcases (show so = 0 ∨ so = 1 by omega) with e | e
            · subst e; rfl
            · subst e; rfl
          have c33 : H15 33 0 j = kdV (vM H j) so (nI i2) 1 := by
            rw [e15, hu_at, eso]
            rcases (show so = 0 ∨ so = 1 by omega) with e | e
            · subst e; rfl
            · subst e; rfl
          have vm15 : vM H15 j = kdV (vM H j) so (nI i2) := by
            have h34 : ∀ c, c < 5 → H15 34 0 (5 * j + c) = vM H j (c + 2) := by
              intro c hc
              rw [k15 34 0 _ (by unfold scr; omega) (by omega)]
              rcases (show c = 0 ∨ c = 1 ∨ c = 2 ∨ c = 3 ∨ c = 4 by omega) with rfl | rfl | rfl | rfl | rfl <;> rfl
            funext k
            match k with
            | 0 => exact c32
            | 1 => exact c33
            | 2 => show H15 34 0 (5 * j) = _; unfold kdV; rw [if_neg (by omega)]; exact h34 0 (by omega)
            | 3 => show H15 34 0 (5 * j + 1) = _; unfold kdV; rw [if_neg (by omega)]; exact h34 1 (by omega)
            | 4 => show H15 34 0 (5 * j + 2) = _; unfold kdV; rw [if_neg (by omega)]; exact h34 2 (by omega)
            | 5 => show H15 34 0 (5 * j + 3) = _; unfold kdV; rw [if_neg (by omega)]; exact h34 3 (by omega)
            | 6 => show H15 34 0 (5 * j + 4) = _; unfold kdV; rw [if_neg (by omega)]; exact h34 4 (by omega)
            | k + 7 => show (0 : Int32) = _; unfold kdV; rw [if_neg (by omega)]; exact (hv.2.2.2.2.2.2.2.2 (k + 7) (by omega)).symm
          have ml15 : mlOK H15 s.lw (H 12 s.lw) (H 13 s.lw) := by
            obtain ⟨m1, m2, m3, m4⟩ := hI.ml
            refine ⟨by rw [k15 30 0 12 (by unfold scr; omega) (by omega)]; exact m1, m2, m3.pt (fun c _ => k15 37 0 _ (by unfold scr; omega) (by omega)) (fun c _ => k15 36 0 _ (by unfold scr; omega) (by omega)), fun c hc => ?_⟩
            rw [k15 31 0 c (by unfold scr; omega) (by omega)]; exact m4 c hc
          obtain ⟨t41, t42⟩ := sh_told (H1 := H15) hI hu4 en hn e3 (fun a b k p => k15 a b k (by unfold scr; omega) (by omega))
          refine s_md_thr (wd := nI s.wd) (op := nI s.op) ml15 (by rw [k15 30 0 1 (by unfold scr; omega) (by omega)]; exact hI.2.2.1.2.1) (by rw [k15 30 0 2 (by unfold scr; omega) (by omega)]; exact hI.2.2.1.2.2.1) vm15 (kvok i2) (by omega) hu4 hn3 t41 t42 hrow (fun H16 f16' l16 v19 e19 => ?_)
          have k16 : ∀ a b k, ¬ scr a b k → ¬ ((a = 32 ∨ a = 33) ∧ b = 0 ∧ k = j) → H16 a b k = H a b k := by
            intro a b k p1 p2
            rw [f16'.sc (by decide) a b k p1]; exact k15 a b k p1 p2
          have no : ¬ sb i2 = true → (∃ i', i' ≤ i ∧ nI i2 + 1 = nI i' ∧ (∀ a b k, ¬ scr a b k → ¬ ((a = 32 ∨ a = 33) ∧ b = 0 ∧ k = j) → H16 a b k = H a b k) ∧ bsF sb i2 ||| 0 = bsF sb i') ∧ 10 - (nI i2 + 1).toNatClampNeg < 10 - (nI i2).toNatClampNeg := by
            intro hb
            refine ⟨⟨i2 + 1, hi3, nI_1 i2, k16, ?_⟩, mu⟩
            show _ = (if sb i2 = true then _ else bsF sb i2)
            rw [if_neg hb, Int32.or_zero]
          have vm16 : vM H16 j = kdV (vM H j) so (nI i2) := by rw [vM_of j (f16' 32 (by decide)) (f16' 33 (by decide)) (f16' 34 (by decide))]; exact vm15
          refine ⟨fun z => ?_, fun z => ?_⟩
          · refine no (fun hb => ?_)
            have := (of_decide_eq_true hb).1
            have e19' : v19 = 1 := e19.trans (if_pos this)
            rw [e19'] at z; exact absurd z (by decide)
          · have hr1 : (thrF (stF (lwF (H 12 s.lw) (H 13 s.lw)) (nI s.wd) (nI s.op)) (H 17 u) n3 0 (kdV (vM H j) so (nI i2))).1 = -1 := by
              by_cases c : (thrF (stF (lwF (H 12 s.lw) (H 13 s.lw)) (nI s.wd) (nI s.op)) (H 17 u) n3 0 (kdV (vM H j) so (nI i2))).1 = -1
              · exact c
              · exact absurd (e19.trans (if_neg c)) z
            refine s_Model_otherOf (by omega) vm16 (kv3 i2) hh ?_
            have l1 : H16 54 0 1 = (thrF (stF (lwF (H 12 s.lw) (H 13 s.lw)) (nI s.wd) (nI s.op)) (H 17 u) n3 0 (kdV (vM H j) so (nI i2))).2 3 := l16 1 (by omega)
            rw [l1]
            refine ⟨fun z2 => no (fun hb => z2 (of_decide_eq_true hb).2), fun z2 v22 e22 => ⟨⟨i2 + 1, hi3, nI_1 i2, k16, ?_⟩, mu⟩⟩
            show v22 = (if sb i2 = true then bsF sb i2 ||| (1 <<< (nI i2 &&& 31)) else bsF sb i2)
            rw [if_pos (decide_eq_true ⟨hr1, z2⟩), e22]
      · rw [nI_leI (by omega) (by omega)] at q
        have hiK : i < K := by omega
        have mu : 10 - (nI i + 1).toNatClampNeg < 10 - (nI i).toNatClampNeg := by rw [nI_1, nI_clamp (by omega), nI_clamp (by omega)]; omega
        refine s_Main_think hI12 hj (fun H13 s13 r13 k0 k1 k8 => ?_)
        rw [INV.vM_sc s12] at k8
        refine ⟨fun H15 => H15 = hu H13 3 8 so (nI i), ⟨fun z H19 e19 => ?_, fun z H20 e20 => ?_⟩, fun H15 e15 => ?_⟩
        · have : so = 1 := by
            rcases (show so = 0 ∨ so = 1 by omega) with e | e
            · subst e; exact absurd eso z
            · exact e
          rw [this]; exact e19
        · have : so = 0 := by
            rcases (show so = 0 ∨ so = 1 by omega) with e | e
            · exact e
            · subst e; rw [eso] at z; exact absurd z (by decide)
          rw [this]; exact e20
        · have s15 : scF H H15 := by rw [e15]; exact (s12.tr s13).hu (by unfold scr; omega)
          have f15 : hfr [3] H13 H15 := by rw [e15]; exact hfr.rf.hu (by decide)
          have v15 : H15 3 8 = kdV (vM H j) so (nI i) := by
            funext k
            rw [e15]
            unfold kdV
            by_cases c : k = so
            · rw [if_pos c, c, hu_at]
            · rw [if_neg c, hu_k _ _ c, k8]
          have t15 : thk H15 s.lw s.wd (nI s.op) (kdV (vM H j) so (nI i)) (lwH H s) := ⟨r13.fr f15 (by decide) (by decide) (by decide), by rw [f15 2 (by decide)]; exact k0, by rw [f15 2 (by decide)]; exact k1, v15, think_lw hI s15⟩
          have e17 : H15 17 u = H 17 u := by funext k; exact s15 17 u k (by unfold scr; omega)
          have mo : mvOK H15 u n3 := ⟨hn3, by rw [s15 16 u 2 (by unfold scr; omega), en, e3], fun r hr => by rw [e17]; exact (hrow r hr).2⟩
          refine ⟨vinu, ?_⟩
          rw [cu]
          refine s_cl_thr t15 mo (fun H16 r16 s16 => ?_)
          rw [e17] at r16 ⊢
          have s16' := s15.tr s16
          have v8 : H16 3 8 3 = (thrF (stF (lwH H s) (nI s.wd) (nI s.op)) (H 17 u) n3 0 (kdV (vM H j) so (nI i))).2 3 := by rw [r16.v8]
          have no : ¬ sb i = true → (∃ i', i' ≤ K ∧ nI i + 1 = nI i' ∧ scF H H16 ∧ bsF sb i = bsF sb i') ∧ 10 - (nI i + 1).toNatClampNeg < 10 - (nI i).toNatClampNeg := by
            intro hb
            refine ⟨⟨i + 1, hiK, nI_1 i, s16', ?_⟩, mu⟩
            show _ = (if sb i = true then _ else bsF sb i)
            rw [if_neg hb]
          refine ⟨fun z => no (fun hb => z (of_decide_eq_true hb).1), fun z => ⟨fun z2 => no (fun hb => z2 (v8.trans (of_decide_eq_true hb).2)), fun z2 v18 e18 => ⟨⟨i + 1, hiK, nI_1 i, s16', ?_⟩, mu⟩⟩⟩
          show v18 = (if sb i = true then bsF sb i ||| (1 <<< (nI i &&& 31)) else bsF sb i)
          rw [if_pos (decide_eq_true ⟨z, v8.symm.trans z2⟩), e18]
    · refine ⟨fun z => absurd rfl z, fun _ => ?_⟩
      exact l_Model_kinds (s_Model_fine hI hu4 eu hj rfl hn en hm mv ⟨fun _ => s_Model_in (fun a b => absurd ⟨a, b⟩ q) (fun _ => ⟨fun z => absurd rfl z, fun _ => eqI_sc hI scF.rf rfl⟩), fun z => absurd rfl z⟩)
/-- the first, and how many, of the numbers from 8 on -/
noncomputable def wsF (P : Nat → Prop) : Nat → Int32 × Int32
  | 0 => (-1, 0)
  | n + 1 => @ite _ (P (8 + n)) (Classical.propDecidable _) ((if (wsF P n).1 = -1 then nI (8 + n) else (wsF P n).1), (wsF P n).2 + 1) (wsF P n)
theorem wsF_y {P : Nat → Prop} {n : Nat} (h : P (8 + n)) : wsF P (n + 1) = ((if (wsF P n).1 = -1 then nI (8 + n) else (wsF P n).1), (wsF P n).2 + 1) := by
  show @ite _ (P (8 + n)) (Classical.propDecidable _) _ _ = _
  rw [if_pos h]
theorem wsF_n {P : Nat → Prop} {n : Nat} (h : ¬ P (8 + n)) : wsF P (n + 1) = wsF P n := by
  show @ite _ (P (8 + n)) (Classical.propDecidable _) _ _ = _
  rw [if_neg h]
theorem m_widths {E : XE} {d d2 : Nat} {x1 x2 x3 : Int32} {s : SN} {H : HH} (hI : INV H s) : c_Main_widths E (d + 20) x1 x2 x3 H (fun r H1 => c_Model_widths E (d2 + 20) x1 x2 x3 H1 (eqI r)) := by
  have nv4 : s.nv ≤ 4 := hI.1.1
  refine l_Main_widths (s_Main_refusal hI (fun r hr hb => ?_) (fun u n j hu4 eu hj ej hn en hm mv => ?_))
  · refine ⟨fun z => absurd z hr, fun _ => ?_⟩
    exact l_Model_widths (s_Model_refusal hI hb (fun _ => ⟨fun z => absurd z hr, fun _ => eqI_sc hI scF.rf rfl⟩))
  · refine ⟨fun _ => ?_, fun z => absurd rfl z⟩
    obtain ⟨n3, hn3, e3, hrow⟩ := mv_num mv hn
    subst ej
    have hv := hI.2.2.2.2.2.1 j hj
    obtain ⟨h, hh, eh⟩ := hv.2.2.2.2.2.1
    have vinu : vp_in x1 4 := by rw [eu]; exact vp_in_nI hu4 (by omega)
    have cu : x1.toNatClampNeg = u := by rw [eu, nI_clamp (by omega)]
    refine s_Main_isWithin (fun q1 q2 => ?_) (fun q => ?_)
    · refine ⟨fun _ => ?_, fun z => absurd z (by decide)⟩
      let P : Nat → Prop := fun w => fitV (lwH H s) (nI w) (nI s.op) (vM H j) (vM H j 2) (vM H j 3) ∧ (thrF (stF (lwH H s) (nI w) (nI s.op)) (H 17 u) n3 0 (vM H j)).1 = -1
      refine ⟨fun z6 z7 z8 H9 => ∃ i, i ≤ 53 ∧ z8 = nI (8 + i) ∧ scF H H9 ∧ z6 = (wsF P i).1 ∧ z7 = (wsF P i).2, fun _ _ z8 _ => 61 - z8.toNatClampNeg, ⟨0, by omega, rfl, scF.rf, rfl, rfl⟩, fun z6 z7 z8 H9 hJ => ?_⟩
      obtain ⟨i, hi, rfl, s9, rfl, rfl⟩ := hJ
      have hI9 := hI.sc s9
      refine ⟨fun q => ?_, fun q => ?_⟩
      · rw [show (60 : Int32) = nI 60 from rfl, nI_ltI (by omega) (by omega)] at q
        have e : i = 53 := by omega
        subst e
        -- the reference's side
        have f16 : H9 16 u 2 = nI n := by rw [s9 16 u 2 (by unfold scr; omega)]; exact en
        have f17 : H9 17 u = H 17 u := by funext k; exact s9 17 u k (by unfold scr; omega)
        rw [eu]
        refine l_Model_widths (s_Model_fine hI9 hu4 rfl hj rfl hn f16 (by rw [s9 16 u 1 (by unfold scr; omega)]; exact hm) (by rw [f17]; exact mv) ⟨fun _ => ?_, fun z => absurd rfl z⟩)
        refine s_Model_in (fun _ _ => ⟨fun _ => ?_, fun z => absurd z (by decide)⟩) (fun q => absurd ⟨q1, q2⟩ q)
        refine ⟨fun z6 z7 z8 H10 => ∃ i, i ≤ 53 ∧ z8 = nI (8 + i) ∧ (∀ a b k, ¬ scr a b k → ¬ (a = 30 ∧ b = 0 ∧ k = 1) → H10 a b k = H a b k) ∧ z6 = (wsF P i).1 ∧ z7 = (wsF P i).2, fun _ _ z8 _ => 61 - z8.toNatClampNeg, ⟨0, by omega, rfl, fun a b k p _ => s9 a b k p, rfl, rfl⟩, fun z6 z7 z8 H10 hJ2 => ?_⟩
        obtain ⟨i, hi, rfl, k10, rfl, rfl⟩ := hJ2
        refine ⟨fun q H11 e11 => ?_, fun q => ⟨by rw [i5_0]; exact vp_in_nI (by omega) (by omega), fun H12 e12 => ?_⟩⟩
        · rw [show (60 : Int32) = nI 60 from rfl, nI_ltI (by omega) (by omega)] at q
          have e : i = 53 := by omega
          subst e
          refine eqI_sc hI (fun a b k p => ?_) rfl
          rw [e11]
          by_cases c : a = 30 ∧ b = 0 ∧ k = 1
          · obtain ⟨rfl, rfl, rfl⟩ := c
            rw [hu_at]; exact s9 30 0 1 p
          · rw [hu_ne c]; exact k10 a b k p c
        · rw [show (60 : Int32) = nI 60 from rfl, nI_ltI (by omega) (by omega)] at q
          have hi3 : i < 53 := by omega
          have mu : 61 - (nI (8 + i) + 1).toNatClampNeg < 61 - (nI (8 + i)).toNatClampNeg := by rw [nI_1, nI_clamp (by omega), nI_clamp (by omega)]; omega
          have k12 : ∀ a b k, ¬ scr a b k → ¬ (a = 30 ∧ b = 0 ∧ k = 1) → H12 a b k = H a b k := by
            intro a b k p1 p2
            rw [e12, hu_ne p2]; exact k10 a b k p1 p2
          obtain ⟨ml, vm⟩ := ml_of hI (fun a b k p1 p2 => k12 a b k p1 (fun z => p2 ⟨z.1, z.2.1, Or.inl z.2.2⟩))
          have w12 : H12 30 0 1 = nI (8 + i) := by rw [e12, hu_at]
          have o12 : H12 30 0 2 = nI s.op := by rw [k12 30 0 2 (by unfold scr; omega) (by omega)]; exact hI.2.2.1.2.2.1
          have r2 : H12 34 0 (5 * j) = vM H j 2 := congrFun (vm j) 2
          have r3 : H12 34 0 (5 * j + 1) = nI h := (congrFun (vm j) 3).trans eh
          have no : ¬ P (8 + i) → ∀ H13 : HH, (∀ a b k, ¬ scr a b k → ¬ (a = 30 ∧ b = 0 ∧ k = 1) → H13 a b k = H a b k) → (∃ i', i' ≤ 53 ∧ nI (8 + i) + 1 = nI (8 + i') ∧ (∀ a b k, ¬ scr a b k → ¬ (a = 30 ∧ b = 0 ∧ k = 1) → H13 a b k = H a b k) ∧ (wsF P i).1 = (wsF P i').1 ∧ (wsF P i).2 + 0 = (wsF P i').2) ∧ 61 - (nI (8 + i) + 1).toNatClampNeg < 61 - (nI (8 + i)).toNatClampNeg :=
            fun hP H13 k13 => ⟨⟨i + 1, hi3, nI_1 _, k13, by rw [wsF_n hP], by rw [wsF_n hP, Int32.add_zero]⟩, mu⟩
          rw [i5_1, i5_0, nI_clamp (by omega), nI_clamp (by omega), r2]
          refine s_Model_isPlace (fun p1 p2 => ?_) (fun p1 => ?_)
          · refine ⟨fun z => absurd z (by decide), fun _ => ⟨vp_in_nI (by omega) (by omega), vp_in_nI (by omega) (by omega), ?_⟩⟩
            rw [r2, r3]
            have ef : fitM H12 (H 12 s.lw) (H 13 s.lw) j (vM H j 2) (nI h) = fitV (lwH H s) (nI (8 + i)) (nI s.op) (vM H j) (vM H j 2) (vM H j 3) := by
              unfold fitM
              rw [w12, o12, vm j, eh]; rfl
            refine s_Model_fitsAt ml (by omega) hh ⟨p1, p2⟩ (fun hf H15 f15 => ?_) (fun hf H15 f15 => ?_)
            · rw [ef] at hf
              refine ⟨fun z => absurd z (by decide), fun _ => ?_⟩
              have k15 : ∀ a b k, ¬ scr a b k → ¬ (a = 30 ∧ b = 0 ∧ k = 1) → H15 a b k = H a b k := by
                intro a b k p1 p2
                rw [f15.sc (by decide) a b k p1]; exact k12 a b k p1 p2
              obtain ⟨ml15, vm15⟩ := ml_of hI (fun a b k p1 p2 => k15 a b k p1 (fun z => p2 ⟨z.1, z.2.1, Or.inl z.2.2⟩))
              obtain ⟨t41, t42⟩ := sh_told (H1 := H15) hI hu4 en hn e3 (fun a b k p => k15 a b k (by unfold scr; omega) (by omega))
              refine s_md_thr (wd := nI (8 + i)) (op := nI s.op) ml15 (by rw [f15 30 (by decide)]; exact w12) (by rw [f15 30 (by decide)]; exact o12) (vm15 j) hv.2.2.2.2.2 (by omega) hu4 hn3 t41 t42 hrow (fun H17 f17 l17 v20 e20 v23 e23 v25 e25 => ?_)
              have k17 : ∀ a b k, ¬ scr a b k → ¬ (a = 30 ∧ b = 0 ∧ k = 1) → H17 a b k = H a b k := by
                intro a b k p1 p2
                rw [f17.sc (by decide) a b k p1]; exact k15 a b k p1 p2
              by_cases c : (thrF (stF (lwF (H 12 s.lw) (H 13 s.lw)) (nI (8 + i)) (nI s.op)) (H 17 u) n3 0 (vM H j)).1 = -1
              · have hP : P (8 + i) := ⟨hf, c⟩
                have e20' : v20 = 1 := e20.trans (if_pos c)
                rw [e20', if_neg (by decide)] at e23 e25
                exact ⟨⟨i + 1, hi3, nI_1 _, k17, by rw [wsF_y hP]; exact e23, by rw [wsF_y hP]; exact e25⟩, mu⟩
              · have e20' : v20 = 0 := e20.trans (if_neg c)
                rw [e20', if_pos rfl] at e23 e25
                rw [e23, e25]
                exact no (fun z => c z.2) H17 k17
            · rw [ef] at hf
              exact ⟨fun _ => no (fun z => hf z.1) H15 (fun a b k p1 p2 => by rw [f15.sc (by decide) a b k p1]; exact k12 a b k p1 p2), fun z => absurd rfl z⟩
          · rw [w12] at p1
            exact ⟨fun _ => no (fun z => p1 ⟨z.1.1, z.1.2.1⟩) H12 k12, fun z => absurd rfl z⟩
      · rw [show (60 : Int32) = nI 60 from rfl, nI_ltI (by omega) (by omega)] at q
        have hi3 : i < 53 := by omega
        have mu : 61 - (nI (8 + i) + 1).toNatClampNeg < 61 - (nI (8 + i)).toNatClampNeg := by rw [nI_1, nI_clamp (by omega), nI_clamp (by omega)]; omega
        have no : ¬ P (8 + i) → ∀ H13, scF H H13 → (∃ i', i' ≤ 53 ∧ nI (8 + i) + 1 = nI (8 + i') ∧ scF H H13 ∧ (wsF P i).1 = (wsF P i').1 ∧ (wsF P i).2 = (wsF P i').2) ∧ 61 - (nI (8 + i) + 1).toNatClampNeg < 61 - (nI (8 + i)).toNatClampNeg :=
          fun hP H13 k13 => ⟨⟨i + 1, hi3, nI_1 _, k13, by rw [wsF_n hP], by rw [wsF_n hP]⟩, mu⟩
        refine s_Main_think hI9 hj (fun H11 s11 r11 k0 k1 k8 => ?_)
        rw [INV.vM_sc s9] at k8
        refine s_fits_set (k := 0) hI (s9.tr s11) r11 k0 k1 k8 (Or.inl rfl) (fun hf H13 s13 r13 w13 o13 v13 => ?_) (fun hf H13 s13 => ?_)
        · refine ⟨fun z => absurd z (by decide), fun _ => ⟨vinu, ?_⟩⟩
          rw [cu]
          have t13 : thk H13 s.lw (8 + i) (nI s.op) (vM H j) (lwH H s) := ⟨r13, w13, o13, v13, think_lw hI s13⟩
          have e17 : H13 17 u = H 17 u := by funext k; exact s13 17 u k (by unfold scr; omega)
          have mo : mvOK H13 u n3 := ⟨hn3, by rw [s13 16 u 2 (by unfold scr; omega), en, e3], fun r hr => by rw [e17]; exact (hrow r hr).2⟩
          refine s_cl_thr t13 mo (fun H15 r15 s15 => ?_)
          rw [e17]
          have s15' := s13.tr s15
          refine ⟨fun z => ?_, fun z => no (fun y => z y.2) H15 s15'⟩
          have hP : P (8 + i) := ⟨hf, z⟩
          refine ⟨fun y => ⟨⟨i + 1, hi3, nI_1 _, s15', ?_, by rw [wsF_y hP]⟩, mu⟩, fun y => ⟨⟨i + 1, hi3, nI_1 _, s15', ?_, by rw [wsF_y hP]⟩, mu⟩⟩
          · rw [wsF_y hP]; show _ = (if (wsF P i).1 = -1 then _ else _); rw [if_neg y]
          · rw [wsF_y hP]; show _ = (if (wsF P i).1 = -1 then _ else _); rw [if_pos y]
        · exact ⟨fun _ => no (fun z => hf z.1) H13 s13, fun z => absurd rfl z⟩
    · refine ⟨fun z => absurd rfl z, fun _ => ?_⟩
      exact l_Model_widths (s_Model_fine hI hu4 eu hj rfl hn en hm mv ⟨fun _ => s_Model_in (fun a b => absurd ⟨a, b⟩ q) (fun _ => ⟨fun z => absurd rfl z, fun _ => eqI_sc hI scF.rf rfl⟩), fun z => absurd rfl z⟩)
