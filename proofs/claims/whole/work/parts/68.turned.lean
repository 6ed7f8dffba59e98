/-! THE CALLS 7: turned, headings, best. -/
theorem lI_of {l : Nat} (hl : l < 3) : lI l = lI l := rfl
theorem thk_of {H H1 : HH} {s : SN} {j : Nat} (hI : INV H s) (hs : scF H H1) (r : rdOK H1 s.lw) (k0 : H1 2 2 0 = nI s.wd) (k1 : H1 2 2 1 = nI s.op) (k8 : H1 3 8 = vM H j) : thk H1 s.lw s.wd (nI s.op) (vM H j) (lwH H s) := ⟨r, k0, k1, k8, think_lw hI hs⟩
/-- a step of least from where the vehicle stands -/
theorem s_cl_now {E : XE} {d t wdn g hd p h l : Nat} {op : Int32} {v : VV} {lw : LW} {c : Nat → Option Nat} {H : HH} {Q : Int32 → HH → Prop} (ht : thk H t wdn op v lw) (hs : srOK H t wdn g) (hc : srS H c) (hco : coOK (grV lw wdn op v) g hd c) (h2 : v 2 = nI p) (h3 : v 3 = nI h) (h6 : v 6 = lI l) (hp : p ≤ wdn) (hh : h < 16) (hl : l < 3)
    (hq : ∀ H1, lsFr H H1 → thk H1 t wdn op v lw → H1 21 0 7 = stI (bestF (stpO (grV lw wdn op v) g hd p h l) 6) → (∀ q, bestF (stpO (grV lw wdn op v) g hd p h l) 6 = some q → q.1 < 2000000) → Q (coI (bestF (stpO (grV lw wdn op v) g hd p h l) 6)) H1) : c_Search_leastFromNow E (d + 5) H Q := by
  refine l_Search_leastFromNow ?_
  unfold p_Search_leastFromNow
  rw [ht.2.2.2.1, h2, h3, h6]
  exact s_cl_least ht hs hc hco hp hh hl hq
/-- the reference's tables, over a heap that is the class's but for what may change -/
theorem tells_of {E : XE} {d j wv : Nat} {s : SN} {H H1 : HH} {Q : HH → Prop} (hI : INV H s) (hs : scF H H1) (hj : j < s.nv) (hwv : wv < 2)
    (h : ∀ H2, scF H H2 → tbOK H2 j wv (grV (lwH H s) s.wd (nI s.op) (vM H j)) → Q H2) : c_Model_tellsLane E (d + 4) (nI j) (nI wv) H1 Q := by
  have nv4 : s.nv ≤ 4 := hI.1.1
  have w60 : s.wd ≤ 60 := hI.1.2.2.1
  have hI1 := hI.sc hs
  refine s_Model_tellsLane hI1.ml (by omega) hI1.2.2.1.2.1 (by omega) hwv (fun H2 f2 t2 => ?_)
  rw [grM_V hI1.2.2.1.2.1 hI1.2.2.1.2.2.1 (INV.vM_sc hs), think_lw hI hs] at t2
  exact h H2 (hs.tr (f2.sc (by decide))) t2
theorem whl_c : ∀ c, c < 6 → (10 : Int32) * nI (c / 3) + xrem (nI c) 3 = nI (10 * (c / 3) + c % 3) := by decide +kernel
theorem s_Model_firstStep {E : XE} {d j g p h l : Nat} {s : SN} {v : VV} {G : GR} {H : HH} {Q : Int32 → HH → Prop} (hj : j < 4) (ht : tbOK H j g G) (hv : vM H j = v) (h2 : v 2 = nI p) (h3 : v 3 = nI h) (h6 : v 6 = lI l) (hp : p ≤ G.wdn) (hh : h < 16) (hl : l < 3)
    (hq : ∀ H1, hfr [50, 51, 52] H H1 → Q (stI (bestF (stpO G g ((h + 8) % 16) p h l) 6)) H1) : c_Model_firstStep E (d + 5) (nI j) (nI g) H Q := by
  have hw : G.wdn < 61 := ht.2.2.2.1
  have hg2 : g < 2 := ht.2.2.2.2.2.1
  have hx : smo p h l < 2928 := by unfold smo; omega
  obtain ⟨sd1, sd2, sd3, -⟩ := smo_d (p := p) hh hl
  refine l_Model_firstStep (s_Model_stateOf hj hv h2 h3 h6 hl ?_)
  refine ⟨fun z4 z5 z6 H7 => ∃ c, c ≤ 6 ∧ z6 = nI c ∧ hfr [50, 51, 52] H H7 ∧ z4 = stI (bestF (stpO G g ((h + 8) % 16) p h l) c) ∧ z5 = nI (bI 1000000000 (bestF (stpO G g ((h + 8) % 16) p h l) c)) ∧ bI 1000000000 (bestF (stpO G g ((h + 8) % 16) p h l) c) ≤ 1000000000, fun _ _ z6 _ => 6 - z6.toNatClampNeg, ⟨0, by omega, rfl, hfr.rf, rfl, rfl, Nat.le_refl _⟩, fun z4 z5 z6 H7 hJ => ?_⟩
  obtain ⟨c, hc, rfl, f7, rfl, rfl, bnd⟩ := hJ
  refine ⟨fun q => ?_, fun q => ?_⟩
  · rw [show (6 : Int32) = nI 6 from rfl, nI_leI (by omega) (by omega)] at q
    have e : c = 6 := by omega
    subst e
    exact hq H7 f7
  · rw [show (6 : Int32) = nI 6 from rfl, nI_leI (by omega) (by omega)] at q
    have hc6 : c < 6 := by omega
    obtain ⟨c1, c2, c3, c4⟩ := ch_all c hc6
    have mu : 6 - (nI c + 1).toNatClampNeg < 6 - (nI c).toNatClampNeg := by rw [nI_1, nI_clamp (by omega), nI_clamp (by omega)]; omega
    have t7 := ht.fr f7
    rw [c1, c2]
    refine s_Model_stateBehind t7 hx hc6 ?_
    cases hn : nxS G (smo p h l) c with
    | none =>
      have ho : stpO G g ((h + 8) % 16) p h l c = none := by
        refine (minO_eq ?_).symm
        rintro k ⟨q2, k2, a1, a2, -⟩
        have : nxS G (smo p h l) c = some (smo q2.1 q2.2 (c / 3)) := by
          unfold nxS
          rw [sd1, sd2, a1]
          simp only
          rw [if_pos a2]
        rw [hn] at this; cases this
      refine ⟨fun _ => ⟨⟨c + 1, hc6, nI_1 c, f7, by rw [bestF_none ho], by rw [bestF_none ho], by rw [bestF_none ho]; exact bnd⟩, mu⟩, fun z => absurd rfl z⟩
    | some y =>
      obtain ⟨y1, y2, q2, y3, y4, y5⟩ := nxS_in hw hc6 hn
      rw [sd1, sd2] at y3
      obtain ⟨n1, n2, -, -⟩ := nxt_some hw y3
      subst y5
      refine ⟨fun z => absurd z (nI_n1 (by omega)), fun _ => ?_⟩
      refine s_md_seeks t7 n1 n2 (show c / 3 < 3 by omega) (fun H10 f10 t10 hlt => ?_)
      have vm10 : vM H10 j = v := by
        rw [← hv]
        exact vM_of j (by rw [f10 32 (by decide), f7 32 (by decide)]) (by rw [f10 33 (by decide), f7 33 (by decide)]) (by rw [f10 34 (by decide), f7 34 (by decide)])
      refine s_Model_otherOf hj vm10 h3 hh ?_
      refine hlt _ _ _ (by omega) (fun hb => ?_)
      have f10' := f7.tr f10
      -- what this first step comes to
      have hso : stpO G g ((h + 8) % 16) p h l c = (lstO G g ((h + 8) % 16) q2.1 q2.2 (c / 3)).map (fun k => cst G g p h l (c / 3) (c % 3) + k) := by
        refine (minO_eq ?_).symm
        have hm := minO_is (WS G g ((h + 8) % 16) q2.1 q2.2 (c / 3))
        unfold lstO
        cases hz : minO (WS G g ((h + 8) % 16) q2.1 q2.2 (c / 3)) with
        | none =>
          rw [hz] at hm
          rintro k ⟨q3, k2, a1, a2, a3, a4⟩
          rw [y3] at a1; cases a1
          exact hm k2 a3
        | some r =>
          rw [hz] at hm
          refine ⟨⟨q2, r, y3, y4, hm.1, rfl⟩, ?_⟩
          rintro k ⟨q3, k2, a1, a2, a3, a4⟩
          rw [y3] at a1; cases a1
          have := hm.2 k2 a3
          show cst G g p h l (c / 3) (c % 3) + r ≤ k
          omega
      have ecs : csS G g (smo p h l) c = cst G g p h l (c / 3) (c % 3) := by unfold csS; rw [sd1, sd2, sd3]
      have cle : cst G g p h l (c / 3) (c % 3) ≤ 99 := by rw [← ecs]; exact csS_le ht (by rw [sd1]; exact hp)
      -- the end of the round
      have fin : ∀ (y16 : Int32) (H17 : HH), hfr [50, 51, 52] H H17 → ((stpO G g ((h + 8) % 16) p h l c = none ∧ y16 = nI 1000000000) ∨ ∃ k, stpO G g ((h + 8) % 16) p h l c = some k ∧ k < 1000100 ∧ y16 = nI k) →
          ((nI (bI 1000000000 (bestF (stpO G g ((h + 8) % 16) p h l) c)) ≤ y16 → ∀ v19 : Int32, v19 = (if nI (bI 1000000000 (bestF (stpO G g ((h + 8) % 16) p h l) c)) ≤ y16 then nI (bI 1000000000 (bestF (stpO G g ((h + 8) % 16) p h l) c)) else y16 : Int32) → (∃ c', c' ≤ 6 ∧ nI c + 1 = nI c' ∧ hfr [50, 51, 52] H H17 ∧ stI (bestF (stpO G g ((h + 8) % 16) p h l) c) = stI (bestF (stpO G g ((h + 8) % 16) p h l) c') ∧ v19 = nI (bI 1000000000 (bestF (stpO G g ((h + 8) % 16) p h l) c')) ∧ bI 1000000000 (bestF (stpO G g ((h + 8) % 16) p h l) c') ≤ 1000000000) ∧ 6 - (nI c + 1).toNatClampNeg < 6 - (nI c).toNatClampNeg) ∧
          (¬ nI (bI 1000000000 (bestF (stpO G g ((h + 8) % 16) p h l) c)) ≤ y16 → ∀ v20 : Int32, v20 = ((10 * nI (c / 3)) + (xrem (nI c) 3)) → ∀ v22 : Int32, v22 = (if nI (bI 1000000000 (bestF (stpO G g ((h + 8) % 16) p h l) c)) ≤ y16 then nI (bI 1000000000 (bestF (stpO G g ((h + 8) % 16) p h l) c)) else y16 : Int32) → (∃ c', c' ≤ 6 ∧ nI c + 1 = nI c' ∧ hfr [50, 51, 52] H H17 ∧ v20 = stI (bestF (stpO G g ((h + 8) % 16) p h l) c') ∧ v22 = nI (bI 1000000000 (bestF (stpO G g ((h + 8) % 16) p h l) c')) ∧ bI 1000000000 (bestF (stpO G g ((h + 8) % 16) p h l) c') ≤ 1000000000) ∧ 6 - (nI c + 1).toNatClampNeg < 6 - (nI c).toNatClampNeg)) := by
        intro y16 H17 f17 hy
        rcases hy with ⟨ho, rfl⟩ | ⟨k, ho, hk, rfl⟩
        · have le : nI (bI 1000000000 (bestF (stpO G g ((h + 8) % 16) p h l) c)) ≤ nI 1000000000 := nI_le bnd (by omega)
          refine ⟨fun _ v19 e19 => ?_, fun z => absurd le z⟩
          rw [if_pos le] at e19
          exact ⟨⟨c + 1, hc6, nI_1 c, f17, by rw [bestF_none ho], by rw [bestF_none ho]; exact e19, by rw [bestF_none ho]; exact bnd⟩, mu⟩
        · have bs := bestF_some (M := 1000000000) ho (by omega)
          refine ⟨fun le v19 e19 => ?_, fun nle v20 e20 v22 e22 => ?_⟩
          · rw [if_pos le] at e19
            rw [nI_leI (by omega) (by omega)] at le
            rw [if_neg (by omega)] at bs
            exact ⟨⟨c + 1, hc6, nI_1 c, f17, by rw [bs], by rw [bs]; exact e19, by rw [bs]; exact bnd⟩, mu⟩
          · rw [if_neg nle] at e22
            rw [nI_leI (by omega) (by omega)] at nle
            rw [if_pos (by omega)] at bs
            refine ⟨⟨c + 1, hc6, nI_1 c, f17, ?_, ?_, ?_⟩, mu⟩
            · rw [bs, e20, whl_c c hc6]; rfl
            · rw [bs]; exact e22
            · rw [bs]; show k ≤ 1000000000; omega
      cases hz : lstO G g ((h + 8) % 16) q2.1 q2.2 (c / 3) with
      | none =>
        rw [hz] at hso
        refine ⟨fun y16 H17 => H10 = H17 ∧ y16 = nI 1000000000, ⟨fun z => absurd rfl z, fun _ => ⟨rfl, rfl⟩⟩, fun y16 H17 hJ => ?_⟩
        obtain ⟨rfl, rfl⟩ := hJ
        exact fin _ _ f10' (Or.inl ⟨hso, rfl⟩)
      | some r =>
        have hr := hb r hz
        rw [hz] at hso
        refine ⟨fun y16 H17 => H10 = H17 ∧ y16 = nI (cst G g p h l (c / 3) (c % 3) + r), ⟨fun _ => ?_, fun z => ?_⟩, fun y16 H17 hJ => ?_⟩
        · refine s_Model_costsStep t10 hx (by rw [sd1]; exact hp) hc6 ⟨rfl, ?_⟩
          rw [ecs]
          show nI r + nI _ = _
          rw [nI_add, Nat.add_comm]
        · exfalso
          have z' : nI r = nI 1000000000 := z
          rw [nI_eq (by omega) (by omega)] at z'
          omega
        · obtain ⟨rfl, rfl⟩ := hJ
          exact fin _ _ f10' (Or.inr ⟨_, hso, (show cst G g p h l (c / 3) (c % 3) + r < 1000100 by omega), rfl⟩)
theorem fl_all : ∀ n, n < 12 → (nI n = 0 ∨ nI n = 1 ∨ nI n = 10 ∨ nI n = 11) → ∃ g w, g < 2 ∧ w < 2 ∧ nI n / 10 = nI g ∧ xrem (nI n) 10 = nI w ∧ (if nI n ≤ 9 then 0 else 1 : Int32) = nI g := by
  have h : ∀ n, n < 12 → (nI n = 0 ∨ nI n = 1 ∨ nI n = 10 ∨ nI n = 11) → nI n / 10 = nI (n / 10) ∧ xrem (nI n) 10 = nI (n % 10) ∧ (if nI n ≤ 9 then 0 else 1 : Int32) = nI (n / 10) ∧ n % 10 < 2 := by decide +kernel
  intro n hn hq
  obtain ⟨a, b, c, e⟩ := h n hn hq
  exact ⟨n / 10, n % 10, by omega, e, a, b, c⟩
theorem flags_of {x : Int32} (h : x = 0 ∨ x = 1 ∨ x = 10 ∨ x = 11) : ∃ g w, g < 2 ∧ w < 2 ∧ x / 10 = nI g ∧ xrem x 10 = nI w ∧ (if x ≤ 9 then 0 else 1 : Int32) = nI g := by
  rcases h with rfl | rfl | rfl | rfl
  · exact fl_all 0 (by omega) (Or.inl rfl)
  · exact fl_all 1 (by omega) (Or.inr (Or.inl rfl))
  · exact fl_all 10 (by omega) (Or.inr (Or.inr (Or.inl rfl)))
  · exact fl_all 11 (by omega) (Or.inr (Or.inr (Or.inr rfl)))
theorem s_Model_isGoal {E : XE} {d : Nat} {x : Int32} {H : HH} {Q : Int32 → HH → Prop} (h1 : (x = 0 ∨ x = 1 ∨ x = 10 ∨ x = 11) → Q 1 H) (h0 : ¬ (x = 0 ∨ x = 1 ∨ x = 10 ∨ x = 11) → Q 0 H) : c_Model_isGoal E (d + 1) x H Q := by
  refine l_Model_isGoal (s_Model_in (fun q1 q2 => ?_) (fun q => ?_))
  · refine ⟨fun z => absurd z (by decide), fun _ => ?_⟩
    by_cases c : (2 : Int32) ≤ xrem x 10
    · rw [if_pos c]; exact ⟨Or.inl rfl, h0 (fun z => (tf_iff.mp z).2.2 c)⟩
    · rw [if_neg c]; exact ⟨Or.inr rfl, h1 (tf_iff.mpr ⟨q1, q2, c⟩)⟩
  · exact ⟨fun _ => h0 (fun z => q ⟨(tf_iff.mp z).1, (tf_iff.mp z).2.1⟩), fun z => absurd rfl z⟩
theorem m_turned {E : XE} {d d2 : Nat} {x1 x2 : Int32} {s : SN} {H : HH} (hI : INV H s) : c_Main_turned E (d + 20) x1 x2 H (fun r H1 => c_Model_turned E (d2 + 20) x1 x2 H1 (eqI r)) := by
  have nv4 : s.nv ≤ 4 := hI.1.1
  have w60 : s.wd ≤ 60 := hI.1.2.2.1
  refine l_Main_turned (s_Main_isVehicle hI (fun j hj ej => ?_) (fun no => ?_))
  · refine ⟨fun _ => s_Main_isTwoFlags (fun hf => ?_) (fun hf => ?_), fun z => absurd z (by decide)⟩
    · refine ⟨fun _ => ?_, fun z => absurd z (by decide)⟩
      subst ej
      obtain ⟨g, w, hg, hw2, e10, er10, e9⟩ := flags_of hf
      have hv := hI.2.2.2.2.2.1 j hj
      obtain ⟨p, hp, ep⟩ := hv.2.2.2.1
      obtain ⟨l, hl, el⟩ := hv.2.2.2.2.1
      obtain ⟨h, hh, eh⟩ := hv.2.2.2.2.2.1
      have hhd : (h + 8) % 16 < 16 := Nat.mod_lt _ (by decide)
      have hne : ¬ h = (h + 8) % 16 := by omega
      refine s_Main_think hI hj (fun H5 s5 r5 k0 k1 k8 => ?_)
      have t5 := thk_of hI s5 r5 k0 k1 k8
      rw [k8, eh]
      refine s_Main_otherHeading ?_
      rw [oth_all h hh, e10]
      refine s_cl_toH t5 (by omega) hg hhd (fun H8 c s8 t8 sr8 sc8 co8 => ?_)
      refine s_cl_now t8 sr8 sc8 co8 ep eh el hp hh hl (fun H9 f9 t9 st9 b9 => ?_)
      have s9 : scF H H9 := (s5.tr s8).tr f9.sc
      have hI9 := hI.sc s9
      rw [er10, st9]
      refine l_Model_turned (s_Model_isVehicle hI9 (fun _ _ _ => ?_) (fun no => absurd rfl (no j hj)))
      refine ⟨fun _ => s_Model_isGoal (fun _ => ?_) (fun q => absurd hf q), fun z => absurd z (by decide)⟩
      refine ⟨fun _ => ?_, fun z => absurd z (by decide)⟩
      rw [e9]
      refine tells_of hI s9 hj hg (fun H6 s6 t6 => ?_)
      have vm6 : vM H6 j = vM H j := INV.vM_sc s6
      rw [er10, e10]
      refine ⟨fun hw1 => ?_, fun hw1 => ?_⟩
      · have w0 : w = 0 := by
          rcases (show w = 0 ∨ w = 1 by omega) with e | e
          · exact e
          · subst e; exact absurd rfl hw1
        subst w0
        refine s_Model_stateOf (by omega) vm6 ep eh el hl ?_
        refine s_md_seeks t6 (show p ≤ (grV (lwH H s) s.wd (nI s.op) (vM H j)).wdn from hp) hh hl (fun H10 f10 t10 hlt => ?_)
        have s10 := s6.tr (f10.sc (by decide))
        refine s_Model_otherOf (by omega) (INV.vM_sc s10) eh hh ?_
        refine hlt _ _ _ hhd (fun hb => s_Model_orNone hb ?_)
        refine eqI_sc hI s10 ?_
        rw [if_pos (show nI 0 = 0 from rfl), coI_oC, bst_lst hne]
      · have w1 : w = 1 := by
          rcases (show w = 0 ∨ w = 1 by omega) with e | e
          · subst e; exact absurd hw1 (by decide)
          · exact e
        subst w1
        refine s_Model_firstStep (s := s) (by omega) t6 vm6 ep eh el (show p ≤ (grV (lwH H s) s.wd (nI s.op) (vM H j)).wdn from hp) hh hl (fun H10 f10 => ?_)
        refine eqI_sc hI (s6.tr (f10.sc (by decide))) ?_
        rw [if_neg (by decide)]
    · refine ⟨fun z => absurd rfl z, fun _ => ?_⟩
      refine l_Model_turned (s_Model_isVehicle hI (fun _ _ _ => ?_) (fun no2 => absurd ej (no2 j hj)))
      exact ⟨fun _ => s_Model_isGoal (fun z => absurd z hf) (fun _ => ⟨fun z => absurd rfl z, fun _ => eqI_sc hI scF.rf rfl⟩), fun z => absurd z (by decide)⟩
  · refine ⟨fun z => absurd rfl z, fun _ => ?_⟩
    exact l_Model_turned (s_Model_isVehicle hI (fun j hj ej => absurd ej (no j hj)) (fun _ => ⟨fun z => absurd rfl z, fun _ => eqI_sc hI scF.rf rfl⟩))
theorem m_headings {E : XE} {d d2 : Nat} {x1 : Int32} {s : SN} {H : HH} (hI : INV H s) : c_Main_headings E (d + 20) x1 H (fun r H1 => c_Model_headings E (d2 + 20) x1 H1 (eqI r)) := by
  have nv4 : s.nv ≤ 4 := hI.1.1
  have w60 : s.wd ≤ 60 := hI.1.2.2.1
  refine l_Main_headings (s_Main_isVehicle hI (fun j hj ej => ?_) (fun no => ?_))
  · refine ⟨fun _ => ?_, fun z => absurd z (by decide)⟩
    subst ej
    have hv := hI.2.2.2.2.2.1 j hj
    obtain ⟨p, hp, ep⟩ := hv.2.2.2.1
    obtain ⟨l, hl, el⟩ := hv.2.2.2.2.1
    obtain ⟨h, hh, eh⟩ := hv.2.2.2.2.2.1
    refine s_Main_think hI hj (fun H5 s5 r5 k0 k1 k8 => ?_)
    have t5 := thk_of hI s5 r5 k0 k1 k8
    refine s_Search_headingsReached r5 k0 (by omega) hp hh (by rw [k8]; exact ep) (by rw [k8]; exact eh) (fun H6 sb f6 hsb => ?_)
    rw [t5.gr] at hsb
    have s6 : scF H H6 := s5.tr (f6.sc (by decide))
    have hI6 := hI.sc s6
    refine l_Model_headings (s_Model_isVehicle hI6 (fun _ _ _ => ?_) (fun no => absurd rfl (no j hj)))
    refine ⟨fun _ => ?_, fun z => absurd z (by decide)⟩
    refine tells_of (wv := 0) hI s6 hj (by decide) (fun H7 s7 t7 => ?_)
    refine s_Model_stateOf (by omega) (INV.vM_sc s7) ep eh el hl ?_
    refine s_md_seeks t7 (show p ≤ (grV (lwH H s) s.wd (nI s.op) (vM H j)).wdn from hp) hh hl (fun H10 f10 t10 hlt => ?_)
    have s10 := s7.tr (f10.sc (by decide))
    refine ⟨fun z8 z9 H11 => ∃ n, n ≤ 16 ∧ z9 = nI n ∧ H11 = H10 ∧ z8 = bsF sb n, fun _ z9 _ => 16 - z9.toNatClampNeg, ⟨0, by omega, rfl, rfl, rfl⟩, fun z8 z9 H11 hJ => ?_⟩
    obtain ⟨n, hn, rfl, e11, rfl⟩ := hJ
    rw [e11]
    refine ⟨fun q => ?_, fun q => ?_⟩
    · rw [show (16 : Int32) = nI 16 from rfl, nI_leI (by omega) (by omega)] at q
      have e : n = 16 := by omega
      subst e
      exact eqI_sc hI s10 rfl
    · rw [show (16 : Int32) = nI 16 from rfl, nI_leI (by omega) (by omega)] at q
      have hn16 : n < 16 := by omega
      have mu : 16 - (nI n + 1).toNatClampNeg < 16 - (nI n).toNatClampNeg := by rw [nI_1, nI_clamp (by omega), nI_clamp (by omega)]; omega
      refine hlt _ n _ hn16 (fun hb => ?_)
      have hm := minO_is (WS (grV (lwH H s) s.wd (nI s.op) (vM H j)) 0 n p h l)
      have hs : sb n = true ↔ ∃ k, WS (grV (lwH H s) s.wd (nI s.op) (vM H j)) 0 n p h l k := by
        rw [hsb n hn16]
        constructor
        · rintro ⟨m, p2, h2⟩
          obtain ⟨k, hk⟩ := (way_rch (g := 0) (l := l)).mpr ⟨p2, h2⟩
          exact ⟨k, m, hk⟩
        · rintro ⟨k, m, hk⟩
          obtain ⟨p2, h2⟩ := way_rch.mp ⟨k, hk⟩
          exact ⟨m, p2, h2⟩
      cases hz : lstO (grV (lwH H s) s.wd (nI s.op) (vM H j)) 0 n p h l with
      | none =>
        have hz' : minO (WS (grV (lwH H s) s.wd (nI s.op) (vM H j)) 0 n p h l) = none := hz
        rw [hz'] at hm
        have hs0 : ¬ sb n = true := fun z => by obtain ⟨k, hk⟩ := hs.mp z; exact hm k hk
        refine ⟨fun z => absurd rfl z, fun _ => ⟨⟨n + 1, hn16, nI_1 n, rfl, ?_⟩, mu⟩⟩
        show bsF sb n ||| 0 = (if sb n = true then _ else bsF sb n)
        rw [if_neg hs0, Int32.or_zero]
      | some k =>
        have hz' : minO (WS (grV (lwH H s) s.wd (nI s.op) (vM H j)) 0 n p h l) = some k := hz
        rw [hz'] at hm
        have hk := hb k hz
        refine ⟨fun _ v13 e13 => ⟨⟨n + 1, hn16, nI_1 n, rfl, ?_⟩, mu⟩, fun z => ?_⟩
        · show v13 = (if sb n = true then bsF sb n ||| (1 <<< (nI n &&& 31)) else bsF sb n)
          rw [if_pos (hs.mpr ⟨k, hm.1⟩), e13]
        · exfalso
          have z' : nI k = nI 1000000000 := z
          rw [nI_eq (by omega) (by omega)] at z'
          omega
  · refine ⟨fun z => absurd rfl z, fun _ => ?_⟩
    exact l_Model_headings (s_Model_isVehicle hI (fun j hj ej => absurd ej (no j hj)) (fun _ => ⟨fun z => absurd rfl z, fun _ => eqI_sc hI scF.rf rfl⟩))
/-- the best of some: the class's numbers while it looks -/
def cbI (b : Option (Nat × Nat)) : Int32 := match b with
  | none => -1
  | some q => nI q.2
theorem m_best {E : XE} {d d2 : Nat} {x1 : Int32} {s : SN} {H : HH} (hI : INV H s) : c_Main_best E (d + 20) x1 H (fun r H1 => c_Model_best E (d2 + 20) x1 H1 (eqI r)) := by
  have nv4 : s.nv ≤ 4 := hI.1.1
  have w60 : s.wd ≤ 60 := hI.1.2.2.1
  -- vehicle j, as it is
  have hvj : ∀ j, j < s.nv → ∃ p h l, p ≤ s.wd ∧ h < 16 ∧ l < 3 ∧ vM H j 2 = nI p ∧ vM H j 3 = nI h ∧ vM H j 6 = lI l := by
    intro j hj
    have hv := hI.2.2.2.2.2.1 j hj
    obtain ⟨p, hp, ep⟩ := hv.2.2.2.1
    obtain ⟨l, hl, el⟩ := hv.2.2.2.2.1
    obtain ⟨h, hh, eh⟩ := hv.2.2.2.2.2.1
    exact ⟨p, h, l, hp, hh, hl, ep, eh, el⟩
  -- what it takes vehicle j
  obtain ⟨f, hf⟩ : ∃ f : Nat → Option Nat, ∀ j p h l, p ≤ s.wd → h < 16 → l < 3 → vM H j 2 = nI p → vM H j 3 = nI h → vM H j 6 = lI l → f j = lstO (grV (lwH H s) s.wd (nI s.op) (vM H j)) 0 ((h + 8) % 16) p h l := by
    refine ⟨fun j => lstO (grV (lwH H s) s.wd (nI s.op) (vM H j)) 0 (((vM H j 3).toNatClampNeg + 8) % 16) (vM H j 2).toNatClampNeg (vM H j 3).toNatClampNeg (if vM H j 6 = -1 then 2 else (vM H j 6).toNatClampNeg), fun j p h l hp hh hl e2 e3 e6 => ?_⟩
    have el : (if vM H j 6 = -1 then 2 else (vM H j 6).toNatClampNeg) = l := by
      rw [e6]
      rcases (show l = 0 ∨ l = 1 ∨ l = 2 by omega) with e | e | e
      · subst e; decide
      · subst e; decide
      · subst e; decide
    simp only
    rw [el, e2, e3, nI_clamp (by omega), nI_clamp (by omega)]
  refine l_Main_best (s_Main_isWithin (fun q1 q2 => ?_) (fun q => ?_))
  · refine ⟨fun _ => ?_, fun z => absurd z (by decide)⟩
    refine ⟨fun z4 z5 z6 H7 => ∃ n, n ≤ s.nv ∧ z6 = nI n ∧ scF H H7 ∧ z4 = cbI (bestF f n) ∧ z5 = coI (bestF f n) ∧ ∀ q, bestF f n = some q → q.1 < 2000000, fun _ _ z6 _ => 4 - z6.toNatClampNeg, ⟨0, by omega, rfl, scF.rf, rfl, rfl, fun q z => by cases z⟩, fun z4 z5 z6 H7 hJ => ?_⟩
    obtain ⟨n, hn, rfl, s7, rfl, rfl, hb7⟩ := hJ
    have hI7 := hI.sc s7
    rw [hI7.2.1.1]
    refine ⟨fun q => ?_, fun q => ?_⟩
    · rw [nI_leI (by omega) (by omega)] at q
      have e : n = s.nv := by omega
      subst e
      -- the reference's side
      refine l_Model_best (s_Model_in (fun _ _ => ?_) (fun q => absurd ⟨q1, q2⟩ q))
      refine ⟨fun _ => ?_, fun z => absurd z (by decide)⟩
      refine ⟨fun z4 z5 z6 H8 => ∃ m, m ≤ s.nv ∧ z6 = nI m ∧ scF H H8 ∧ z4 = cbI (bestF f m) ∧ z5 = nI (bI 1000000000 (bestF f m)) ∧ ∀ q, bestF f m = some q → q.1 < 1000000, fun _ _ z6 _ => 4 - z6.toNatClampNeg, ⟨0, by omega, rfl, s7, rfl, rfl, fun q z => by cases z⟩, fun z4 z5 z6 H8 hJ2 => ?_⟩
      obtain ⟨m, hm, rfl, s8, rfl, rfl, hb8⟩ := hJ2
      have hI8 := hI.sc s8
      rw [hI8.2.2.1.1]
      refine ⟨fun q => ?_, fun q => ?_⟩
      · rw [nI_leI (by omega) (by omega)] at q
        have e : m = s.nv := by omega
        subst e
        refine ⟨fun hx => ?_, fun hx => ?_⟩
        · rw [bI_oM]
          refine s_Model_orNone (fun k hk => ?_) (eqI_sc hI s8 ?_)
          · cases hb : bestF f s.nv with
            | none => rw [hb] at hk; cases hk
            | some q => rw [hb] at hk; cases hk; exact hb8 q hb
          · rw [if_neg hx, coI_oC]
        · refine eqI_sc hI s8 ?_
          rw [if_pos hx]
      · rw [nI_leI (by omega) (by omega)] at q
        have hmn : m < s.nv := by omega
        have mu : 4 - (nI m + 1).toNatClampNeg < 4 - (nI m).toNatClampNeg := by rw [nI_1, nI_clamp (by omega), nI_clamp (by omega)]; omega
        obtain ⟨p, h, l, hp, hh, hl, ep, eh, el⟩ := hvj m hmn
        have efm := hf m p h l hp hh hl ep eh el
        refine tells_of (wv := 0) hI s8 hmn (by decide) (fun H9 s9 t9 => ?_)
        refine s_Model_stateOf (by omega) (INV.vM_sc s9) ep eh el hl ?_
        refine s_md_seeks t9 (show p ≤ (grV (lwH H s) s.wd (nI s.op) (vM H m)).wdn from hp) hh hl (fun H10 f10 t10 hlt => ?_)
        have s10 := s9.tr (f10.sc (by decide))
        refine s_Model_otherOf (by omega) (INV.vM_sc s10) eh hh ?_
        refine hlt _ _ _ (Nat.mod_lt _ (by decide)) (fun hb v19 e19 v21 e21 => ?_)
        rw [← efm] at hb e19 e21
        have b8 : bI 1000000000 (bestF f m) ≤ 1000000000 := by
          cases hz : bestF f m with
          | none => exact Nat.le_refl _
          | some q => have := hb8 q hz; show q.1 ≤ _; omega
        cases ho : f m with
        | none =>
          rw [ho] at e19 e21
          have le : nI (bI 1000000000 (bestF f m)) ≤ oM none := nI_le (b := 1000000000) b8 (by omega)
          rw [if_pos le] at e19 e21
          exact ⟨⟨m + 1, hmn, nI_1 m, s10, by rw [bestF_none ho]; exact e19, by rw [bestF_none ho]; exact e21, by rw [bestF_none ho]; exact hb8⟩, mu⟩
        | some k =>
          have hk := hb k ho
          rw [ho] at e19 e21
          have bs := bestF_some (M := 1000000000) ho (by omega)
          by_cases c : k < bI 1000000000 (bestF f m)
          · have nle : ¬ nI (bI 1000000000 (bestF f m)) ≤ oM (some k) := by
              show ¬ nI _ ≤ nI k
              rw [nI_leI (by omega) (by omega)]; omega
            rw [if_pos c] at bs
            rw [if_neg nle] at e19 e21
            exact ⟨⟨m + 1, hmn, nI_1 m, s10, by rw [bs]; exact e19, by rw [bs]; exact e21, fun q hq => by rw [bs] at hq; cases hq; exact hk⟩, mu⟩
          · have le : nI (bI 1000000000 (bestF f m)) ≤ oM (some k) := nI_le (b := k) (by omega) (by omega)
            rw [if_neg c] at bs
            rw [if_pos le] at e19 e21
            exact ⟨⟨m + 1, hmn, nI_1 m, s10, by rw [bs]; exact e19, by rw [bs]; exact e21, by rw [bs]; exact hb8⟩, mu⟩
    · rw [nI_leI (by omega) (by omega)] at q
      have hnn : n < s.nv := by omega
      have mu : 4 - (nI n + 1).toNatClampNeg < 4 - (nI n).toNatClampNeg := by rw [nI_1, nI_clamp (by omega), nI_clamp (by omega)]; omega
      obtain ⟨p, h, l, hp, hh, hl, ep, eh, el⟩ := hvj n hnn
      have efn := hf n p h l hp hh hl ep eh el
      have hne : ¬ h = (h + 8) % 16 := by omega
      refine s_Main_think hI7 hnn (fun H9 s9 r9 k0 k1 k8 => ?_)
      rw [INV.vM_sc s7] at k8
      have t9 := thk_of hI (s7.tr s9) r9 k0 k1 k8
      rw [k8, eh]
      refine s_Main_otherHeading ?_
      rw [oth_all h hh]
      refine s_cl_toH (g := 0) t9 (by omega) (by decide) (Nat.mod_lt _ (by decide)) (fun H8 c s8 t8 sr8 sc8 co8 => ?_)
      refine s_cl_now t8 sr8 sc8 co8 ep eh el hp hh hl (fun H10 f10 t10 st10 b10 => ?_)
      have s10 : scF H H10 := ((s7.tr s9).tr s8).tr f10.sc
      have eb : (bestF (stpO (grV (lwH H s) s.wd (nI s.op) (vM H n)) 0 ((h + 8) % 16) p h l) 6).map Prod.fst = f n := by rw [bst_lst hne, efn]
      cases hb : bestF (stpO (grV (lwH H s) s.wd (nI s.op) (vM H n)) 0 ((h + 8) % 16) p h l) 6 with
      | none =>
        rw [hb] at eb
        have ho : f n = none := eb.symm
        refine ⟨fun _ => ⟨⟨n + 1, hnn, nI_1 n, s10, by rw [bestF_none ho], by rw [bestF_none ho], by rw [bestF_none ho]; exact hb7⟩, mu⟩, fun z => absurd rfl z⟩
      | some qq =>
        have hq2 := b10 qq hb
        rw [hb] at eb
        have ho : f n = some qq.1 := eb.symm
        have bs := bestF_some (M := 2000000) ho hq2
        refine ⟨fun z => absurd z (nI_n1 (by omega)), fun _ => ?_⟩
        have upd1 : qq.1 < bI 2000000 (bestF f n) → (∃ n', n' ≤ s.nv ∧ nI n + 1 = nI n' ∧ scF H H10 ∧ nI n = cbI (bestF f n') ∧ coI (some qq) = coI (bestF f n') ∧ ∀ q, bestF f n' = some q → q.1 < 2000000) ∧ 4 - (nI n + 1).toNatClampNeg < 4 - (nI n).toNatClampNeg := by
          intro c
          rw [if_pos c] at bs
          exact ⟨⟨n + 1, hnn, nI_1 n, s10, by rw [bs]; rfl, by rw [bs]; rfl, fun q hq => by rw [bs] at hq; cases hq; exact hq2⟩, mu⟩
        cases hz : bestF f n with
        | none =>
          refine ⟨fun _ => upd1 (by rw [hz]; exact hq2), fun z => absurd rfl z⟩
        | some q0 =>
          have hq0 := hb7 q0 hz
          refine ⟨fun z => absurd z (nI_n1 (show q0.1 < _ by omega)), fun _ => ⟨fun le => ?_, fun nle => ?_⟩⟩
          · have le2 : q0.1 ≤ qq.1 := (nI_leI (by omega) (by omega)).mp (show nI q0.1 ≤ nI qq.1 from le)
            rw [hz, if_neg (by show ¬ qq.1 < q0.1; omega)] at bs
            exact ⟨⟨n + 1, hnn, nI_1 n, s10, by rw [bs], by rw [bs], fun q hq => by rw [bs] at hq; cases hq; exact hq0⟩, mu⟩
          · have nle2 : ¬ q0.1 ≤ qq.1 := fun z => nle (nI_le z (by omega))
            exact upd1 (by rw [hz]; show qq.1 < q0.1; omega)
  · refine ⟨fun z => absurd rfl z, fun _ => ?_⟩
    exact l_Model_best (s_Model_in (fun a b => absurd ⟨a, b⟩ q) (fun _ => ⟨fun z => absurd rfl z, fun _ => eqI_sc hI scF.rf rfl⟩))
