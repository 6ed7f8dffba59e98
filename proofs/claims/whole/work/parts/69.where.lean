/-! THE CALLS 8: where, narrow, cut. -/
theorem grV_base {lw : LW} {wdn : Nat} {op : Int32} {v w : VV} (h0 : v 0 = w 0) (h1 : v 1 = w 1) : grV lw wdn op v = grV lw wdn op w := by
  have e2 : (fun p h => fitV lw (nI wdn) op v (nI p) (nI h)) = (fun p h => fitV lw (nI wdn) op w (nI p) (nI h)) := by
    funext p h
    exact fitV_base h0 h1 _ _
  have e3 : weV lw v wdn = weV lw w wdn := by
    funext p h wh
    unfold weV
    rw [h1]
  unfold grV
  rw [h0, h1, e2, e3]
/-- from a place, heading 0, no last way, to heading 8; none, if it does not fit there -/
noncomputable def frO (G : GR) (g p : Nat) : Option Nat := @ite _ (G.ft p 0) (Classical.propDecidable _) (lstO G g 8 p 0 2) none
theorem s_Model_fromBegin {E : XE} {d j g p : Nat} {G : GR} {H : HH} {Q : Int32 → HH → Prop} (ht : tbOK H j g G) (hp : p ≤ G.wdn)
    (hq : ∀ H1, hfr [50, 51, 52] H H1 → (∀ k, frO G g p = some k → k < 1000000) → Q (oM (frO G g p)) H1) : c_Model_fromBegin E (d + 4) (nI j) (nI p) (nI g) H Q := by
  have hw : G.wdn < 61 := ht.2.2.2.1
  refine l_Model_fromBegin ?_
  unfold p_Model_fromBegin
  have e16 : (16 : Int32) * nI p = nI (16 * p + 0) := by rw [show (16 : Int32) = nI 16 from rfl, nI_mul]; rfl
  have e48 : (48 : Int32) * nI p + 2 = nI (smo p 0 2) := by
    rw [show (48 : Int32) = nI 48 from rfl, nI_mul, show (2 : Int32) = nI 2 from rfl, nI_add]
    congr 1
    unfold smo; omega
  rw [e16, e48, nI_clamp (by omega)]
  refine ⟨vp_in_nI (by omega) (by omega), fun q => ?_, fun q => ?_⟩
  · have hf : G.ft p 0 := by
      rcases Classical.em (G.ft p 0) with z | z
      · exact z
      · exact absurd ((ht.2.2.2.2.2.2.1 p 0 hp (by decide)).mpr z) q
    have e : frO G g p = lstO G g 8 p 0 2 := by unfold frO; rw [if_pos hf]
    rw [e] at hq
    refine s_md_seeks ht hp (by decide) (by decide) (fun H1 f1 t1 hlt => ?_)
    exact hlt _ 8 _ (by decide) (fun hb => hq H1 f1 hb)
  · have hf : ¬ G.ft p 0 := (ht.2.2.2.2.2.2.1 p 0 hp (by decide)).mp q
    have e : frO G g p = none := by unfold frO; rw [if_neg hf]
    rw [e] at hq
    exact hq H hfr.rf (fun k hk => by cases hk)
theorem srOK.ls {H H1 : HH} {t wdn g : Nat} (h : srOK H t wdn g) (hf : lsFr H H1) : srOK H1 t wdn g := by
  obtain ⟨a, b, c, d, e⟩ := h
  refine ⟨?_, by rw [hf.1 2 (by decide)]; exact b, c, by rw [hf.2 0 0 (by decide)]; exact d, e⟩
  unfold rdOK
  rw [hf.1 12 (by decide), hf.1 13 (by decide), hf.1 19 (by decide)]
  exact a
theorem srS.ls {H H1 : HH} {c : Nat → Option Nat} (h : srS H c) (hf : lsFr H H1) : srS H1 c := by
  intro x hx
  rw [hf.1 23 (by decide)]
  exact h x hx
theorem m_where {E : XE} {d d2 : Nat} {x1 x2 : Int32} {s : SN} {H : HH} (hI : INV H s) : c_Main_where E (d + 20) x1 x2 H (fun r H1 => c_Model_where E (d2 + 20) x1 x2 H1 (eqI r)) := by
  have nv4 : s.nv ≤ 4 := hI.1.1
  have w60 : s.wd ≤ 60 := hI.1.2.2.1
  refine l_Main_where (s_Main_isVehicle hI (fun j hj ej => ?_) (fun no => ?_))
  · refine ⟨fun _ => s_Main_isTwoFlags (fun hf => ?_) (fun hf => ?_), fun z => absurd z (by decide)⟩
    · refine ⟨fun _ => ?_, fun z => absurd z (by decide)⟩
      subst ej
      obtain ⟨g, w, hg, hw2, e10, er10, e9⟩ := flags_of hf
      have hv := hI.2.2.2.2.2.1 j hj
      refine s_Main_think hI hj (fun H5 s5 r5 k0 k1 k8 => ?_)
      have t5 := thk_of hI s5 r5 k0 k1 k8
      rw [e10]
      refine s_cl_toH (hd := 8) t5 (by omega) hg (by decide) (fun H6 c s6 t6 sr6 sc6 co6 => ?_)
      generalize hG : grV (lwH H s) s.wd (nI s.op) (vM H j) = G at *
      have gft : ∀ p, G.ft p 0 = fitV (lwH H s) (nI s.wd) (nI s.op) (vM H j) (nI p) 0 := fun p => by rw [← hG]; rfl
      have gw : G.wdn = s.wd := by rw [← hG]; rfl
      refine ⟨fun z8 z9 z10 H11 => ∃ n, n ≤ s.wd + 1 ∧ z10 = nI n ∧ scF H H11 ∧ thk H11 s.lw s.wd (nI s.op) (vM H j) (lwH H s) ∧ srOK H11 s.lw s.wd g ∧ srS H11 c ∧ z8 = cbI (bestF (frO G g) n) ∧ z9 = coI (bestF (frO G g) n) ∧ ∀ q, bestF (frO G g) n = some q → q.1 < 2000000, fun _ _ z10 _ => 100 - z10.toNatClampNeg, ⟨0, by omega, rfl, s5.tr s6, t6, sr6, sc6, rfl, rfl, fun q z => by cases z⟩, fun z8 z9 z10 H11 hJ => ?_⟩
      obtain ⟨n, hn, rfl, s11, t11, sr11, sc11, rfl, rfl, hb11⟩ := hJ
      have hI11 := hI.sc s11
      rw [hI11.2.1.2.1]
      refine ⟨fun q => ?_, fun q => ?_⟩
      · rw [nI_ltI (by omega) (by omega)] at q
        have e : n = s.wd + 1 := by omega
        subst e
        -- the reference's side
        refine l_Model_where (s_Model_isVehicle hI11 (fun _ _ _ => ?_) (fun no => absurd rfl (no j hj)))
        refine ⟨fun _ => s_Model_isGoal (fun _ => ?_) (fun q => absurd hf q), fun z => absurd z (by decide)⟩
        refine ⟨fun _ => ?_, fun z => absurd z (by decide)⟩
        rw [e9]
        refine tells_of hI s11 hj hg (fun H7 s7 t7 => ?_)
        rw [hG] at t7
        rw [er10, e10]
        refine ⟨fun z8 z9 z10 H8 => ∃ m, m ≤ s.wd + 1 ∧ z10 = nI m ∧ scF H H8 ∧ tbOK H8 j g G ∧ z8 = cbI (bestF (frO G g) m) ∧ z9 = nI (bI 1000000000 (bestF (frO G g) m)) ∧ ∀ q, bestF (frO G g) m = some q → q.1 < 1000000, fun _ _ z10 _ => 100 - z10.toNatClampNeg, ⟨0, by omega, rfl, s7, t7, rfl, rfl, fun q z => by cases z⟩, fun z8 z9 z10 H8 hJ2 => ?_⟩
        obtain ⟨m, hm, rfl, s8, t8, rfl, rfl, hb8⟩ := hJ2
        have hI8 := hI.sc s8
        rw [hI8.2.2.1.2.1]
        refine ⟨fun q => ?_, fun q => ?_⟩
        · rw [nI_ltI (by omega) (by omega)] at q
          have e : m = s.wd + 1 := by omega
          subst e
          refine ⟨fun hx => ?_, fun hx => ?_⟩
          · rw [bI_oM]
            refine s_Model_orNone (fun k hk => ?_) (eqI_sc hI s8 ?_)
            · cases hb : bestF (frO G g) (s.wd + 1) with
              | none => rw [hb] at hk; cases hk
              | some q => rw [hb] at hk; cases hk; exact hb8 q hb
            · rw [if_neg hx, coI_oC]
          · refine eqI_sc hI s8 ?_
            rw [if_pos hx]
        · rw [nI_ltI (by omega) (by omega)] at q
          have hmn : m ≤ s.wd := by omega
          have mu : 100 - (nI m + 1).toNatClampNeg < 100 - (nI m).toNatClampNeg := by rw [nI_1, nI_clamp (by omega), nI_clamp (by omega)]; omega
          refine s_Model_fromBegin t8 (by rw [gw]; exact hmn) (fun H10 f10 hb v17 e17 v19 e19 => ?_)
          have s10 := s8.tr (f10.sc (by decide))
          have t10 := t8.fr f10
          have b8 : bI 1000000000 (bestF (frO G g) m) ≤ 1000000000 := by
            cases hz : bestF (frO G g) m with
            | none => exact Nat.le_refl _
            | some q => have := hb8 q hz; show q.1 ≤ _; omega
          cases ho : frO G g m with
          | none =>
            rw [ho] at e17 e19
            have le : nI (bI 1000000000 (bestF (frO G g) m)) ≤ oM none := nI_le (b := 1000000000) b8 (by omega)
            rw [if_pos le] at e17 e19
            exact ⟨⟨m + 1, by omega, nI_1 m, s10, t10, by rw [bestF_none ho]; exact e17, by rw [bestF_none ho]; exact e19, by rw [bestF_none ho]; exact hb8⟩, mu⟩
          | some k =>
            have hk := hb k ho
            rw [ho] at e17 e19
            have bs := bestF_some (M := 1000000000) ho (by omega)
            by_cases c : k < bI 1000000000 (bestF (frO G g) m)
            · have nle : ¬ nI (bI 1000000000 (bestF (frO G g) m)) ≤ oM (some k) := by
                show ¬ nI _ ≤ nI k
                rw [nI_leI (by omega) (by omega)]; omega
              rw [if_pos c] at bs
              rw [if_neg nle] at e17 e19
              exact ⟨⟨m + 1, by omega, nI_1 m, s10, t10, by rw [bs]; exact e17, by rw [bs]; exact e19, fun q hq => by rw [bs] at hq; cases hq; exact hk⟩, mu⟩
            · have le : nI (bI 1000000000 (bestF (frO G g) m)) ≤ oM (some k) := nI_le (b := k) (by omega) (by omega)
              rw [if_neg c] at bs
              rw [if_pos le] at e17 e19
              exact ⟨⟨m + 1, by omega, nI_1 m, s10, t10, by rw [bs]; exact e17, by rw [bs]; exact e19, by rw [bs]; exact hb8⟩, mu⟩
      · rw [nI_ltI (by omega) (by omega)] at q
        have hnw : n ≤ s.wd := by omega
        have mu : 100 - (nI n + 1).toNatClampNeg < 100 - (nI n).toNatClampNeg := by rw [nI_1, nI_clamp (by omega), nI_clamp (by omega)]; omega
        have ef : fitR H11 s.lw (nI n) 0 = G.ft n 0 := by
          rw [gft, (rat.self (H := H11)).fit, t11.2.1, t11.2.2.1, t11.2.2.2.1, t11.2.2.2.2]
        refine s_Ride_fits t11.1 (fun hfit H13 f13 => ?_) (fun hfit H13 f13 => ?_)
        · rw [ef] at hfit
          refine ⟨fun _ => ?_, fun z => absurd z (by decide)⟩
          have t13 := t11.fr f13 (by decide) (by decide) (by decide) (by decide) (by decide)
          have sr13 := sr11.ls f13.ls
          have sc13 := sc11.ls f13.ls
          rw [← hG] at co6
          refine s_cl_least (h := 0) (l := 2) t13 sr13 sc13 co6 hnw (by decide) (by decide) (fun H15 f15 t15 st15 b15 => ?_)
          rw [hG] at b15 co6 ⊢
          have s15 : scF H H15 := (s11.tr (f13.sc (by decide))).tr f15.sc
          have sr15 := sr13.ls f15
          have sc15 := sc13.ls f15
          have eb : (bestF (stpO G g 8 n 0 2) 6).map Prod.fst = frO G g n := by
            rw [bst_lst (by decide)]
            unfold frO
            rw [if_pos hfit]
          cases hb : bestF (stpO G g 8 n 0 2) 6 with
          | none =>
            rw [hb] at eb
            have ho : frO G g n = none := eb.symm
            refine ⟨fun _ => ⟨⟨n + 1, by omega, nI_1 n, s15, t15, sr15, sc15, by rw [bestF_none ho], by rw [bestF_none ho], by rw [bestF_none ho]; exact hb11⟩, mu⟩, fun z => absurd rfl z⟩
          | some qq =>
            have hq2 := b15 qq hb
            rw [hb] at eb
            have ho : frO G g n = some qq.1 := eb.symm
            have bs := bestF_some (M := 2000000) ho hq2
            refine ⟨fun z => absurd z (nI_n1 (by omega)), fun _ => ?_⟩
            have upd1 : qq.1 < bI 2000000 (bestF (frO G g) n) → (∃ n', n' ≤ s.wd + 1 ∧ nI n + 1 = nI n' ∧ scF H H15 ∧ thk H15 s.lw s.wd (nI s.op) (vM H j) (lwH H s) ∧ srOK H15 s.lw s.wd g ∧ srS H15 c ∧ nI n = cbI (bestF (frO G g) n') ∧ coI (some qq) = coI (bestF (frO G g) n') ∧ ∀ q, bestF (frO G g) n' = some q → q.1 < 2000000) ∧ 100 - (nI n + 1).toNatClampNeg < 100 - (nI n).toNatClampNeg := by
              intro c
              rw [if_pos c] at bs
              exact ⟨⟨n + 1, by omega, nI_1 n, s15, t15, sr15, sc15, by rw [bs]; rfl, by rw [bs]; rfl, fun q hq => by rw [bs] at hq; cases hq; exact hq2⟩, mu⟩
            cases hz : bestF (frO G g) n with
            | none =>
              refine ⟨fun _ => upd1 (by rw [hz]; exact hq2), fun z => absurd rfl z⟩
            | some q0 =>
              have hq0 := hb11 q0 hz
              refine ⟨fun z => absurd z (nI_n1 (show q0.1 < _ by omega)), fun _ => ⟨fun le => ?_, fun nle => ?_⟩⟩
              · have le2 : q0.1 ≤ qq.1 := (nI_leI (by omega) (by omega)).mp (show nI q0.1 ≤ nI qq.1 from le)
                rw [hz, if_neg (by show ¬ qq.1 < q0.1; omega)] at bs
                exact ⟨⟨n + 1, by omega, nI_1 n, s15, t15, sr15, sc15, by rw [bs], by rw [bs], fun q hq => by rw [bs] at hq; cases hq; exact hq0⟩, mu⟩
              · have nle2 : ¬ q0.1 ≤ qq.1 := fun z => nle (nI_le z (by omega))
                exact upd1 (by rw [hz]; show qq.1 < q0.1; omega)
        · rw [ef] at hfit
          refine ⟨fun z => absurd rfl z, fun _ => ?_⟩
          have ho : frO G g n = none := by unfold frO; rw [if_neg hfit]
          exact ⟨⟨n + 1, by omega, nI_1 n, s11.tr (f13.sc (by decide)), t11.fr f13 (by decide) (by decide) (by decide) (by decide) (by decide), sr11.ls f13.ls, sc11.ls f13.ls, by rw [bestF_none ho], by rw [bestF_none ho], by rw [bestF_none ho]; exact hb11⟩, mu⟩
    · refine ⟨fun z => absurd rfl z, fun _ => ?_⟩
      refine l_Model_where (s_Model_isVehicle hI (fun _ _ _ => ?_) (fun no2 => absurd ej (no2 j hj)))
      exact ⟨fun _ => s_Model_isGoal (fun z => absurd z hf) (fun _ => ⟨fun z => absurd rfl z, fun _ => eqI_sc hI scF.rf rfl⟩), fun z => absurd z (by decide)⟩
  · refine ⟨fun z => absurd rfl z, fun _ => ?_⟩
    exact l_Model_where (s_Model_isVehicle hI (fun j hj ej => absurd ej (no j hj)) (fun _ => ⟨fun z => absurd rfl z, fun _ => eqI_sc hI scF.rf rfl⟩))
