/-! PURE 11, SPECS 21: what both searches come to, in the same words. -/
theorem isL_ex (S : Nat → Prop) : ∃ o, isL S o := by
  rcases Classical.em (∃ k, S k) with ⟨k, hk⟩ | h
  · have key : ∀ n k, k ≤ n → S k → ∃ m, S m ∧ ∀ k2, S k2 → m ≤ k2 := by
      intro n
      induction n with
      | zero =>
        intro k hk hS
        have e : k = 0 := by omega
        subst e
        exact ⟨0, hS, fun _ _ => Nat.zero_le _⟩
      | succ n ih =>
        intro k hk hS
        rcases Classical.em (∃ k2, k2 < k ∧ S k2) with ⟨k2, h1, h2⟩ | h
        · exact ih k2 (by omega) h2
        · refine ⟨k, hS, fun k2 h2 => ?_⟩
          rcases Nat.lt_or_ge k2 k with q | q
          · exact absurd ⟨k2, q, h2⟩ h
          · exact q
    obtain ⟨m, h1, h2⟩ := key k k (Nat.le_refl _) hk
    exact ⟨some m, h1, h2⟩
  · exact ⟨none, fun k hk => h ⟨k, hk⟩⟩
noncomputable def minO (S : Nat → Prop) : Option Nat := Classical.choose (isL_ex S)
theorem minO_is (S : Nat → Prop) : isL S (minO S) := Classical.choose_spec (isL_ex S)
theorem minO_eq {S : Nat → Prop} {o : Option Nat} (h : isL S o) : o = minO S := isL_uniq h (minO_is S)
/-- costs by a first step -/
def stS (G : GR) (g hd p h l j : Nat) : Nat → Prop := fun k => ∃ q k2, nxt G.tu (nI G.wdn) (nI (j / 3)) (nI (j % 3) - 1) p h = some q ∧ G.ft q.1 q.2 ∧ WS G g hd q.1 q.2 (j / 3) k2 ∧ k = cst G g p h l (j / 3) (j % 3) + k2
noncomputable def lstO (G : GR) (g hd p h l : Nat) : Option Nat := minO (WS G g hd p h l)
noncomputable def stpO (G : GR) (g hd p h l j : Nat) : Option Nat := minO (stS G g hd p h l j)
theorem WS_l {G : GR} {hd p h l l2 : Nat} : WS G 1 hd p h l = WS G 1 hd p h l2 := by
  funext k
  exact propext ⟨fun ⟨n, q⟩ => ⟨n, wayS_l q⟩, fun ⟨n, q⟩ => ⟨n, wayS_l q⟩⟩
theorem stpF_O {G : GR} {g hd p h l j : Nat} {c : Nat → Option Nat} (hw : G.wdn < 61) (hg : g < 2) (hj : j < 6) (hc : coOK G g hd c) : stpF G g c p h l j = stpO G g hd p h l j := by
  refine minO_eq ?_
  unfold stpF
  cases hn : nxt G.tu (nI G.wdn) (nI (j / 3)) (nI (j % 3) - 1) p h with
  | none =>
    rintro k ⟨q, k2, a1, -⟩
    rw [hn] at a1; cases a1
  | some q =>
    obtain ⟨n1, n2, -, -⟩ := nxt_some hw hn
    have hs : (if g = 0 then j / 3 else 0) < 2 := by split <;> omega
    have hL := hc q.1 q.2 (if g = 0 then j / 3 else 0) n1 n2 hs (fun e => by rw [if_neg (by omega)])
    have eW : WS G g hd q.1 q.2 (if g = 0 then j / 3 else 0) = WS G g hd q.1 q.2 (j / 3) := by
      rcases (show g = 0 ∨ g = 1 by omega) with e | e
      · subst e; rfl
      · subst e; exact WS_l
    rw [eW] at hL
    simp only
    cases hcc : c (sno q.1 q.2 (if g = 0 then j / 3 else 0)) with
    | none =>
      rw [hcc] at hL
      rintro k ⟨q2, k2, a1, a2, a3, a4⟩
      rw [hn] at a1; cases a1
      exact hL k2 ⟨a2, a3⟩
    | some r =>
      rw [hcc] at hL
      refine ⟨⟨q, r, hn, hL.1.1, hL.1.2, rfl⟩, ?_⟩
      rintro k ⟨q2, k2, a1, a2, a3, a4⟩
      rw [hn] at a1; cases a1
      have := hL.2 k2 ⟨a2, a3⟩
      omega
theorem WS_st {G : GR} {g hd p h l k : Nat} (hne : ¬ h = hd) : WS G g hd p h l k ↔ ∃ j, j < 6 ∧ stS G g hd p h l j k := by
  constructor
  · rintro ⟨n, hn⟩
    cases n with
    | zero => exact absurd hn.1 hne
    | succ n =>
      obtain ⟨way, i, p2, h2, k2, a1, a2, a3, a4, a5, a6⟩ := hn
      refine ⟨3 * way + i, by omega, (p2, h2), k2, ?_, a4, ⟨n, ?_⟩, ?_⟩
      · rw [show (3 * way + i) / 3 = way by omega, show (3 * way + i) % 3 = i by omega]; exact a3
      · rw [show (3 * way + i) / 3 = way by omega]; exact a5
      · rw [show (3 * way + i) / 3 = way by omega, show (3 * way + i) % 3 = i by omega]; exact a6
  · rintro ⟨j, hj, q, k2, a1, a2, ⟨n, a3⟩, a4⟩
    exact ⟨n + 1, j / 3, j % 3, q.1, q.2, k2, by omega, Nat.mod_lt _ (by decide), a1, a2, a3, a4⟩
theorem bst_lst {G : GR} {g hd p h l : Nat} (hne : ¬ h = hd) : (bestF (stpO G g hd p h l) 6).map Prod.fst = lstO G g hd p h l := by
  refine minO_eq ?_
  have up : ∀ k, WS G g hd p h l k → ∃ q, bestF (stpO G g hd p h l) 6 = some q ∧ q.1 ≤ k := by
    intro k hk
    obtain ⟨j, hj, hs⟩ := (WS_st hne).mp hk
    have hm := minO_is (stS G g hd p h l j)
    cases ho : minO (stS G g hd p h l j) with
    | none => rw [ho] at hm; exact absurd hs (hm k)
    | some k2 =>
      rw [ho] at hm
      obtain ⟨q, q1, q2⟩ := bestF_min (f := stpO G g hd p h l) (n := 6) hj ho
      have := hm.2 k hs
      exact ⟨q, q1, by omega⟩
  cases hb : bestF (stpO G g hd p h l) 6 with
  | none =>
    intro k hk
    obtain ⟨q, q1, -⟩ := up k hk
    rw [hb] at q1; cases q1
  | some q =>
    refine ⟨?_, fun k hk => ?_⟩
    · obtain ⟨b1, b2⟩ := bestF_in hb
      have hm := minO_is (stS G g hd p h l q.2)
      have b1' : minO (stS G g hd p h l q.2) = some q.1 := b1
      rw [b1'] at hm
      exact (WS_st hne).mpr ⟨q.2, b2, hm.1⟩
    · obtain ⟨q2, c1, c2⟩ := up k hk
      rw [hb] at c1; cases c1
      exact c2
/-- a lane and a vehicle, as both have them -/
def weV (lw : LW) (v : VV) (wdn p h : Nat) (wh : Int32) : Nat := (lw 1 (v 1) 0 (nI h) (nI p) (nI wdn) (if wh = 0 then 0 else 1)).toNatClampNeg
def grV (lw : LW) (wdn : Nat) (op : Int32) (v : VV) : GR := (tuF (v 0) (v 1), wdn, fun p h => fitV lw (nI wdn) op v (nI p) (nI h), weV lw v wdn)
/-- the class thinks of this lane and vehicle -/
def thk (H : HH) (t wdn : Nat) (op : Int32) (v : VV) (lw : LW) : Prop := rdOK H t ∧ H 2 2 0 = nI wdn ∧ H 2 2 1 = op ∧ H 3 8 = v ∧ lwF (H 12 t) (H 13 t) = lw
theorem thk.fr {H H1 : HH} {t wdn : Nat} {op : Int32} {v : VV} {lw : LW} {K : List Nat} (h : thk H t wdn op v lw) (hf : hfr K H H1) (h2 : 2 ∉ K) (h3 : 3 ∉ K) (h12 : 12 ∉ K) (h13 : 13 ∉ K) (h19 : 19 ∉ K) : thk H1 t wdn op v lw := by
  obtain ⟨a, b, c, d, e⟩ := h
  exact ⟨a.fr hf h12 h13 h19, by rw [hf 2 h2]; exact b, by rw [hf 2 h2]; exact c, by rw [hf 3 h3]; exact d, by rw [hf 12 h12, hf 13 h13]; exact e⟩
theorem thk.gr {H : HH} {t wdn : Nat} {op : Int32} {v : VV} {lw : LW} (h : thk H t wdn op v lw) : grH H t wdn = grV lw wdn op v := by
  obtain ⟨a, b, c, d, e⟩ := h
  have e1 : tuR H = tuF (v 0) (v 1) := by unfold tuR; rw [d]
  have e2 : (fun p h => fitR H t (nI p) (nI h)) = (fun p h => fitV lw (nI wdn) op v (nI p) (nI h)) := by
    funext p h
    rw [(rat.self (H := H)).fit, b, c, d, e]
  have e3 : weR H t = weV lw v wdn := by
    funext p h wh
    unfold weR weV
    rw [(rat.self (H := H)).say, e, b, d]
  unfold grH grV
  rw [e1, e2, e3]
theorem grM_V {H : HH} {code ends : Nat → Int32} {j wdn : Nat} {op : Int32} {v : VV} (h1 : H 30 0 1 = nI wdn) (h2 : H 30 0 2 = op) (hv : vM H j = v) : grM H code ends j wdn = grV (lwF code ends) wdn op v := by
  have e0 : H 32 0 j = v 0 := congrFun hv 0
  have e1 : H 33 0 j = v 1 := congrFun hv 1
  unfold grM grV
  have e2 : (fun p h => fitM H code ends j (nI p) (nI h)) = (fun p h => fitV (lwF code ends) (nI wdn) op v (nI p) (nI h)) := by
    funext p h
    unfold fitM
    rw [h1, h2, hv]
  have e3 : weM H code ends j = weV (lwF code ends) v wdn := by
    funext p h wh
    unfold weM weV
    rw [h1, e1]
  rw [e0, e1, e2, e3]
theorem thFr.sc {H H1 : HH} (h : thFr H H1) : scF H H1 := by
  intro a i k q
  by_cases c : a ∈ [14, 20, 21, 22, 23, 24, 25, 26]
  · simp only [List.mem_cons, List.not_mem_nil, or_false] at c
    exact absurd (by unfold scr; omega) q
  · rw [h.1 a c]
theorem lsFr.sc {H H1 : HH} (h : lsFr H H1) : scF H H1 := by
  intro a i k q
  by_cases c : a ∈ [14, 20, 21]
  · simp only [List.mem_cons, List.not_mem_nil, or_false] at c
    exact absurd (by unfold scr; omega) q
  · rw [h.1 a c]
theorem s_cl_toH {E : XE} {d t wdn g hd : Nat} {op : Int32} {v : VV} {lw : LW} {H : HH} {Q : HH → Prop} (ht : thk H t wdn op v lw) (hw : wdn < 61) (hg : g < 2) (hh : hd < 16)
    (h : ∀ H1 c, scF H H1 → thk H1 t wdn op v lw → srOK H1 t wdn g → srS H1 c → coOK (grV lw wdn op v) g hd c → Q H1) : c_Search_toHeading E (d + 5) (nI hd) (nI g) H Q := by
  refine s_Search_toHeading ht.1 ht.2.1 hw hg hh (fun H1 c f1 g1 s1 h1 h2 => ?_)
  have t1 : thk H1 t wdn op v lw := by
    obtain ⟨a, b, c, d, e⟩ := ht
    refine ⟨?_, by rw [f1.1 2 (by decide)]; exact b, by rw [f1.1 2 (by decide)]; exact c, by rw [f1.1 3 (by decide)]; exact d, by rw [f1.1 12 (by decide), f1.1 13 (by decide)]; exact e⟩
    unfold rdOK
    rw [f1.1 12 (by decide), f1.1 13 (by decide), f1.1 19 (by decide)]
    exact a
  have hc := coOK_mk (H := H) (t := t) (wdn := wdn) (g := g) (hd := hd) (c := c) hw hg h1 h2
  rw [ht.gr] at hc
  exact h H1 c f1.sc t1 ⟨t1.1, t1.2.1, hw, g1, hg⟩ s1 hc
/-- what least tells, in pure words -/
theorem s_cl_least {E : XE} {d t wdn g hd p h l : Nat} {op : Int32} {v : VV} {lw : LW} {c : Nat → Option Nat} {H : HH} {Q : Int32 → HH → Prop} (ht : thk H t wdn op v lw) (hs : srOK H t wdn g) (hc : srS H c) (hco : coOK (grV lw wdn op v) g hd c) (hp : p ≤ wdn) (hh : h < 16) (hl : l < 3)
    (hq : ∀ H1, lsFr H H1 → thk H1 t wdn op v lw → H1 21 0 7 = stI (bestF (stpO (grV lw wdn op v) g hd p h l) 6) → (∀ q, bestF (stpO (grV lw wdn op v) g hd p h l) 6 = some q → q.1 < 2000000) → Q (coI (bestF (stpO (grV lw wdn op v) g hd p h l) 6)) H1) : c_Search_least E (d + 4) (nI p) (nI h) (lI l) H Q := by
  have hw61 : wdn < 61 := hs.2.2.1
  have hg2 : g < 2 := hs.2.2.2.2
  have eb : bestF (stpF (grV lw wdn op v) g c p h l) 6 = bestF (stpO (grV lw wdn op v) g hd p h l) 6 := bestF_cong (fun j hj => stpF_O hw61 hg2 hj hco)
  have bd : ∀ q, bestF (stpF (grH H t wdn) g c p h l) 6 = some q → q.1 < 2000000 := by
    intro q hq
    obtain ⟨b1, b2⟩ := bestF_in hq
    unfold stpF at b1
    cases hn : nxt (grH H t wdn).tu (nI (grH H t wdn).wdn) (nI (q.2 / 3)) (nI (q.2 % 3) - 1) p h with
    | none => rw [hn] at b1; cases b1
    | some q2 =>
      rw [hn] at b1
      simp only at b1
      obtain ⟨n1, n2, -, -⟩ := nxt_some (show (grH H t wdn).wdn < 61 from hw61) hn
      have n1' : q2.1 ≤ wdn := n1
      cases hcc : c (sno q2.1 q2.2 (if g = 0 then q.2 / 3 else 0)) with
      | none => rw [hcc] at b1; cases b1
      | some r =>
        rw [hcc] at b1
        have b3 := Option.some.inj b1
        have h52 : sno q2.1 q2.2 (if g = 0 then q.2 / 3 else 0) < 1952 := by
          unfold sno
          split <;> omega
        have := ((hc _ h52).2 r hcc).2
        have hcs : cst (grH H t wdn) g p h l (q.2 / 3) (q.2 % 3) ≤ 99 := by
          unfold cst
          split
          · exact weR_le H t p h _
          · split <;> omega
        omega
  refine s_Search_least hs hp hh hl hc (fun H1 f1 e1 => ?_)
  rw [ht.gr, eb] at e1 bd
  rw [ht.gr, eb]
  refine hq H1 f1 ?_ e1 bd
  obtain ⟨a, b, c, d, e⟩ := ht
  refine ⟨?_, by rw [f1.1 2 (by decide)]; exact b, by rw [f1.1 2 (by decide)]; exact c, by rw [f1.1 3 (by decide)]; exact d, by rw [f1.1 12 (by decide), f1.1 13 (by decide)]; exact e⟩
  unfold rdOK
  rw [f1.1 12 (by decide), f1.1 13 (by decide), f1.1 19 (by decide)]
  exact a
/-- an answer of the reference's: its number for never is 1000000000 -/
def oM (o : Option Nat) : Int32 := nI (o.getD 1000000000)
def oC (o : Option Nat) : Int32 := match o with
  | none => -1
  | some k => nI k
theorem coI_oC (b : Option (Nat × Nat)) : coI b = oC (b.map Prod.fst) := by cases b <;> rfl
theorem bI_oM (b : Option (Nat × Nat)) : nI (bI 1000000000 b) = oM (b.map Prod.fst) := by cases b <;> rfl
theorem oM_none {o : Option Nat} (h : ∀ k, o = some k → k < 1000000) : (if oM o = 1000000000 then (-1) else oM o : Int32) = oC o := by
  cases o with
  | none => rfl
  | some k =>
    have := h k rfl
    show (if nI k = 1000000000 then (-1) else nI k : Int32) = nI k
    rw [if_neg]
    rw [show (1000000000 : Int32) = nI 1000000000 from rfl, nI_eq (by omega) (by omega)]
    omega
theorem s_Model_orNone {E : XE} {d : Nat} {o : Option Nat} {H : HH} {Q : Int32 → HH → Prop} (h : ∀ k, o = some k → k < 1000000) (hq : Q (oC o) H) : c_Model_orNone E d (oM o) H Q := by
  refine l_Model_orNone ?_
  unfold p_Model_orNone
  rw [oM_none h]
  exact hq
/-- seeks, and then leastTo -/
theorem s_md_seeks {E : XE} {d j g p h l : Nat} {G : GR} {H : HH} {Q : HH → Prop} (ht : tbOK H j g G) (hp : p ≤ G.wdn) (hh : h < 16) (hl : l < 3)
    (hq : ∀ H1, hfr [50, 51, 52] H H1 → tbOK H1 j g G → (∀ (d2 hd : Nat) (K : Int32 → HH → Prop), hd < 16 → ((∀ k, lstO G g hd p h l = some k → k < 1000000) → K (oM (lstO G g hd p h l)) H1) → c_Model_leastTo E d2 (nI hd) H1 K) → Q H1) : c_Model_seeks E (d + 3) (nI j) (nI (smo p h l)) (nI g) H Q := by
  have hw : G.wdn < 61 := ht.2.2.2.1
  have hx : smo p h l < 2928 := by unfold smo; omega
  obtain ⟨d1, -, -, -⟩ := smo_d (p := p) hh hl
  refine s_Model_seeks ht hx (by rw [d1]; exact hp) (fun H1 D f1 ds h1 h2 => hq H1 f1 (ht.fr f1) (fun d2 hd K hhd hK => ?_))
  have e := minO_eq (isL_lsT hw hhd hp hh hl h1 h2)
  refine s_Model_leastTo (wdn := G.wdn) (by rw [f1 30 (by decide)]; exact ht.2.2.1) hw hhd ds ?_
  rw [bI_oM, e]
  refine hK (fun k hk => ?_)
  have hk2 : (bestF (lsT D hd) (3 * (G.wdn + 1))).map Prod.fst = some k := e.trans hk
  cases hb : bestF (lsT D hd) (3 * (G.wdn + 1)) with
  | none => rw [hb] at hk2; cases hk2
  | some q =>
    rw [hb] at hk2
    cases hk2
    obtain ⟨b1, b2⟩ := bestF_in hb
    exact ((ds _ (by unfold smo; omega)).2 _ b1).2
theorem s_Model_stateOf {E : XE} {d j p h l : Nat} {v : VV} {H : HH} {Q : Int32 → HH → Prop} (hj : j < 4) (hv : vM H j = v) (h2 : v 2 = nI p) (h3 : v 3 = nI h) (h6 : v 6 = lI l) (hl : l < 3) (hq : Q (nI (smo p h l)) H) : c_Model_stateOf E d (nI j) H Q := by
  refine l_Model_stateOf ?_
  unfold p_Model_stateOf
  rw [i5_1, i5_4, i5_0, nI_clamp (by omega), nI_clamp (by omega), nI_clamp (by omega)]
  have r2 : H 34 0 (5 * j) = nI p := (congrFun hv 2).trans h2
  have r3 : H 34 0 (5 * j + 1) = nI h := (congrFun hv 3).trans h3
  have r6 : H 34 0 (5 * j + 4) = lI l := (congrFun hv 6).trans h6
  rw [r2, r3, r6]
  have e0 : (3 : Int32) * (16 * nI p + nI h) = nI (3 * (16 * p + h)) := by
    rw [show (3 : Int32) = nI 3 from rfl, show (16 : Int32) = nI 16 from rfl, nI_mul, nI_add, nI_mul]
  refine ⟨vp_in_nI (by omega) (by omega), vp_in_nI (by omega) (by omega), vp_in_nI (by omega) (by omega), fun q => ⟨vp_in_nI (by omega) (by omega), ?_⟩, fun q => ?_⟩
  · have hl2 : l < 2 := by
      rcases (show l < 2 ∨ l = 2 by omega) with e | e
      · exact e
      · subst e; exact absurd rfl q
    rw [e0, show lI l = nI l by unfold lI; rw [if_pos hl2], nI_add]
    exact hq
  · have hl2 : l = 2 := by
      rcases (show l = 0 ∨ l = 1 ∨ l = 2 by omega) with e | e | e
      · subst e; exact absurd q (by decide)
      · subst e; exact absurd q (by decide)
      · exact e
    subst hl2
    rw [e0, show (2 : Int32) = nI 2 from rfl, nI_add]
    exact hq
theorem s_Model_otherOf {E : XE} {d j h : Nat} {v : VV} {H : HH} {Q : Int32 → HH → Prop} (hj : j < 4) (hv : vM H j = v) (h3 : v 3 = nI h) (hh : h < 16) (hq : Q (nI ((h + 8) % 16)) H) : c_Model_otherOf E d (nI j) H Q := by
  refine l_Model_otherOf ?_
  unfold p_Model_otherOf
  rw [i5_1, nI_clamp (by omega)]
  have r3 : H 34 0 (5 * j + 1) = nI h := (congrFun hv 3).trans h3
  rw [r3, show (8 : Int32) = nI 8 from rfl, nI_add, show (16 : Int32) = nI 16 from rfl, xrem_nI (by omega) (by decide) (by decide)]
  exact ⟨vp_in_nI (by omega) (by omega), hq⟩
theorem oth_all : ∀ h, h < 16 → (nI h + 8) &&& 15 = nI ((h + 8) % 16) := by decide +kernel
