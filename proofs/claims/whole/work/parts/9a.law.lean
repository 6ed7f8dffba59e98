/-! THE LAW 1: a call of the law's, on one side; the other side's cells stay. -/
def lwA (s : State) : Nat → Prop := fun q => s.heap.size ≤ q
def xLA : List (Nat × Nat) := xLC ++ xLM
theorem xw_app {cid : Nat → ClassId} {ad : Nat → Nat → Nat} {L1 L2 : List (Nat × Nat)} {H : HH} : xw cid ad (L1 ++ L2) H = xw cid ad L1 H ++ xw cid ad L2 H := List.map_append
theorem xw_ag {cid : Nat → ClassId} {ad : Nat → Nat → Nat} {Lc L2 : List (Nat × Nat)} {H H1 : HH} (h : xag Lc H H1) (hd : ∀ q ∈ L2, q ∉ Lc) : xw cid ad L2 H1 = xw cid ad L2 H := by
  unfold xw
  refine List.map_congr_left (fun q hq => ?_)
  rw [h q.1 q.2 (hd q hq)]
theorem xLM_LC : ∀ q ∈ xLM, q ∉ xLC := by decide +kernel
theorem xLC_LM : ∀ q ∈ xLC, q ∉ xLM := by decide +kernel
theorem xLC_in : ∀ q ∈ xLC, q ∈ xLA := fun _ h => List.mem_append_left _ h
theorem xLM_in : ∀ q ∈ xLM, q ∈ xLA := fun _ h => List.mem_append_right _ h
theorem x_sub {cid : Nat → ClassId} {D : va_G} {ad : Nat → Nat → Nat} {L L2 : List (Nat × Nat)} {H : HH} {Hc : Heap} {cl : List vw_C} (hP : va_P D cl (xw cid ad L H) Hc) (hs : ∀ q ∈ L2, q ∈ L) : va_P D cl (xw cid ad L2 H) Hc := by
  intro k q hk
  simp only [xw, List.getElem?_map, Option.map_eq_some_iff] at hk
  obtain ⟨a, ha, rfl⟩ := hk
  obtain ⟨j, hj⟩ := List.mem_iff_getElem?.mp (hs a (List.mem_of_getElem? ha))
  exact hP j (ad a.1 a.2, xcell cid ad a.1 a.2 (H a.1 a.2)) (by simp only [xw, List.getElem?_map, hj, Option.map_some])
/-- behind a call on a part of the world: both parts again -/
theorem lw_part {D : va_G} {cl : List vw_C} {w1 w2 v1 : va_W} {A : Nat → Prop} {Hc H1 : Heap} (hP : va_P D cl (w1 ++ w2) Hc) (hD : va_D A (w1 ++ w2)) (hk : ∀ q : Nat, q < Hc.size → ¬ va_A w1 Hc.size q → H1[q]? = Hc[q]?) (hP1 : va_P D cl v1 H1) : va_P D cl (v1 ++ w2) H1 := by
  refine va_P.app hP1 (fun k q hkq => ?_)
  have hi : (w1 ++ w2)[w1.length + k]? = some q := by rw [List.getElem?_append_right (by omega), show w1.length + k - w1.length = k by omega]; exact hkq
  have hin := hP _ q hi
  refine hin.kept (hk q.1 hin.lt (fun z => ?_))
  rcases z with ⟨j, e, hj⟩ | z
  · have hj2 : (w1 ++ w2)[j]? = some (q.1, e) := by
      rw [List.getElem?_append_left (List.getElem?_eq_some_iff.mp hj).1]; exact hj
    have := hD.1 (w1.length + k) j q (q.1, e) hi hj2 rfl
    have := (List.getElem?_eq_some_iff.mp hj).1
    omega
  · exact absurd hin.lt (Nat.not_lt.mpr z)
theorem lw_part2 {D : va_G} {cl : List vw_C} {w1 w2 v2 : va_W} {A : Nat → Prop} {Hc H1 : Heap} (hP : va_P D cl (w1 ++ w2) Hc) (hD : va_D A (w1 ++ w2)) (hk : ∀ q : Nat, q < Hc.size → ¬ va_A w2 Hc.size q → H1[q]? = Hc[q]?) (hP1 : va_P D cl v2 H1) : va_P D cl (w1 ++ v2) H1 := by
  refine va_P.app (fun k q hkq => ?_) hP1
  have hi : (w1 ++ w2)[k]? = some q := by rw [List.getElem?_append_left (List.getElem?_eq_some_iff.mp hkq).1]; exact hkq
  have hin := hP _ q hi
  refine hin.kept (hk q.1 hin.lt (fun z => ?_))
  rcases z with ⟨j, e, hj⟩ | z
  · have hj2 : (w1 ++ w2)[w1.length + j]? = some (q.1, e) := by
      rw [List.getElem?_append_right (by omega), show w1.length + j - w1.length = j by omega]; exact hj
    have := hD.1 k (w1.length + j) q (q.1, e) hi hj2 rfl
    have := (List.getElem?_eq_some_iff.mp hkq).1
    omega
  · exact absurd hin.lt (Nat.not_lt.mpr z)
/-- both sides' cells, and the rest of the machine's -/
def lwS (s : State) (cid : Nat → ClassId) (D : va_G) (ad : Nat → Nat → Nat) (H : HH) (Hc : Heap) (locs : List Loc) : Prop := va_P D xcl (xw cid ad xLA H) Hc ∧ va_D (lwA s) (xw cid ad xLA H) ∧ va_S (lwA s) s.heap Hc locs
section LAW
variable {p : Program} {l : Launch} {e : Env} {s : State} {m : MethodId} {args : Array Value} {below : List Frame} {meth : Method} {c : Code} {cid : Nat → ClassId} {D : va_G} {ad : Nat → Nat → Nat}
theorem lw_back {L1 : List (Nat × Nat)} {R : Room} {Z : State → Prop} {pc cells slots : Nat} {lsC : Array Slot} {st0 st : List Value} {r2 : Option FieldType} {Q2 : AV → HH → Prop} {a : Array Value} {H : HH} {Hc : Heap} {locs : List Loc}
    (hr : va_Run p l e R s m args below meth c Hc locs cells slots 0 0 (F0 m pc lsC st0) st (xQ cid D ad xTX L1 r2 Q2 (va_A (xw cid ad L1 H) Hc.size) H a) (va_A (xw cid ad L1 H) Hc.size))
    (hL : (L1 = xLC) ∨ (L1 = xLM)) (hS : lwS s cid D ad H Hc locs)
    (kk : ∀ v H1 Hc1 locs1, Q2 v H1 → lwS s cid D ad H1 Hc1 locs1 → W p l e R s m args below meth c Hc1 locs1 cells slots Z (F0 m (pc + 3) lsC ((xrt ad r2 v).toList ++ st))) :
    W p l e R s m args below meth c Hc locs cells slots Z (F0 m pc lsC st0) := by
  obtain ⟨hP, hD, hS⟩ := hS
  have hA1 : ∀ q, va_A (xw cid ad L1 H) Hc.size q → lwA s q := by
    have hDs : va_D (lwA s) (xw cid ad L1 H) := by
      rcases hL with rfl | rfl
      · exact mD hD xclo_LC.1 xLC_in
      · exact mD hD xclo_LM.1 xLM_in
    rintro q (⟨k, e, h⟩ | h)
    · exact hDs.2 k (q, e) h
    · exact Nat.le_trans hS.1 h
  intro T hT X
  obtain ⟨v, st₀, t, T1, L, hst0, X1, hLl, e1, e2, ⟨v1, H1, hv, hok, hq, hP1, ⟨hz, hk⟩, hag⟩, stp⟩ := hr T hT X
  rw [hst0] at hz hk
  have hP2 : va_P D xcl (xw cid ad xLA H1) T1.heap := by
    rw [e1]
    show va_P D xcl (xw cid ad (xLC ++ xLM) H1) t.heap
    have hP : va_P D xcl (xw cid ad (xLC ++ xLM) H) Hc := hP
    have hD : va_D (lwA s) (xw cid ad (xLC ++ xLM) H) := hD
    rw [xw_app] at hP hD ⊢
    rcases hL with rfl | rfl
    · rw [xw_ag (L2 := xLM) hag xLM_LC]; exact lw_part hP hD hk hP1
    · rw [xw_ag (L2 := xLC) hag xLC_LM]; exact lw_part2 hP hD hk hP1
  have W1 := kk v1 H1 T1.heap (locs ++ L) hq ⟨hP2, xw_D hD, ⟨Nat.le_trans hS.1 (by rw [e1]; exact hz), fun q h1 h2 => by rw [e1, hk q (Nat.lt_of_lt_of_le h1 hS.1) (fun z => h2 (hA1 q z))]; exact hS.2.1 q h1 h2, fun q hq => by
      rcases List.mem_append.mp hq with h | h
      · exact hS.2.2 q h
      · exact hA1 _ (hLl q h)⟩⟩
  obtain ⟨t2, a1, b1⟩ := W1 T1 rfl X1
  refine ⟨t2, stp t2 ?_, b1⟩
  cases hv
  exact a1
/-- what stands all through the law -/
def lwC (p : Program) (s : State) (m : MethodId) (args : Array Value) (c : Code) (cid : Nat → ClassId) (D : va_G) (ad : Nat → Nat → Nat) : Prop :=
  p.tables.exec = Jvm.exec ∧ c.code = code ∧ c.maxLocals = 4 ∧ s.vm.findClass "ThreePointsLaw" = some m.cls ∧ (∀ w ∈ xtbl, w.before args s = true) ∧ va_K D xcl (xtys cid) s ∧ xStat ad xTX (lwA s) s s.heap ∧ xRefs ad xRF s
/-- a call of one of the two objects' methods (L1: its side) -/
theorem lw_callV {L1 : List (Nat × Nat)} {Z : State → Prop} {y : MethodName} {b2 : ByteArray} {n2 n ci N kd index d pc cells slots : Nat} {r2 : Option FieldType} {T : u_T} {vs st : List AV} {lsC : Array Slot} {H : HH} {Hc : Heap} {locs : List Loc} {Q2 : AV → HH → Prop}
    (hC : lwC p s m args c cid D ad) (hL : (L1 = xLC) ∨ (L1 = xLM)) (hdc : decode code pc = .ok (.invokevirtual index, 3)) (hM : xM y b2 n2 r2 n) (hlink : Cond.methodLink "ThreePointsLaw" index y ∈ xtbl) (hinst : Cond.instanceMethod y ∈ xtbl) (hsel : Cond.selects y.cls y y ∈ xtbl)
    (hsh : xsh kd = (0, ci, N)) (hc : xcl[ci]? = some (y.cls, T, N)) (hin : (kd, 0) ∈ L1) (hlen : vs.length = n) (hcat : (st.map xcat).sum ≤ 8) (hsum : ((vr kd 0 :: vs).map xcat).sum ≤ n2) (hok : ∀ v ∈ vs, xok L1 xTX.length v) (hdd : d ≤ 1000) (hls : lsC.size = 4)
    (hS : lwS s cid D ad H Hc locs) (hcs : cells ≤ 600000 ∧ slots ≤ 7302250)
    (h : Gp l cid D ad xTX xRF L1 d y.cls b2 n2 r2 0 (xent (vr kd 0 :: vs)) [] H Q2)
    (kk : ∀ v H1 Hc1 locs1, Q2 v H1 → lwS s cid D ad H1 Hc1 locs1 → W p l e room_1 s m args below meth c Hc1 locs1 cells slots Z (F0 m (pc + 3) lsC ((xrt ad r2 v).toList ++ st.map (cv ad)))) :
    W p l e room_1 s m args below meth c Hc locs cells slots Z (F0 m pc lsC ((vs.reverse ++ vr kd 0 :: st).map (cv ad))) := by
  obtain ⟨hx, hb, hml, hown, hts, hK, hZ, hrf⟩ := hC
  have hcl : xclo L1 xTX.length := by rcases hL with rfl | rfl; exact xclo_LC; exact xclo_LM
  have hsub : ∀ q ∈ L1, q ∈ xLA := by rcases hL with rfl | rfl; exact xLC_in; exact xLM_in
  have hP1 := x_sub hS.1 hsub
  have hD1 : va_D (lwA s) (xw cid ad L1 H) := mD hS.2.1 hcl.1 hsub
  obtain ⟨q0, hq, hw⟩ := xw_at (cid := cid) (ad := ad) (H := H) hin
  rw [xcell_o hsh] at hw
  have hmet := xmet (sz := Hc.size) (y := y) (vs := vr kd 0 :: vs) hcl hM.2.2.1 h (fun v hv => by
    rcases List.mem_cons.mp hv with rfl | hv
    · exact Or.inl hin
    · exact hok v hv) hsum
  have hrun := va_runV (C := y.cls) (As := vs.map (cv ad)) (rest := st.map (cv ad)) (b := ad kd 0) (g := F0 m pc lsC ((vs.reverse ++ vr kd 0 :: st).map (cv ad))) (H := Hc) (locs := locs) (cells := cells) (slots := slots) (p := p) (e := e) (R := room_1) (below := below) (meth := meth) (index := index) ⟨hx, hb, hml, hown, hts⟩ hmet
    ⟨callB_of n hts (xgood hM.1) rfl rfl rfl (hts _ hM.2.1) (hts _ hlink) hM.2.2.2.1 (by have := hM.2.2.2.2; simp only [xrm, room_1]; omega), hts _ hinst, hts _ hsel⟩
    ⟨xblind, va_recv hK hP1 hc hw, xprec hK hP1 hD1 hZ hrf hS.2.2 (fun _ h => h)⟩ rfl (by simpa using hlen) hls (by simp [cv]) (by rw [xcats]; exact (by simpa [JFrame.monitorRoom] using hcat)) hdc hcs
  exact lw_back hrun hL hS kk
end LAW
section LAWA
variable {p : Program} {l : Launch} {e : Env} {s : State} {m : MethodId} {args : Array Value} {below : List Frame} {meth : Method} {c : Code} {cid : Nat → ClassId} {D : va_G} {ad : Nat → Nat → Nat}
/-- how many bytes a push of k takes -/
def ksz (k : Nat) : Nat := if k < 6 then 1 else 2
def argsOK : Nat → List Nat → Nat → Bool
  | pc, [], pe => Nat.beq pc pe
  | pc, k :: r, pe => decide (decode code pc = .ok (.aload_n 0, 1)) && (decide (decode code (pc + 1) = .ok (.iload_n 3, 1)) && (Nat.beq (psz code (pc + 2) (nI k)) (ksz k) && (decide (decode code (pc + 2 + ksz k) = .ok (.iadd, 1)) && (decide (decode code (pc + 2 + ksz k + 1) = .ok (.iaload, 1)) && argsOK (pc + 2 + ksz k + 2) r pe))))
theorem lw_push {R : Room} {Z : State → Prop} {pc n cells slots : Nat} {v : Int32} {lsC : Array Slot} {st : List Value} {Hc : Heap} {locs : List Loc} (hx : p.tables.exec = Jvm.exec) (hb : c.code = code) (h : ypush code pc v n) (k : W p l e R s m args below meth c Hc locs cells slots Z (F0 m (pc + n) lsC (.int v :: st))) : W p l e R s m args below meth c Hc locs cells slots Z (F0 m pc lsC st) := by
  rcases h with ⟨z, hd, hv, rfl⟩ | ⟨z, hd, hv, rfl⟩ | ⟨z, hd, hv, rfl⟩
  · exact lv_iconst hx hb hd hv k
  · exact lv_bipush hx hb hd hv k
  · exact lv_sipush hx hb hd hv k
theorem lw_args {R : Room} {Z : State → Prop} {cells slots b L i pe : Nat} {xs : Nat → Int32} {lsC : Array Slot} {Hc : Heap} {locs : List Loc} (hx : p.tables.exec = Jvm.exec) (hb : c.code = code) (hX : va_X b L xs s s.heap) (hbl : b < s.heap.size) (hS : va_S (lwA s) s.heap Hc locs) (hL : L ≤ 3584)
    (l0 : lsC[0]? = some (.val (.ref b))) (l3 : lsC[3]? = some (.val (.int (nI i)))) : ∀ (ks : List Nat) (pc : Nat) (st : List AV), argsOK pc ks pe = true → (∀ k ∈ ks, i + k < L) → W p l e R s m args below meth c Hc locs cells slots Z (F0 m pe lsC (((ks.map fun k => vi (xs (i + k))).reverse ++ st).map (cv ad))) → W p l e R s m args below meth c Hc locs cells slots Z (F0 m pc lsC (st.map (cv ad))) := by
  intro ks
  induction ks with
  | nil =>
    intro pc st h _ k
    have e2 : pc = pe := Nat.eq_of_beq_eq_true h
    subst e2
    exact k
  | cons a r ih =>
    intro pc st h hk k
    have h0 : (decide (decode code pc = .ok (.aload_n 0, 1)) && (decide (decode code (pc + 1) = .ok (.iload_n 3, 1)) && (Nat.beq (psz code (pc + 2) (nI a)) (ksz a) && (decide (decode code (pc + 2 + ksz a) = .ok (.iadd, 1)) && (decide (decode code (pc + 2 + ksz a + 1) = .ok (.iaload, 1)) && argsOK (pc + 2 + ksz a + 2) r pe))))) = true := h
    simp only [Bool.and_eq_true, decide_eq_true_eq] at h0
    obtain ⟨q1, q2, q3, q4, q5, q6⟩ := h0
    have q3 := Nat.eq_of_beq_eq_true q3
    have ha : i + a < L := hk a List.mem_cons_self
    refine lv_aload_n hx hb q1 rfl l0 ?_
    refine lv_iload_n hx hb q2 rfl l3 ?_
    refine lw_push hx hb (psz_of (v := nI a) (pc := pc + 2) (by rw [q3]; unfold ksz; split <;> decide)) ?_
    rw [q3]
    refine lv_iadd hx hb q4 ?_
    rw [nI_add]
    refine va_sld hx hb hX hbl (Nat.not_le.mpr hbl) hS (vp_in_nI ha (by omega)) q5 ?_
    rw [nI_clamp (by omega)]
    refine ih _ (vi (xs (i + a)) :: st) q6 (fun k hk2 => hk k (List.mem_cons_of_mem _ hk2)) ?_
    rw [List.map_cons, List.reverse_cons, List.append_assoc] at k
    exact k
end LAWA
