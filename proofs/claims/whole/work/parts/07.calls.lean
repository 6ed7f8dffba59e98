/-! RULES: calls. -/
def xpu (ret : Option FieldType) (v : AV) (st : List AV) : List AV := match ret with
  | none => st
  | some _ => v :: st
def xcat (v : AV) : Nat := match v with
  | .inr (.inl _) => 2
  | _ => 1
theorem xcat_eq {ad : Nat → Nat → Nat} (v : AV) : (cv ad v).category = xcat v := by
  rcases v with x | x | _ | ⟨k, i⟩ <;> rfl
theorem xcats {ad : Nat → Nat → Nat} (st : List AV) : (st.map (cv ad)).map (fun v => v.category) = st.map xcat := by
  rw [List.map_map]
  exact List.map_congr_left fun v _ => xcat_eq v
section CRU
variable {l : Launch} {cid : Nat → ClassId} {D : va_G} {ad : Nat → Nat → Nat} {tx : List (List Int32)} {rf : List (String × Nat × String)} {Lc : List (Nat × Nat)} {d : Nat} {own : String} {b : ByteArray} {nL : Nat} {ret : Option FieldType} {pc : Nat} {ls : List (Option AV)} {st : List AV} {H : HH} {Q Q2 : AV → HH → Prop}
theorem xgood {y : MethodName} {b2 : ByteArray} {n2 : Nat} {r2 : Option FieldType} (hc : Cond.code y b2 n2 r2 ∈ xtbl) : GoodIn xtbl (Cond.code y b2 n2 r2 :: xtbl) := by
  have hall : ∀ w ∈ xtbl, w ∈ xtbl ∧ ((w.onTables && w.keeps) = true ∨ ∃ ty, w = .arrayClass ty) := fun w h => ⟨h, good_of_word (List.mem_filter.mp h).2⟩
  intro w h
  rcases List.mem_cons.mp h with rfl | h
  · exact hall _ hc
  · exact hall _ h
variable (cid D ad tx rf Lc) in
/-- a contract's start: the world is the heap's picture -/
def xPc (vs : List AV) (H : HH) (sz : Nat) : Array Value → State → Prop := va_Pc (vs.map (cv ad)) (fun U => U.heap.size = sz ∧ va_P D xcl (xw cid ad Lc H) U.heap ∧ va_K D xcl (xtys cid) U ∧ va_D (fun _ => True) (xw cid ad Lc H) ∧ xStat ad tx (va_A (xw cid ad Lc H) sz) U U.heap ∧ xRefs ad rf U)
theorem xmet {y : MethodName} {vs : List AV} {sz : Nat} (hcl : xclo Lc tx.length) (hy : plainName y.cls = true) (h : Gp l cid D ad tx rf Lc d y.cls b nL ret 0 (xent vs) [] H Q) (hok : ∀ v ∈ vs, xok Lc tx.length v) (hn : (vs.map xcat).sum ≤ nL) :
    Met l y (Cond.code y b nL ret :: xtbl) (xrm d) (xPc cid D ad tx rf Lc vs H sz) (xQ cid D ad tx Lc ret Q (va_A (xw cid ad Lc H) sz) H) 0 0 (va_A (xw cid ad Lc H) sz) := by
  refine Met.ofW (cc := b) (maxL := nL) (ret := ret) hy rfl ?_
  intro p e s m args below meth c s₁ B hml hv
  obtain ⟨rfl, hsz, hP, hK, hD0, hZ, hrf⟩ := hv
  have hx := B.exec
  have hb := B.bytes
  have hr := B.returns
  have hts := atoms_spec (ws := Cond.code y b nL ret :: xtbl) B.pre
  have hown : s.vm.findClass y.cls = some m.cls := findClass_of_methodNamed B.named
  have hlocks := B.notSynchronized
  subst hsz
  have hD := hD0.self (sz := s.heap.size)
  have hlen : (lg_sl (vs.map (cv ad))).length ≤ nL := by
    refine Nat.le_trans (Nat.le_of_eq ?_) hn
    clear h hok hn hts B hx hb hr hown hlocks hD hD0 hZ hrf hP hK hml
    induction vs with
    | nil => rfl
    | cons v r ih =>
      have e : lg_sl (List.map (cv ad) (v :: r)) = (if (cv ad v).category = 2 then [Slot.val (cv ad v), .second] else [Slot.val (cv ad v)]) ++ lg_sl (r.map (cv ad)) := by simp [lg_sl]
      rw [e, List.length_append, ih]
      rcases v with x | x | _ | ⟨k, i⟩ <;> simp [cv, Value.category, xcat]
  have hl := lv_entry (vs.map (cv ad)) (n := nL) hlen
  rw [lg_entry_eq]
  generalize (lg_sl (vs.map (cv ad)) ++ List.replicate (nL - (lg_sl (vs.map (cv ad))).length) Slot.unset).toArray = lsC at hl ⊢
  rw [← xent_args] at hl
  exact h H xag.rf p e _ s m _ below meth c s.heap [] lsC _ ⟨hx, hb, hml, hr, hown, hlocks, fun w hw => hts w (List.mem_cons_of_mem _ hw), rfl, hK, hZ, hrf, fun q hq => Or.inr hq, hcl⟩
    ⟨fun v hv => by
      obtain ⟨i, hi⟩ := List.mem_iff_getElem?.mp hv
      have aux : ∀ (ws : List AV) (i : Nat), (xent ws)[i]? = some (some v) → v ∈ ws := by
        intro ws
        induction ws with
        | nil => intro i h; simp [xent] at h
        | cons w r ih =>
          intro i h
          rcases w with x | x | _ | ⟨k, j⟩
          · cases i with
            | zero => simp [xent] at h; rw [← h]; exact List.mem_cons_self
            | succ i => exact List.mem_cons_of_mem _ (ih i (by simpa [xent] using h))
          · cases i with
            | zero => simp [xent] at h; rw [← h]; exact List.mem_cons_self
            | succ i => cases i with
              | zero => simp [xent] at h
              | succ i => exact List.mem_cons_of_mem _ (ih i (by simpa [xent] using h))
          · cases i with
            | zero => simp [xent] at h; rw [← h]; exact List.mem_cons_self
            | succ i => exact List.mem_cons_of_mem _ (ih i (by simpa [xent] using h))
          · cases i with
            | zero => simp [xent] at h; rw [← h]; exact List.mem_cons_self
            | succ i => exact List.mem_cons_of_mem _ (ih i (by simpa [xent] using h))
      exact hok v (aux vs i hi), fun v hv => by cases hv⟩ hP hD va_S.rf hl
theorem xblind {vs : List AV} {sz : Nat} : FrameBlind (xPc cid D ad tx rf Lc vs H sz) := by
  intro a U g mk q
  obtain ⟨q0, q1, qP, qK, qD, qZ, qR⟩ := q
  exact ⟨q0, q1, qP, va_K.moved (u := U) (U := U.calling g mk a) (Vm.Alike.refl U.vm) qK, qD, xStat.moved ad tx (u := U) (U := U.calling g mk a) (Vm.Alike.refl U.vm) qZ, ⟨fun i r h => vk_R.same (u := U) rfl (qR.1 i r h), fun q h => va_Nw.same rfl (u := U) rfl (qR.2 q h)⟩⟩
/-- behind a call's run -/
theorem xback {p : Program} {e : Env} {R : Room} {s : State} {m : MethodId} {args : Array Value} {below : List Frame} {meth : Method} {c : Code} {Hc : Heap} {locs : List Loc} {lsC : Array Slot} {A : Nat → Prop} {st0 : List Value} {r2 : Option FieldType} {a : Array Value} {H2 : HH}
    (hr : va_Run p l e R s m args below meth c Hc locs 0 0 0 0 (F0 m pc lsC st0) (st.map (cv ad)) (xQ cid D ad tx Lc r2 Q2 (va_A (xw cid ad Lc H2) Hc.size) H2 a) (va_A (xw cid ad Lc H2) Hc.size))
    {H0 : HH} (h0 : xag Lc H0 H2) (hC : xC cid D ad tx rf Lc p c meth s m args R A d own b nL ret) (ho : xoks Lc tx.length ls st) (hD : va_D A (xw cid ad Lc H2)) (hS : va_S A s.heap Hc locs) (hl : lv_has lsC nL (lcv ad 0 ls))
    (kk : ∀ v H', Q2 v H' → Gp l cid D ad tx rf Lc d own b nL ret (pc + 3) ls (xpu r2 v st) H' Q) : W p l e R s m args below meth c Hc locs 0 0 (MQ below (xQ cid D ad tx Lc ret Q A H0) args s 0 0 A) (F0 m pc lsC st0) := by
  have hA1 : ∀ q, va_A (xw cid ad Lc H2) Hc.size q → A q := by
    intro q h
    rcases h with ⟨k, e, h⟩ | h
    · exact hD.2 k (q, e) h
    · exact hC.2.2.2.2.2.2.2.2.2.2.2.1 q (Nat.le_trans hS.1 h)
  intro T hT X
  obtain ⟨v, st₀, t, T', L, hst0, X', hL, e1, e2, ⟨v', H', hv, hok, hq, hP1, ⟨hz, hk⟩, hag⟩, stp⟩ := hr T hT X
  rw [hst0] at hz hk
  have W1 := kk v' H' hq H0 (h0.tr hag) p e R s m args below meth c T'.heap (locs ++ L) lsC A hC
    (by
      cases r2 with
      | none => exact ho
      | some _ => exact ho.push hok)
    (by rw [e1]; exact hP1) (xw_D hD)
    ⟨Nat.le_trans hS.1 (by rw [e1]; exact hz), fun q h1 h2 => by rw [e1, hk q (Nat.lt_of_lt_of_le h1 hS.1) (fun z => h2 (hA1 q z))]; exact hS.2.1 q h1 h2, fun q hq => by
      rcases List.mem_append.mp hq with h | h
      · exact hS.2.2 q h
      · exact hA1 _ (hL q h)⟩ hl
  obtain ⟨t2, a1, b1⟩ := W1 T' rfl X'
  refine ⟨t2, stp t2 ?_, b1⟩
  have hst : v.toList ++ st.map (cv ad) = (xpu r2 v' st).map (cv ad) := by
    cases r2 with
    | none => cases hv; rfl
    | some _ => cases hv; rfl
  show Steps p.tables e below (T'.setTop { method := m, pc := pc + 3, locals := lsC, stack := v.toList ++ st.map (cv ad), locked := none }) t2
  rw [hst]
  exact a1
theorem xprec {s : State} {Hc : Heap} {A : Nat → Prop} {locs : List Loc} {vs : List AV} (hK : va_K D xcl (xtys cid) s) (hP : va_P D xcl (xw cid ad Lc H) Hc) (hD : va_D A (xw cid ad Lc H)) (hZ : xStat ad tx A s s.heap) (hrf : xRefs ad rf s) (hS : va_S A s.heap Hc locs) (hA : ∀ q, s.heap.size ≤ q → A q) :
    ∀ U : State, U.heap = Hc → s.WarmedH U.vm → xPc cid D ad tx rf Lc vs H Hc.size (vs.map (cv ad)).toArray U := by
  intro U hU hW
  refine ⟨rfl, by rw [hU], by rw [hU]; exact hP, va_K.moved hW.alike hK, hD.weaken (fun _ _ _ _ => trivial), ?_, ⟨fun i r h => vk_R.warm hW (hrf.1 i r h), fun q h => va_Nw.warmM hW (hrf.2 q h)⟩⟩
  rw [hU]
  refine ((hZ.kept ad tx hS.2.1).moved ad tx hW.alike).narrow ad tx fun q h => ?_
  rcases h with ⟨k, e, h⟩ | h
  · exact hD.2 k (q, e) h
  · exact hA q (Nat.le_trans hS.1 h)
/-- the words of a method that is called -/
def xM (y : MethodName) (b2 : ByteArray) (n2 : Nat) (r2 : Option FieldType) (n : Nat) : Prop := Cond.code y b2 n2 r2 ∈ xtbl ∧ Cond.initialized y.cls ∈ xtbl ∧ plainName y.cls = true ∧ (y.cls ≠ "java/lang/invoke/MethodHandle" ∧ y.cls ≠ "java/lang/invoke/VarHandle" ∧ (parseMethodDescriptor y.desc).map (fun d => d.parameters.length) = some n) ∧ n2 ≤ 20
theorem g_callV {y : MethodName} {b2 : ByteArray} {n2 n ci N kd ix index : Nat} {r2 : Option FieldType} {T : u_T} {vs : List AV} {st0 : List AV} (hd : decode b pc = .ok (.invokevirtual index, 3)) (hM : xM y b2 n2 r2 n) (hlink : Cond.methodLink own index y ∈ xtbl) (hinst : Cond.instanceMethod y ∈ xtbl) (hsel : Cond.selects y.cls y y ∈ xtbl)
    (h60 : kd < 60) (hsh : xsh kd = (0, ci, N)) (hc : xcl[ci]? = some (y.cls, T, N)) (hlen : vs.length = n) (hst : st0 = vs.reverse ++ vr kd ix :: st) (hcat : (st.map xcat).sum ≤ 8) (hsum : ((vr kd ix :: vs).map xcat).sum ≤ n2)
    (h : Gp l cid D ad tx rf Lc d y.cls b2 n2 r2 0 (xent (vr kd ix :: vs)) [] H Q2) (kk : ∀ v H', Q2 v H' → Gp l cid D ad tx rf Lc (d + 1) own b nL ret (pc + 3) ls (xpu r2 v st) H' Q) : Gp l cid D ad tx rf Lc (d + 1) own b nL ret pc ls st0 H Q := by
  subst hst
  intro H0 h0 p e R s m args below meth c Hc locs lsC A hC ho hP hD hS hl
  obtain ⟨hx, hb, hml, hr, hown, hlk, hts, hR, hK, hZ, hrf, hA, hcl⟩ := id hC
  have hov : xok Lc tx.length (vr kd ix) := ho.2 _ (by simp)
  obtain ⟨q0, hq, hw⟩ := xw_at (cid := cid) (ad := ad) (H := H) (xok_in hov h60)
  rw [xcell_o hsh] at hw
  have hmet := xmet (sz := Hc.size) (y := y) (vs := vr kd ix :: vs) hcl hM.2.2.1 h (fun v hv => by
    rcases List.mem_cons.mp hv with rfl | hv
    · exact hov
    · exact ho.2 _ (by simp [hv])) hsum
  have hrun := va_runV (C := y.cls) (As := vs.map (cv ad)) (rest := st.map (cv ad)) (b := ad kd ix) (g := F0 m pc lsC ((vs.reverse ++ vr kd ix :: st).map (cv ad))) (H := Hc) (locs := locs) (cells := 0) (slots := 0) (p := p) (e := e) (R := R) (below := below) (meth := meth) (index := index) ⟨hx, hb, hml, hown, hts⟩ hmet
    ⟨callB_of n hts (xgood hM.1) rfl rfl rfl (hts _ hM.2.1) (hts _ hlink) hM.2.2.2.1 (by subst hR; have := hM.2.2.2.2; simp only [xrm]; omega), hts _ hinst, hts _ hsel⟩
    ⟨xblind, va_recv hK hP hc hw, xprec hK hP hD hZ hrf hS hA⟩ rfl (by simpa using hlen) hl.1 (by simp [cv]) (by rw [xcats]; exact (by simpa [JFrame.monitorRoom] using hcat)) hd ⟨Nat.zero_le _, Nat.zero_le _⟩
  exact xback hrun h0 hC ⟨ho.1, fun v hv => ho.2 v (by simp [hv])⟩ hD hS hl kk
theorem g_callStr {y : MethodName} {b2 : ByteArray} {n2 n i index : Nat} {r2 : Option FieldType} {vs : List AV} {st0 : List AV} (hd : decode b pc = .ok (.invokevirtual index, 3)) (hM : xM y b2 n2 r2 n) (hlink : Cond.methodLink own index y ∈ xtbl) (hinst : Cond.instanceMethod y ∈ xtbl) (hsel : Cond.selects y.cls y y ∈ xtbl)
    (hc : y.cls = "java/lang/String") (hlen : vs.length = n) (hst : st0 = vs.reverse ++ vr 60 i :: st) (hcat : (st.map xcat).sum ≤ 8) (hsum : ((vr 60 i :: vs).map xcat).sum ≤ n2)
    (h : Gp l cid D ad tx rf Lc d y.cls b2 n2 r2 0 (xent (vr 60 i :: vs)) [] H Q2) (kk : ∀ v H', Q2 v H' → Gp l cid D ad tx rf Lc (d + 1) own b nL ret (pc + 3) ls (xpu r2 v st) H' Q) : Gp l cid D ad tx rf Lc (d + 1) own b nL ret pc ls st0 H Q := by
  subst hst
  intro H0 h0 p e R s m args below meth c Hc locs lsC A hC ho hP hD hS hl
  obtain ⟨hx, hb, hml, hr, hown, hlk, hts, hR, hK, hZ, hrf, hA, hcl⟩ := id hC
  have hov : xok Lc tx.length (vr 60 i) := ho.2 _ (by simp)
  have hi := xok_tx hcl hov (by omega) (by omega)
  have hmet := xmet (sz := Hc.size) (y := y) (vs := vr 60 i :: vs) hcl hM.2.2.1 h (fun v hv => by
    rcases List.mem_cons.mp hv with rfl | hv
    · exact hov
    · exact ho.2 _ (by simp [hv])) hsum
  have hrun := va_runV (C := y.cls) (As := vs.map (cv ad)) (rest := st.map (cv ad)) (b := ad 60 i) (g := F0 m pc lsC ((vs.reverse ++ vr 60 i :: st).map (cv ad))) (H := Hc) (locs := locs) (cells := 0) (slots := 0) (p := p) (e := e) (R := R) (below := below) (meth := meth) (index := index) ⟨hx, hb, hml, hown, hts⟩ hmet
    ⟨callB_of n hts (xgood hM.1) rfl rfl rfl (hts _ hM.2.1) (hts _ hlink) hM.2.2.2.1 (by subst hR; have := hM.2.2.2.2; simp only [xrm]; omega), hts _ hinst, hts _ hsel⟩
    ⟨xblind, by rw [hc]; exact vk_recv hZ.2.2.2.2.2.2.2.1 hi hS, xprec hK hP hD hZ hrf hS hA⟩ rfl (by simpa using hlen) hl.1 (by simp [cv]) (by rw [xcats]; exact (by simpa [JFrame.monitorRoom] using hcat)) hd ⟨Nat.zero_le _, Nat.zero_le _⟩
  exact xback hrun h0 hC ⟨ho.1, fun v hv => ho.2 v (by simp [hv])⟩ hD hS hl kk
theorem g_callS {y : MethodName} {b2 : ByteArray} {n2 n index : Nat} {r2 : Option FieldType} {vs : List AV} {st0 : List AV} (hd : decode b pc = .ok (.invokestatic index, 3)) (hM : xM y b2 n2 r2 n) (hlink : Cond.methodLink own index y ∈ xtbl) (hstat : Cond.static y ∈ xtbl)
    (hlen : vs.length = n) (hst : st0 = vs.reverse ++ st) (hcat : (st.map xcat).sum ≤ 8) (hsum : (vs.map xcat).sum ≤ n2)
    (h : Gp l cid D ad tx rf Lc d y.cls b2 n2 r2 0 (xent vs) [] H Q2) (kk : ∀ v H', Q2 v H' → Gp l cid D ad tx rf Lc (d + 1) own b nL ret (pc + 3) ls (xpu r2 v st) H' Q) : Gp l cid D ad tx rf Lc (d + 1) own b nL ret pc ls st0 H Q := by
  subst hst
  intro H0 h0 p e R s m args below meth c Hc locs lsC A hC ho hP hD hS hl
  obtain ⟨hx, hb, hml, hr, hown, hlk, hts, hR, hK, hZ, hrf, hA, hcl⟩ := id hC
  have hmet := xmet (sz := Hc.size) (y := y) (vs := vs) hcl hM.2.2.1 h (fun v hv => ho.2 _ (by simp [hv])) hsum
  have hrun := va_runS (As := vs.map (cv ad)) (rest := st.map (cv ad)) (g := F0 m pc lsC ((vs.reverse ++ st).map (cv ad))) (H := Hc) (locs := locs) (cells := 0) (slots := 0) (p := p) (e := e) (R := R) (below := below) (meth := meth) (index := index) ⟨hx, hb, hml, hown, hts⟩ hmet
    ⟨callB_of n hts (xgood hM.1) rfl rfl rfl (hts _ hM.2.1) (hts _ hlink) hM.2.2.2.1 (by subst hR; have := hM.2.2.2.2; simp only [xrm]; omega), hts _ hstat⟩
    ⟨xblind, xprec hK hP hD hZ hrf hS hA⟩ rfl (by simpa using hlen) hl.1 (by simp) (by rw [xcats]; exact (by simpa [JFrame.monitorRoom] using hcat)) hd ⟨Nat.zero_le _, Nat.zero_le _⟩
  exact xback hrun h0 hC ⟨ho.1, fun v hv => ho.2 v (by simp [hv])⟩ hD hS hl kk
/-- a static method of a nest mate -/
theorem g_callSN {y : MethodName} {b2 : ByteArray} {n2 n index : Nat} {r2 : Option FieldType} {host : String} {vs : List AV} {st0 : List AV} (hd : decode b pc = .ok (.invokestatic index, 3)) (hM : xM y b2 n2 r2 n) (hlink : (own, index, y, host) ∈ xNST) (hstat : Cond.static y ∈ xtbl)
    (hlen : vs.length = n) (hst : st0 = vs.reverse ++ st) (hcat : (st.map xcat).sum ≤ 8) (hsum : (vs.map xcat).sum ≤ n2)
    (h : Gp l cid D ad tx rf Lc d y.cls b2 n2 r2 0 (xent vs) [] H Q2) (kk : ∀ v H', Q2 v H' → Gp l cid D ad tx rf Lc (d + 1) own b nL ret (pc + 3) ls (xpu r2 v st) H' Q) : Gp l cid D ad tx rf Lc (d + 1) own b nL ret pc ls st0 H Q := by
  subst hst
  intro H0 h0 p e R s m args below meth c Hc locs lsC A hC ho hP hD hS hl
  obtain ⟨hx, hb, hml, hr, hown, hlk, hts, hR, hK, hZ, hrf, hA, hcl⟩ := id hC
  have hmet := xmet (sz := Hc.size) (y := y) (vs := vs) hcl hM.2.2.1 h (fun v hv => ho.2 _ (by simp [hv])) hsum
  have hrun := va_runSN (host := host) (As := vs.map (cv ad)) (rest := st.map (cv ad)) (g := F0 m pc lsC ((vs.reverse ++ st).map (cv ad))) (H := Hc) (locs := locs) (cells := 0) (slots := 0) (p := p) (e := e) (R := R) (below := below) (meth := meth) (index := index) ⟨hx, hb, hml, hown, hts⟩ hmet
    ⟨va_cnB n hts (xgood hM.1) rfl rfl rfl (hrf.2 _ hlink) (hts _ hM.2.1) hM.2.2.2.1 (by subst hR; have := hM.2.2.2.2; simp only [xrm]; omega), hts _ hstat, trivial⟩
    ⟨xblind, xprec hK hP hD hZ hrf hS hA⟩ rfl (by simpa using hlen) hl.1 (by simp) (by rw [xcats]; exact (by simpa [JFrame.monitorRoom] using hcat)) hd ⟨Nat.zero_le _, Nat.zero_le _⟩
  exact xback hrun h0 hC ⟨ho.1, fun v hv => ho.2 v (by simp [hv])⟩ hD hS hl kk
end CRU
