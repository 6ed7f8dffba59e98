/-! MAKING 3: a constructor that is called, a method that is called when all stands, rows that are filled. Printed by wip/gen/gen94.py. -/
/-- rows have no fields -/
theorem xsp_sh {kd k : Nat} {t : Nat × (Nat → Nat)} (h : (xsh kd).1 = 1) (hs : xsp kd k = some t) : False := by
  unfold xsp at hs
  split at hs <;> first | exact absurd h (by decide) | cases hs
theorem xsp_sh2 {kd k : Nat} {t : Nat × (Nat → Nat)} (h : (xsh kd).1 = 2) (hs : xsp kd k = some t) : False := by
  unfold xsp at hs
  split at hs <;> first | exact absurd h (by decide) | cases hs
section YCA
variable {l : Launch} {cid : Nat → ClassId} {D : va_G} {HI : HH} {R : Room} {own : String} {b : ByteArray} {nL kd0 ix0 : Nat} {Lf : List (Nat × Nat)} {QH : HH → Prop} {pc : Nat} {ls : List (Option AV)} {st : List AV} {L : List (Nat × Nat)} {B : YB} {H : HH} {cells slots : Nat}
/-- what a field holds at first -/
def yz (kd j : Nat) : Value := if (xsp kd j).isSome = true then Value.null else if kd = 19 ∧ j = 2 then Value.null else .int 0
theorem yz_of {ad : Nat → Nat → Nat} {kd ix j : Nat} : (if (xsp kd j).isSome = true ∧ nB kd ix j = false then Value.null else cv ad (xld kd ix j 0)) = yz kd j := by
  unfold yz
  by_cases c : (xsp kd j).isSome = true
  · rw [if_pos c, if_pos ⟨c, rfl⟩]
  · rw [if_neg c, if_neg (fun z => c z.1)]
    cases hs : xsp kd j with
    | some t => rw [hs] at c; exact absurd rfl c
    | none =>
      unfold xld
      rw [hs]
      by_cases c2 : kd = 19 ∧ j = 2
      · rw [if_pos c2, if_pos c2, if_neg (by decide)]; rfl
      · rw [if_neg c2, if_neg c2]; rfl
def yfs (kd N : Nat) : List Value := (List.range N).map (yz kd)
theorem yfs_cell {ad : Nat → Nat → Nat} {kd ix ci N : Nat} (hsh : xsh kd = (0, ci, N)) : (Sum.inr (ci, yfs kd N) : va_E) = ycell cid ad nB kd ix (fun _ => 0) := by
  rw [ycell_o hsh]
  refine congrArg (fun z => (Sum.inr (ci, z) : va_E)) (List.map_congr_left fun k _ => ?_)
  exact yz_of.symm
/-- how the link to a constructor is found -/
def ylk (own : String) (i : Nat) (y : MethodName) : Prop := Cond.methodLink own i y ∈ xtbl ∨ (own, i, y, "ThreePoints") ∈ yNST
/-- the words of a constructor -/
def yM (y : MethodName) (b2 : ByteArray) (n2 : Nat) : Prop := Cond.code y b2 n2 none ∈ xtbl ∧ Cond.initialized y.cls ∈ xtbl ∧ Cond.instanceMethod y ∈ xtbl ∧ y.name = "<init>" ∧ (y.cls ≠ "java/lang/invoke/MethodHandle" ∧ y.cls ≠ "java/lang/invoke/VarHandle" ∧ (parseMethodDescriptor y.desc).map (fun d => d.parameters.length) = some 0) ∧ n2 ≤ 20
theorem yPc_blind {ad : Nat → Nat → Nat} {kd ix sz : Nat} : FrameBlind (yPc cid D ad kd ix sz) := by
  intro a U g mk q
  obtain ⟨q0, q1, qP, qK, qD, qZ, qR, qW⟩ := q
  exact ⟨q0, q1, qP, va_K.moved (u := U) (U := U.calling g mk a) (Vm.Alike.refl U.vm) qK, qD, xStat.moved ad xTX (u := U) (U := U.calling g mk a) (Vm.Alike.refl U.vm) qZ, ⟨fun i r h => vk_R.same (u := U) rfl (qR.1 i r h), fun q h => va_Nw.same rfl (u := U) rfl (qR.2 q h)⟩, yWd.same (u := U) rfl qW⟩
/-- a constructor's run, from anywhere -/
theorem y_runI {p : Program} {e : Env} {Rr : Room} {s : State} {m : MethodId} {args : Array Value} {below : List Frame} {meth : Method} {c : Code} {Hc : Heap} {locs : List Loc} {lsC : Array Slot} {cs ss : Nat} {st : List Value} {ad : Nat → Nat → Nat} {y : MethodName} {b2 : ByteArray} {n2 kd ix i2 : Nat} {L2 : List (Nat × Nat)} {R2 : Room} {QH2 : HH → Prop} {A : Nat → Prop} {w1 : va_W}
    (hx : p.tables.exec = Jvm.exec) (hb : c.code = b) (hml : c.maxLocals = nL) (hown : s.vm.findClass own = some m.cls) (hts : ∀ w ∈ xtbl, w.before args s = true) (hK : va_K D xcl (xtys cid) s) (hZ : xStat ad xTX A s s.heap) (hrf : xRefs ad xRF s) (hwd : yWd s) (hA : ∀ q, s.heap.size ≤ q → A q)
    (hd : decode b pc = .ok (.invokespecial i2, 3)) (hM : Mk l cid D y b2 n2 kd ix L2 R2 QH2) (hy : yM y b2 n2) (hlk : ylk own i2 y) (hls : lsC.size = nL) (hroom : R2.frames + 1 ≤ Rr.frames ∧ 8 + (n2 + 11) + R2.locals ≤ Rr.locals) (hcs : cs + R2.cells ≤ Rr.cells ∧ ss + R2.slots ≤ Rr.slots) (hcat : (st.map fun v => v.category).sum ≤ 8)
    (hP : va_P D xcl (w1 ++ yw cid ad nB [(kd, ix)] zH) Hc) (hD : va_D A (w1 ++ yw cid ad nB [(kd, ix)] zH)) (hS : va_S A s.heap Hc locs) :
    va_Run p l e Rr s m args below meth c Hc locs cs ss R2.cells R2.slots (F0 m pc lsC (.ref (ad kd ix) :: st)) st (yQ cid D kd ix L2 QH2 ad (va_A (yw cid ad nB [(kd, ix)] zH) Hc.size) #[.ref (ad kd ix)]) (va_A (yw cid ad nB [(kd, ix)] zH) Hc.size) := by
  have hP2 : va_P D xcl (yw cid ad nB [(kd, ix)] zH) Hc := fun k q hk => hP (w1.length + k) q (by rw [List.getElem?_append_right (by omega), show w1.length + k - w1.length = k by omega]; exact hk)
  have hD2 : va_D A (yw cid ad nB [(kd, ix)] zH) := ⟨fun i j p q hp hq e => by
    have := hD.1 (w1.length + i) (w1.length + j) p q (by rw [List.getElem?_append_right (by omega), show w1.length + i - w1.length = i by omega]; exact hp) (by rw [List.getElem?_append_right (by omega), show w1.length + j - w1.length = j by omega]; exact hq) e
    omega, fun k q hk => hD.2 (w1.length + k) q (by rw [List.getElem?_append_right (by omega), show w1.length + k - w1.length = k by omega]; exact hk)⟩
  have hp : PreS s Hc (yPc cid D ad kd ix Hc.size) (.ref (ad kd ix) :: []) := ⟨yPc_blind, fun U hU hW => ⟨rfl, by rw [hU], by rw [hU]; exact hP2, va_K.moved hW.alike hK, hD2.weaken (fun _ _ _ _ => trivial), by
    rw [hU]
    refine ((hZ.kept ad xTX hS.2.1).moved ad xTX hW.alike).narrow ad xTX fun q h => ?_
    rcases h with ⟨k, e, h⟩ | h
    · exact hD2.2 k (q, e) h
    · exact hA q (Nat.le_trans hS.1 h), ⟨fun i r h => vk_R.warm hW (hrf.1 i r h), fun q h => va_Nw.warmM hW (hrf.2 q h)⟩, hwd.warm hW⟩⟩
  rcases hlk with hlk | hlk
  · exact va_runI (As := []) (rest := st) ⟨hx, hb, hml, hown, hts⟩ (hM ad Hc.size) (cwI 0 hts (xgood hy.1) rfl rfl rfl (hts _ hy.2.1) (hts _ hlk) (hts _ hy.2.2.1) hy.2.2.2.1 hy.2.2.2.2.1 hroom) hp rfl rfl hls rfl (lv_room hcat) hd hcs
  · exact va_runIN (host := "ThreePoints") (As := []) (rest := st) ⟨hx, hb, hml, hown, hts⟩ (hM ad Hc.size) ⟨va_cnB 0 hts (xgood hy.1) rfl rfl rfl (hwd.1 _ hlk) (hts _ hy.2.1) hy.2.2.2.2.1 hroom, hy.2.2.2.1, hts _ hy.2.2.1⟩ hp rfl rfl hls rfl (lv_room hcat) hd hcs
theorem y_ctor {y : MethodName} {b2 : ByteArray} {n2 ci N kd ix i1 i2 : Nat} {T : u_T} {R2 : Room} {L2 : List (Nat × Nat)} (ty0 : Nat → FieldType) (hd0 : decode b pc = .ok (.new i1, 3)) (hd1 : decode b (pc + 3) = .ok (.dup, 1)) (hd2 : decode b (pc + 3 + 1) = .ok (.invokespecial i2, 3))
    (hM : Mk l cid D y b2 n2 kd ix L2 R2 (fun H2 => ∀ q ∈ L2, H2 q.1 q.2 = HI q.1 q.2)) (hy : yM y b2 n2) (hylk : ylk own i2 y) (hcl : Cond.classLink own i1 y.cls ∈ xtbl) (hinst : Cond.instantiable y.cls N ∈ xtbl)
    (hsh : xsh kd = (0, ci, N)) (hc : xcl[ci]? = some (y.cls, T, N)) (hin : ∀ w ∈ u_ws y.cls T N, w ∈ xtbl) (hty : ∀ k, k < N → parseFieldDescriptor (T k).2.2.1 = some (ty0 k)) (hfs : ∀ j, j < N → defaultValue (ty0 j) = yz kd j)
    (hdis : ∀ q ∈ L2, q ∉ L) (hnd : L2.Nodup) (h60 : ∀ q ∈ L2, q.1 < 60) (hme : (kd, ix) ∈ L2) (h19 : ∀ i, HI 19 i 2 = 0)
    (hroom : R2.frames + 1 ≤ R.frames ∧ 8 + (n2 + 11) + R2.locals ≤ R.locals) (hcs : cells + 1 + R2.cells ≤ R.cells) (hss : slots + N + R2.slots ≤ R.slots) (hcat : (st.map xcat).sum ≤ 7)
    (k : Gc l cid D HI R own b nL kd0 ix0 Lf QH (pc + 7) ls (vr kd ix :: st) (L ++ L2) (oB B L2) H (cells + 1 + R2.cells) (slots + N + R2.slots)) : Gc l cid D HI R own b nL kd0 ix0 Lf QH pc ls st L B H cells slots := by
  intro ad0 ad h1 h2 h3 h4 p e s m args below meth c Hc locs lsC A hC ho hP hD hS hl
  obtain ⟨hx, hb, hml, hr, hown, hlk, hin2, hts, hK, hZ, hrf, hwd, hA⟩ := id hC
  have hni : (kd, ix) ∉ L := hdis _ hme
  have hk6 := h60 _ hme
  refine va_new (ty := ty0) (fs := yfs kd N) hx hb hts hin hty hown (hts _ hcl) (hts _ hinst) (hts _ hy.2.1) hK hP hD hS hA hc (fun j hj => by
    rw [hfs j hj]
    show yz kd j = ((List.range N).map (yz kd)).getD j .null
    simp [List.getD, hj]) (by omega) (by omega) hd0 (fun q H1 hP1 hD1 hS1 => ?_)
  have hL := adU_L (ad := ad) (q := q) hni
  have h6 := adU_60 (ad := ad) (it := ix) (q := q) hk6
  generalize ea : adU ad kd ix q = ad1 at hL h6
  have eq1 : ad1 kd ix = q := by rw [← ea]; exact if_pos ⟨rfl, rfl⟩
  have hC1 := yC_ad hC h6
  obtain ⟨-, -, -, -, -, -, -, -, -, hZ1, hrf1, -, -⟩ := id hC1
  have ew : yw cid ad B L H ++ [(q, Sum.inr (ci, yfs kd N))] = yw cid ad1 B L H ++ yw cid ad1 nB [(kd, ix)] zH := by
    rw [yw_ad h4 hL h6, yfs_cell (cid := cid) (ad := ad1) (ix := ix) hsh]
    show _ = _ ++ [(ad1 kd ix, _)]
    rw [eq1]; rfl
  rw [ew] at hP1 hD1
  have est : st.map (cv ad1) = st.map (cv ad) := st_ad hL h6 ho.2
  refine lv_dup hx hb hd1 rfl ?_
  have hrun := y_runI (st := .ref q :: st.map (cv ad)) (lsC := lsC) hx hb hml hown hts hK hZ1 hrf1 hwd hA hd2 hM hy hylk hl.1 hroom ⟨hcs, hss⟩ (by
    rw [List.map_cons, List.sum_cons, xcats]
    have : (Value.ref q).category = 1 := rfl
    omega) hP1 hD1 hS1 (Rr := R) (e := e) (p := p) (below := below) (meth := meth)
  have hF : ∀ z, va_A (yw cid ad1 nB [(kd, ix)] zH) H1.size z → A z := by
    rintro z (⟨j, e1, hj⟩ | hz)
    · exact hD1.2 ((yw cid ad1 B L H).length + j) (z, e1) (by rw [List.getElem?_append_right (by omega), show (yw cid ad1 B L H).length + j - (yw cid ad1 B L H).length = j by omega]; exact hj)
    · exact hA z (Nat.le_trans hS1.1 hz)
  intro T1 hT1 X
  rw [eq1] at hrun
  obtain ⟨v, st₀, t, T2, Lc, hst0, X2, hLc, e1, e2, ⟨ad2, H2, hv, ha1, ha2, hP2, hD2, ⟨hz, hk⟩, hQ2, hcs2⟩, stp⟩ := hrun T1 hT1 X
  rw [hst0] at hz hk
  obtain ⟨hP3, hD3⟩ := y_join hP1 hD1 hk hF hP2 hD2
  generalize e3 : (fun (a i : Nat) => if (a, i) ∈ L2 then ad2 a i else ad1 a i : Nat → Nat → Nat) = ad3
  have g1 : ∀ z ∈ L, ad3 z.1 z.2 = ad1 z.1 z.2 := fun z hz2 => by rw [← e3]; exact if_neg (fun w => hdis _ w hz2)
  have g2 : ∀ z ∈ L2, ad3 z.1 z.2 = ad2 z.1 z.2 := fun z hz2 => by rw [← e3]; exact if_pos hz2
  have g3 : ∀ z, 60 ≤ z → ad3 z = ad1 z := fun z hz2 => by
    rw [← e3]; funext i; exact if_neg (fun w => absurd (h60 _ w) (Nat.not_lt.mpr hz2))
  have g4 : ∀ z, 60 ≤ z → ad3 z = ad2 z := fun z hz2 => by rw [g3 z hz2, ha2 z hz2]
  have gL : ∀ z ∈ L, ad3 z.1 z.2 = ad z.1 z.2 := fun z hz2 => (g1 z hz2).trans (hL z hz2)
  have g6 : ∀ z, 60 ≤ z → ad3 z = ad z := fun z hz2 => (g3 z hz2).trans (h6 z hz2)
  have hBL : ∀ z ∈ L, oB B L2 z.1 z.2 = B z.1 z.2 := fun z hz2 => by
    funext y2
    show (B z.1 z.2 y2 || (decide ((z.1, z.2) ∈ L2) && decide (y2 < (xsh z.1).2.2))) = B z.1 z.2 y2
    rw [decide_eq_false (fun w => hdis _ w hz2)]
    simp
  have hB2 : ∀ z ∈ L2, oB B L2 z.1 z.2 = fB L2 z.1 z.2 := fun z hz2 => by
    funext y2
    show (B z.1 z.2 y2 || fB L2 z.1 z.2 y2) = fB L2 z.1 z.2 y2
    rw [show B z.1 z.2 y2 = false from congrFun (yn_of h4 (hdis z hz2)) y2]
    rfl
  have hz19 : ∀ i, xld 19 i 2 0 = vn := fun _ => rfl
  have ew1 : yw cid ad1 B L H = yw cid ad3 (oB B L2) L H := by
    rw [yw_ad h4 hL h6, ← yw_ad h4 gL g6]
    exact List.map_congr_left fun z hz2 => by rw [ycell_B (hBL z hz2)]
  have ew2 : yw cid ad2 (fB L2) L2 H2 = yw cid ad3 (oB B L2) L2 H := by
    refine List.map_congr_left fun z hz2 => ?_
    have hrow2 : H2 z.1 z.2 = H z.1 z.2 := (hQ2 z hz2).trans (h4.2.2.2.2 z.1 z.2 (hdis z hz2)).symm
    have hcy : ∀ k1, fB L2 z.1 z.2 k1 = true → (∀ t2, xsp z.1 k1 = some t2 → (t2.1, t2.2 z.2) ∈ L2) ∧ (3 ≤ (xsh z.1).1 → ((xra z.1).1, (xra z.1).2 z.2 k1) ∈ L2) := fun k1 hk1 => by
      have hk2 : k1 < (xsh z.1).2.2 := by
        have : (decide ((z.1, z.2) ∈ L2) && decide (k1 < (xsh z.1).2.2)) = true := hk1
        simp only [Bool.and_eq_true, decide_eq_true_eq] at this
        exact this.2
      rcases hcs2 z hz2 with w | w | w
      · exact ⟨fun t2 ht2 => absurd w (by intro w2; exact xsp_sh w2 ht2), fun w2 => absurd w2 (by rw [w]; decide)⟩
      · exact ⟨fun t2 ht2 => absurd w (by intro w2; exact xsp_sh2 w2 ht2), fun w2 => absurd w2 (by rw [w]; decide)⟩
      · exact w k1 hk2
    rw [g2 z hz2, hrow2, ycell_B (hB2 z hz2), ycell_ad (ad := ad2) (ad2 := ad3) (L := L2) (nT := xTX.length) g2 g4 hcy (fun w => by rw [h4.2.2.2.2 z.1 z.2 (hdis z hz2), w, h19 z.2, hz19]; exact trivial)]
  rw [ew1, ew2, ← yw_app] at hP3 hD3
  have hyc : ycl HI (L ++ L2) (oB B L2) H := by
    refine ⟨List.nodup_append.mpr ⟨h4.1, hnd, fun a ha c2 hc2 e4 => hdis _ hc2 (e4 ▸ ha)⟩, fun z hz2 => (List.mem_append.mp hz2).elim (h4.2.1 z) (h60 z), fun a i z hz2 => ?_, fun i hi => ?_, fun a i hn => h4.2.2.2.2 a i (fun z => hn (List.mem_append_left _ z))⟩
    · have hz3 : (B a i z || fB L2 a i z) = true := hz2
      rcases Bool.or_eq_true _ _ ▸ hz3 with w | w
      · obtain ⟨f1, f2, f3⟩ := h4.2.2.1 a i z w
        exact ⟨List.mem_append_left _ f1, fun t2 ht2 => List.mem_append_left _ (f2 t2 ht2), fun w2 => List.mem_append_left _ (f3 w2)⟩
      · have w3 : (decide ((a, i) ∈ L2) && decide (z < (xsh a).2.2)) = true := w
        simp only [Bool.and_eq_true, decide_eq_true_eq] at w3
        refine ⟨List.mem_append_right _ w3.1, ?_⟩
        rcases hcs2 (a, i) w3.1 with w4 | w4 | w4
        · exact ⟨fun t2 ht2 => absurd w4 (by intro w2; exact xsp_sh w2 ht2), fun w2 => absurd w2 (by rw [show (xsh a).1 = 1 from w4]; decide)⟩
        · exact ⟨fun t2 ht2 => absurd w4 (by intro w2; exact xsp_sh2 w2 ht2), fun w2 => absurd w2 (by rw [show (xsh a).1 = 2 from w4]; decide)⟩
        · exact ⟨fun t2 ht2 => List.mem_append_right _ ((w4 z w3.2).1 t2 ht2), fun w2 => List.mem_append_right _ ((w4 z w3.2).2 w2)⟩
    · rcases List.mem_append.mp hi with z | z
      · exact xok_mono (fun q hq => List.mem_append_left _ hq) (h4.2.2.2.1 i z)
      · rw [h4.2.2.2.2 19 i (hdis _ z), h19 i, hz19]; exact trivial
  have W1 := k ad0 ad3 ((gL _ h3).trans h1) (fun z hz2 => (g6 z hz2).trans (h2 z hz2)) (List.mem_append_left _ h3) hyc p e s m args below meth c T2.heap (locs ++ Lc) lsC A (yC_ad hC g6) ((xoks_mono (fun z hz2 => List.mem_append_left _ hz2) ho).push (Or.inl (List.mem_append_right _ hme))) (by rw [e1]; exact hP3) hD3
    ⟨Nat.le_trans hS1.1 (by rw [e1]; exact hz), fun z f1 f2 => by rw [e1, hk z (Nat.lt_of_lt_of_le f1 hS1.1) (fun w => f2 (hF z w))]; exact hS1.2.1 z f1 f2, fun z hz2 => by
      rcases List.mem_append.mp hz2 with w | w
      · exact hS1.2.2 z w
      · exact hF _ (hLc z w)⟩ (by rw [lcv_ad gL g6 ls 0 ho.1]; exact hl)
  obtain ⟨t2, a1, b1⟩ := W1 T2 rfl X2
  refine ⟨t2, stp t2 ?_, b1⟩
  cases hv
  rw [List.map_cons, st_ad gL g6 ho.2, show cv ad3 (vr kd ix) = .ref q from congrArg Value.ref (by rw [g2 _ hme]; exact ha1.trans eq1)] at a1
  exact a1
/-- all stands: only the layout's own order is wanted -/
theorem y_perm {L2 : List (Nat × Nat)} (hs : ∀ q ∈ L2, q ∈ L) (hs2 : ∀ q ∈ L, q ∈ L2) (hn : L2.Nodup) (hB : ∀ q ∈ L2, yfl B q) (hcl : ∀ q ∈ L2, ycs L2 q) (k : Gc l cid D HI R own b nL kd0 ix0 Lf QH pc ls st L2 (fB L2) H cells slots) : Gc l cid D HI R own b nL kd0 ix0 Lf QH pc ls st L B H cells slots := by
  intro ad0 ad h1 h2 h3 h4 p e s m args below meth c Hc locs lsC A hC ho hP hD hS hl
  refine k ad0 ad h1 h2 (hs2 _ h3) ⟨hn, fun q hq => h4.2.1 q (hs q hq), fun a i z hz => ?_, fun i hi => xok_mono hs2 (h4.2.2.2.1 i (hs _ hi)), fun a i hni => h4.2.2.2.2 a i (fun z => hni (hs2 _ z))⟩ p e s m args below meth c Hc locs lsC A hC (xoks_mono hs2 ho) (x_yw (y_xw hP hs hB) (fun q hq => fB_fl hq)) (mD hD hn hs) hS hl
  have w3 : (decide ((a, i) ∈ L2) && decide (z < (xsh a).2.2)) = true := hz
  simp only [Bool.and_eq_true, decide_eq_true_eq] at w3
  refine ⟨w3.1, ?_⟩
  rcases hcl (a, i) w3.1 with w4 | w4 | w4
  · exact ⟨fun t2 ht2 => absurd w4 (by intro w2; exact xsp_sh w2 ht2), fun w2 => absurd w2 (by rw [show (xsh a).1 = 1 from w4]; decide)⟩
  · exact ⟨fun t2 ht2 => absurd w4 (by intro w2; exact xsp_sh2 w2 ht2), fun w2 => absurd w2 (by rw [show (xsh a).1 = 2 from w4]; decide)⟩
  · exact ⟨fun t2 ht2 => (w4 z w3.2).1 t2 ht2, fun w2 => (w4 z w3.2).2 w2⟩
theorem y_callV {y : MethodName} {b2 : ByteArray} {n2 n ci N kd ix index d : Nat} {r2 : Option FieldType} {T : u_T} {vs : List AV} {st0 : List AV} {Q2 : AV → HH → Prop} (hd : decode b pc = .ok (.invokevirtual index, 3)) (hM : xM y b2 n2 r2 n) (hlink : Cond.methodLink own index y ∈ xtbl) (hinst : Cond.instanceMethod y ∈ xtbl) (hsel : Cond.selects y.cls y y ∈ xtbl)
    (h60 : kd < 60) (hsh : xsh kd = (0, ci, N)) (hc : xcl[ci]? = some (y.cls, T, N)) (hlen : vs.length = n) (hst : st0 = vs.reverse ++ vr kd ix :: st) (hcat : (st.map xcat).sum ≤ 8) (hsum : ((vr kd ix :: vs).map xcat).sum ≤ n2) (hcl : xclo L xTX.length) (hroom : d + 1 ≤ R.frames ∧ 40 + d * 64 ≤ R.locals) (hcs : cells ≤ R.cells ∧ slots ≤ R.slots)
    (h : ∀ ad : Nat → Nat → Nat, Gp l cid D ad xTX xRF L d y.cls b2 n2 r2 0 (xent (vr kd ix :: vs)) [] H Q2) (kk : ∀ v H', Q2 v H' → Gc l cid D HI R own b nL kd0 ix0 Lf QH (pc + 3) ls (xpu r2 v st) L (fB L) (H') cells slots) : Gc l cid D HI R own b nL kd0 ix0 Lf QH pc ls st0 L (fB L) H cells slots := by
  subst hst
  intro ad0 ad h1 h2 h3 h4 p e s m args below meth c Hc locs lsC A hC ho hP hD hS hl
  obtain ⟨hx, hb, hml, hr, hown, hlk, hin2, hts, hK, hZ, hrf, hwd, hA⟩ := id hC
  have hP' := y_xw hP (fun _ q => q) (fun q hq => fB_fl hq)
  have hD' : va_D A (xw cid ad L H) := mD hD h4.1 (fun _ q => q)
  have hov : xok L xTX.length (vr kd ix) := ho.2 _ (by simp)
  obtain ⟨q0, hq, hw⟩ := xw_at (cid := cid) (ad := ad) (H := H) (xok_in hov h60)
  rw [xcell_o hsh] at hw
  have hmet := xmet (sz := Hc.size) (y := y) (vs := vr kd ix :: vs) hcl hM.2.2.1 (h ad) (fun v hv => by
    rcases List.mem_cons.mp hv with rfl | hv
    · exact hov
    · exact ho.2 _ (by simp [hv])) hsum
  have hrun := va_runV (C := y.cls) (As := vs.map (cv ad)) (rest := st.map (cv ad)) (b := ad kd ix) (g := F0 m pc lsC ((vs.reverse ++ vr kd ix :: st).map (cv ad))) (H := Hc) (locs := locs) (cells := cells) (slots := slots) (p := p) (e := e) (R := R) (below := below) (meth := meth) (index := index) ⟨hx, hb, hml, hown, hts⟩ hmet
    ⟨callB_of n hts (xgood hM.1) rfl rfl rfl (hts _ hM.2.1) (hts _ hlink) hM.2.2.2.1 (by have := hM.2.2.2.2; simp only [xrm]; omega), hts _ hinst, hts _ hsel⟩
    ⟨xblind, va_recv hK hP' hc hw, xprec hK hP' hD' hZ hrf hS hA⟩ rfl (by simpa using hlen) hl.1 (by simp [cv]) (by rw [xcats]; exact (by simpa [JFrame.monitorRoom] using hcat)) hd hcs
  have hA1 : ∀ q, va_A (xw cid ad L H) Hc.size q → A q := by
    intro q h
    rcases h with ⟨k, e, h⟩ | h
    · exact hD'.2 k (q, e) h
    · exact hA q (Nat.le_trans hS.1 h)
  intro T1 hT X
  obtain ⟨v, st₀, t, T', L', hst0, X', hL, e1, e2, ⟨v', H', hv, hok, hq, hP1, ⟨hz, hk⟩, hag⟩, stp⟩ := hrun T1 hT X
  rw [hst0] at hz hk
  have W1 := kk v' H' hq ad0 ad h1 h2 h3 ⟨h4.1, h4.2.1, h4.2.2.1, fun i hi => hcl.2.2.1 (19, i) hi 2 _, fun a i hn => (congrFun (congrFun (funext fun a => funext fun i => rfl : (fun a i => H' a i) = fun a i => H' a i) a) i).trans ((hag a i hn).trans (h4.2.2.2.2 a i hn))⟩ p e s m args below meth c T'.heap (locs ++ L') lsC A hC
    (by
      have ho2 : xoks L xTX.length ls st := ⟨ho.1, fun v hv => ho.2 v (by simp [hv])⟩
      cases r2 with
      | none => exact ho2
      | some _ => exact ho2.push hok)
    (by rw [e1]; exact x_yw hP1 (fun q hq => fB_fl hq)) (mD hD' h4.1 (fun _ q => q))
    ⟨Nat.le_trans hS.1 (by rw [e1]; exact hz), fun q h1 h2 => by rw [e1, hk q (Nat.lt_of_lt_of_le h1 hS.1) (fun z => h2 (hA1 q z))]; exact hS.2.1 q h1 h2, fun q hq => by
      rcases List.mem_append.mp hq with h | h
      · exact hS.2.2 q h
      · exact hA1 _ (hL q h)⟩ hl
  obtain ⟨t2, a1, b1⟩ := W1 T' rfl X'
  refine ⟨t2, stp t2 ?_, b1⟩
  have hst : v.toList ++ st.map (cv ad) = (xpu r2 v' st).map (cv ad) := by
    cases r2 with
    | none => cases hv; rfl
    | some _ => cases hv; rfl
  show Steps p.tables e below (T'.setTop { method := m, pc := pc + 3, locals := lsC, stack := v.toList ++ st.map (cv ad), locked := none }) t2
  rw [hst]
  exact a1
-- a row that is filled
def psz (b : ByteArray) (pc : Nat) (v : Int32) : Nat := match decode b pc with
  | .ok (.iconst z, 1) => if Int32.ofInt z = v then 1 else 0
  | .ok (.bipush z, 2) => if (Int8.ofInt z).toInt32 = v then 2 else 0
  | .ok (.sipush z, 3) => if (Int16.ofInt z).toInt32 = v then 3 else 0
  | _ => 0
theorem psz_of {b : ByteArray} {pc : Nat} {v : Int32} (h : psz b pc v ≠ 0) : ypush b pc v (psz b pc v) := by
  unfold psz at h ⊢
  split at h
  · rename_i z hz
    by_cases c : Int32.ofInt z = v
    · exact Or.inl ⟨z, hz, c, if_pos c⟩
    · exact absurd (if_neg c) h
  · rename_i z hz
    by_cases c : (Int8.ofInt z).toInt32 = v
    · exact Or.inr (Or.inl ⟨z, hz, c, if_pos c⟩)
    · exact absurd (if_neg c) h
  · rename_i z hz
    by_cases c : (Int16.ofInt z).toInt32 = v
    · exact Or.inr (Or.inr ⟨z, hz, c, if_pos c⟩)
    · exact absurd (if_neg c) h
  · exact absurd rfl h
def isI (b : ByteArray) (pc : Nat) (d : Bool) : Bool := match decode b pc with
  | .ok (.dup, 1) => d
  | .ok (.iastore, 1) => !d
  | _ => false
theorem isI_dup {b : ByteArray} {pc : Nat} (h : isI b pc true = true) : decode b pc = .ok (.dup, 1) := by
  unfold isI at h
  split at h
  · assumption
  · cases h
  · cases h
theorem isI_ias {b : ByteArray} {pc : Nat} (h : isI b pc false = true) : decode b pc = .ok (.iastore, 1) := by
  unfold isI at h
  split at h
  · cases h
  · assumption
  · cases h
def fillOK (b : ByteArray) : Nat → List Int32 → Nat → Nat → Bool
  | _, [], pc, e => Nat.beq pc e
  | j, v :: r, pc, e => isI b pc true && (!Nat.beq (psz b (pc + 1) (nI j)) 0 && (!Nat.beq (psz b (pc + 1 + psz b (pc + 1) (nI j)) v) 0 && (isI b (pc + 1 + psz b (pc + 1) (nI j) + psz b (pc + 1 + psz b (pc + 1) (nI j)) v) false && fillOK b (j + 1) r (pc + 1 + psz b (pc + 1) (nI j) + psz b (pc + 1 + psz b (pc + 1) (nI j)) v + 1) e)))
def fillF : Nat → List Int32 → (Nat → Int32) → Nat → Int32
  | _, [], f => f
  | j, v :: r, f => fillF (j + 1) r (upd f j v)
theorem fillF_get : ∀ (xs : List Int32) (j : Nat) (f : Nat → Int32) (k : Nat), fillF j xs f k = if j ≤ k ∧ k < j + xs.length then xs.getD (k - j) 0 else f k := by
  intro xs
  induction xs with
  | nil => intro j f k; exact (if_neg (by simp only [List.length_nil]; omega)).symm
  | cons v r ih =>
    intro j f k
    show fillF (j + 1) r (upd f j v) k = _
    rw [ih]
    by_cases c : k = j
    · subst c
      rw [if_neg (by omega), if_pos (by simp only [List.length_cons]; omega)]
      simp [upd]
    · by_cases c2 : j + 1 ≤ k ∧ k < j + 1 + r.length
      · rw [if_pos c2, if_pos (by simp only [List.length_cons]; omega)]
        obtain ⟨d, hd⟩ : ∃ d, k - j = d + 1 := ⟨k - j - 1, by omega⟩
        rw [hd, show k - (j + 1) = d by omega]
        rfl
      · rw [if_neg c2, if_neg (by simp only [List.length_cons]; omega)]
        show (if k = j then v else f k) = f k
        exact if_neg c
theorem y_fill {kt it N a pe : Nat} (hk6 : kt < 60) (h19 : kt ≠ 19) (hsh : xsh kt = (1, a, N)) (hN : N < 2147483648) : ∀ (xs : List Int32) (j pc : Nat) (H : HH), fillOK b j xs pc pe = true → j + xs.length ≤ N → Gc l cid D HI R own b nL kd0 ix0 Lf QH pe ls (vr kt it :: st) L B (hrow H kt it (fillF j xs (H kt it))) cells slots → Gc l cid D HI R own b nL kd0 ix0 Lf QH pc ls (vr kt it :: st) L B H cells slots := by
  intro xs
  induction xs with
  | nil =>
    intro j pc H h _ k
    have e : pc = pe := Nat.eq_of_beq_eq_true h
    subst e
    have : hrow H kt it (fillF j [] (H kt it)) = H := hrow_same H kt it
    rw [this] at k
    exact k
  | cons v r ih =>
    intro j pc H h hlen k
    rw [List.length_cons] at hlen
    have h0 : (isI b pc true && (!Nat.beq (psz b (pc + 1) (nI j)) 0 && (!Nat.beq (psz b (pc + 1 + psz b (pc + 1) (nI j)) v) 0 && (isI b (pc + 1 + psz b (pc + 1) (nI j) + psz b (pc + 1 + psz b (pc + 1) (nI j)) v) false && fillOK b (j + 1) r (pc + 1 + psz b (pc + 1) (nI j) + psz b (pc + 1 + psz b (pc + 1) (nI j)) v + 1) pe)))) = true := h
    simp only [Bool.and_eq_true, Bool.not_eq_true'] at h0
    obtain ⟨q1, q2, q3, q4, q5⟩ := h0
    refine y_dup (isI_dup q1) ?_
    refine y_push (psz_of (fun z => by rw [z] at q2; cases q2)) ?_
    refine y_push (psz_of (fun z => by rw [z] at q3; cases q3)) ?_
    refine y_iast (isI_ias q4) hk6 h19 hsh (vp_in_nI (by omega) (by omega)) ?_
    rw [nI_clamp (by omega)]
    refine ih (j + 1) _ _ q5 (by omega) ?_
    have e : hrow (hu H kt it j v) kt it (fillF (j + 1) r ((hu H kt it j v) kt it)) = hrow H kt it (fillF j (v :: r) (H kt it)) := by
      have e1 : (hu H kt it j v) kt it = upd (H kt it) j v := by rw [← hrow_upd, hrow_at]
      rw [e1]
      funext x y
      show (if x = kt ∧ y = it then fillF (j + 1) r (upd (H kt it) j v) else hu H kt it j v x y) = if x = kt ∧ y = it then fillF j (v :: r) (H kt it) else H x y
      by_cases c : x = kt ∧ y = it
      · rw [if_pos c, if_pos c]; rfl
      · rw [if_neg c, if_neg c]
        funext z
        exact if_neg (fun w => c ⟨w.1, w.2.1⟩)
    rw [e]
    exact k
end YCA
