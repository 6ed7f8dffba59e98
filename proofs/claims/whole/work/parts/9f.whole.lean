/-! THE LAW 5: its start. Printed by wip/gen/gen9f.py. -/
set_option maxRecDepth 20000 in
theorem cw_84 : Cond.classLink "ThreePointsLaw" 7 "ThreePoints" ∈ xtbl := xtbl_at 84 (by decide +kernel) (by decide +kernel)
set_option maxRecDepth 20000 in
theorem cw_85 : Cond.instantiable "ThreePoints" 9 ∈ xtbl := xtbl_at 85 (by decide +kernel) (by decide +kernel)
set_option maxRecDepth 20000 in
theorem cw_86 : Cond.methodLink "ThreePointsLaw" 9 ⟨"ThreePoints", "<init>", "()V"⟩ ∈ xtbl := xtbl_at 86 (by decide +kernel) (by decide +kernel)
set_option maxRecDepth 20000 in
theorem cw_973 : Cond.classLink "ThreePointsLaw" 10 "ThreePointsModel" ∈ xtbl := xtbl_at 973 (by decide +kernel) (by decide +kernel)
set_option maxRecDepth 20000 in
theorem cw_974 : Cond.instantiable "ThreePointsModel" 39 ∈ xtbl := xtbl_at 974 (by decide +kernel) (by decide +kernel)
set_option maxRecDepth 20000 in
theorem cw_975 : Cond.methodLink "ThreePointsLaw" 12 ⟨"ThreePointsModel", "<init>", "()V"⟩ ∈ xtbl := xtbl_at 975 (by decide +kernel) (by decide +kernel)
theorem xStat_ad {ad ad2 : Nat → Nat → Nat} {A : Nat → Prop} {U : State} {H : Heap} (h60 : ∀ k, 60 ≤ k → ad2 k = ad k) (h : xStat ad xTX A U H) : xStat ad2 xTX A U H := by
  unfold xStat at h ⊢
  rw [h60 60 (by decide), h60 61 (by decide), h60 62 (by decide), h60 63 (by decide), h60 64 (by decide), h60 65 (by decide)]
  exact h
theorem xRefs_ad {ad ad2 : Nat → Nat → Nat} {U : State} (h60 : ∀ k, 60 ≤ k → ad2 k = ad k) (h : xRefs ad xRF U) : xRefs ad2 xRF U := by
  unfold xRefs at h ⊢
  rw [h60 60 (by decide)]
  exact h
theorem D_fst {A : Nat → Prop} {w1 w2 : va_W} (h : va_D A w1) (e : w2.map Prod.fst = w1.map Prod.fst) : va_D A w2 := by
  have aux : ∀ (k : Nat) (q : Nat × va_E), w2[k]? = some q → ∃ q1 : Nat × va_E, w1[k]? = some q1 ∧ q1.1 = q.1 := by
    intro k q hk
    have h1 : (w2.map Prod.fst)[k]? = some q.1 := by rw [List.getElem?_map, hk]; rfl
    rw [e, List.getElem?_map] at h1
    cases h2 : w1[k]? with
    | none => rw [h2] at h1; cases h1
    | some q1 => rw [h2] at h1; exact ⟨q1, rfl, Option.some.inj h1⟩
  refine ⟨fun i j p q hp hq e2 => ?_, fun k q hk => ?_⟩
  · obtain ⟨p1, a1, a2⟩ := aux i p hp
    obtain ⟨q1, b1, b2⟩ := aux j q hq
    exact h.1 i j p1 q1 a1 b1 (by rw [a2, b2]; exact e2)
  · obtain ⟨q1, b1, b2⟩ := aux k q hk
    rw [← b2]
    exact h.2 k q1 b1
theorem xw_fst {cid : Nat → ClassId} {ad : Nat → Nat → Nat} {L : List (Nat × Nat)} {H : HH} : (xw cid ad L H).map Prod.fst = L.map fun q => ad q.1 q.2 := by
  unfold xw
  rw [List.map_map]
  rfl
theorem yw_fst {cid : Nat → ClassId} {ad : Nat → Nat → Nat} {B : YB} {L : List (Nat × Nat)} {H : HH} : (yw cid ad B L H).map Prod.fst = L.map fun q => ad q.1 q.2 := by
  unfold yw
  rw [List.map_map]
  rfl
section LCT
variable {p : Program} {l : Launch} {e : Env} {s : State} {m : MethodId} {args : Array Value} {below : List Frame} {meth : Method} {c : Code} {cid : Nat → ClassId} {D : va_G} {ad : Nat → Nat → Nat}
/-- the law makes one of the two -/
theorem lw_ctor {w1 : va_W} {y : MethodName} {b2 : ByteArray} {n2 kd ci N i1 i2 pc cells slots : Nat} {T : u_T} {R2 : Room} {L2 : List (Nat × Nat)} {QH2 : HH → Prop} {lsC : Array Slot} {Hc : Heap} {locs : List Loc} {Z : State → Prop} (ty0 : Nat → FieldType)
    (hx : p.tables.exec = Jvm.exec) (hb : c.code = code) (hml : c.maxLocals = 4) (hown : s.vm.findClass "ThreePointsLaw" = some m.cls) (hts : ∀ w ∈ xtbl, w.before args s = true) (hK : va_K D xcl (xtys cid) s) (hZ : xStat ad xTX (lwA s) s s.heap) (hrf : xRefs ad xRF s) (hwd : yWd s)
    (hd0 : decode code pc = .ok (.new i1, 3)) (hd1 : decode code (pc + 3) = .ok (.dup, 1)) (hd2 : decode code (pc + 3 + 1) = .ok (.invokespecial i2, 3))
    (hM : Mk l cid D y b2 n2 kd 0 L2 R2 QH2) (hy : yM y b2 n2) (hlk : Cond.methodLink "ThreePointsLaw" i2 y ∈ xtbl) (hcl : Cond.classLink "ThreePointsLaw" i1 y.cls ∈ xtbl) (hinst : Cond.instantiable y.cls N ∈ xtbl)
    (hsh : xsh kd = (0, ci, N)) (hc : xcl[ci]? = some (y.cls, T, N)) (hin : ∀ w ∈ u_ws y.cls T N, w ∈ xtbl) (hty : ∀ k, k < N → parseFieldDescriptor (T k).2.2.1 = some (ty0 k)) (hfs : ∀ j, j < N → defaultValue (ty0 j) = yz kd j) (hk6 : kd < 60)
    (hroom : R2.frames + 1 ≤ room_1.frames ∧ 8 + (n2 + 11) + R2.locals ≤ room_1.locals) (hcs : cells + 1 + R2.cells ≤ room_1.cells) (hss : slots + N + R2.slots ≤ room_1.slots) (hls : lsC.size = 4)
    (hP : va_P D xcl w1 Hc) (hD : va_D (lwA s) w1) (hS : va_S (lwA s) s.heap Hc locs)
    (kk : ∀ (ad2 : Nat → Nat → Nat) (H2 : HH) (Hc2 : Heap) (locs2 : List Loc), (∀ k, 60 ≤ k → ad2 k = ad k) → QH2 H2 → va_P D xcl (w1 ++ xw cid ad2 L2 H2) Hc2 → va_D (lwA s) (w1 ++ xw cid ad2 L2 H2) → va_S (lwA s) s.heap Hc2 locs2 → W p l e room_1 s m args below meth c Hc2 locs2 (cells + 1 + R2.cells) (slots + N + R2.slots) Z (F0 m (pc + 7) lsC [.ref (ad2 kd 0)])) :
    W p l e room_1 s m args below meth c Hc locs cells slots Z (F0 m pc lsC []) := by
  refine va_new (ty := ty0) (fs := yfs kd N) hx hb hts hin hty hown (hts _ hcl) (hts _ hinst) (hts _ hy.2.1) hK hP hD hS (fun _ h => h) hc (fun j hj => by
    rw [hfs j hj]
    show yz kd j = ((List.range N).map (yz kd)).getD j .null
    simp [List.getD, hj]) (by omega) (by omega) hd0 (fun q H1 hP1 hD1 hS1 => ?_)
  have h6 := adU_60 (ad := ad) (it := 0) (q := q) hk6
  generalize ea : adU ad kd 0 q = ad1 at h6
  have eq1 : ad1 kd 0 = q := by rw [← ea]; exact if_pos ⟨rfl, rfl⟩
  have ew : w1 ++ [(q, Sum.inr (ci, yfs kd N))] = w1 ++ yw cid ad1 nB [(kd, 0)] zH := by
    rw [yfs_cell (cid := cid) (ad := ad1) (ix := 0) hsh]
    show _ = _ ++ [(ad1 kd 0, _)]
    rw [eq1]; rfl
  rw [ew] at hP1 hD1
  refine lv_dup hx hb hd1 rfl ?_
  have hrun := y_runI (own := "ThreePointsLaw") (nL := 4) (st := [.ref q]) (lsC := lsC) (A := lwA s) hx hb hml hown hts hK (xStat_ad h6 hZ) (xRefs_ad h6 hrf) hwd (fun _ h => h) hd2 hM hy (Or.inl hlk) hls hroom ⟨hcs, hss⟩ (by show 1 + 0 ≤ 8; decide) hP1 hD1 hS1 (Rr := room_1) (e := e) (p := p) (below := below) (meth := meth)
  have hF : ∀ z, va_A (yw cid ad1 nB [(kd, 0)] zH) H1.size z → lwA s z := by
    rintro z (⟨j, e1, hj⟩ | hz)
    · exact hD1.2 (w1.length + j) (z, e1) (by rw [List.getElem?_append_right (by omega), show w1.length + j - w1.length = j by omega]; exact hj)
    · exact Nat.le_trans hS1.1 hz
  intro T1 hT1 X
  rw [eq1] at hrun
  obtain ⟨v, st₀, t, T2, Lc, hst0, X2, hLc, e1, e2, ⟨ad2, H2, hv, ha1, ha2, hP2, hD2, ⟨hz, hk⟩, hQ2, hcs2⟩, stp⟩ := hrun T1 hT1 X
  rw [hst0] at hz hk
  obtain ⟨hP3, hD3⟩ := y_join hP1 hD1 hk hF hP2 hD2
  have hP4 : va_P D xcl (w1 ++ xw cid ad2 L2 H2) t.heap := va_P.app (fun k q2 hk2 => hP3 k q2 (by rw [List.getElem?_append_left (List.getElem?_eq_some_iff.mp hk2).1]; exact hk2)) (y_xw hP2 (fun _ z => z) (fun q2 hq2 => fB_fl hq2))
  have hD4 : va_D (lwA s) (w1 ++ xw cid ad2 L2 H2) := D_fst hD3 (by rw [List.map_append, List.map_append, xw_fst, yw_fst])
  have W1 := kk ad2 H2 T2.heap (locs ++ Lc) (fun k hk2 => (ha2 k hk2).trans (h6 k hk2)) hQ2 (by rw [e1]; exact hP4) hD4
    ⟨Nat.le_trans hS1.1 (by rw [e1]; exact hz), fun z f1 f2 => by rw [e1, hk z (Nat.lt_of_lt_of_le f1 hS1.1) (fun w => f2 (hF z w))]; exact hS1.2.1 z f1 f2, fun z hz2 => by
      rcases List.mem_append.mp hz2 with w | w
      · exact hS1.2.2 z w
      · exact hF _ (hLc z w)⟩
  obtain ⟨t2, a1, b1⟩ := W1 T2 rfl X2
  refine ⟨t2, stp t2 ?_, b1⟩
  cases hv
  rw [ha1, eq1] at a1
  exact a1
end LCT
theorem xcell_adP {cid : Nat → ClassId} {ad ad1 : Nat → Nat → Nat} {L : List (Nat × Nat)} {nT : Nat} {P : Nat → Prop} {kd ix : Nat} {f : Nat → Int32} (hP : ∀ k, P k → ad k = ad1 k) (h60 : ∀ k, 60 ≤ k → P k) (hL : ∀ q ∈ L, P q.1) (hcl : xclo L nT) (hin : (kd, ix) ∈ L) (hr : 3 ≤ (xsh kd).1 → P (xra kd).1) : xcell cid ad kd ix f = xcell cid ad1 kd ix f := by
  rcases hx : xsh kd with ⟨t, ci, n⟩
  rcases t with _ | _ | _ | t
  · rw [xcell_o hx, xcell_o hx]
    refine congrArg (fun z => (Sum.inr (ci, z) : va_E)) (List.map_congr_left fun k _ => ?_)
    have hok := hcl.2.2.1 (kd, ix) hin k (f k)
    have hok : xok L nT (xld kd ix k (f k)) := hok
    generalize xld kd ix k (f k) = v at hok
    rcases v with x | x | _ | ⟨k2, i2⟩
    · rfl
    · rfl
    · rfl
    · show Value.ref (ad k2 i2) = Value.ref (ad1 k2 i2)
      rcases hok with h | h | h
      · rw [hP k2 (hL _ h)]
      · rw [hP k2 (h60 k2 h.1)]
      · rw [hP k2 (h60 k2 (Nat.le_trans (by decide) h.1))]
  · rw [xcell_i hx, xcell_i hx]
  · rw [xcell_z hx, xcell_z hx]
  · rw [xcell_q hx, xcell_q hx, hP (xra kd).1 (hr (by rw [hx]; exact Nat.le_add_left 3 t))]
theorem mg_LC {cid : Nat → ClassId} {ad1 ad2 : Nat → Nat → Nat} {H1 H2 : HH} (h6 : ∀ k, 60 ≤ k → ad2 k = ad1 k) : xw cid (fun k => if k < 30 then ad1 k else ad2 k) xLC (mgH H1 H2) = xw cid ad1 xLC H1 := by
  have hlt : ∀ q ∈ xLC, q.1 < 30 := by decide +kernel
  have hra : ∀ q ∈ xLC, 3 ≤ (xsh q.1).1 → (xra q.1).1 < 30 := by decide +kernel
  refine List.map_congr_left fun q hq => ?_
  have e1 : mgH H1 H2 q.1 = H1 q.1 := mgH_lo (hlt q hq)
  rw [e1]
  have e2 : (if q.1 < 30 then ad1 q.1 else ad2 q.1) = ad1 q.1 := if_pos (hlt q hq)
  rw [xcell_adP (ad1 := ad1) (L := xLC) (nT := xTX.length) (P := fun k => k < 30 ∨ 60 ≤ k) (fun k hk => by
    rcases hk with z | z
    · exact if_pos z
    · exact (if_neg (by omega)).trans (h6 k z)) (fun k hk => Or.inr hk) (fun q2 hq2 => Or.inl (hlt q2 hq2)) xclo_LC hq (fun z => Or.inl (hra q hq z))]
  exact congrArg (fun z : Nat → Nat => (z q.2, xcell cid ad1 q.1 q.2 (H1 q.1 q.2))) e2
theorem mg_LM {cid : Nat → ClassId} {ad1 ad2 : Nat → Nat → Nat} {H1 H2 : HH} : xw cid (fun k => if k < 30 then ad1 k else ad2 k) xLM (mgH H1 H2) = xw cid ad2 xLM H2 := by
  have hge : ∀ q ∈ xLM, 30 ≤ q.1 := by decide +kernel
  have hra : ∀ q ∈ xLM, 3 ≤ (xsh q.1).1 → 30 ≤ (xra q.1).1 := by decide +kernel
  refine List.map_congr_left fun q hq => ?_
  have e1 : mgH H1 H2 q.1 = H2 q.1 := mgH_hi (hge q hq)
  rw [e1]
  have e2 : (if q.1 < 30 then ad1 q.1 else ad2 q.1) = ad2 q.1 := if_neg (Nat.not_lt.mpr (hge q hq))
  rw [xcell_adP (ad1 := ad2) (L := xLM) (nT := xTX.length) (P := fun k => 30 ≤ k) (fun k hk => if_neg (Nat.not_lt.mpr hk)) (fun k hk => Nat.le_trans (by decide) hk) (fun q2 hq2 => hge q2 hq2) xclo_LM hq (fun z => hra q hq z)]
  exact congrArg (fun z : Nat → Nat => (z q.2, xcell cid ad2 q.1 q.2 (H2 q.1 q.2))) e2
theorem dl_0 : decode code 0 = .ok (.new 7, 3) := by decide +kernel
theorem dl_3 : decode code 3 = .ok (.dup, 1) := by decide +kernel
theorem dl_4 : decode code 4 = .ok (.invokespecial 9, 3) := by decide +kernel
theorem dl_7 : decode code 7 = .ok (.astore_n 1, 1) := by decide +kernel
theorem dl_8 : decode code 8 = .ok (.new 10, 3) := by decide +kernel
theorem dl_11 : decode code 11 = .ok (.dup, 1) := by decide +kernel
theorem dl_12 : decode code 12 = .ok (.invokespecial 12, 3) := by decide +kernel
theorem dl_15 : decode code 15 = .ok (.astore_n 2, 1) := by decide +kernel
theorem dl_16 : decode code 16 = .ok (.iconst 0, 1) := by decide +kernel
theorem dl_17 : decode code 17 = .ok (.istore_n 3, 1) := by decide +kernel
set_option maxHeartbeats 8000000 in
set_option maxRecDepth 20000 in
theorem whole_start {p : Program} {e : Env} {s : State} {m : MethodId} {below : List Frame} {meth : Method} {c : Code} (l : Launch) (_hflags : l.flags = flags0) {b L : Nat} {xs : Nat → Int32} (hL : L ≤ 3584) (C0 : lw_At p s m meth c b L xs) : W p l e room_1 s m #[Value.ref b] below meth c s.heap [] 0 0 (lw_Z below #[Value.ref b] s) (entryFrame m ([Value.ref b] : List Value).toArray 4) := by
  obtain ⟨hx, hb, hr, hml, hown, hts, hX, hbl, hlocks, hgv⟩ := id C0
  have htx : ∀ w ∈ xtbl, w.before #[Value.ref b] s = true := fun w h => hts w (xtbl_in h)
  obtain ⟨ad0, hZ, hrf, hwd⟩ := st_stat hts hgv
  obtain ⟨cid, D, hK⟩ := st_known hts
  have hS : va_S (lwA s) s.heap s.heap [] := va_S.rf
  have hP : va_P D xcl [] s.heap := fun k q h => by simp at h
  have hD : va_D (lwA s) [] := ⟨fun i j p q h => by simp at h, fun k q h => by simp at h⟩
  have hl := lv_entry ([.ref b]) (n := 4) (Nat.le_of_ble_eq_true rfl)
  rw [lg_entry_eq]
  generalize (lg_sl ([.ref b]) ++ List.replicate (4 - (lg_sl ([.ref b])).length) Slot.unset).toArray = ls at hl ⊢
  have hl : lv_has ls 4 [(0, .ref b)] := hl
  refine lw_ctor xy_Main hx hb hml hown htx hK hZ hrf hwd dl_0 dl_3 dl_4 (k_Main_0 l cid D) ym_Main cw_86 cw_84 cw_85 rfl rfl xi_Main xy_Main_ok yf_Main (by decide) ⟨Nat.le_of_ble_eq_true rfl, Nat.le_of_ble_eq_true rfl⟩ (Nat.le_of_ble_eq_true rfl) (Nat.le_of_ble_eq_true rfl) hl.1 hP hD hS (fun ad1 H1 Hc1 locs1 h61 hQ1 hP1 hD1 hS1 => ?_)
  refine lv_astore_n (lv' := [(1, .ref (ad1 0 0)), (0, .ref b)]) hx hb dl_7 rfl hl (by decide) rfl (fun ls hl => ?_)
  refine lw_ctor xy_Model hx hb hml hown htx hK (xStat_ad h61 hZ) (xRefs_ad h61 hrf) hwd dl_8 dl_11 dl_12 (k_Model_0 l cid D) ym_Model cw_975 cw_973 cw_974 rfl rfl xi_Model xy_Model_ok yf_Model (by decide) ⟨Nat.le_of_ble_eq_true rfl, Nat.le_of_ble_eq_true rfl⟩ (Nat.le_of_ble_eq_true rfl) (Nat.le_of_ble_eq_true rfl) hl.1 hP1 hD1 hS1 (fun ad2 H2 Hc2 locs2 h62 hQ2 hP2 hD2 hS2 => ?_)
  refine lv_astore_n (lv' := [(2, .ref (ad2 30 0)), (1, .ref (ad1 0 0)), (0, .ref b)]) hx hb dl_15 rfl hl (by decide) rfl (fun ls hl => ?_)
  refine lv_iconst (v := 0) hx hb dl_16 (by decide) ?_
  refine lv_istore_n (lv' := [(3, .int 0), (2, .ref (ad2 30 0)), (1, .ref (ad1 0 0)), (0, .ref b)]) hx hb dl_17 rfl hl (by decide) rfl (fun ls hl => ?_)
  refine W.widen (k := 600000) (n := 7302250) (Nat.le_of_ble_eq_true rfl) (Nat.le_of_ble_eq_true rfl) ?_
  have h6 : ∀ k, 60 ≤ k → (fun k => if k < 30 then ad1 k else ad2 k : Nat → Nat → Nat) k = ad0 k := fun k hk => by
    show (if k < 30 then ad1 k else ad2 k) = ad0 k
    rw [if_neg (by omega), h62 k hk, h61 k hk]
  have hw : xw cid (fun k => if k < 30 then ad1 k else ad2 k) xLA (mgH H1 H2) = [] ++ xw cid ad1 xLC H1 ++ xw cid ad2 xLM H2 := by
    show xw cid (fun k => if k < 30 then ad1 k else ad2 k) (xLC ++ xLM) (mgH H1 H2) = xw cid ad1 xLC H1 ++ xw cid ad2 xLM H2
    rw [xw_app, mg_LC h62, mg_LM]
  rw [← hw] at hP2 hD2
  exact law_loop (cid := cid) (D := D) (ad := fun k => if k < 30 then ad1 k else ad2 k) ⟨hx, hb, hml, hown, htx, hK, xStat_ad h6 hZ, xRefs_ad h6 hrf⟩ hX hbl hL hr hlocks (L + 1) 0 (mgH H1 H2) (0, 40, 0, 0, 1, 0) (by omega) (Nat.zero_le _) (inv_start hQ1 hQ2) Hc2 locs2 ls ⟨hP2, hD2, hS2⟩ hl
