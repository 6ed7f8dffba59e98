/-! RULES: fields, rows, statics, texts. -/
section HRU
variable {l : Launch} {cid : Nat → ClassId} {D : va_G} {ad : Nat → Nat → Nat} {tx : List (List Int32)} {rf : List (String × Nat × String)} {Lc : List (Nat × Nat)} {d : Nat} {own : String} {b : ByteArray} {nL : Nat} {ret : Option FieldType} {pc : Nat} {ls : List (Option AV)} {st : List AV} {H : HH} {Q : AV → HH → Prop}
theorem xok_in {nT kd ix : Nat} (h : xok Lc nT (vr kd ix)) (hk : kd < 60) : (kd, ix) ∈ Lc := by
  rcases h with h | h | h
  · exact h
  · exact absurd h.1 (by omega)
  · exact absurd h.1 (by omega)
theorem xcell_o {kd ci N ix : Nat} (h : xsh kd = (0, ci, N)) (f : Nat → Int32) : xcell cid ad kd ix f = .inr (ci, (List.range N).map fun k => cv ad (xld kd ix k (f k))) := by
  unfold xcell; rw [h]; rfl
theorem xcell_i {kd N ix a : Nat} (h : xsh kd = (1, a, N)) (f : Nat → Int32) : xcell cid ad kd ix f = .inl (cid 0, N, .inl f) := by
  unfold xcell; rw [h]; rfl
theorem xcell_z {kd N ix a : Nat} (h : xsh kd = (2, a, N)) (f : Nat → Int32) : xcell cid ad kd ix f = .inl (cid 1, N, .inl f) := by
  unfold xcell; rw [h]; rfl
theorem xcell_q {kd t N ix a : Nat} (h : xsh kd = (t + 3, a, N)) (f : Nat → Int32) : xcell cid ad kd ix f = .inl (cid (t + 2), N, .inr (.inr (.inr (.inr fun j => some (ad (xra kd).1 ((xra kd).2 ix j)))))) := by
  unfold xcell; rw [h]; rfl
theorem g_get {kd ix ci N k index : Nat} {C : String} {T : u_T} {v : AV} (hd : decode b pc = .ok (.getfield index, 3)) (h60 : kd < 60) (hsh : xsh kd = (0, ci, N)) (hc : xcl[ci]? = some (C, T, N)) (hin : ∀ w ∈ u_ws C T N, w ∈ xtbl) (hk : k < N)
    (hm : Cond.fieldLink own index (T k).1 (T k).2.1 (T k).2.2.1 ∈ xtbl) (hv : xld kd ix k (H kd ix k) = v) (kk : Gp l cid D ad tx rf Lc d own b nL ret (pc + 3) ls (v :: st) H Q) : Gp l cid D ad tx rf Lc d own b nL ret pc ls (vr kd ix :: st) H Q := by
  intro H0 h0 p e R s m args below meth c Hc locs lsC A hC ho hP hD hS hl
  subst hv
  obtain ⟨hx, hb, hml, hr, hown, hlk, hts, hR, hK, hZ, hrf, hA, hcl⟩ := id hC
  have hi := xok_in ho.top h60
  obtain ⟨q0, hq, hw⟩ := xw_at (cid := cid) (ad := ad) (H := H) hi
  rw [xcell_o hsh] at hw
  refine va_get (T := T) (ref := (T k).1) hx hb hts hin hown hK hP q0 hw hc k hk (hts _ hm) (fun x h => h) (v := cv ad (xld kd ix k (H kd ix k))) (by simp [hk]) hd ?_
  exact kk H0 h0 p e R s m args below meth c Hc locs lsC A hC (ho.pop.push (hcl.2.2.1 _ hi k _)) hP hD hS hl
/-- putfield: what is behind it, in Lean's words -/
theorem xset_o {kd ix ci N k q0 : Nat} {x : Int32} {v : AV} (hsh : xsh kd = (0, ci, N)) (hn : Lc.Nodup) (hq : Lc[q0]? = some (kd, ix)) (hv : xld kd ix k x = v) :
    (xw cid ad Lc H).set q0 (ad kd ix, .inr (ci, ((List.range N).map fun j => cv ad (xld kd ix j (H kd ix j))).set k (cv ad v))) = xw cid ad Lc (hu H kd ix k x) := by
  rw [← hrow_upd, ← xw_set hn hq, xcell_o hsh]
  congr 4
  apply List.ext_getElem?
  intro i
  by_cases hi : k = i
  · subst hi
    by_cases hl : k < N
    · rw [List.getElem?_set_self (by simpa using hl)]
      simp [hl, upd, hv]
    · rw [List.getElem?_eq_none (by simpa using hl), List.getElem?_eq_none (by simpa using hl)]
  · rw [List.getElem?_set_ne hi]
    simp only [List.getElem?_map]
    cases hj : (List.range N)[i]? with
    | none => rfl
    | some j =>
      have hij : j = i := by
        obtain ⟨h1, h2⟩ := List.getElem?_eq_some_iff.mp hj
        rw [← h2]; simp
      subst hij
      have hne : ¬ j = k := fun e => hi e.symm
      simp [upd, hne]
theorem g_putG {kd ix ci N k index : Nat} {C : String} {T : u_T} {v : AV} {x : Int32} {ty : FieldType} (ty0 : Nat → FieldType) (hd : decode b pc = .ok (.putfield index, 3)) (h60 : kd < 60) (hsh : xsh kd = (0, ci, N)) (hc : xcl[ci]? = some (C, T, N)) (hin : ∀ w ∈ u_ws C T N, w ∈ xtbl) (hty : ∀ k, k < N → parseFieldDescriptor (T k).2.2.1 = some (ty0 k)) (hnm : ∀ a, a < N → ∀ b, b < N → a ≠ b → (T a).2.1 ≠ (T b).2.1) (hk : k < N)
    (hm : Cond.fieldLink own index (T k).1 (T k).2.1 (T k).2.2.1 ∈ xtbl) (hfin : (T k).2.2.2 = false) (hpd : parseFieldDescriptor (T k).2.2.1 = some ty) (hv : xld kd ix k x = v) (hnr : narrow ty (cv ad v) = cv ad v) (hfit : fits ty (cv ad v) = true) (kk : Gp l cid D ad tx rf Lc d own b nL ret (pc + 3) ls st (hu H kd ix k x) Q) : Gp l cid D ad tx rf Lc d own b nL ret pc ls (v :: vr kd ix :: st) H Q := by
  intro H0 h0 p e R s m args below meth c Hc locs lsC A hC ho hP hD hS hl
  obtain ⟨hx, hb, hml, hr, hown, hlk, hts, hR, hK, hZ, hrf, hA, hcl⟩ := id hC
  have hi := xok_in ho.pop.top h60
  obtain ⟨q0, hq, hw⟩ := xw_at (cid := cid) (ad := ad) (H := H) hi
  rw [xcell_o hsh] at hw
  refine va_put (T := T) (ref := (T k).1) hx hb hts hin ty0 hty hnm hown hK hP hD hS q0 hw hc k hk (hts _ hm) (fun x h => h) hfin hpd hnr hfit (by simpa using hk) hd (fun H1 locs1 hP1 hD1 hS1 => ?_)
  rw [xset_o hsh hcl.1 hq hv] at hP1
  exact kk H0 (h0.hu hi) p e R s m args below meth c H1 locs1 lsC A hC ho.pop.pop hP1 (xw_D hD) hS1 hl
/-- an int field -/
theorem g_put {kd ix ci N k index : Nat} {C : String} {T : u_T} {x : Int32} (ty0 : Nat → FieldType) (hd : decode b pc = .ok (.putfield index, 3)) (h60 : kd < 60) (hsh : xsh kd = (0, ci, N)) (hc : xcl[ci]? = some (C, T, N)) (hin : ∀ w ∈ u_ws C T N, w ∈ xtbl) (hty : ∀ k, k < N → parseFieldDescriptor (T k).2.2.1 = some (ty0 k)) (hnm : ∀ a, a < N → ∀ b, b < N → a ≠ b → (T a).2.1 ≠ (T b).2.1) (hk : k < N)
    (hm : Cond.fieldLink own index (T k).1 (T k).2.1 (T k).2.2.1 ∈ xtbl) (hfin : (T k).2.2.2 = false) (hpd : parseFieldDescriptor (T k).2.2.1 = some .int) (hv : ∀ y, xld kd ix k y = vi y) (kk : Gp l cid D ad tx rf Lc d own b nL ret (pc + 3) ls st (hu H kd ix k x) Q) : Gp l cid D ad tx rf Lc d own b nL ret pc ls (vi x :: vr kd ix :: st) H Q :=
  g_putG ty0 hd h60 hsh hc hin hty hnm hk hm hfin hpd (hv x) rfl rfl kk
/-- a boolean field -/
theorem g_putZ {kd ix ci N k index : Nat} {C : String} {T : u_T} {x : Int32} (ty0 : Nat → FieldType) (hd : decode b pc = .ok (.putfield index, 3)) (h60 : kd < 60) (hsh : xsh kd = (0, ci, N)) (hc : xcl[ci]? = some (C, T, N)) (hin : ∀ w ∈ u_ws C T N, w ∈ xtbl) (hty : ∀ k, k < N → parseFieldDescriptor (T k).2.2.1 = some (ty0 k)) (hnm : ∀ a, a < N → ∀ b, b < N → a ≠ b → (T a).2.1 ≠ (T b).2.1) (hk : k < N)
    (hm : Cond.fieldLink own index (T k).1 (T k).2.1 (T k).2.2.1 ∈ xtbl) (hfin : (T k).2.2.2 = false) (hpd : parseFieldDescriptor (T k).2.2.1 = some .boolean) (hv : ∀ y, xld kd ix k y = vi y) (h01 : x = 0 ∨ x = 1) (kk : Gp l cid D ad tx rf Lc d own b nL ret (pc + 3) ls st (hu H kd ix k x) Q) : Gp l cid D ad tx rf Lc d own b nL ret pc ls (vi x :: vr kd ix :: st) H Q :=
  g_putG ty0 hd h60 hsh hc hin hty hnm hk hm hfin hpd (hv x) (by rcases h01 with rfl | rfl <;> rfl) (by rcases h01 with rfl | rfl <;> rfl) kk
/-- the law of a ride: none -/
theorem g_putN {index : Nat} (hd : decode b pc = .ok (.putfield index, 3)) (hm : Cond.fieldLink own index "ThreePoints$Ride" "law" "LThreePoints$Text;" ∈ xtbl) {ix : Nat} (kk : Gp l cid D ad tx rf Lc d own b nL ret (pc + 3) ls st (hu H 19 ix 2 0) Q) : Gp l cid D ad tx rf Lc d own b nL ret pc ls (vn :: vr 19 ix :: st) H Q :=
  g_putG (T := xT_Ride) (k := 2) (N := 4) (ci := 8) (C := "ThreePoints$Ride") (ty := .object "ThreePoints$Text") xy_Ride hd (by decide) rfl rfl xi_Ride xy_Ride_ok xn_Ride (by decide) hm rfl (by decide +kernel) rfl rfl rfl kk
/-- the law of a ride: a text -/
theorem g_putT {index : Nat} (hd : decode b pc = .ok (.putfield index, 3)) (hm : Cond.fieldLink own index "ThreePoints$Ride" "law" "LThreePoints$Text;" ∈ xtbl) {ix t : Nat} (ht : t < 7) (kk : Gp l cid D ad tx rf Lc d own b nL ret (pc + 3) ls st (hu H 19 ix 2 (nI (t + 1))) Q) : Gp l cid D ad tx rf Lc d own b nL ret pc ls (vr 11 t :: vr 19 ix :: st) H Q := by
  refine g_putG (T := xT_Ride) (k := 2) (N := 4) (ci := 8) (C := "ThreePoints$Ride") (ty := .object "ThreePoints$Text") xy_Ride hd (by decide) rfl rfl xi_Ride xy_Ride_ok xn_Ride (by decide) hm rfl (by decide +kernel) ?_ rfl rfl kk
  rcases (show t = 0 ∨ t = 1 ∨ t = 2 ∨ t = 3 ∨ t = 4 ∨ t = 5 ∨ t = 6 by omega) with rfl | rfl | rfl | rfl | rfl | rfl | rfl <;> rfl
-- rows
theorem g_iald {kd ix N a : Nat} {i : Int32} (hd : decode b pc = .ok (.iaload, 1)) (h60 : kd < 60) (hsh : xsh kd = (1, a, N)) (hin : vp_in i N) (kk : Gp l cid D ad tx rf Lc d own b nL ret (pc + 1) ls (vi (H kd ix i.toNatClampNeg) :: st) H Q) : Gp l cid D ad tx rf Lc d own b nL ret pc ls (vi i :: vr kd ix :: st) H Q := by
  intro H0 h0 p e R s m args below meth c Hc locs lsC A hC ho hP hD hS hl
  obtain ⟨hx, hb, hml, hr, hown, hlk, hts, hR, hK, hZ, hrf, hA, hcl⟩ := id hC
  have hi := xok_in ho.pop.top h60
  obtain ⟨q0, hq, hw⟩ := xw_at (cid := cid) (ad := ad) (H := H) hi
  rw [xcell_i hsh] at hw
  exact va_iald hx hb hK hP q0 0 hw rfl hin hd (kk H0 h0 p e R s m args below meth c Hc locs lsC A hC (ho.pop.pop.push trivial) hP hD hS hl)
theorem g_zald {kd ix N a : Nat} {i : Int32} (hd : decode b pc = .ok (.baload, 1)) (h60 : kd < 60) (hsh : xsh kd = (2, a, N)) (hin : vp_in i N) (kk : Gp l cid D ad tx rf Lc d own b nL ret (pc + 1) ls (vi (H kd ix i.toNatClampNeg) :: st) H Q) : Gp l cid D ad tx rf Lc d own b nL ret pc ls (vi i :: vr kd ix :: st) H Q := by
  intro H0 h0 p e R s m args below meth c Hc locs lsC A hC ho hP hD hS hl
  obtain ⟨hx, hb, hml, hr, hown, hlk, hts, hR, hK, hZ, hrf, hA, hcl⟩ := id hC
  have hi := xok_in ho.pop.top h60
  obtain ⟨q0, hq, hw⟩ := xw_at (cid := cid) (ad := ad) (H := H) hi
  rw [xcell_z hsh] at hw
  exact va_zald hx hb hK hP q0 1 hw rfl hin hd (kk H0 h0 p e R s m args below meth c Hc locs lsC A hC (ho.pop.pop.push trivial) hP hD hS hl)
theorem g_aald {kd ix N t a : Nat} {i : Int32} (hd : decode b pc = .ok (.aaload, 1)) (h60 : kd < 60) (hsh : xsh kd = (t + 3, a, N)) (ht : t < 3) (hin : vp_in i N) {v : AV} (hv : vr (xra kd).1 ((xra kd).2 ix i.toNatClampNeg) = v) (kk : Gp l cid D ad tx rf Lc d own b nL ret (pc + 1) ls (v :: st) H Q) : Gp l cid D ad tx rf Lc d own b nL ret pc ls (vi i :: vr kd ix :: st) H Q := by
  intro H0 h0 p e R s m args below meth c Hc locs lsC A hC ho hP hD hS hl
  subst hv
  obtain ⟨hx, hb, hml, hr, hown, hlk, hts, hR, hK, hZ, hrf, hA, hcl⟩ := id hC
  have hi := xok_in ho.pop.top h60
  obtain ⟨q0, hq, hw⟩ := xw_at (cid := cid) (ad := ad) (H := H) hi
  rw [xcell_q hsh] at hw
  have hok := hcl.2.2.2 _ hi (by show 3 ≤ (xsh kd).1; rw [hsh]; exact Nat.le_add_left 3 t) i.toNatClampNeg (by
    show i.toNatClampNeg < (xsh kd).2.2
    rw [hsh]
    exact Nat.lt_of_not_le fun z => hin (Or.inr z))
  have kk' := kk H0 h0 p e R s m args below meth c Hc locs lsC A hC (ho.pop.pop.push hok) hP hD hS hl
  rcases (show t = 0 ∨ t = 1 ∨ t = 2 by omega) with rfl | rfl | rfl
  · exact va_aldq hx hb hK hP q0 2 hw rfl hin hd kk'
  · exact va_aldq hx hb hK hP q0 3 hw rfl hin hd kk'
  · exact va_aldq hx hb hK hP q0 4 hw rfl hin hd kk'
theorem g_iast {kd ix N a : Nat} {i x : Int32} (hd : decode b pc = .ok (.iastore, 1)) (h60 : kd < 60) (hsh : xsh kd = (1, a, N)) (hin : vp_in i N) (kk : Gp l cid D ad tx rf Lc d own b nL ret (pc + 1) ls st (hu H kd ix i.toNatClampNeg x) Q) : Gp l cid D ad tx rf Lc d own b nL ret pc ls (vi x :: vi i :: vr kd ix :: st) H Q := by
  intro H0 h0 p e R s m args below meth c Hc locs lsC A hC ho hP hD hS hl
  obtain ⟨hx, hb, hml, hr, hown, hlk, hts, hR, hK, hZ, hrf, hA, hcl⟩ := id hC
  have hi := xok_in ho.pop.pop.top h60
  obtain ⟨q0, hq, hw⟩ := xw_at (cid := cid) (ad := ad) (H := H) hi
  rw [xcell_i hsh] at hw
  refine va_iast hx hb hK hP hD hS q0 0 hw rfl hin hd (fun H1 locs1 hP1 hD1 hS1 => ?_)
  rw [← xcell_i (cid := cid) (ad := ad) (ix := ix) hsh, xw_set hcl.1 hq, hrow_upd] at hP1
  exact kk H0 (h0.hu hi) p e R s m args below meth c H1 locs1 lsC A hC ho.pop.pop.pop hP1 (xw_D hD) hS1 hl
theorem g_zast {kd ix N a : Nat} {i x : Int32} (hd : decode b pc = .ok (.bastore, 1)) (h60 : kd < 60) (hsh : xsh kd = (2, a, N)) (hin : vp_in i N) (h01 : x = 0 ∨ x = 1) (kk : Gp l cid D ad tx rf Lc d own b nL ret (pc + 1) ls st (hu H kd ix i.toNatClampNeg x) Q) : Gp l cid D ad tx rf Lc d own b nL ret pc ls (vi x :: vi i :: vr kd ix :: st) H Q := by
  intro H0 h0 p e R s m args below meth c Hc locs lsC A hC ho hP hD hS hl
  obtain ⟨hx, hb, hml, hr, hown, hlk, hts, hR, hK, hZ, hrf, hA, hcl⟩ := id hC
  have hi := xok_in ho.pop.pop.top h60
  obtain ⟨q0, hq, hw⟩ := xw_at (cid := cid) (ad := ad) (H := H) hi
  rw [xcell_z hsh] at hw
  have hx1 : vp_nar .boolean x = x := by rcases h01 with rfl | rfl <;> rfl
  refine va_zast hx hb hK hP hD hS q0 1 hw rfl hin hd (fun H1 locs1 hP1 hD1 hS1 => ?_)
  rw [hx1, ← xcell_z (cid := cid) (ad := ad) (ix := ix) hsh, xw_set hcl.1 hq, hrow_upd] at hP1
  exact kk H0 (h0.hu hi) p e R s m args below meth c H1 locs1 lsC A hC ho.pop.pop.pop hP1 (xw_D hD) hS1 hl
theorem g_alen {kd ix N a : Nat} {v : Int32} (hd : decode b pc = .ok (.arraylength, 1)) (h60 : kd < 60) (hsh : xsh kd = (1, a, N)) (hv : Int32.ofNat N = v) (kk : Gp l cid D ad tx rf Lc d own b nL ret (pc + 1) ls (vi v :: st) H Q) : Gp l cid D ad tx rf Lc d own b nL ret pc ls (vr kd ix :: st) H Q := by
  intro H0 h0 p e R s m args below meth c Hc locs lsC A hC ho hP hD hS hl
  obtain ⟨hx, hb, hml, hr, hown, hlk, hts, hR, hK, hZ, hrf, hA, hcl⟩ := id hC
  have hi := xok_in ho.top h60
  obtain ⟨q0, hq, hw⟩ := xw_at (cid := cid) (ad := ad) (H := H) hi
  rw [xcell_i hsh] at hw
  exact va_alen hx hb hK hP q0 0 hw rfl hv hd (kk H0 h0 p e R s m args below meth c Hc locs lsC A hC (ho.pop.push trivial) hP hD hS hl)
-- statics
theorem g_gsACR {index : Nat} (hd : decode b pc = .ok (.getstatic index, 3)) (hm : Cond.fieldLink own index "ThreePoints" "ACROSS" "[I" ∈ xtbl) (kk : Gp l cid D ad tx rf Lc d own b nL ret (pc + 3) ls (vr 62 0 :: st) H Q) : Gp l cid D ad tx rf Lc d own b nL ret pc ls st H Q := by
  intro H0 h0 p e R s m args below meth c Hc locs lsC A hC ho hP hD hS hl
  obtain ⟨hx, hb, hml, hr, hown, hlk, hts, hR, hK, hZ, hrf, hA, hcl⟩ := id hC
  exact va_gets hx hb hZ.1 hS hown (hts _ hm) (fun x h => h) hd (kk H0 h0 p e R s m args below meth c Hc locs lsC A hC (ho.push (Or.inr (Or.inr ⟨by omega, rfl⟩))) hP hD hS hl)
theorem g_gsBND {index : Nat} (hd : decode b pc = .ok (.getstatic index, 3)) (hm : Cond.fieldLink own index "ThreePoints$Text" "BOUNDS" "[I" ∈ xtbl) (kk : Gp l cid D ad tx rf Lc d own b nL ret (pc + 3) ls (vr 63 0 :: st) H Q) : Gp l cid D ad tx rf Lc d own b nL ret pc ls st H Q := by
  intro H0 h0 p e R s m args below meth c Hc locs lsC A hC ho hP hD hS hl
  obtain ⟨hx, hb, hml, hr, hown, hlk, hts, hR, hK, hZ, hrf, hA, hcl⟩ := id hC
  exact va_gets hx hb hZ.2.2.1 hS hown (hts _ hm) (fun x h => h) hd (kk H0 h0 p e R s m args below meth c Hc locs lsC A hC (ho.push (Or.inr (Or.inr ⟨by omega, rfl⟩))) hP hD hS hl)
theorem g_gsABV {index : Nat} (hd : decode b pc = .ok (.getstatic index, 3)) (hm : Cond.fieldLink own index "ThreePoints$Vehicle" "ABOVE" "[I" ∈ xtbl) (kk : Gp l cid D ad tx rf Lc d own b nL ret (pc + 3) ls (vr 64 0 :: st) H Q) : Gp l cid D ad tx rf Lc d own b nL ret pc ls st H Q := by
  intro H0 h0 p e R s m args below meth c Hc locs lsC A hC ho hP hD hS hl
  obtain ⟨hx, hb, hml, hr, hown, hlk, hts, hR, hK, hZ, hrf, hA, hcl⟩ := id hC
  exact va_gets hx hb hZ.2.2.2.2.1 hS hown (hts _ hm) (fun x h => h) hd (kk H0 h0 p e R s m args below meth c Hc locs lsC A hC (ho.push (Or.inr (Or.inr ⟨by omega, rfl⟩))) hP hD hS hl)
theorem g_gsCMP {index : Nat} (hd : decode b pc = .ok (.getstatic index, 3)) (hm : Cond.fieldLink own index "java/lang/String" "COMPACT_STRINGS" "Z" ∈ xtbl) (kk : Gp l cid D ad tx rf Lc d own b nL ret (pc + 3) ls (vi 1 :: st) H Q) : Gp l cid D ad tx rf Lc d own b nL ret pc ls st H Q := by
  intro H0 h0 p e R s m args below meth c Hc locs lsC A hC ho hP hD hS hl
  obtain ⟨hx, hb, hml, hr, hown, hlk, hts, hR, hK, hZ, hrf, hA, hcl⟩ := id hC
  exact va_gets hx hb hZ.2.2.2.2.2.2.1 hS hown (hts _ hm) (fun x h => h) hd (kk H0 h0 p e R s m args below meth c Hc locs lsC A hC (ho.push trivial) hP hD hS hl)
theorem g_gsSIO {index : Nat} (hd : decode b pc = .ok (.getstatic index, 3)) (hm : Cond.fieldLink own index "jdk/internal/util/Preconditions" "SIOOBE_FORMATTER" "Ljava/util/function/BiFunction;" ∈ xtbl) (k0 : Gp l cid D ad tx rf Lc d own b nL ret (pc + 3) ls (vn :: st) H Q) (kk : Gp l cid D ad tx rf Lc d own b nL ret (pc + 3) ls (vr 65 0 :: st) H Q) : Gp l cid D ad tx rf Lc d own b nL ret pc ls st H Q := by
  intro H0 h0 p e R s m args below meth c Hc locs lsC A hC ho hP hD hS hl
  obtain ⟨hx, hb, hml, hr, hown, hlk, hts, hR, hK, hZ, hrf, hA, hcl⟩ := id hC
  rcases hZ.2.2.2.2.2.2.2.2 with z | z
  · exact va_gets hx hb z hS hown (hts _ hm) (fun x h => h) hd (k0 H0 h0 p e R s m args below meth c Hc locs lsC A hC (ho.push trivial) hP hD hS hl)
  exact va_gets hx hb z hS hown (hts _ hm) (fun x h => h) hd (kk H0 h0 p e R s m args below meth c Hc locs lsC A hC (ho.push (Or.inr (Or.inr ⟨by omega, rfl⟩))) hP hD hS hl)
theorem g_ialdACR {i : Int32} (hd : decode b pc = .ok (.iaload, 1)) (hin : vp_in i 16) (kk : Gp l cid D ad tx rf Lc d own b nL ret (pc + 1) ls (vi (xACR.getD i.toNatClampNeg 0) :: st) H Q) : Gp l cid D ad tx rf Lc d own b nL ret pc ls (vi i :: vr 62 0 :: st) H Q := by
  intro H0 h0 p e R s m args below meth c Hc locs lsC A hC ho hP hD hS hl
  obtain ⟨hx, hb, hml, hr, hown, hlk, hts, hR, hK, hZ, hrf, hA, hcl⟩ := id hC
  exact va_ti hx hb hZ.2.1 hS hin rfl hd (kk H0 h0 p e R s m args below meth c Hc locs lsC A hC (ho.pop.pop.push trivial) hP hD hS hl)
theorem g_ialdBND {i : Int32} (hd : decode b pc = .ok (.iaload, 1)) (hin : vp_in i 3) (kk : Gp l cid D ad tx rf Lc d own b nL ret (pc + 1) ls (vi (xBND.getD i.toNatClampNeg 0) :: st) H Q) : Gp l cid D ad tx rf Lc d own b nL ret pc ls (vi i :: vr 63 0 :: st) H Q := by
  intro H0 h0 p e R s m args below meth c Hc locs lsC A hC ho hP hD hS hl
  obtain ⟨hx, hb, hml, hr, hown, hlk, hts, hR, hK, hZ, hrf, hA, hcl⟩ := id hC
  exact va_ti hx hb hZ.2.2.2.1 hS hin rfl hd (kk H0 h0 p e R s m args below meth c Hc locs lsC A hC (ho.pop.pop.push trivial) hP hD hS hl)
theorem g_ialdABV {i : Int32} (hd : decode b pc = .ok (.iaload, 1)) (hin : vp_in i 6) (kk : Gp l cid D ad tx rf Lc d own b nL ret (pc + 1) ls (vi (xABV.getD i.toNatClampNeg 0) :: st) H Q) : Gp l cid D ad tx rf Lc d own b nL ret pc ls (vi i :: vr 64 0 :: st) H Q := by
  intro H0 h0 p e R s m args below meth c Hc locs lsC A hC ho hP hD hS hl
  obtain ⟨hx, hb, hml, hr, hown, hlk, hts, hR, hK, hZ, hrf, hA, hcl⟩ := id hC
  exact va_ti hx hb hZ.2.2.2.2.2.1 hS hin rfl hd (kk H0 h0 p e R s m args below meth c Hc locs lsC A hC (ho.pop.pop.push trivial) hP hD hS hl)
-- texts
theorem xok_tx {nT kd i : Nat} (hcl : xclo Lc nT) (h : xok Lc nT (vr kd i)) (h1 : 60 ≤ kd) (h2 : kd ≤ 61) : i < nT := by
  rcases h with h | h | h
  · exact absurd (hcl.2.1 _ h) (by show ¬ kd < 60; omega)
  · exact h.2.2
  · exact absurd h.1 (by omega)
theorem g_ldcS {index i : Nat} {t : String} (hd : decode b pc = .ok (.ldc index, 2)) (hi : rf[i]? = some (own, index, t)) (hlt : i < tx.length) (kk : Gp l cid D ad tx rf Lc d own b nL ret (pc + 2) ls (vr 60 i :: st) H Q) : Gp l cid D ad tx rf Lc d own b nL ret pc ls st H Q := by
  intro H0 h0 p e R s m args below meth c Hc locs lsC A hC ho hP hD hS hl
  obtain ⟨hx, hb, hml, hr, hown, hlk, hts, hR, hK, hZ, hrf, hA, hcl⟩ := id hC
  exact va_ldcS hx hb hown (hrf.1 i _ hi) hd (kk H0 h0 p e R s m args below meth c Hc locs lsC A hC (ho.push (Or.inr (Or.inl ⟨by omega, by omega, hlt⟩))) hP hD hS hl)
theorem g_strV {index i : Nat} (hd : decode b pc = .ok (.getfield index, 3)) (hm : Cond.fieldLink own index "java/lang/String" "value" "[B" ∈ xtbl) (kk : Gp l cid D ad tx rf Lc d own b nL ret (pc + 3) ls (vr 61 i :: st) H Q) : Gp l cid D ad tx rf Lc d own b nL ret pc ls (vr 60 i :: st) H Q := by
  intro H0 h0 p e R s m args below meth c Hc locs lsC A hC ho hP hD hS hl
  obtain ⟨hx, hb, hml, hr, hown, hlk, hts, hR, hK, hZ, hrf, hA, hcl⟩ := id hC
  have hi := xok_tx hcl ho.top (by omega) (by omega)
  exact vk_getf hx hb (hZ.2.2.2.2.2.2.2.1.1 i hi).2.2.1 hS hown (hts _ hm) (fun x h => h) hd (kk H0 h0 p e R s m args below meth c Hc locs lsC A hC (ho.pop.push (Or.inr (Or.inl ⟨by omega, by omega, hi⟩))) hP hD hS hl)
theorem g_strC {index i : Nat} (hd : decode b pc = .ok (.getfield index, 3)) (hm : Cond.fieldLink own index "java/lang/String" "coder" "B" ∈ xtbl) (kk : Gp l cid D ad tx rf Lc d own b nL ret (pc + 3) ls (vi 0 :: st) H Q) : Gp l cid D ad tx rf Lc d own b nL ret pc ls (vr 60 i :: st) H Q := by
  intro H0 h0 p e R s m args below meth c Hc locs lsC A hC ho hP hD hS hl
  obtain ⟨hx, hb, hml, hr, hown, hlk, hts, hR, hK, hZ, hrf, hA, hcl⟩ := id hC
  have hi := xok_tx hcl ho.top (by omega) (by omega)
  exact vk_getf hx hb (hZ.2.2.2.2.2.2.2.1.1 i hi).2.1 hS hown (hts _ hm) (fun x h => h) hd (kk H0 h0 p e R s m args below meth c Hc locs lsC A hC (ho.pop.push trivial) hP hD hS hl)
theorem g_bald {i : Nat} {j : Int32} (hd : decode b pc = .ok (.baload, 1)) (hin : vp_in j (tx.getD i []).length) (kk : Gp l cid D ad tx rf Lc d own b nL ret (pc + 1) ls (vi ((tx.getD i []).getD j.toNatClampNeg 0) :: st) H Q) : Gp l cid D ad tx rf Lc d own b nL ret pc ls (vi j :: vr 61 i :: st) H Q := by
  intro H0 h0 p e R s m args below meth c Hc locs lsC A hC ho hP hD hS hl
  obtain ⟨hx, hb, hml, hr, hown, hlk, hts, hR, hK, hZ, hrf, hA, hcl⟩ := id hC
  have hi := xok_tx hcl ho.pop.top (by omega) (by omega)
  have hT := (hZ.2.2.2.2.2.2.2.1.1 i hi).2.2.2
  have hlen : (tx.map List.length).getD i 0 = (tx.getD i []).length := by simp [List.getD, hi]
  rw [hlen] at hT
  exact va_tb hx hb hT hS hin rfl hd (kk H0 h0 p e R s m args below meth c Hc locs lsC A hC (ho.pop.pop.push trivial) hP hD hS hl)
theorem g_blen {i : Nat} (hd : decode b pc = .ok (.arraylength, 1)) (kk : Gp l cid D ad tx rf Lc d own b nL ret (pc + 1) ls (vi (nI (tx.getD i []).length) :: st) H Q) : Gp l cid D ad tx rf Lc d own b nL ret pc ls (vr 61 i :: st) H Q := by
  intro H0 h0 p e R s m args below meth c Hc locs lsC A hC ho hP hD hS hl
  obtain ⟨hx, hb, hml, hr, hown, hlk, hts, hR, hK, hZ, hrf, hA, hcl⟩ := id hC
  have hi := xok_tx hcl ho.top (by omega) (by omega)
  have hT := (hZ.2.2.2.2.2.2.2.1.1 i hi).2.2.2
  have hlen : (tx.map List.length).getD i 0 = (tx.getD i []).length := by simp [List.getD, hi]
  rw [hlen] at hT
  exact va_tlen hx hb hT hS rfl hd (kk H0 h0 p e R s m args below meth c Hc locs lsC A hC (ho.pop.push trivial) hP hD hS hl)
end HRU
