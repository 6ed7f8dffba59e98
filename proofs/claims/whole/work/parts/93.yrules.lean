/-! MAKING 2: the rules of 'Gc', one an instruction. Printed by wip/gen/gen93.py. -/
section YRU
variable {l : Launch} {cid : Nat → ClassId} {D : va_G} {HI : HH} {R : Room} {own : String} {b : ByteArray} {nL kd0 ix0 : Nat} {Lf : List (Nat × Nat)} {QH : HH → Prop} {pc : Nat} {ls : List (Option AV)} {st : List AV} {L : List (Nat × Nat)} {B : YB} {H : HH} {cells slots : Nat}
/-- a constant is pushed, by n bytes -/
def ypush (b : ByteArray) (pc : Nat) (v : Int32) (n : Nat) : Prop := (∃ z, decode b pc = .ok (.iconst z, 1) ∧ Int32.ofInt z = v ∧ n = 1) ∨ (∃ z, decode b pc = .ok (.bipush z, 2) ∧ (Int8.ofInt z).toInt32 = v ∧ n = 2) ∨ ∃ z, decode b pc = .ok (.sipush z, 3) ∧ (Int16.ofInt z).toInt32 = v ∧ n = 3
theorem y_push {v : Int32} {n : Nat} (h : ypush b pc v n) (k : Gc l cid D HI R own b nL kd0 ix0 Lf QH (pc + n) ls (vi v :: st) L B H cells slots) : Gc l cid D HI R own b nL kd0 ix0 Lf QH pc ls st L B H cells slots := by
  intro ad0 ad h1 h2 h3 h4 p e s m args below meth c Hc locs lsC A hC ho hP hD hS hl
  rcases h with ⟨z, hd, hv, rfl⟩ | ⟨z, hd, hv, rfl⟩ | ⟨z, hd, hv, rfl⟩
  · exact lv_iconst hC.1 hC.2.1 hd hv (k ad0 ad h1 h2 h3 h4 p e s m args below meth c Hc locs lsC A hC (ho.push trivial) hP hD hS hl)
  · exact lv_bipush hC.1 hC.2.1 hd hv (k ad0 ad h1 h2 h3 h4 p e s m args below meth c Hc locs lsC A hC (ho.push trivial) hP hD hS hl)
  · exact lv_sipush hC.1 hC.2.1 hd hv (k ad0 ad h1 h2 h3 h4 p e s m args below meth c Hc locs lsC A hC (ho.push trivial) hP hD hS hl)
theorem y_aload {q : Fin 4} {i kd ix : Nat} (hd : decode b pc = .ok (.aload_n q, 1)) (hi : (q : Nat) = i) (h : ls[i]? = some (some (vr kd ix))) (k : Gc l cid D HI R own b nL kd0 ix0 Lf QH (pc + 1) ls (vr kd ix :: st) L B H cells slots) : Gc l cid D HI R own b nL kd0 ix0 Lf QH pc ls st L B H cells slots := by
  intro ad0 ad h1 h2 h3 h4 p e s m args below meth c Hc locs lsC A hC ho hP hD hS hl
  exact lv_aload_n hC.1 hC.2.1 hd hi (lv_at1 hl h) (k ad0 ad h1 h2 h3 h4 p e s m args below meth c Hc locs lsC A hC (ho.push (ho.loc h)) hP hD hS hl)
theorem y_iload {q : Fin 4} {i : Nat} {x : Int32} (hd : decode b pc = .ok (.iload_n q, 1)) (hi : (q : Nat) = i) (h : ls[i]? = some (some (vi x))) (k : Gc l cid D HI R own b nL kd0 ix0 Lf QH (pc + 1) ls (vi x :: st) L B H cells slots) : Gc l cid D HI R own b nL kd0 ix0 Lf QH pc ls st L B H cells slots := by
  intro ad0 ad h1 h2 h3 h4 p e s m args below meth c Hc locs lsC A hC ho hP hD hS hl
  exact lv_iload_n hC.1 hC.2.1 hd hi (lv_at1 hl h) (k ad0 ad h1 h2 h3 h4 p e s m args below meth c Hc locs lsC A hC (ho.push trivial) hP hD hS hl)
theorem y_istore {q : Fin 4} {i : Nat} {x : Int32} {ls2 : List (Option AV)} (hd : decode b pc = .ok (.istore_n q, 1)) (hi : (q : Nat) = i) (hn : i < nL) (hb : xnl ls i = true) (e : (ls.set i (some (vi x))) = ls2) (k : Gc l cid D HI R own b nL kd0 ix0 Lf QH (pc + 1) ls2 st L B H cells slots) : Gc l cid D HI R own b nL kd0 ix0 Lf QH pc ls (vi x :: st) L B H cells slots := by
  subst e
  intro ad0 ad h1 h2 h3 h4 p e s m args below meth c Hc locs lsC A hC ho hP hD hS hl
  exact lv_istore_n hC.1 hC.2.1 hd hi hl hn rfl (fun lsC2 hl2 => k ad0 ad h1 h2 h3 h4 p e s m args below meth c Hc locs lsC2 A hC (ho.pop.set ho.top) hP hD hS (lv_mono hl2 (lcv_store hb)))
theorem y_iinc {i : Nat} {n : Int} {x v : Int32} {ls2 : List (Option AV)} (hd : decode b pc = .ok (.iinc i n, 3)) (h : ls[i]? = some (some (vi x))) (hv : x + Int32.ofInt n = v) (hn : i < nL) (hb : xnl ls i = true) (e : ls.set i (some (vi v)) = ls2) (k : Gc l cid D HI R own b nL kd0 ix0 Lf QH (pc + 3) ls2 st L B H cells slots) : Gc l cid D HI R own b nL kd0 ix0 Lf QH pc ls st L B H cells slots := by
  subst e
  intro ad0 ad h1 h2 h3 h4 p e s m args below meth c Hc locs lsC A hC ho hP hD hS hl
  obtain ⟨k0, hk0⟩ := List.mem_iff_getElem?.mp (mem_lcv (ad := ad) (j := 0) (q := (i, Value.int x)) |>.mpr ⟨i, vi x, h, by rw [Nat.zero_add]; rfl⟩)
  exact lv_iinc hC.1 hC.2.1 hd hl hk0 hv hn rfl (fun lsC2 hl2 => k ad0 ad h1 h2 h3 h4 p e s m args below meth c Hc locs lsC2 A hC (ho.set trivial) hP hD hS (lv_mono hl2 (lcv_store hb)))
theorem y_dup {kd ix : Nat} (hd : decode b pc = .ok (.dup, 1)) (k : Gc l cid D HI R own b nL kd0 ix0 Lf QH (pc + 1) ls (vr kd ix :: vr kd ix :: st) L B H cells slots) : Gc l cid D HI R own b nL kd0 ix0 Lf QH pc ls (vr kd ix :: st) L B H cells slots := by
  intro ad0 ad h1 h2 h3 h4 p e s m args below meth c Hc locs lsC A hC ho hP hD hS hl
  exact lv_dup hC.1 hC.2.1 hd rfl (k ad0 ad h1 h2 h3 h4 p e s m args below meth c Hc locs lsC A hC (ho.push ho.top) hP hD hS hl)
theorem y_pop {x : Int32} (hd : decode b pc = .ok (.pop, 1)) (k : Gc l cid D HI R own b nL kd0 ix0 Lf QH (pc + 1) ls st L B H cells slots) : Gc l cid D HI R own b nL kd0 ix0 Lf QH pc ls (vi x :: st) L B H cells slots := by
  intro ad0 ad h1 h2 h3 h4 p e s m args below meth c Hc locs lsC A hC ho hP hD hS hl
  exact lv_pop hC.1 hC.2.1 hd rfl (k ad0 ad h1 h2 h3 h4 p e s m args below meth c Hc locs lsC A hC ho.pop hP hD hS hl)
theorem y_goto {off : Int} {tgt : Nat} (hd : decode b pc = .ok (.goto off, 3)) (ht : (pc : Int) + off = (tgt : Int)) (k : Gc l cid D HI R own b nL kd0 ix0 Lf QH tgt ls st L B H cells slots) : Gc l cid D HI R own b nL kd0 ix0 Lf QH pc ls st L B H cells slots := by
  intro ad0 ad h1 h2 h3 h4 p e s m args below meth c Hc locs lsC A hC ho hP hD hS hl
  exact lv_goto hC.1 hC.2.1 hd ht (k ad0 ad h1 h2 h3 h4 p e s m args below meth c Hc locs lsC A hC ho hP hD hS hl)
theorem y_icmp_ge {x y : Int32} {off : Int} {tgt : Nat} (hd : decode b pc = .ok (.if_icmp .ge off, 3)) (ht : (pc : Int) + off = (tgt : Int)) (kt : y ≤ x → Gc l cid D HI R own b nL kd0 ix0 Lf QH tgt ls st L B H cells slots) (kf : ¬ y ≤ x → Gc l cid D HI R own b nL kd0 ix0 Lf QH (pc + 3) ls st L B H cells slots) : Gc l cid D HI R own b nL kd0 ix0 Lf QH pc ls (vi y :: vi x :: st) L B H cells slots := by
  intro ad0 ad h1 h2 h3 h4 p e s m args below meth c Hc locs lsC A hC ho hP hD hS hl
  exact lv_icmp_ge hC.1 hC.2.1 hd ht (fun h => kt h ad0 ad h1 h2 h3 h4 p e s m args below meth c Hc locs lsC A hC ho.pop.pop hP hD hS hl) (fun h => kf h ad0 ad h1 h2 h3 h4 p e s m args below meth c Hc locs lsC A hC ho.pop.pop hP hD hS hl)
theorem y_ldcS {index i : Nat} {t : String} (hd : decode b pc = .ok (.ldc index, 2)) (hi : xRF[i]? = some (own, index, t)) (hlt : i < xTX.length) (k : Gc l cid D HI R own b nL kd0 ix0 Lf QH (pc + 2) ls (vr 60 i :: st) L B H cells slots) : Gc l cid D HI R own b nL kd0 ix0 Lf QH pc ls st L B H cells slots := by
  intro ad0 ad h1 h2 h3 h4 p e s m args below meth c Hc locs lsC A hC ho hP hD hS hl
  obtain ⟨hx, hb, hml, hr, hown, hlk, hin2, hts, hK, hZ, hrf, hwd, hA⟩ := id hC
  exact va_ldcS hx hb hown (hrf.1 i _ hi) hd (k ad0 ad h1 h2 h3 h4 p e s m args below meth c Hc locs lsC A hC (ho.push (Or.inr (Or.inl ⟨by omega, by omega, hlt⟩))) hP hD hS hl)
theorem yw_at {cid : Nat → ClassId} {ad : Nat → Nat → Nat} {kd ix : Nat} (h : (kd, ix) ∈ L) : ∃ q0 : Nat, L[q0]? = some (kd, ix) ∧ (yw cid ad B L H)[q0]? = some (ad kd ix, ycell cid ad B kd ix (H kd ix)) := by
  obtain ⟨i, hi⟩ := List.mem_iff_getElem?.mp h
  exact ⟨i, hi, by simp [yw, hi]⟩
theorem yw_D {cid : Nat → ClassId} {ad : Nat → Nat → Nat} {B2 : YB} {H' : HH} {A : Nat → Prop} (hn : L.Nodup) (h : va_D A (yw cid ad B L H)) : va_D A (yw cid ad B2 L H') := mD h hn (fun _ q => q)
theorem yw_set {cid : Nat → ClassId} {ad : Nat → Nat → Nat} {B2 : YB} {kd ix q0 : Nat} (hn : L.Nodup) (hq : L[q0]? = some (kd, ix)) {f : Nat → Int32} (hB : ∀ a i, ¬ (a = kd ∧ i = ix) → B2 a i = B a i) : (yw cid ad B L H).set q0 (ad kd ix, ycell cid ad B2 kd ix f) = yw cid ad B2 L (hrow H kd ix f) := by
  apply List.ext_getElem?
  intro i
  by_cases hi : q0 = i
  · subst hi
    have hl : q0 < L.length := (List.getElem?_eq_some_iff.mp hq).1
    rw [List.getElem?_set_self (by simpa [yw] using hl)]
    simp [yw, hq, hrow]
  · rw [List.getElem?_set_ne hi]
    simp only [yw, List.getElem?_map]
    cases ha : L[i]? with
    | none => rfl
    | some a =>
      have hne : ¬ (a.1 = kd ∧ a.2 = ix) := by
        rintro ⟨h1, h2⟩
        have ea : a = (kd, ix) := by rw [← h1, ← h2]
        subst ea
        exact hi ((List.getElem?_inj (List.getElem?_eq_some_iff.mp hq).1 hn).mp (hq.trans ha.symm))
      rw [Option.map_some, Option.map_some, show hrow H kd ix f a.1 a.2 = H a.1 a.2 from if_neg hne, ycell_B (hB a.1 a.2 hne)]
theorem yok_in {nT kd ix : Nat} (h : xok L nT (vr kd ix)) (hk : kd < 60) : (kd, ix) ∈ L := xok_in h hk
-- fields
theorem y_getR {kd ix ci N k1 index : Nat} {C : String} {T : u_T} {t : Nat × (Nat → Nat)} (hd : decode b pc = .ok (.getfield index, 3)) (h60 : kd < 60) (hsh : xsh kd = (0, ci, N)) (hc : xcl[ci]? = some (C, T, N)) (hin : ∀ w ∈ u_ws C T N, w ∈ xtbl) (hk : k1 < N)
    (hm : Cond.fieldLink own index (T k1).1 (T k1).2.1 (T k1).2.2.1 ∈ xtbl) (hs : xsp kd k1 = some t) (hB : B kd ix k1 = true) (k : Gc l cid D HI R own b nL kd0 ix0 Lf QH (pc + 3) ls (vr t.1 (t.2 ix) :: st) L B H cells slots) : Gc l cid D HI R own b nL kd0 ix0 Lf QH pc ls (vr kd ix :: st) L B H cells slots := by
  intro ad0 ad h1 h2 h3 h4 p e s m args below meth c Hc locs lsC A hC ho hP hD hS hl
  obtain ⟨hx, hb, hml, hr, hown, hlk, hin2, hts, hK, hZ, hrf, hwd, hA⟩ := id hC
  have hi := yok_in ho.top h60
  obtain ⟨q0, hq, hw⟩ := yw_at (cid := cid) (ad := ad) (B := B) (H := H) hi
  rw [ycell_o hsh] at hw
  refine va_get (T := T) (ref := (T k1).1) hx hb hts hin hown hK hP q0 hw hc k1 hk (hts _ hm) (fun x h => h) (v := cv ad (vr t.1 (t.2 ix))) (by
    have e : xld kd ix k1 (H kd ix k1) = vr t.1 (t.2 ix) := by unfold xld; rw [hs]
    simp [hk, hB, e]) hd ?_
  exact k ad0 ad h1 h2 h3 h4 p e s m args below meth c Hc locs lsC A hC (ho.pop.push (Or.inl ((h4.2.2.1 kd ix k1 hB).2.1 t hs))) hP hD hS hl
theorem y_putF {kd ix ci N k1 index kt it : Nat} {T : u_T} {ty : FieldType} (ty0 : Nat → FieldType) (t : Nat × (Nat → Nat)) (hd : decode b pc = .ok (.putfield index, 3)) (h60 : kd < 60) (hsh : xsh kd = (0, ci, N)) (hc : xcl[ci]? = some (own, T, N)) (hin : ∀ w ∈ u_ws own T N, w ∈ xtbl) (hty : ∀ k, k < N → parseFieldDescriptor (T k).2.2.1 = some (ty0 k)) (hnm : ∀ a, a < N → ∀ b, b < N → a ≠ b → (T a).2.1 ≠ (T b).2.1) (hk : k1 < N)
    (hm : Cond.fieldLink own index (T k1).1 (T k1).2.1 (T k1).2.2.1 ∈ xtbl) (hfin : (T k1).2.2.2 = true) (hdecl : (T k1).1 = own) (hpd : parseFieldDescriptor (T k1).2.2.1 = some ty) (hnr : ∀ a, narrow ty (.ref a) = .ref a) (hfit : ∀ a, fits ty (.ref a) = true) (hs : xsp kd k1 = some t) (hkt : t.1 = kt) (hit : t.2 ix = it) (hkt6 : kt < 60) (h3 : (xsh kd).1 = 0) (k : Gc l cid D HI R own b nL kd0 ix0 Lf QH (pc + 3) ls st L (sB B kd ix k1) H cells slots) : Gc l cid D HI R own b nL kd0 ix0 Lf QH pc ls (vr kt it :: vr kd ix :: st) L B H cells slots := by
  subst hkt
  subst hit
  intro ad0 ad h1 h2 h3' h4 p e s m args below meth c Hc locs lsC A hC ho hP hD hS hl
  obtain ⟨hx, hb, hml, hr, hown, hlk, hin2, hts, hK, hZ, hrf, hwd, hA⟩ := id hC
  have hi := yok_in ho.pop.top h60
  have hit := yok_in ho.top hkt6
  obtain ⟨q0, hq, hw⟩ := yw_at (cid := cid) (ad := ad) (B := B) (H := H) hi
  rw [ycell_o hsh] at hw
  refine va_putF (T := T) (ref := (T k1).1) hx hb hts hin ty0 hty hnm hown hK hP hD hS q0 hw hc k1 hk (hts _ hm) (fun x h => h) hfin hin2 hdecl hpd (hnr _) (hfit _) (by simpa using hk) hd (fun H1 locs1 hP1 hD1 hS1 => ?_)
  have eB : ∀ a i, ¬ (a = kd ∧ i = ix) → sB B kd ix k1 a i = B a i := fun a i z => by
    funext y
    show (decide (a = kd ∧ i = ix ∧ y = k1) || B a i y) = B a i y
    rw [decide_eq_false (fun w => z ⟨w.1, w.2.1⟩)]; rfl
  have ec : (Sum.inr (ci, ((List.range N).map fun k => if (xsp kd k).isSome = true ∧ B kd ix k = false then Value.null else cv ad (xld kd ix k (H kd ix k))).set k1 (.ref (ad t.1 (t.2 ix)))) : va_E) = ycell cid ad (sB B kd ix k1) kd ix (H kd ix) := by
    rw [ycell_o hsh]
    refine congrArg (fun z => (Sum.inr (ci, z) : va_E)) ?_
    apply List.ext_getElem?
    intro i
    by_cases hik : k1 = i
    · subst hik
      rw [List.getElem?_set_self (by simpa using hk)]
      have e : xld kd ix k1 (H kd ix k1) = vr t.1 (t.2 ix) := by unfold xld; rw [hs]
      simp [hk, sB, e, cv]
    · rw [List.getElem?_set_ne hik]
      simp only [List.getElem?_map]
      cases hj : (List.range N)[i]? with
      | none => rfl
      | some j =>
        have hij : j = i := by
          obtain ⟨g1, g2⟩ := List.getElem?_eq_some_iff.mp hj
          rw [← g2]; simp
        subst hij
        have hne : ¬ j = k1 := fun e => hik e.symm
        simp [sB, hne]
  have hP1 : va_P D xcl ((yw cid ad B L H).set q0 (ad kd ix, Sum.inr (ci, ((List.range N).map fun k => if (xsp kd k).isSome = true ∧ B kd ix k = false then Value.null else cv ad (xld kd ix k (H kd ix k))).set k1 (.ref (ad t.1 (t.2 ix)))))) H1 := hP1
  rw [ec, yw_set (B2 := sB B kd ix k1) h4.1 hq eB, hrow_same] at hP1
  refine k ad0 ad h1 h2 h3' ⟨h4.1, h4.2.1, fun a i z hz => ?_, h4.2.2.2.1, h4.2.2.2.2⟩ p e s m args below meth c H1 locs1 lsC A hC ho.pop.pop hP1 (yw_D h4.1 hD) hS1 hl
  by_cases c1 : a = kd ∧ i = ix ∧ z = k1
  · obtain ⟨rfl, rfl, rfl⟩ := c1
    exact ⟨hi, fun t2 ht2 => by rw [hs] at ht2; cases ht2; exact hit, fun w => absurd w (by rw [h3]; decide)⟩
  · refine h4.2.2.1 a i z ?_
    have hz2 : (decide (a = kd ∧ i = ix ∧ z = k1) || B a i z) = true := hz
    rw [decide_eq_false c1] at hz2
    exact hz2
theorem y_put {kd ix ci N k1 index : Nat} {C : String} {T : u_T} {x : Int32} (ty0 : Nat → FieldType) (hd : decode b pc = .ok (.putfield index, 3)) (h60 : kd < 60) (h19 : kd ≠ 19) (hsh : xsh kd = (0, ci, N)) (hc : xcl[ci]? = some (C, T, N)) (hin : ∀ w ∈ u_ws C T N, w ∈ xtbl) (hty : ∀ k, k < N → parseFieldDescriptor (T k).2.2.1 = some (ty0 k)) (hnm : ∀ a, a < N → ∀ b, b < N → a ≠ b → (T a).2.1 ≠ (T b).2.1) (hk : k1 < N)
    (hm : Cond.fieldLink own index (T k1).1 (T k1).2.1 (T k1).2.2.1 ∈ xtbl) (hfin : (T k1).2.2.2 = false) (hpd : parseFieldDescriptor (T k1).2.2.1 = some .int) (hs : xsp kd k1 = none) (k : Gc l cid D HI R own b nL kd0 ix0 Lf QH (pc + 3) ls st L B (hu H kd ix k1 x) cells slots) : Gc l cid D HI R own b nL kd0 ix0 Lf QH pc ls (vi x :: vr kd ix :: st) L B H cells slots := by
  intro ad0 ad h1 h2 h3 h4 p e s m args below meth c Hc locs lsC A hC ho hP hD hS hl
  obtain ⟨hx, hb, hml, hr, hown, hlk, hin2, hts, hK, hZ, hrf, hwd, hA⟩ := id hC
  have hi := yok_in ho.pop.top h60
  obtain ⟨q0, hq, hw⟩ := yw_at (cid := cid) (ad := ad) (B := B) (H := H) hi
  rw [ycell_o hsh] at hw
  refine va_put (T := T) (ref := (T k1).1) hx hb hts hin ty0 hty hnm hown hK hP hD hS q0 hw hc k1 hk (hts _ hm) (fun x h => h) hfin hpd (v := .int x) rfl rfl (by simpa using hk) hd (fun H1 locs1 hP1 hD1 hS1 => ?_)
  have ev : ∀ y, xld kd ix k1 y = vi y := fun y => by unfold xld; rw [hs]; exact if_neg (fun z => h19 z.1)
  have ec : (Sum.inr (ci, ((List.range N).map fun k => if (xsp kd k).isSome = true ∧ B kd ix k = false then Value.null else cv ad (xld kd ix k (H kd ix k))).set k1 (.int x)) : va_E) = ycell cid ad B kd ix (upd (H kd ix) k1 x) := by
    rw [ycell_o hsh]
    refine congrArg (fun z => (Sum.inr (ci, z) : va_E)) ?_
    apply List.ext_getElem?
    intro i
    by_cases hik : k1 = i
    · subst hik
      rw [List.getElem?_set_self (by simpa using hk)]
      simp [hk, hs, ev, cv, upd]
    · rw [List.getElem?_set_ne hik]
      simp only [List.getElem?_map]
      cases hj : (List.range N)[i]? with
      | none => rfl
      | some j =>
        have hij : j = i := by
          obtain ⟨g1, g2⟩ := List.getElem?_eq_some_iff.mp hj
          rw [← g2]; simp
        subst hij
        have hne : ¬ j = k1 := fun e => hik e.symm
        simp [upd, hne]
  have hP1 : va_P D xcl ((yw cid ad B L H).set q0 (ad kd ix, Sum.inr (ci, ((List.range N).map fun k => if (xsp kd k).isSome = true ∧ B kd ix k = false then Value.null else cv ad (xld kd ix k (H kd ix k))).set k1 (.int x)))) H1 := hP1
  rw [ec, yw_set (B2 := B) h4.1 hq (fun _ _ _ => rfl), hrow_upd] at hP1
  refine k ad0 ad h1 h2 h3 ⟨h4.1, h4.2.1, h4.2.2.1, fun i hi2 => ?_, fun a i hn => ?_⟩ p e s m args below meth c H1 locs1 lsC A hC ho.pop.pop hP1 (yw_D h4.1 hD) hS1 hl
  · rw [hu_kd _ _ _ _ (fun z => h19 z.symm)]; exact h4.2.2.2.1 i hi2
  · rw [← h4.2.2.2.2 a i hn]
    funext z
    exact if_neg (fun w => hn (by rw [w.1, w.2.1]; exact hi))
-- rows
theorem y_iald {kd ix N a : Nat} {i : Int32} (hd : decode b pc = .ok (.iaload, 1)) (h60 : kd < 60) (hsh : xsh kd = (1, a, N)) (hin : vp_in i N) (k : Gc l cid D HI R own b nL kd0 ix0 Lf QH (pc + 1) ls (vi (H kd ix i.toNatClampNeg) :: st) L B H cells slots) : Gc l cid D HI R own b nL kd0 ix0 Lf QH pc ls (vi i :: vr kd ix :: st) L B H cells slots := by
  intro ad0 ad h1 h2 h3 h4 p e s m args below meth c Hc locs lsC A hC ho hP hD hS hl
  obtain ⟨hx, hb, hml, hr, hown, hlk, hin2, hts, hK, hZ, hrf, hwd, hA⟩ := id hC
  have hi := yok_in ho.pop.top h60
  obtain ⟨q0, hq, hw⟩ := yw_at (cid := cid) (ad := ad) (B := B) (H := H) hi
  rw [ycell_i hsh] at hw
  exact va_iald hx hb hK hP q0 0 hw rfl hin hd (k ad0 ad h1 h2 h3 h4 p e s m args below meth c Hc locs lsC A hC (ho.pop.pop.push trivial) hP hD hS hl)
theorem y_iast {kd ix N a : Nat} {i x : Int32} (hd : decode b pc = .ok (.iastore, 1)) (h60 : kd < 60) (h19 : kd ≠ 19) (hsh : xsh kd = (1, a, N)) (hin : vp_in i N) (k : Gc l cid D HI R own b nL kd0 ix0 Lf QH (pc + 1) ls st L B (hu H kd ix i.toNatClampNeg x) cells slots) : Gc l cid D HI R own b nL kd0 ix0 Lf QH pc ls (vi x :: vi i :: vr kd ix :: st) L B H cells slots := by
  intro ad0 ad h1 h2 h3 h4 p e s m args below meth c Hc locs lsC A hC ho hP hD hS hl
  obtain ⟨hx, hb, hml, hr, hown, hlk, hin2, hts, hK, hZ, hrf, hwd, hA⟩ := id hC
  have hi := yok_in ho.pop.pop.top h60
  obtain ⟨q0, hq, hw⟩ := yw_at (cid := cid) (ad := ad) (B := B) (H := H) hi
  rw [ycell_i hsh] at hw
  refine va_iast hx hb hK hP hD hS q0 0 hw rfl hin hd (fun H1 locs1 hP1 hD1 hS1 => ?_)
  rw [← ycell_i (cid := cid) (ad := ad) (B := B) (ix := ix) hsh, yw_set (B2 := B) h4.1 hq (fun _ _ _ => rfl), hrow_upd] at hP1
  refine k ad0 ad h1 h2 h3 ⟨h4.1, h4.2.1, h4.2.2.1, fun j hj => ?_, fun a2 j hn => ?_⟩ p e s m args below meth c H1 locs1 lsC A hC ho.pop.pop.pop hP1 (yw_D h4.1 hD) hS1 hl
  · rw [hu_kd _ _ _ _ (fun z => h19 z.symm)]; exact h4.2.2.2.1 j hj
  · rw [← h4.2.2.2.2 a2 j hn]
    funext z
    exact if_neg (fun w => hn (by rw [w.1, w.2.1]; exact hi))
theorem y_aast {kd ix N t a kt it ci Nt : Nat} {C : String} {T : u_T} {i : Int32} (hd : decode b pc = .ok (.aastore, 1)) (h60 : kd < 60) (hsh : xsh kd = (t + 3, a, N)) (htys : ∀ c : Nat → ClassId, (xtys c)[t + 2]? = some (c (t + 2), .object C)) (hkt6 : kt < 60) (hsh2 : xsh kt = (0, ci, Nt)) (hc : xcl[ci]? = some (C, T, Nt)) (hkt : (xra kd).1 = kt) (hit : (xra kd).2 ix i.toNatClampNeg = it) (hin : vp_in i N) (hsn : ∀ k, xsp kd k = none) (k : Gc l cid D HI R own b nL kd0 ix0 Lf QH (pc + 1) ls st L (sB B kd ix i.toNatClampNeg) H cells slots) : Gc l cid D HI R own b nL kd0 ix0 Lf QH pc ls (vr kt it :: vi i :: vr kd ix :: st) L B H cells slots := by
  subst hkt
  subst hit
  intro ad0 ad h1 h2 h3 h4 p e s m args below meth c Hc locs lsC A hC ho hP hD hS hl
  obtain ⟨hx, hb, hml, hr, hown, hlk, hin2, hts, hK, hZ, hrf, hwd, hA⟩ := id hC
  have hi := yok_in ho.pop.pop.top h60
  have hit := yok_in ho.top hkt6
  obtain ⟨q0, hq, hw⟩ := yw_at (cid := cid) (ad := ad) (B := B) (H := H) hi
  obtain ⟨q1, hq1, hw1⟩ := yw_at (cid := cid) (ad := ad) (B := B) (H := H) hit
  rw [ycell_q hsh] at hw
  rw [ycell_o hsh2] at hw1
  have eB : ∀ a i2, ¬ (a = kd ∧ i2 = ix) → sB B kd ix i.toNatClampNeg a i2 = B a i2 := fun a i2 z => by
    funext y
    show (decide (a = kd ∧ i2 = ix ∧ y = i.toNatClampNeg) || B a i2 y) = B a i2 y
    rw [decide_eq_false (fun w => z ⟨w.1, w.2.1⟩)]; rfl
  refine va_astq (r := (C, T, Nt)) hx hb hK hP hD hS q0 (t + 2) q1 ci hw (htys cid) hw1 hc hin hd (fun H1 locs1 hP1 hD1 hS1 => ?_)
  have ec : (Sum.inl (cid (t + 2), N, .inr (.inr (.inr (.inr (va_up (fun j => if B kd ix j = true then some (ad (xra kd).1 ((xra kd).2 ix j)) else none) i.toNatClampNeg (some (ad (xra kd).1 ((xra kd).2 ix i.toNatClampNeg)))))))) : va_E) = ycell cid ad (sB B kd ix i.toNatClampNeg) kd ix (H kd ix) := by
    rw [ycell_q hsh]
    refine congrArg (fun z => (Sum.inl (cid (t + 2), N, .inr (.inr (.inr (.inr z)))) : va_E)) (funext fun j => ?_)
    by_cases c1 : j = i.toNatClampNeg
    · subst c1
      simp [va_up, sB]
    · simp [va_up, sB, c1]
  rw [ec, yw_set (B2 := sB B kd ix i.toNatClampNeg) h4.1 hq eB, hrow_same] at hP1
  refine k ad0 ad h1 h2 h3 ⟨h4.1, h4.2.1, fun a2 i2 z hz => ?_, h4.2.2.2.1, h4.2.2.2.2⟩ p e s m args below meth c H1 locs1 lsC A hC ho.pop.pop.pop hP1 (yw_D h4.1 hD) hS1 hl
  by_cases c1 : a2 = kd ∧ i2 = ix ∧ z = i.toNatClampNeg
  · obtain ⟨rfl, rfl, rfl⟩ := c1
    exact ⟨hi, fun t2 ht2 => (by rw [hsn] at ht2; cases ht2), fun _ => hit⟩
  · refine h4.2.2.1 a2 i2 z ?_
    have hz2 : (decide (a2 = kd ∧ i2 = ix ∧ z = i.toNatClampNeg) || B a2 i2 z) = true := hz
    rw [decide_eq_false c1] at hz2
    exact hz2
-- what is new
def adU (ad : Nat → Nat → Nat) (kt it q : Nat) : Nat → Nat → Nat := fun k i => if k = kt ∧ i = it then q else ad k i
theorem adU_L {ad : Nat → Nat → Nat} {kt it q : Nat} (hni : (kt, it) ∉ L) : ∀ z ∈ L, adU ad kt it q z.1 z.2 = ad z.1 z.2 := fun z hz => if_neg (fun w => hni (by rw [← w.1, ← w.2]; exact hz))
theorem adU_60 {ad : Nat → Nat → Nat} {kt it q : Nat} (hk : kt < 60) : ∀ k, 60 ≤ k → adU ad kt it q k = ad k := fun k h => by
  funext i
  exact if_neg (fun w => absurd (w.1 ▸ h) (Nat.not_le.mpr hk))
theorem yC_ad {p : Program} {c : Code} {meth : Method} {s : State} {m : MethodId} {args : Array Value} {ad ad2 : Nat → Nat → Nat} {A : Nat → Prop} (h : yC cid D own b nL p c meth s m args ad A) (h60 : ∀ k, 60 ≤ k → ad2 k = ad k) : yC cid D own b nL p c meth s m args ad2 A := by
  obtain ⟨hx, hb, hml, hr, hown, hlk, hin2, hts, hK, hZ, hrf, hwd, hA⟩ := h
  refine ⟨hx, hb, hml, hr, hown, hlk, hin2, hts, hK, ?_, ?_, hwd, hA⟩
  · unfold xStat at hZ ⊢
    rw [h60 60 (by decide), h60 61 (by decide), h60 62 (by decide), h60 63 (by decide), h60 64 (by decide), h60 65 (by decide)]
    exact hZ
  · unfold xRefs at hrf ⊢
    rw [h60 60 (by decide)]
    exact hrf
theorem ycl_new {kt it : Nat} (h : ycl HI L B H) (hni : (kt, it) ∉ L) (hk6 : kt < 60) (h19 : kt ≠ 19) : ycl HI (L ++ [(kt, it)]) B H := by
  refine ⟨List.nodup_append.mpr ⟨h.1, List.nodup_cons.mpr ⟨List.not_mem_nil, List.nodup_nil⟩, fun a ha b hb e => hni (by rw [← List.mem_singleton.mp hb, ← e]; exact ha)⟩, fun q hq => ?_, fun a i z hz => ?_, fun i hi => ?_, fun a i hn => h.2.2.2.2 a i (fun z => hn (List.mem_append_left _ z))⟩
  · rcases List.mem_append.mp hq with z | z
    · exact h.2.1 q z
    · rw [List.mem_singleton.mp z]; exact hk6
  · obtain ⟨g1, g2, g3⟩ := h.2.2.1 a i z hz
    exact ⟨List.mem_append_left _ g1, fun t ht => List.mem_append_left _ (g2 t ht), fun w => List.mem_append_left _ (g3 w)⟩
  · rcases List.mem_append.mp hi with z | z
    · have := h.2.2.2.1 i z
      generalize xld 19 i 2 (H 19 i 2) = v at this ⊢
      rcases v with x | x | _ | ⟨k, j⟩
      · trivial
      · trivial
      · trivial
      · rcases this with w | w
        · exact Or.inl (List.mem_append_left _ w)
        · exact Or.inr w
    · exact absurd (congrArg Prod.fst (List.mem_singleton.mp z)).symm h19
theorem xok_mono {nT : Nat} {L2 : List (Nat × Nat)} (hs : ∀ q ∈ L, q ∈ L2) {v : AV} (h : xok L nT v) : xok L2 nT v := by
  rcases v with x | x | _ | ⟨k, j⟩
  · trivial
  · trivial
  · trivial
  · rcases h with w | w
    · exact Or.inl (hs _ w)
    · exact Or.inr w
theorem xoks_mono {nT : Nat} {L2 : List (Nat × Nat)} (hs : ∀ q ∈ L, q ∈ L2) (h : xoks L nT ls st) : xoks L2 nT ls st := ⟨fun v hv => xok_mono hs (h.1 v hv), fun v hv => xok_mono hs (h.2 v hv)⟩
/-- a new row -/
theorem y_newG {kt it q : Nat} {e1 : va_E} {n1 n2 : Nat} {pc2 : Nat} (hni : (kt, it) ∉ L) (hk6 : kt < 60) (h19 : kt ≠ 19) (k : Gc l cid D HI R own b nL kd0 ix0 Lf QH pc2 ls (vr kt it :: st) (L ++ [(kt, it)]) B H n1 n2) {ad0 ad : Nat → Nat → Nat} (h1 : ad kd0 ix0 = ad0 kd0 ix0) (h2 : ∀ k, 60 ≤ k → ad k = ad0 k) (h3 : (kd0, ix0) ∈ L) (h4 : ycl HI L B H) {p : Program} {e : Env} {s : State} {m : MethodId} {args : Array Value} {below : List Frame} {meth : Method} {c : Code} {locs : List Loc} {lsC : Array Slot} {A : Nat → Prop}
    (hC : yC cid D own b nL p c meth s m args ad A) (ho : xoks L xTX.length ls st) (hl : lv_has lsC nL (lcv ad 0 ls)) (he : ∀ ad2 : Nat → Nat → Nat, e1 = ycell cid ad2 B kt it (H kt it)) {H1 : Heap} (hP1 : va_P D xcl (yw cid ad B L H ++ [(q, e1)]) H1) (hD1 : va_D A (yw cid ad B L H ++ [(q, e1)])) (hS1 : va_S A s.heap H1 locs) :
    W p l e R s m args below meth c H1 locs n1 n2 (MQ below (yQ cid D kd0 ix0 Lf QH ad0 A) args s R.cells R.slots A) (F0 m pc2 lsC (.ref q :: st.map (cv ad))) := by
  have hL := adU_L (ad := ad) (q := q) hni
  have h6 := adU_60 (ad := ad) (it := it) (q := q) hk6
  have ew : yw cid ad B L H ++ [(q, e1)] = yw cid (adU ad kt it q) B (L ++ [(kt, it)]) H := by
    rw [yw_app, yw_ad h4 hL h6, he (adU ad kt it q)]
    show _ = _ ++ [(adU ad kt it q kt it, _)]
    rw [show adU ad kt it q kt it = q from if_pos ⟨rfl, rfl⟩]
  rw [ew] at hP1 hD1
  have := k ad0 (adU ad kt it q) ((hL _ h3).trans h1) (fun z hz => (h6 z hz).trans (h2 z hz)) (List.mem_append_left _ h3) (ycl_new h4 hni hk6 h19) p e s m args below meth c H1 locs lsC A (yC_ad hC h6) ((xoks_mono (fun z hz => List.mem_append_left _ hz) ho).push (Or.inl (List.mem_append_right _ List.mem_cons_self))) hP1 hD1 hS1 (by rw [lcv_ad hL h6 ls 0 ho.1]; exact hl)
  rw [List.map_cons, st_ad hL h6 ho.2] at this
  rw [show cv (adU ad kt it q) (vr kt it) = .ref q from congrArg Value.ref (if_pos ⟨rfl, rfl⟩)] at this
  exact this
theorem y_newI {kt it N a : Nat} {n : Int32} (hd : decode b pc = .ok (.newarray .int, 2)) (harr : Cond.arrayClass .int ∈ xtbl) (hk6 : kt < 60) (h19 : kt ≠ 19) (hsh : xsh kt = (1, a, N)) (hni : (kt, it) ∉ L) (hz : HI kt it = fun _ => 0) (hn : ¬ n < 0) (hN : n.toNatClampNeg = N) (hby : N * 4 ≤ 536870912) (hcells : cells + 1 ≤ R.cells) (hslots : slots + N ≤ R.slots) (k : Gc l cid D HI R own b nL kd0 ix0 Lf QH (pc + 2) ls (vr kt it :: st) (L ++ [(kt, it)]) B H (cells + 1) (slots + N)) : Gc l cid D HI R own b nL kd0 ix0 Lf QH pc ls (vi n :: st) L B H cells slots := by
  intro ad0 ad h1 h2 h3 h4 p e s m args below meth c Hc locs lsC A hC ho hP hD hS hl
  obtain ⟨hx, hb, hml, hr, hown, hlk, hin2, hts, hK, hZ, hrf, hwd, hA⟩ := id hC
  refine va_newa (atype := .int) (a0 := (N, .inl (fun _ => 0))) hx hb (hts _ harr) (ty := .int) rfl hK hP hD hS hA (fun _ => rfl) hn hN hby hcells hslots hd (fun q cA H1 hK1 hP1 hD1 hS1 => ?_)
  have ec : cA = cid 0 := ra_uni (hK1.2 5 (cA, .int) rfl).2 (hK.2 0 (cid 0, .int) rfl).2
  subst ec
  exact y_newG hni hk6 h19 k h1 h2 h3 h4 hC ho.pop hl (fun ad2 => by rw [ycell_i hsh, h4.2.2.2.2 kt it hni, hz]) hP1 hD1 hS1
theorem y_newZ {kt it N a : Nat} {n : Int32} (hd : decode b pc = .ok (.newarray .boolean, 2)) (harr : Cond.arrayClass .boolean ∈ xtbl) (hk6 : kt < 60) (h19 : kt ≠ 19) (hsh : xsh kt = (2, a, N)) (hni : (kt, it) ∉ L) (hz : HI kt it = fun _ => 0) (hn : ¬ n < 0) (hN : n.toNatClampNeg = N) (hby : N * 1 ≤ 536870912) (hcells : cells + 1 ≤ R.cells) (hslots : slots + N ≤ R.slots) (k : Gc l cid D HI R own b nL kd0 ix0 Lf QH (pc + 2) ls (vr kt it :: st) (L ++ [(kt, it)]) B H (cells + 1) (slots + N)) : Gc l cid D HI R own b nL kd0 ix0 Lf QH pc ls (vi n :: st) L B H cells slots := by
  intro ad0 ad h1 h2 h3 h4 p e s m args below meth c Hc locs lsC A hC ho hP hD hS hl
  obtain ⟨hx, hb, hml, hr, hown, hlk, hin2, hts, hK, hZ, hrf, hwd, hA⟩ := id hC
  refine va_newa (atype := .boolean) (a0 := (N, .inl (fun _ => 0))) hx hb (hts _ harr) (ty := .boolean) rfl hK hP hD hS hA (fun _ => rfl) hn hN hby hcells hslots hd (fun q cA H1 hK1 hP1 hD1 hS1 => ?_)
  have ec : cA = cid 1 := ra_uni (hK1.2 5 (cA, .boolean) rfl).2 (hK.2 1 (cid 1, .boolean) rfl).2
  subst ec
  exact y_newG hni hk6 h19 k h1 h2 h3 h4 hC ho.pop hl (fun ad2 => by rw [ycell_z hsh, h4.2.2.2.2 kt it hni, hz]) hP1 hD1 hS1
theorem y_newQ {kt it N a t index : Nat} {C : String} {n : Int32} (hd : decode b pc = .ok (.anewarray index, 3)) (hcl : Cond.classLink own index C ∈ xtbl) (hAO : ∀ U, yWd U → va_AO C U) (hk6 : kt < 60) (h19 : kt ≠ 19) (ht3 : t < 3) (hsh : xsh kt = (t + 3, a, N)) (htys : ∀ c : Nat → ClassId, (xtys c)[t + 2]? = some (c (t + 2), .object C)) (hni : (kt, it) ∉ L) (hn : ¬ n < 0) (hN : n.toNatClampNeg = N) (hby : N * 4 ≤ 536870912) (hcells : cells + 1 ≤ R.cells) (hslots : slots + N ≤ R.slots) (k : Gc l cid D HI R own b nL kd0 ix0 Lf QH (pc + 3) ls (vr kt it :: st) (L ++ [(kt, it)]) B H (cells + 1) (slots + N)) : Gc l cid D HI R own b nL kd0 ix0 Lf QH pc ls (vi n :: st) L B H cells slots := by
  intro ad0 ad h1 h2 h3 h4 p e s m args below meth c Hc locs lsC A hC ho hP hD hS hl
  obtain ⟨hx, hb, hml, hr, hown, hlk, hin2, hts, hK, hZ, hrf, hwd, hA⟩ := id hC
  refine va_newq hx hb hown (hts _ hcl) (hAO s hwd) hK hP hD hS hA hn hN hby hcells hslots hd (fun q cA H1 hK1 hP1 hD1 hS1 => ?_)
  have ec : cA = cid (t + 2) := ra_uni (hK1.2 5 (cA, .object C) rfl).2 (hK.2 (t + 2) (cid (t + 2), .object C) (htys cid)).2
  subst ec
  exact y_newG hni hk6 h19 k h1 h2 h3 h4 hC ho.pop hl (fun ad2 => by
    rw [ycell_q hsh]
    refine congrArg (fun z => (Sum.inl (cid (t + 2), N, .inr (.inr (.inr (.inr z)))) : va_E)) (funext fun j => ?_)
    rw [yn_of h4 hni]
    rfl) hP1 hD1 hS1
theorem y_objInit {kd ix i : Nat} (hd : decode b pc = .ok (.invokespecial i, 3)) (hm : Cond.methodLink own i Lib.objectInit ∈ xtbl) (hm2 : Cond.instanceMethod Lib.objectInit ∈ xtbl) (hm3 : Cond.code Lib.objectInit ⟨#[0xb1]⟩ 1 none ∈ xtbl) (hst : st = []) (hR : 1 ≤ R.frames ∧ 12 ≤ R.locals) (k : Gc l cid D HI R own b nL kd0 ix0 Lf QH (pc + 3) ls ([]) L B H cells slots) : Gc l cid D HI R own b nL kd0 ix0 Lf QH pc ls (vr kd ix :: st) L B H cells slots := by
  subst hst
  intro ad0 ad h1 h2 h3 h4 p e s m args below meth c Hc locs lsC A hC ho hP hD hS hl
  obtain ⟨hx, hb, hml, hr, hown, hlk, hin2, hts, hK, hZ, hrf, hwd, hA⟩ := id hC
  exact W.objInit hx hb hown (hts _ hm) (hts _ hm2) (hts _ hm3) rfl (by rw [hml]; exact hl.1) rfl hd hR.1 hR.2 (k ad0 ad h1 h2 h3 h4 p e s m args below meth c Hc locs lsC A hC ho.pop hP hD hS hl)
theorem y_ret (hd : decode b pc = .ok (.return_, 1)) (hs : ∀ q ∈ Lf, q ∈ L) (hn : Lf.Nodup) (hB : ∀ q ∈ Lf, yfl B q) (hcl : ∀ q ∈ Lf, ycs Lf q) (hQ : QH H) (hcs : cells ≤ R.cells ∧ slots ≤ R.slots) : Gc l cid D HI R own b nL kd0 ix0 Lf QH pc ls ([]) L B H cells slots := by
  intro ad0 ad h1 h2 h3 h4 p e s m args below meth c Hc locs lsC A hC ho hP hD hS hl
  obtain ⟨hx, hb, hml, hr, hown, hlk, hin2, hts, hK, hZ, hrf, hwd, hA⟩ := id hC
  refine W.widen hcs.1 hcs.2 ?_
  exact W.vret hx hb hr (fun t ht _ => ⟨ad, H, rfl, h1, h2, by rw [ht]; exact x_yw (y_xw hP hs hB) (fun q hq => fB_fl hq), mD hD hn hs, hS.F ht, hQ, hcl⟩) hS.2.2 hd hlk
end YRU
