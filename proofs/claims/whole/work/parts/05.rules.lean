/-! RULES: constants, locals, stack, arithmetic, branches. Printed by wip/gen/gen05.py. -/
section RUL
variable {l : Launch} {cid : Nat → ClassId} {D : va_G} {ad : Nat → Nat → Nat} {tx : List (List Int32)} {rf : List (String × Nat × String)} {Lc : List (Nat × Nat)} {d : Nat} {own : String} {b : ByteArray} {nL : Nat} {ret : Option FieldType} {pc : Nat} {ls : List (Option AV)} {st : List AV} {H : HH} {Q : AV → HH → Prop}
theorem g_iconst {n : Int} {v : Int32} (hd : decode b pc = .ok (.iconst n, 1)) (hv : Int32.ofInt n = v) (k : Gp l cid D ad tx rf Lc d own b nL ret (pc + 1) ls (vi v :: st) H Q) : Gp l cid D ad tx rf Lc d own b nL ret pc ls (st) H Q := by
  intro H0 h0 p e R s m args below meth c Hc locs lsC A hC ho hP hD hS hl
  exact lv_iconst hC.1 hC.2.1 hd hv (k H0 h0 p e R s m args below meth c Hc locs lsC A hC (ho.push trivial) hP hD hS hl)
theorem g_bipush {n : Int} {v : Int32} (hd : decode b pc = .ok (.bipush n, 2)) (hv : (Int8.ofInt n).toInt32 = v) (k : Gp l cid D ad tx rf Lc d own b nL ret (pc + 2) ls (vi v :: st) H Q) : Gp l cid D ad tx rf Lc d own b nL ret pc ls (st) H Q := by
  intro H0 h0 p e R s m args below meth c Hc locs lsC A hC ho hP hD hS hl
  exact lv_bipush hC.1 hC.2.1 hd hv (k H0 h0 p e R s m args below meth c Hc locs lsC A hC (ho.push trivial) hP hD hS hl)
theorem g_sipush {n : Int} {v : Int32} (hd : decode b pc = .ok (.sipush n, 3)) (hv : (Int16.ofInt n).toInt32 = v) (k : Gp l cid D ad tx rf Lc d own b nL ret (pc + 3) ls (vi v :: st) H Q) : Gp l cid D ad tx rf Lc d own b nL ret pc ls (st) H Q := by
  intro H0 h0 p e R s m args below meth c Hc locs lsC A hC ho hP hD hS hl
  exact lv_sipush hC.1 hC.2.1 hd hv (k H0 h0 p e R s m args below meth c Hc locs lsC A hC (ho.push trivial) hP hD hS hl)
theorem g_lconst {n : Fin 2} {v : Int64} (hd : decode b pc = .ok (.lconst n, 1)) (hv : Int64.ofNat (n : Nat) = v) (k : Gp l cid D ad tx rf Lc d own b nL ret (pc + 1) ls (vl v :: st) H Q) : Gp l cid D ad tx rf Lc d own b nL ret pc ls (st) H Q := by
  intro H0 h0 p e R s m args below meth c Hc locs lsC A hC ho hP hD hS hl
  exact lv_lconst hC.1 hC.2.1 hd hv (k H0 h0 p e R s m args below meth c Hc locs lsC A hC (ho.push trivial) hP hD hS hl)
theorem g_ldc {index : Nat} {v : Int32} (hd : decode b pc = .ok (.ldc index, 2)) (hm : Cond.constant own index v ∈ xtbl) (k : Gp l cid D ad tx rf Lc d own b nL ret (pc + 2) ls (vi v :: st) H Q) : Gp l cid D ad tx rf Lc d own b nL ret pc ls (st) H Q := by
  intro H0 h0 p e R s m args below meth c Hc locs lsC A hC ho hP hD hS hl
  exact lv_ldc hC.1 hC.2.1 hC.2.2.2.2.1 (hC.2.2.2.2.2.2.1 _ hm) hd (k H0 h0 p e R s m args below meth c Hc locs lsC A hC (ho.push trivial) hP hD hS hl)
theorem g_ldcw {index : Nat} {v : Int32} (hd : decode b pc = .ok (.ldc_w index, 3)) (hm : Cond.constant own index v ∈ xtbl) (k : Gp l cid D ad tx rf Lc d own b nL ret (pc + 3) ls (vi v :: st) H Q) : Gp l cid D ad tx rf Lc d own b nL ret pc ls (st) H Q := by
  intro H0 h0 p e R s m args below meth c Hc locs lsC A hC ho hP hD hS hl
  exact lv_ldcw hC.1 hC.2.1 hC.2.2.2.2.1 (hC.2.2.2.2.2.2.1 _ hm) hd (k H0 h0 p e R s m args below meth c Hc locs lsC A hC (ho.push trivial) hP hD hS hl)
theorem g_ldc2 {index : Nat} {v : Int64} (hd : decode b pc = .ok (.ldc2_w index, 3)) (hm : Cond.constantLong own index v ∈ xtbl) (k : Gp l cid D ad tx rf Lc d own b nL ret (pc + 3) ls (vl v :: st) H Q) : Gp l cid D ad tx rf Lc d own b nL ret pc ls (st) H Q := by
  intro H0 h0 p e R s m args below meth c Hc locs lsC A hC ho hP hD hS hl
  exact lv_ldc2 hC.1 hC.2.1 hC.2.2.2.2.1 (hC.2.2.2.2.2.2.1 _ hm) hd (k H0 h0 p e R s m args below meth c Hc locs lsC A hC (ho.push trivial) hP hD hS hl)
theorem g_null (hd : decode b pc = .ok (.aconst_null, 1)) (k : Gp l cid D ad tx rf Lc d own b nL ret (pc + 1) ls (vn :: st) H Q) : Gp l cid D ad tx rf Lc d own b nL ret pc ls (st) H Q := by
  intro H0 h0 p e R s m args below meth c Hc locs lsC A hC ho hP hD hS hl
  exact lv_null hC.1 hC.2.1 hd (k H0 h0 p e R s m args below meth c Hc locs lsC A hC (ho.push trivial) hP hD hS hl)
theorem lv_at1 {ls : List (Option AV)} {ad : Nat → Nat → Nat} {lsC : Array Slot} {nL i : Nat} {v : AV} (hl : lv_has lsC nL (lcv ad 0 ls)) (h : ls[i]? = some (some v)) : lsC[i]? = some (.val (cv ad v)) := hl.2.2 (i, cv ad v) (mem_lcv.mpr ⟨i, v, h, by rw [Nat.zero_add]⟩)
theorem g_iload_n {q : Fin 4} {i : Nat} {x : Int32} (hd : decode b pc = .ok (.iload_n q, 1)) (hi : (q : Nat) = i) (h : ls[i]? = some (some (vi x))) (k : Gp l cid D ad tx rf Lc d own b nL ret (pc + 1) ls (vi x :: st) H Q) : Gp l cid D ad tx rf Lc d own b nL ret pc ls (st) H Q := by
  intro H0 h0 p e R s m args below meth c Hc locs lsC A hC ho hP hD hS hl
  exact lv_iload_n hC.1 hC.2.1 hd hi (lv_at1 hl h) (k H0 h0 p e R s m args below meth c Hc locs lsC A hC (ho.push trivial) hP hD hS hl)
theorem g_iload {i : Nat} {x : Int32} (hd : decode b pc = .ok (.iload i, 2)) (h : ls[i]? = some (some (vi x))) (k : Gp l cid D ad tx rf Lc d own b nL ret (pc + 2) ls (vi x :: st) H Q) : Gp l cid D ad tx rf Lc d own b nL ret pc ls (st) H Q := by
  intro H0 h0 p e R s m args below meth c Hc locs lsC A hC ho hP hD hS hl
  exact lv_iload hC.1 hC.2.1 hd (lv_at1 hl h) (k H0 h0 p e R s m args below meth c Hc locs lsC A hC (ho.push trivial) hP hD hS hl)
theorem g_lload_n {q : Fin 4} {i : Nat} {x : Int64} (hd : decode b pc = .ok (.lload_n q, 1)) (hi : (q : Nat) = i) (h : ls[i]? = some (some (vl x))) (k : Gp l cid D ad tx rf Lc d own b nL ret (pc + 1) ls (vl x :: st) H Q) : Gp l cid D ad tx rf Lc d own b nL ret pc ls (st) H Q := by
  intro H0 h0 p e R s m args below meth c Hc locs lsC A hC ho hP hD hS hl
  exact lv_lload_n hC.1 hC.2.1 hd hi (lv_at1 hl h) (k H0 h0 p e R s m args below meth c Hc locs lsC A hC (ho.push trivial) hP hD hS hl)
theorem g_lload {i : Nat} {x : Int64} (hd : decode b pc = .ok (.lload i, 2)) (h : ls[i]? = some (some (vl x))) (k : Gp l cid D ad tx rf Lc d own b nL ret (pc + 2) ls (vl x :: st) H Q) : Gp l cid D ad tx rf Lc d own b nL ret pc ls (st) H Q := by
  intro H0 h0 p e R s m args below meth c Hc locs lsC A hC ho hP hD hS hl
  exact lv_lload hC.1 hC.2.1 hd (lv_at1 hl h) (k H0 h0 p e R s m args below meth c Hc locs lsC A hC (ho.push trivial) hP hD hS hl)
theorem g_aload_n {q : Fin 4} {i : Nat} {kd ix : Nat} (hd : decode b pc = .ok (.aload_n q, 1)) (hi : (q : Nat) = i) (h : ls[i]? = some (some (vr kd ix))) (k : Gp l cid D ad tx rf Lc d own b nL ret (pc + 1) ls (vr kd ix :: st) H Q) : Gp l cid D ad tx rf Lc d own b nL ret pc ls (st) H Q := by
  intro H0 h0 p e R s m args below meth c Hc locs lsC A hC ho hP hD hS hl
  exact lv_aload_n hC.1 hC.2.1 hd hi (lv_at1 hl h) (k H0 h0 p e R s m args below meth c Hc locs lsC A hC (ho.push (ho.loc h)) hP hD hS hl)
theorem g_aload {i : Nat} {kd ix : Nat} (hd : decode b pc = .ok (.aload i, 2)) (h : ls[i]? = some (some (vr kd ix))) (k : Gp l cid D ad tx rf Lc d own b nL ret (pc + 2) ls (vr kd ix :: st) H Q) : Gp l cid D ad tx rf Lc d own b nL ret pc ls (st) H Q := by
  intro H0 h0 p e R s m args below meth c Hc locs lsC A hC ho hP hD hS hl
  exact lv_aload hC.1 hC.2.1 hd (lv_at1 hl h) (k H0 h0 p e R s m args below meth c Hc locs lsC A hC (ho.push (ho.loc h)) hP hD hS hl)
theorem g_istore_n {q : Fin 4} {i : Nat} {x : Int32} {ls2 : List (Option AV)} (hd : decode b pc = .ok (.istore_n q, 1)) (hi : (q : Nat) = i) (hn : i < nL) (hb : xnl ls i = true) (e : (ls.set i (some (vi x))) = ls2) (k : Gp l cid D ad tx rf Lc d own b nL ret (pc + 1) ls2 st H Q) : Gp l cid D ad tx rf Lc d own b nL ret pc ls (vi x :: st) H Q := by
  subst e
  intro H0 h0 p e R s m args below meth c Hc locs lsC A hC ho hP hD hS hl
  exact lv_istore_n hC.1 hC.2.1 hd hi hl hn rfl (fun lsC2 hl2 => k H0 h0 p e R s m args below meth c Hc locs lsC2 A hC (ho.pop.set ho.top) hP hD hS (lv_mono hl2 (lcv_store hb)))
theorem g_istore {i : Nat} {x : Int32} {ls2 : List (Option AV)} (hd : decode b pc = .ok (.istore i, 2)) (hn : i < nL) (hb : xnl ls i = true) (e : (ls.set i (some (vi x))) = ls2) (k : Gp l cid D ad tx rf Lc d own b nL ret (pc + 2) ls2 st H Q) : Gp l cid D ad tx rf Lc d own b nL ret pc ls (vi x :: st) H Q := by
  subst e
  intro H0 h0 p e R s m args below meth c Hc locs lsC A hC ho hP hD hS hl
  exact lv_istore hC.1 hC.2.1 hd hl hn rfl (fun lsC2 hl2 => k H0 h0 p e R s m args below meth c Hc locs lsC2 A hC (ho.pop.set ho.top) hP hD hS (lv_mono hl2 (lcv_store hb)))
theorem g_lstore_n {q : Fin 4} {i : Nat} {x : Int64} {ls2 : List (Option AV)} (hd : decode b pc = .ok (.lstore_n q, 1)) (hi : (q : Nat) = i) (hn : i + 1 < nL) (hb : xnl ls i = true) (e : ((ls.set i (some (vl x))).set (i + 1) none) = ls2) (k : Gp l cid D ad tx rf Lc d own b nL ret (pc + 1) ls2 st H Q) : Gp l cid D ad tx rf Lc d own b nL ret pc ls (vl x :: st) H Q := by
  subst e
  intro H0 h0 p e R s m args below meth c Hc locs lsC A hC ho hP hD hS hl
  exact lv_lstore_n hC.1 hC.2.1 hd hi hl hn rfl (fun lsC2 hl2 => k H0 h0 p e R s m args below meth c Hc locs lsC2 A hC ((ho.pop.set ho.top).unset) hP hD hS (lv_mono hl2 (lcv_store2 hb)))
theorem g_lstore {i : Nat} {x : Int64} {ls2 : List (Option AV)} (hd : decode b pc = .ok (.lstore i, 2)) (hn : i + 1 < nL) (hb : xnl ls i = true) (e : ((ls.set i (some (vl x))).set (i + 1) none) = ls2) (k : Gp l cid D ad tx rf Lc d own b nL ret (pc + 2) ls2 st H Q) : Gp l cid D ad tx rf Lc d own b nL ret pc ls (vl x :: st) H Q := by
  subst e
  intro H0 h0 p e R s m args below meth c Hc locs lsC A hC ho hP hD hS hl
  exact lv_lstore hC.1 hC.2.1 hd hl hn rfl (fun lsC2 hl2 => k H0 h0 p e R s m args below meth c Hc locs lsC2 A hC ((ho.pop.set ho.top).unset) hP hD hS (lv_mono hl2 (lcv_store2 hb)))
theorem g_astore_n {q : Fin 4} {i : Nat} {kd ix : Nat} {ls2 : List (Option AV)} (hd : decode b pc = .ok (.astore_n q, 1)) (hi : (q : Nat) = i) (hn : i < nL) (hb : xnl ls i = true) (e : (ls.set i (some (vr kd ix))) = ls2) (k : Gp l cid D ad tx rf Lc d own b nL ret (pc + 1) ls2 st H Q) : Gp l cid D ad tx rf Lc d own b nL ret pc ls (vr kd ix :: st) H Q := by
  subst e
  intro H0 h0 p e R s m args below meth c Hc locs lsC A hC ho hP hD hS hl
  exact lv_astore_n hC.1 hC.2.1 hd hi hl hn rfl (fun lsC2 hl2 => k H0 h0 p e R s m args below meth c Hc locs lsC2 A hC (ho.pop.set ho.top) hP hD hS (lv_mono hl2 (lcv_store hb)))
theorem g_astore {i : Nat} {kd ix : Nat} {ls2 : List (Option AV)} (hd : decode b pc = .ok (.astore i, 2)) (hn : i < nL) (hb : xnl ls i = true) (e : (ls.set i (some (vr kd ix))) = ls2) (k : Gp l cid D ad tx rf Lc d own b nL ret (pc + 2) ls2 st H Q) : Gp l cid D ad tx rf Lc d own b nL ret pc ls (vr kd ix :: st) H Q := by
  subst e
  intro H0 h0 p e R s m args below meth c Hc locs lsC A hC ho hP hD hS hl
  exact lv_astore hC.1 hC.2.1 hd hl hn rfl (fun lsC2 hl2 => k H0 h0 p e R s m args below meth c Hc locs lsC2 A hC (ho.pop.set ho.top) hP hD hS (lv_mono hl2 (lcv_store hb)))
theorem g_iinc {i : Nat} {n : Int} {x v : Int32} {ls2 : List (Option AV)} (hd : decode b pc = .ok (.iinc i n, 3)) (h : ls[i]? = some (some (vi x))) (hv : x + Int32.ofInt n = v) (hn : i < nL) (hb : xnl ls i = true) (e : ls.set i (some (vi v)) = ls2) (k : Gp l cid D ad tx rf Lc d own b nL ret (pc + 3) ls2 st H Q) : Gp l cid D ad tx rf Lc d own b nL ret pc ls st H Q := by
  subst e
  intro H0 h0 p e R s m args below meth c Hc locs lsC A hC ho hP hD hS hl
  obtain ⟨k0, hk0⟩ := List.mem_iff_getElem?.mp (mem_lcv (ad := ad) (j := 0) (q := (i, Value.int x)) |>.mpr ⟨i, vi x, h, by rw [Nat.zero_add]; rfl⟩)
  exact lv_iinc hC.1 hC.2.1 hd hl hk0 hv hn rfl (fun lsC2 hl2 => k H0 h0 p e R s m args below meth c Hc locs lsC2 A hC (ho.set trivial) hP hD hS (lv_mono hl2 (lcv_store hb)))
theorem g_iadd {x y : Int32} (hd : decode b pc = .ok (.iadd, 1)) (k : Gp l cid D ad tx rf Lc d own b nL ret (pc + 1) ls (vi (x + y) :: st) H Q) : Gp l cid D ad tx rf Lc d own b nL ret pc ls (vi y :: vi x :: st) H Q := by
  intro H0 h0 p e R s m args below meth c Hc locs lsC A hC ho hP hD hS hl
  exact lv_iadd hC.1 hC.2.1 hd (k H0 h0 p e R s m args below meth c Hc locs lsC A hC (ho.pop.pop.push trivial) hP hD hS hl)
theorem g_isub {x y : Int32} (hd : decode b pc = .ok (.isub, 1)) (k : Gp l cid D ad tx rf Lc d own b nL ret (pc + 1) ls (vi (x - y) :: st) H Q) : Gp l cid D ad tx rf Lc d own b nL ret pc ls (vi y :: vi x :: st) H Q := by
  intro H0 h0 p e R s m args below meth c Hc locs lsC A hC ho hP hD hS hl
  exact lv_isub hC.1 hC.2.1 hd (k H0 h0 p e R s m args below meth c Hc locs lsC A hC (ho.pop.pop.push trivial) hP hD hS hl)
theorem g_imul {x y : Int32} (hd : decode b pc = .ok (.imul, 1)) (k : Gp l cid D ad tx rf Lc d own b nL ret (pc + 1) ls (vi (x * y) :: st) H Q) : Gp l cid D ad tx rf Lc d own b nL ret pc ls (vi y :: vi x :: st) H Q := by
  intro H0 h0 p e R s m args below meth c Hc locs lsC A hC ho hP hD hS hl
  exact lv_imul hC.1 hC.2.1 hd (k H0 h0 p e R s m args below meth c Hc locs lsC A hC (ho.pop.pop.push trivial) hP hD hS hl)
theorem g_iand {x y : Int32} (hd : decode b pc = .ok (.iand, 1)) (k : Gp l cid D ad tx rf Lc d own b nL ret (pc + 1) ls (vi (x &&& y) :: st) H Q) : Gp l cid D ad tx rf Lc d own b nL ret pc ls (vi y :: vi x :: st) H Q := by
  intro H0 h0 p e R s m args below meth c Hc locs lsC A hC ho hP hD hS hl
  exact lv_iand hC.1 hC.2.1 hd (k H0 h0 p e R s m args below meth c Hc locs lsC A hC (ho.pop.pop.push trivial) hP hD hS hl)
theorem g_ior {x y : Int32} (hd : decode b pc = .ok (.ior, 1)) (k : Gp l cid D ad tx rf Lc d own b nL ret (pc + 1) ls (vi (x ||| y) :: st) H Q) : Gp l cid D ad tx rf Lc d own b nL ret pc ls (vi y :: vi x :: st) H Q := by
  intro H0 h0 p e R s m args below meth c Hc locs lsC A hC ho hP hD hS hl
  exact lv_ior hC.1 hC.2.1 hd (k H0 h0 p e R s m args below meth c Hc locs lsC A hC (ho.pop.pop.push trivial) hP hD hS hl)
theorem g_ishl {x y : Int32} (hd : decode b pc = .ok (.ishl, 1)) (k : Gp l cid D ad tx rf Lc d own b nL ret (pc + 1) ls (vi (x <<< (y &&& 31)) :: st) H Q) : Gp l cid D ad tx rf Lc d own b nL ret pc ls (vi y :: vi x :: st) H Q := by
  intro H0 h0 p e R s m args below meth c Hc locs lsC A hC ho hP hD hS hl
  exact lv_ishl hC.1 hC.2.1 hd (k H0 h0 p e R s m args below meth c Hc locs lsC A hC (ho.pop.pop.push trivial) hP hD hS hl)
theorem g_ishr {x y : Int32} (hd : decode b pc = .ok (.ishr, 1)) (k : Gp l cid D ad tx rf Lc d own b nL ret (pc + 1) ls (vi (x >>> (y &&& 31)) :: st) H Q) : Gp l cid D ad tx rf Lc d own b nL ret pc ls (vi y :: vi x :: st) H Q := by
  intro H0 h0 p e R s m args below meth c Hc locs lsC A hC ho hP hD hS hl
  exact lv_ishr hC.1 hC.2.1 hd (k H0 h0 p e R s m args below meth c Hc locs lsC A hC (ho.pop.pop.push trivial) hP hD hS hl)
theorem g_idiv {x y : Int32} (hd : decode b pc = .ok (.idiv, 1)) (hne : ¬ y = 0) (k : Gp l cid D ad tx rf Lc d own b nL ret (pc + 1) ls (vi (x / y) :: st) H Q) : Gp l cid D ad tx rf Lc d own b nL ret pc ls (vi y :: vi x :: st) H Q := by
  intro H0 h0 p e R s m args below meth c Hc locs lsC A hC ho hP hD hS hl
  exact lv_idiv hC.1 hC.2.1 hd hne (k H0 h0 p e R s m args below meth c Hc locs lsC A hC (ho.pop.pop.push trivial) hP hD hS hl)
theorem g_irem {x y : Int32} (hd : decode b pc = .ok (.irem, 1)) (hne : ¬ y = 0) (k : Gp l cid D ad tx rf Lc d own b nL ret (pc + 1) ls (vi (x - x / y * y) :: st) H Q) : Gp l cid D ad tx rf Lc d own b nL ret pc ls (vi y :: vi x :: st) H Q := by
  intro H0 h0 p e R s m args below meth c Hc locs lsC A hC ho hP hD hS hl
  exact lv_irem hC.1 hC.2.1 hd hne (k H0 h0 p e R s m args below meth c Hc locs lsC A hC (ho.pop.pop.push trivial) hP hD hS hl)
theorem g_iushr {x y v : Int32} (hd : decode b pc = .ok (.iushr, 1)) (hv : (x.toUInt32 >>> (y.toUInt32 &&& Int32.toUInt32 31)).toInt32 = v) (k : Gp l cid D ad tx rf Lc d own b nL ret (pc + 1) ls (vi v :: st) H Q) : Gp l cid D ad tx rf Lc d own b nL ret pc ls (vi y :: vi x :: st) H Q := by
  intro H0 h0 p e R s m args below meth c Hc locs lsC A hC ho hP hD hS hl
  exact lv_iushr hC.1 hC.2.1 hd hv (k H0 h0 p e R s m args below meth c Hc locs lsC A hC (ho.pop.pop.push trivial) hP hD hS hl)
theorem g_ineg {x : Int32} (hd : decode b pc = .ok (.ineg, 1)) (k : Gp l cid D ad tx rf Lc d own b nL ret (pc + 1) ls (vi (-x) :: st) H Q) : Gp l cid D ad tx rf Lc d own b nL ret pc ls (vi x :: st) H Q := by
  intro H0 h0 p e R s m args below meth c Hc locs lsC A hC ho hP hD hS hl
  exact lv_ineg hC.1 hC.2.1 hd (k H0 h0 p e R s m args below meth c Hc locs lsC A hC (ho.pop.push trivial) hP hD hS hl)
theorem g_i2b {x : Int32} (hd : decode b pc = .ok (.i2b, 1)) (k : Gp l cid D ad tx rf Lc d own b nL ret (pc + 1) ls (vi (x.toInt8.toInt32) :: st) H Q) : Gp l cid D ad tx rf Lc d own b nL ret pc ls (vi x :: st) H Q := by
  intro H0 h0 p e R s m args below meth c Hc locs lsC A hC ho hP hD hS hl
  exact lv_i2b hC.1 hC.2.1 hd rfl (k H0 h0 p e R s m args below meth c Hc locs lsC A hC (ho.pop.push trivial) hP hD hS hl)
theorem g_i2s {x : Int32} (hd : decode b pc = .ok (.i2s, 1)) (k : Gp l cid D ad tx rf Lc d own b nL ret (pc + 1) ls (vi (x.toInt16.toInt32) :: st) H Q) : Gp l cid D ad tx rf Lc d own b nL ret pc ls (vi x :: st) H Q := by
  intro H0 h0 p e R s m args below meth c Hc locs lsC A hC ho hP hD hS hl
  exact lv_i2s hC.1 hC.2.1 hd rfl (k H0 h0 p e R s m args below meth c Hc locs lsC A hC (ho.pop.push trivial) hP hD hS hl)
theorem g_i2c {x : Int32} (hd : decode b pc = .ok (.i2c, 1)) (k : Gp l cid D ad tx rf Lc d own b nL ret (pc + 1) ls (vi ((x.toUInt32 % 65536).toInt32) :: st) H Q) : Gp l cid D ad tx rf Lc d own b nL ret pc ls (vi x :: st) H Q := by
  intro H0 h0 p e R s m args below meth c Hc locs lsC A hC ho hP hD hS hl
  exact lv_i2c hC.1 hC.2.1 hd rfl (k H0 h0 p e R s m args below meth c Hc locs lsC A hC (ho.pop.push trivial) hP hD hS hl)
theorem g_i2l {x : Int32} (hd : decode b pc = .ok (.i2l, 1)) (k : Gp l cid D ad tx rf Lc d own b nL ret (pc + 1) ls (vl x.toInt64 :: st) H Q) : Gp l cid D ad tx rf Lc d own b nL ret pc ls (vi x :: st) H Q := by
  intro H0 h0 p e R s m args below meth c Hc locs lsC A hC ho hP hD hS hl
  exact lv_i2l hC.1 hC.2.1 hd rfl (k H0 h0 p e R s m args below meth c Hc locs lsC A hC (ho.pop.push trivial) hP hD hS hl)
theorem g_l2i {x : Int64} (hd : decode b pc = .ok (.l2i, 1)) (k : Gp l cid D ad tx rf Lc d own b nL ret (pc + 1) ls (vi x.toInt32 :: st) H Q) : Gp l cid D ad tx rf Lc d own b nL ret pc ls (vl x :: st) H Q := by
  intro H0 h0 p e R s m args below meth c Hc locs lsC A hC ho hP hD hS hl
  exact lv_l2i hC.1 hC.2.1 hd rfl (k H0 h0 p e R s m args below meth c Hc locs lsC A hC (ho.pop.push trivial) hP hD hS hl)
theorem g_ladd {x y : Int64} (hd : decode b pc = .ok (.ladd, 1)) (k : Gp l cid D ad tx rf Lc d own b nL ret (pc + 1) ls (vl (x + y) :: st) H Q) : Gp l cid D ad tx rf Lc d own b nL ret pc ls (vl y :: vl x :: st) H Q := by
  intro H0 h0 p e R s m args below meth c Hc locs lsC A hC ho hP hD hS hl
  exact lv_ladd hC.1 hC.2.1 hd (k H0 h0 p e R s m args below meth c Hc locs lsC A hC (ho.pop.pop.push trivial) hP hD hS hl)
theorem g_lmul {x y : Int64} (hd : decode b pc = .ok (.lmul, 1)) (k : Gp l cid D ad tx rf Lc d own b nL ret (pc + 1) ls (vl (x * y) :: st) H Q) : Gp l cid D ad tx rf Lc d own b nL ret pc ls (vl y :: vl x :: st) H Q := by
  intro H0 h0 p e R s m args below meth c Hc locs lsC A hC ho hP hD hS hl
  exact lv_lmul hC.1 hC.2.1 hd (k H0 h0 p e R s m args below meth c Hc locs lsC A hC (ho.pop.pop.push trivial) hP hD hS hl)
theorem g_ldiv {x y : Int64} (hd : decode b pc = .ok (.ldiv, 1)) (hne : ¬ y = 0) (k : Gp l cid D ad tx rf Lc d own b nL ret (pc + 1) ls (vl (x / y) :: st) H Q) : Gp l cid D ad tx rf Lc d own b nL ret pc ls (vl y :: vl x :: st) H Q := by
  intro H0 h0 p e R s m args below meth c Hc locs lsC A hC ho hP hD hS hl
  exact lv_ldiv hC.1 hC.2.1 hd hne (k H0 h0 p e R s m args below meth c Hc locs lsC A hC (ho.pop.pop.push trivial) hP hD hS hl)
theorem g_lrem {x y : Int64} (hd : decode b pc = .ok (.lrem, 1)) (hne : ¬ y = 0) (k : Gp l cid D ad tx rf Lc d own b nL ret (pc + 1) ls (vl (x - x / y * y) :: st) H Q) : Gp l cid D ad tx rf Lc d own b nL ret pc ls (vl y :: vl x :: st) H Q := by
  intro H0 h0 p e R s m args below meth c Hc locs lsC A hC ho hP hD hS hl
  exact lv_lrem hC.1 hC.2.1 hd hne (k H0 h0 p e R s m args below meth c Hc locs lsC A hC (ho.pop.pop.push trivial) hP hD hS hl)
theorem g_lcmp {x y : Int64} (hd : decode b pc = .ok (.lcmp, 1)) (k : Gp l cid D ad tx rf Lc d own b nL ret (pc + 1) ls (vi (lg_cmp x y) :: st) H Q) : Gp l cid D ad tx rf Lc d own b nL ret pc ls (vl y :: vl x :: st) H Q := by
  intro H0 h0 p e R s m args below meth c Hc locs lsC A hC ho hP hD hS hl
  exact W.lcmp hC.1 hC.2.1 hd (k H0 h0 p e R s m args below meth c Hc locs lsC A hC (ho.pop.pop.push trivial) hP hD hS hl)
theorem g_dup {v : AV} (hd : decode b pc = .ok (.dup, 1)) (hv : (cv ad v).category = 1) (k : Gp l cid D ad tx rf Lc d own b nL ret (pc + 1) ls (v :: v :: st) H Q) : Gp l cid D ad tx rf Lc d own b nL ret pc ls (v :: st) H Q := by
  intro H0 h0 p e R s m args below meth c Hc locs lsC A hC ho hP hD hS hl
  exact lv_dup hC.1 hC.2.1 hd hv (k H0 h0 p e R s m args below meth c Hc locs lsC A hC (ho.push ho.top) hP hD hS hl)
theorem g_pop {v : AV} (hd : decode b pc = .ok (.pop, 1)) (hv : (cv ad v).category = 1) (k : Gp l cid D ad tx rf Lc d own b nL ret (pc + 1) ls (st) H Q) : Gp l cid D ad tx rf Lc d own b nL ret pc ls (v :: st) H Q := by
  intro H0 h0 p e R s m args below meth c Hc locs lsC A hC ho hP hD hS hl
  exact lv_pop hC.1 hC.2.1 hd hv (k H0 h0 p e R s m args below meth c Hc locs lsC A hC (ho.pop) hP hD hS hl)
theorem g_if_eq {x : Int32} {off : Int} {tgt : Nat} (hd : decode b pc = .ok (.ifCond .eq off, 3)) (ht : (pc : Int) + off = (tgt : Int)) (kt : x = 0 → Gp l cid D ad tx rf Lc d own b nL ret tgt ls st H Q) (kf : ¬ x = 0 → Gp l cid D ad tx rf Lc d own b nL ret (pc + 3) ls st H Q) : Gp l cid D ad tx rf Lc d own b nL ret pc ls (vi x :: st) H Q := by
  intro H0 h0 p e R s m args below meth c Hc locs lsC A hC ho hP hD hS hl
  exact lv_if_eq hC.1 hC.2.1 hd ht (fun h => kt h H0 h0 p e R s m args below meth c Hc locs lsC A hC ho.pop hP hD hS hl) (fun h => kf h H0 h0 p e R s m args below meth c Hc locs lsC A hC ho.pop hP hD hS hl)
theorem g_icmp_eq {x y : Int32} {off : Int} {tgt : Nat} (hd : decode b pc = .ok (.if_icmp .eq off, 3)) (ht : (pc : Int) + off = (tgt : Int)) (kt : x = y → Gp l cid D ad tx rf Lc d own b nL ret tgt ls st H Q) (kf : ¬ x = y → Gp l cid D ad tx rf Lc d own b nL ret (pc + 3) ls st H Q) : Gp l cid D ad tx rf Lc d own b nL ret pc ls (vi y :: vi x :: st) H Q := by
  intro H0 h0 p e R s m args below meth c Hc locs lsC A hC ho hP hD hS hl
  exact lv_icmp_eq hC.1 hC.2.1 hd ht (fun h => kt h H0 h0 p e R s m args below meth c Hc locs lsC A hC ho.pop.pop hP hD hS hl) (fun h => kf h H0 h0 p e R s m args below meth c Hc locs lsC A hC ho.pop.pop hP hD hS hl)
theorem g_if_ne {x : Int32} {off : Int} {tgt : Nat} (hd : decode b pc = .ok (.ifCond .ne off, 3)) (ht : (pc : Int) + off = (tgt : Int)) (kt : ¬ x = 0 → Gp l cid D ad tx rf Lc d own b nL ret tgt ls st H Q) (kf : x = 0 → Gp l cid D ad tx rf Lc d own b nL ret (pc + 3) ls st H Q) : Gp l cid D ad tx rf Lc d own b nL ret pc ls (vi x :: st) H Q := by
  intro H0 h0 p e R s m args below meth c Hc locs lsC A hC ho hP hD hS hl
  exact lv_if_ne hC.1 hC.2.1 hd ht (fun h => kt h H0 h0 p e R s m args below meth c Hc locs lsC A hC ho.pop hP hD hS hl) (fun h => kf h H0 h0 p e R s m args below meth c Hc locs lsC A hC ho.pop hP hD hS hl)
theorem g_icmp_ne {x y : Int32} {off : Int} {tgt : Nat} (hd : decode b pc = .ok (.if_icmp .ne off, 3)) (ht : (pc : Int) + off = (tgt : Int)) (kt : ¬ x = y → Gp l cid D ad tx rf Lc d own b nL ret tgt ls st H Q) (kf : x = y → Gp l cid D ad tx rf Lc d own b nL ret (pc + 3) ls st H Q) : Gp l cid D ad tx rf Lc d own b nL ret pc ls (vi y :: vi x :: st) H Q := by
  intro H0 h0 p e R s m args below meth c Hc locs lsC A hC ho hP hD hS hl
  exact lv_icmp_ne hC.1 hC.2.1 hd ht (fun h => kt h H0 h0 p e R s m args below meth c Hc locs lsC A hC ho.pop.pop hP hD hS hl) (fun h => kf h H0 h0 p e R s m args below meth c Hc locs lsC A hC ho.pop.pop hP hD hS hl)
theorem g_if_lt {x : Int32} {off : Int} {tgt : Nat} (hd : decode b pc = .ok (.ifCond .lt off, 3)) (ht : (pc : Int) + off = (tgt : Int)) (kt : x < 0 → Gp l cid D ad tx rf Lc d own b nL ret tgt ls st H Q) (kf : ¬ x < 0 → Gp l cid D ad tx rf Lc d own b nL ret (pc + 3) ls st H Q) : Gp l cid D ad tx rf Lc d own b nL ret pc ls (vi x :: st) H Q := by
  intro H0 h0 p e R s m args below meth c Hc locs lsC A hC ho hP hD hS hl
  exact lv_if_lt hC.1 hC.2.1 hd ht (fun h => kt h H0 h0 p e R s m args below meth c Hc locs lsC A hC ho.pop hP hD hS hl) (fun h => kf h H0 h0 p e R s m args below meth c Hc locs lsC A hC ho.pop hP hD hS hl)
theorem g_icmp_lt {x y : Int32} {off : Int} {tgt : Nat} (hd : decode b pc = .ok (.if_icmp .lt off, 3)) (ht : (pc : Int) + off = (tgt : Int)) (kt : x < y → Gp l cid D ad tx rf Lc d own b nL ret tgt ls st H Q) (kf : ¬ x < y → Gp l cid D ad tx rf Lc d own b nL ret (pc + 3) ls st H Q) : Gp l cid D ad tx rf Lc d own b nL ret pc ls (vi y :: vi x :: st) H Q := by
  intro H0 h0 p e R s m args below meth c Hc locs lsC A hC ho hP hD hS hl
  exact lv_icmp_lt hC.1 hC.2.1 hd ht (fun h => kt h H0 h0 p e R s m args below meth c Hc locs lsC A hC ho.pop.pop hP hD hS hl) (fun h => kf h H0 h0 p e R s m args below meth c Hc locs lsC A hC ho.pop.pop hP hD hS hl)
theorem g_if_ge {x : Int32} {off : Int} {tgt : Nat} (hd : decode b pc = .ok (.ifCond .ge off, 3)) (ht : (pc : Int) + off = (tgt : Int)) (kt : 0 ≤ x → Gp l cid D ad tx rf Lc d own b nL ret tgt ls st H Q) (kf : ¬ 0 ≤ x → Gp l cid D ad tx rf Lc d own b nL ret (pc + 3) ls st H Q) : Gp l cid D ad tx rf Lc d own b nL ret pc ls (vi x :: st) H Q := by
  intro H0 h0 p e R s m args below meth c Hc locs lsC A hC ho hP hD hS hl
  exact lv_if_ge hC.1 hC.2.1 hd ht (fun h => kt h H0 h0 p e R s m args below meth c Hc locs lsC A hC ho.pop hP hD hS hl) (fun h => kf h H0 h0 p e R s m args below meth c Hc locs lsC A hC ho.pop hP hD hS hl)
theorem g_icmp_ge {x y : Int32} {off : Int} {tgt : Nat} (hd : decode b pc = .ok (.if_icmp .ge off, 3)) (ht : (pc : Int) + off = (tgt : Int)) (kt : y ≤ x → Gp l cid D ad tx rf Lc d own b nL ret tgt ls st H Q) (kf : ¬ y ≤ x → Gp l cid D ad tx rf Lc d own b nL ret (pc + 3) ls st H Q) : Gp l cid D ad tx rf Lc d own b nL ret pc ls (vi y :: vi x :: st) H Q := by
  intro H0 h0 p e R s m args below meth c Hc locs lsC A hC ho hP hD hS hl
  exact lv_icmp_ge hC.1 hC.2.1 hd ht (fun h => kt h H0 h0 p e R s m args below meth c Hc locs lsC A hC ho.pop.pop hP hD hS hl) (fun h => kf h H0 h0 p e R s m args below meth c Hc locs lsC A hC ho.pop.pop hP hD hS hl)
theorem g_if_gt {x : Int32} {off : Int} {tgt : Nat} (hd : decode b pc = .ok (.ifCond .gt off, 3)) (ht : (pc : Int) + off = (tgt : Int)) (kt : 0 < x → Gp l cid D ad tx rf Lc d own b nL ret tgt ls st H Q) (kf : ¬ 0 < x → Gp l cid D ad tx rf Lc d own b nL ret (pc + 3) ls st H Q) : Gp l cid D ad tx rf Lc d own b nL ret pc ls (vi x :: st) H Q := by
  intro H0 h0 p e R s m args below meth c Hc locs lsC A hC ho hP hD hS hl
  exact lv_if_gt hC.1 hC.2.1 hd ht (fun h => kt h H0 h0 p e R s m args below meth c Hc locs lsC A hC ho.pop hP hD hS hl) (fun h => kf h H0 h0 p e R s m args below meth c Hc locs lsC A hC ho.pop hP hD hS hl)
theorem g_icmp_gt {x y : Int32} {off : Int} {tgt : Nat} (hd : decode b pc = .ok (.if_icmp .gt off, 3)) (ht : (pc : Int) + off = (tgt : Int)) (kt : y < x → Gp l cid D ad tx rf Lc d own b nL ret tgt ls st H Q) (kf : ¬ y < x → Gp l cid D ad tx rf Lc d own b nL ret (pc + 3) ls st H Q) : Gp l cid D ad tx rf Lc d own b nL ret pc ls (vi y :: vi x :: st) H Q := by
  intro H0 h0 p e R s m args below meth c Hc locs lsC A hC ho hP hD hS hl
  exact lv_icmp_gt hC.1 hC.2.1 hd ht (fun h => kt h H0 h0 p e R s m args below meth c Hc locs lsC A hC ho.pop.pop hP hD hS hl) (fun h => kf h H0 h0 p e R s m args below meth c Hc locs lsC A hC ho.pop.pop hP hD hS hl)
theorem g_if_le {x : Int32} {off : Int} {tgt : Nat} (hd : decode b pc = .ok (.ifCond .le off, 3)) (ht : (pc : Int) + off = (tgt : Int)) (kt : x ≤ 0 → Gp l cid D ad tx rf Lc d own b nL ret tgt ls st H Q) (kf : ¬ x ≤ 0 → Gp l cid D ad tx rf Lc d own b nL ret (pc + 3) ls st H Q) : Gp l cid D ad tx rf Lc d own b nL ret pc ls (vi x :: st) H Q := by
  intro H0 h0 p e R s m args below meth c Hc locs lsC A hC ho hP hD hS hl
  exact lv_if_le hC.1 hC.2.1 hd ht (fun h => kt h H0 h0 p e R s m args below meth c Hc locs lsC A hC ho.pop hP hD hS hl) (fun h => kf h H0 h0 p e R s m args below meth c Hc locs lsC A hC ho.pop hP hD hS hl)
theorem g_icmp_le {x y : Int32} {off : Int} {tgt : Nat} (hd : decode b pc = .ok (.if_icmp .le off, 3)) (ht : (pc : Int) + off = (tgt : Int)) (kt : x ≤ y → Gp l cid D ad tx rf Lc d own b nL ret tgt ls st H Q) (kf : ¬ x ≤ y → Gp l cid D ad tx rf Lc d own b nL ret (pc + 3) ls st H Q) : Gp l cid D ad tx rf Lc d own b nL ret pc ls (vi y :: vi x :: st) H Q := by
  intro H0 h0 p e R s m args below meth c Hc locs lsC A hC ho hP hD hS hl
  exact lv_icmp_le hC.1 hC.2.1 hd ht (fun h => kt h H0 h0 p e R s m args below meth c Hc locs lsC A hC ho.pop.pop hP hD hS hl) (fun h => kf h H0 h0 p e R s m args below meth c Hc locs lsC A hC ho.pop.pop hP hD hS hl)
theorem g_goto {off : Int} {tgt : Nat} (hd : decode b pc = .ok (.goto off, 3)) (ht : (pc : Int) + off = (tgt : Int)) (k : Gp l cid D ad tx rf Lc d own b nL ret tgt ls st H Q) : Gp l cid D ad tx rf Lc d own b nL ret pc ls st H Q := by
  intro H0 h0 p e R s m args below meth c Hc locs lsC A hC ho hP hD hS hl
  exact lv_goto hC.1 hC.2.1 hd ht (k H0 h0 p e R s m args below meth c Hc locs lsC A hC ho hP hD hS hl)
theorem g_nonnullR {kd ix : Nat} {off : Int} {tgt : Nat} (hd : decode b pc = .ok (.ifnonnull off, 3)) (ht : (pc : Int) + off = (tgt : Int)) (k : Gp l cid D ad tx rf Lc d own b nL ret tgt ls st H Q) : Gp l cid D ad tx rf Lc d own b nL ret pc ls (vr kd ix :: st) H Q := by
  intro H0 h0 p e R s m args below meth c Hc locs lsC A hC ho hP hD hS hl
  exact lv_ifnonnull hC.1 hC.2.1 hd ht (k H0 h0 p e R s m args below meth c Hc locs lsC A hC ho.pop hP hD hS hl)
theorem g_nonnullN {off : Int} (hd : decode b pc = .ok (.ifnonnull off, 3)) (k : Gp l cid D ad tx rf Lc d own b nL ret (pc + 3) ls st H Q) : Gp l cid D ad tx rf Lc d own b nL ret pc ls (vn :: st) H Q := by
  intro H0 h0 p e R s m args below meth c Hc locs lsC A hC ho hP hD hS hl
  exact lv_ifnonnullN hC.1 hC.2.1 hd (k H0 h0 p e R s m args below meth c Hc locs lsC A hC ho.pop hP hD hS hl)
theorem g_tableIn {dflt lo hi : Int} {offs : Array Int} {len : Nat} {x : Int32} {off : Int} {tgt : Nat} (hd : decode b pc = .ok (.tableswitch dflt lo hi offs, len)) (h1 : ¬ x.toInt < lo) (h2 : ¬ hi < x.toInt) (hof : offs[(x.toInt - lo).toNat]? = some off) (ht : (pc : Int) + off = (tgt : Int)) (k : Gp l cid D ad tx rf Lc d own b nL ret tgt ls st H Q) : Gp l cid D ad tx rf Lc d own b nL ret pc ls (vi x :: st) H Q := by
  intro H0 h0 p e R s m args below meth c Hc locs lsC A hC ho hP hD hS hl
  exact lv_tableIn hC.1 hC.2.1 hd h1 h2 hof ht (k H0 h0 p e R s m args below meth c Hc locs lsC A hC ho.pop hP hD hS hl)
theorem g_tableOut {dflt lo hi : Int} {offs : Array Int} {len : Nat} {x : Int32} {tgt : Nat} (hd : decode b pc = .ok (.tableswitch dflt lo hi offs, len)) (h : x.toInt < lo ∨ hi < x.toInt) (ht : (pc : Int) + dflt = (tgt : Int)) (k : Gp l cid D ad tx rf Lc d own b nL ret tgt ls st H Q) : Gp l cid D ad tx rf Lc d own b nL ret pc ls (vi x :: st) H Q := by
  intro H0 h0 p e R s m args below meth c Hc locs lsC A hC ho hP hD hS hl
  exact lv_tableOut hC.1 hC.2.1 hd h ht (k H0 h0 p e R s m args below meth c Hc locs lsC A hC ho.pop hP hD hS hl)
theorem g_iret {x : Int32} (hd : decode b pc = .ok (.ireturn, 1)) (hr : ret = some .int) (hq : Q (vi x) H) : Gp l cid D ad tx rf Lc d own b nL ret pc ls [vi x] H Q := by
  subst hr
  intro H0 h0 p e R s m args below meth c Hc locs lsC A hC ho hP hD hS hl
  exact W.iret hC.1 hC.2.1 hC.2.2.2.1 (fun t ht _ => ⟨vi x, H, rfl, trivial, hq, by rw [ht]; exact hP, hS.F ht, h0⟩) hS.2.2 hd hC.2.2.2.2.2.1
theorem g_lret {x : Int64} (hd : decode b pc = .ok (.lreturn, 1)) (hr : ret = some .long) (hq : Q (vl x) H) : Gp l cid D ad tx rf Lc d own b nL ret pc ls [vl x] H Q := by
  subst hr
  intro H0 h0 p e R s m args below meth c Hc locs lsC A hC ho hP hD hS hl
  exact W.lret hC.1 hC.2.1 hC.2.2.2.1 (fun t ht _ => ⟨vl x, H, rfl, trivial, hq, by rw [ht]; exact hP, hS.F ht, h0⟩) hS.2.2 hd hC.2.2.2.2.2.1
theorem g_zret {x : Int32} {ty : FieldType} (hd : decode b pc = .ok (.ireturn, 1)) (hr : ret = some ty) (hn : narrow ty (.int x) = .int x) (hq : Q (vi x) H) : Gp l cid D ad tx rf Lc d own b nL ret pc ls [vi x] H Q := by
  subst hr
  intro H0 h0 p e R s m args below meth c Hc locs lsC A hC ho hP hD hS hl
  exact W.zret hC.1 hC.2.1 hC.2.2.2.1 hn (fun t ht _ => ⟨vi x, H, rfl, trivial, hq, by rw [ht]; exact hP, hS.F ht, h0⟩) hS.2.2 hd hC.2.2.2.2.2.1
theorem g_vret (hd : decode b pc = .ok (.return_, 1)) (hr : ret = none) (hq : Q (vi 0) H) : Gp l cid D ad tx rf Lc d own b nL ret pc ls [] H Q := by
  subst hr
  intro H0 h0 p e R s m args below meth c Hc locs lsC A hC ho hP hD hS hl
  exact W.vret hC.1 hC.2.1 hC.2.2.2.1 (fun t ht _ => ⟨vi 0, H, rfl, trivial, hq, by rw [ht]; exact hP, hS.F ht, h0⟩) hS.2.2 hd hC.2.2.2.2.2.1
/-- fewer locals are known -/
def xless : List (Option AV) → List (Option AV) → Prop
  | [], _ => True
  | none :: a, _ :: b => xless a b
  | some v :: a, w :: b => w = some v ∧ xless a b
  | none :: a, [] => xless a []
  | some _ :: _, [] => False
theorem xless_get : ∀ {a c : List (Option AV)} (_ : xless a c) {i : Nat} {v : AV}, a[i]? = some (some v) → c[i]? = some (some v) := by
  intro a
  induction a with
  | nil => intro c _ i v h; simp at h
  | cons x a ih =>
    intro c hl i v h
    cases c with
    | nil =>
      cases x with
      | none => cases i with
        | zero => simp at h
        | succ i => exact absurd (ih (c := []) hl (i := i) (v := v) (by simpa using h)) (by simp)
      | some x => exact hl.elim
    | cons y c =>
      cases x with
      | none => cases i with
        | zero => simp at h
        | succ i => simpa using ih hl (i := i) (v := v) (by simpa using h)
      | some x =>
        obtain ⟨rfl, hl⟩ := hl
        cases i with
        | zero => simpa using h
        | succ i => simpa using ih hl (i := i) (v := v) (by simpa using h)
theorem g_drop {ls2 : List (Option AV)} (h : xless ls2 ls) (k : Gp l cid D ad tx rf Lc d own b nL ret pc ls2 st H Q) : Gp l cid D ad tx rf Lc d own b nL ret pc ls st H Q := by
  intro H0 h0 p e R s m args below meth c Hc locs lsC A hC ho hP hD hS hl
  refine k H0 h0 p e R s m args below meth c Hc locs lsC A hC ⟨fun v hv => ?_, ho.2⟩ hP hD hS (lv_mono hl fun q hq => ?_)
  · obtain ⟨i, hi⟩ := List.mem_iff_getElem?.mp hv
    exact ho.1 v (List.mem_of_getElem? (xless_get h hi))
  · obtain ⟨i, v, hi, rfl⟩ := mem_lcv.mp hq
    exact mem_lcv.mpr ⟨i, v, xless_get h hi, rfl⟩
theorem Gp.mono {Q2 : AV → HH → Prop} (h : Gp l cid D ad tx rf Lc d own b nL ret pc ls st H Q) (hq : ∀ v H2, Q v H2 → Q2 v H2) : Gp l cid D ad tx rf Lc d own b nL ret pc ls st H Q2 := by
  intro H0 h0 p e R s m args below meth c Hc locs lsC A hC ho hP hD hS hl
  intro T hT X
  obtain ⟨t, a1, o, b1, b2, ⟨v, H2, c1, c2, c3, c4⟩, b4⟩ := h H0 h0 p e R s m args below meth c Hc locs lsC A hC ho hP hD hS hl T hT X
  exact ⟨t, a1, o, b1, b2, ⟨v, H2, c1, c2, hq _ _ c3, c4⟩, b4⟩
end RUL
