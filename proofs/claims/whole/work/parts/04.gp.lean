/-! 'Gp': from any machine state that looks like (pc, ls, st, H) in a frame of that method, it goes on and returns, with Q of its value and the heap; its room is xrm d. -/
def xok (Lc : List (Nat × Nat)) (nT : Nat) (v : AV) : Prop := match v with
  | .inr (.inr (some (k, i))) => (k, i) ∈ Lc ∨ (60 ≤ k ∧ k ≤ 61 ∧ i < nT) ∨ (62 ≤ k ∧ i = 0)
  | _ => True
def xoks (Lc : List (Nat × Nat)) (nT : Nat) (ls : List (Option AV)) (st : List AV) : Prop := (∀ v, some v ∈ ls → xok Lc nT v) ∧ ∀ v ∈ st, xok Lc nT v
theorem xoks.push {Lc : List (Nat × Nat)} {nT : Nat} {ls : List (Option AV)} {st : List AV} {v : AV} (h : xoks Lc nT ls st) (hv : xok Lc nT v) : xoks Lc nT ls (v :: st) := ⟨h.1, fun w hw => (List.mem_cons.mp hw).elim (fun e => e ▸ hv) (h.2 w)⟩
theorem xoks.pop {Lc : List (Nat × Nat)} {nT : Nat} {ls : List (Option AV)} {st : List AV} {v : AV} (h : xoks Lc nT ls (v :: st)) : xoks Lc nT ls st := ⟨h.1, fun w hw => h.2 w (List.mem_cons_of_mem _ hw)⟩
theorem xoks.top {Lc : List (Nat × Nat)} {nT : Nat} {ls : List (Option AV)} {st : List AV} {v : AV} (h : xoks Lc nT ls (v :: st)) : xok Lc nT v := h.2 v List.mem_cons_self
theorem xoks.loc {Lc : List (Nat × Nat)} {nT : Nat} {ls : List (Option AV)} {st : List AV} {v : AV} {i : Nat} (h : xoks Lc nT ls st) (hi : ls[i]? = some (some v)) : xok Lc nT v := h.1 v (List.mem_of_getElem? hi)
theorem xoks.set {Lc : List (Nat × Nat)} {nT : Nat} {ls : List (Option AV)} {st : List AV} {v : AV} {i : Nat} (h : xoks Lc nT ls st) (hv : xok Lc nT v) : xoks Lc nT (ls.set i (some v)) st := by
  refine ⟨fun w hw => ?_, h.2⟩
  rcases List.mem_or_eq_of_mem_set hw with q | q
  · exact h.1 w q
  · cases q
    exact hv
theorem xoks.unset {Lc : List (Nat × Nat)} {nT : Nat} {ls : List (Option AV)} {st : List AV} {i : Nat} (h : xoks Lc nT ls st) : xoks Lc nT (ls.set i none) st := by
  refine ⟨fun w hw => ?_, h.2⟩
  rcases List.mem_or_eq_of_mem_set hw with q | q
  · exact h.1 w q
  · cases q
/-- the layout: no object twice, kinds under 60, where references lead is in it -/
def xclo (Lc : List (Nat × Nat)) (nT : Nat) : Prop := Lc.Nodup ∧ (∀ q ∈ Lc, q.1 < 60) ∧ (∀ q ∈ Lc, ∀ k x, xok Lc nT (xld q.1 q.2 k x)) ∧ ∀ q ∈ Lc, 3 ≤ (xsh q.1).1 → ∀ j, j < (xsh q.1).2.2 → xok Lc nT (vr (xra q.1).1 ((xra q.1).2 q.2 j))
/-- nest mates' methods that are called: whose entry, which, what, the host -/
def xNST : List (String × Nat × MethodName × String) := [("ThreePoints$Ride", 49, ⟨"ThreePoints", "across", "(I)I"⟩, "ThreePoints"), ("ThreePoints$Sheet", 41, ⟨"ThreePoints", "isWithin", "(III)Z"⟩, "ThreePoints")]
/-- what lies outside the layout stays as it was -/
def xag (Lc : List (Nat × Nat)) (H0 H : HH) : Prop := ∀ k i, (k, i) ∉ Lc → H k i = H0 k i
theorem xag.rf {Lc : List (Nat × Nat)} {H : HH} : xag Lc H H := fun _ _ _ => rfl
theorem xag.tr {Lc : List (Nat × Nat)} {H0 H1 H2 : HH} (h : xag Lc H0 H1) (h2 : xag Lc H1 H2) : xag Lc H0 H2 := fun k i q => (h2 k i q).trans (h k i q)
theorem xag.row {Lc : List (Nat × Nat)} {H0 H : HH} {kd ix : Nat} {f : Nat → Int32} (h : xag Lc H0 H) (hm : (kd, ix) ∈ Lc) : xag Lc H0 (hrow H kd ix f) := by
  intro k i q
  show (if k = kd ∧ i = ix then f else H k i) = H0 k i
  rw [if_neg (fun z => q (by rw [z.1, z.2]; exact hm))]
  exact h k i q
theorem xag.hu {Lc : List (Nat × Nat)} {H0 H : HH} {kd ix j : Nat} {x : Int32} (h : xag Lc H0 H) (hm : (kd, ix) ∈ Lc) : xag Lc H0 (hu H kd ix j x) := by
  intro k i q
  funext c
  show (if k = kd ∧ i = ix ∧ c = j then x else H k i c) = H0 k i c
  rw [if_neg (fun z => q (by rw [z.1, z.2.1]; exact hm))]
  exact congrFun (h k i q) c
section GP
variable (l : Launch) (cid : Nat → ClassId) (D : va_G) (ad : Nat → Nat → Nat) (tx : List (List Int32)) (rf : List (String × Nat × String)) (Lc : List (Nat × Nat))
def xRefs (U : State) : Prop := (∀ i r, rf[i]? = some r → vk_R r.1 r.2.1 r.2.2 (ad 60 i) U) ∧ ∀ q ∈ xNST, va_Nw (.methodLinkNest q.1 q.2.1 q.2.2.1 q.2.2.2) U
def xC (p : Program) (c : Code) (meth : Method) (s : State) (m : MethodId) (args : Array Value) (R : Room) (A : Nat → Prop) (d : Nat) (own : String) (b : ByteArray) (nL : Nat) (ret : Option FieldType) : Prop :=
  p.tables.exec = Jvm.exec ∧ c.code = b ∧ c.maxLocals = nL ∧ meth.sig.returnType = ret ∧ s.vm.findClass own = some m.cls ∧ meth.locks = false ∧ (∀ w ∈ xtbl, w.before args s = true) ∧ R = xrm d ∧
  va_K D xcl (xtys cid) s ∧ xStat ad tx A s s.heap ∧ xRefs ad rf s ∧ (∀ q, s.heap.size ≤ q → A q) ∧ xclo Lc tx.length
def xrt (ret : Option FieldType) (v : AV) : Option Value := match ret with
  | none => none
  | some _ => some (cv ad v)
def xQ (ret : Option FieldType) (Q : AV → HH → Prop) (A : Nat → Prop) (H0 : HH) : Array Value → State → Outcome → State → Prop := fun _ st oc t =>
  ∃ v H', oc = .returned (xrt ad ret v) ∧ xok Lc tx.length v ∧ Q v H' ∧ va_P D xcl (xw cid ad Lc H') t.heap ∧ va_F A st t ∧ xag Lc H0 H'
def Gp (d : Nat) (own : String) (b : ByteArray) (nL : Nat) (ret : Option FieldType) (pc : Nat) (ls : List (Option AV)) (st : List AV) (H : HH) (Q : AV → HH → Prop) : Prop :=
  ∀ (H0 : HH), xag Lc H0 H → ∀ (p : Program) (e : Env) (R : Room) (s : State) (m : MethodId) (args : Array Value) (below : List Frame) (meth : Method) (c : Code) (Hc : Heap) (locs : List Loc) (lsC : Array Slot) (A : Nat → Prop),
    xC cid D ad tx rf Lc p c meth s m args R A d own b nL ret → xoks Lc tx.length ls st → va_P D xcl (xw cid ad Lc H) Hc → va_D A (xw cid ad Lc H) → va_S A s.heap Hc locs → lv_has lsC nL (lcv ad 0 ls) →
    W p l e R s m args below meth c Hc locs 0 0 (MQ below (xQ cid D ad tx Lc ret Q A H0) args s 0 0 A) (F0 m pc lsC (st.map (cv ad)))
end GP
section XW
variable {cid : Nat → ClassId} {D : va_G} {ad : Nat → Nat → Nat} {Lc : List (Nat × Nat)} {H : HH} {A : Nat → Prop} {Hc : Heap}
theorem xw_at {kd ix : Nat} (h : (kd, ix) ∈ Lc) : ∃ q0 : Nat, Lc[q0]? = some (kd, ix) ∧ (xw cid ad Lc H)[q0]? = some (ad kd ix, xcell cid ad kd ix (H kd ix)) := by
  obtain ⟨i, hi⟩ := List.mem_iff_getElem?.mp h
  exact ⟨i, hi, by simp [xw, hi]⟩
theorem xw_D {H' : HH} (h : va_D A (xw cid ad Lc H)) : va_D A (xw cid ad Lc H') := by
  refine ⟨fun i j p q hp hq e => ?_, fun k q hq => ?_⟩
  · simp only [xw, List.getElem?_map, Option.map_eq_some_iff] at hp hq
    obtain ⟨a, ha, rfl⟩ := hp
    obtain ⟨b, hb, rfl⟩ := hq
    exact h.1 i j (ad a.1 a.2, xcell cid ad a.1 a.2 (H a.1 a.2)) (ad b.1 b.2, xcell cid ad b.1 b.2 (H b.1 b.2)) (by simp only [xw, List.getElem?_map, ha, Option.map_some]) (by simp only [xw, List.getElem?_map, hb, Option.map_some]) e
  · simp only [xw, List.getElem?_map, Option.map_eq_some_iff] at hq
    obtain ⟨a, ha, rfl⟩ := hq
    exact h.2 k (ad a.1 a.2, xcell cid ad a.1 a.2 (H a.1 a.2)) (by simp only [xw, List.getElem?_map, ha, Option.map_some])
theorem xw_set {kd ix q0 : Nat} (hn : Lc.Nodup) (hq : Lc[q0]? = some (kd, ix)) (f : Nat → Int32) : (xw cid ad Lc H).set q0 (ad kd ix, xcell cid ad kd ix f) = xw cid ad Lc (hrow H kd ix f) := by
  apply List.ext_getElem?
  intro i
  by_cases hi : q0 = i
  · subst hi
    have hl : q0 < Lc.length := (List.getElem?_eq_some_iff.mp hq).1
    rw [List.getElem?_set_self (by simpa [xw] using hl)]
    simp [xw, hq, hrow]
  · rw [List.getElem?_set_ne hi]
    simp only [xw, List.getElem?_map]
    cases ha : Lc[i]? with
    | none => rfl
    | some a =>
      have hne : ¬ (a.1 = kd ∧ a.2 = ix) := by
        rintro ⟨h1, h2⟩
        have ea : a = (kd, ix) := by rw [← h1, ← h2]
        subst ea
        exact hi ((List.getElem?_inj (List.getElem?_eq_some_iff.mp hq).1 hn).mp (hq.trans ha.symm))
      simp [hrow, hne]
theorem hrow_upd (H : HH) (kd ix k : Nat) (x : Int32) : hrow H kd ix (upd (H kd ix) k x) = hu H kd ix k x := by
  funext a b c
  show (if a = kd ∧ b = ix then upd (H kd ix) k x else H a b) c = if a = kd ∧ b = ix ∧ c = k then x else H a b c
  by_cases h : a = kd ∧ b = ix
  · obtain ⟨rfl, rfl⟩ := h
    rw [if_pos ⟨rfl, rfl⟩]
    show (if c = k then x else H a b c) = _
    by_cases hc : c = k
    · rw [if_pos hc, if_pos ⟨rfl, rfl, hc⟩]
    · rw [if_neg hc, if_neg (fun q => hc q.2.2)]
  · rw [if_neg h, if_neg (fun q => h ⟨q.1, q.2.1⟩)]
end XW
