/-! THE MACHINE'S STATE AS PURE VALUES: a value is an int, a long, null or a reference (a kind, a number in it); the heap is a function of kind, number, slot. 'Gp' says of a place in a method: from any machine state that looks so, the method goes on and returns, with Q of its value and the heap. The rules g_.. turn Gp at an instruction into Gp at the next. -/
abbrev AV : Type := Int32 ⊕ (Int64 ⊕ Option (Nat × Nat))
abbrev HH : Type := Nat → Nat → Nat → Int32
abbrev vi (x : Int32) : AV := Sum.inl x
abbrev vl (x : Int64) : AV := Sum.inr (Sum.inl x)
abbrev vn : AV := Sum.inr (Sum.inr none)
abbrev vr (k i : Nat) : AV := Sum.inr (Sum.inr (some (k, i)))
def cv (ad : Nat → Nat → Nat) (v : AV) : Value := match v with
  | .inl x => .int x
  | .inr (.inl x) => .long x
  | .inr (.inr none) => .null
  | .inr (.inr (some (k, i))) => .ref (ad k i)
/-- one slot of one object becomes x -/
def hu (H : HH) (kd ix k : Nat) (x : Int32) : HH := fun a b c => if a = kd ∧ b = ix ∧ c = k then x else H a b c
/-- one object's slots become f -/
def hrow (H : HH) (kd ix : Nat) (f : Nat → Int32) : HH := fun a b => if a = kd ∧ b = ix then f else H a b
/-- what field k of an object holds, as a value -/
def xld (kd ix k : Nat) (x : Int32) : AV := match xsp kd k with
  | some t => vr t.1 (t.2 ix)
  | none => if kd = 19 ∧ k = 2 then (if 0 < x ∧ x < 8 then vr 11 (x.toNatClampNeg - 1) else vn) else vi x
def xcell (cid : Nat → ClassId) (ad : Nat → Nat → Nat) (kd ix : Nat) (f : Nat → Int32) : va_E := match xsh kd with
  | (0, ci, n) => .inr (ci, (List.range n).map fun k => cv ad (xld kd ix k (f k)))
  | (1, _, n) => .inl (cid 0, n, .inl f)
  | (2, _, n) => .inl (cid 1, n, .inl f)
  | (t, _, n) => .inl (cid (t - 1), n, .inr (.inr (.inr (.inr fun j => some (ad (xra kd).1 ((xra kd).2 ix j))))))
def xw (cid : Nat → ClassId) (ad : Nat → Nat → Nat) (Lc : List (Nat × Nat)) (H : HH) : va_W := Lc.map fun q => (ad q.1 q.2, xcell cid ad q.1 q.2 (H q.1 q.2))
def xtys (cid : Nat → ClassId) : List (ClassId × FieldType) := [(cid 0, .int), (cid 1, .boolean), (cid 2, .object "ThreePoints$Vehicle"), (cid 3, .object "ThreePoints$Text"), (cid 4, .object "ThreePoints$Sheet")]
def xrm (d : Nat) : Room := { frames := d, cells := 0, slots := 0, locals := d * 64 }
/-- rows that never change: which kinds they are (62 ACROSS, 63 BOUNDS, 64 ABOVE; 60 the texts, 61 their bytes) -/
def xACR : List Int32 := [0, 3, 6, 7, 8, 7, 6, 3, 0, -3, -6, -7, -8, -7, -6, -3]
def xBND : List Int32 := [9, 99, 100]
def xABV : List Int32 := [-1, 0, 0, 1, 2, 0]
abbrev vstr (a b c d e f g h i j k l m n : List Int32) : List (List Int32) := [a, b, c, d, e, f, g, h, i, j, k, l, m, n]
section STAT
variable (ad : Nat → Nat → Nat) (tx : List (List Int32))
def xStat (A : Nat → Prop) (U : State) (H : Heap) : Prop :=
  va_Z "ThreePoints" "ACROSS" "[I" (.ref (ad 62 0)) A U H ∧ va_T .int (ad 62 0) 16 (fun j => .int (xACR.getD j 0)) A U H ∧
  va_Z "ThreePoints$Text" "BOUNDS" "[I" (.ref (ad 63 0)) A U H ∧ va_T .int (ad 63 0) 3 (fun j => .int (xBND.getD j 0)) A U H ∧
  va_Z "ThreePoints$Vehicle" "ABOVE" "[I" (.ref (ad 64 0)) A U H ∧ va_T .int (ad 64 0) 6 (fun j => .int (xABV.getD j 0)) A U H ∧
  va_Z "java/lang/String" "COMPACT_STRINGS" "Z" (.int 1) A U H ∧ vk_S tx.length (tx.map List.length) tx (ad 60) (ad 61) A U H ∧
  (va_Z "jdk/internal/util/Preconditions" "SIOOBE_FORMATTER" "Ljava/util/function/BiFunction;" .null A U H ∨ va_Z "jdk/internal/util/Preconditions" "SIOOBE_FORMATTER" "Ljava/util/function/BiFunction;" (.ref (ad 65 0)) A U H)
theorem xStat.moved {A : Nat → Prop} {u U : State} {H : Heap} (hvm : u.vm.Alike U.vm) (h : xStat ad tx A u H) : xStat ad tx A U H := by
  obtain ⟨h1, h2, h3, h4, h5, h6, h7, h8, h9⟩ := h
  exact ⟨h1.moved hvm, h2.moved hvm, h3.moved hvm, h4.moved hvm, h5.moved hvm, h6.moved hvm, h7.moved hvm, h8.moved hvm, h9.imp (fun z => z.moved hvm) (fun z => z.moved hvm)⟩
theorem xStat.kept {A : Nat → Prop} {U : State} {H H1 : Heap} (h : xStat ad tx A U H) (hq : ∀ a : Nat, a < H.size → ¬ A a → H1[a]? = H[a]?) : xStat ad tx A U H1 := by
  obtain ⟨h1, h2, h3, h4, h5, h6, h7, h8, h9⟩ := h
  exact ⟨h1.kept hq, h2.kept hq, h3.kept hq, h4.kept hq, h5.kept hq, h6.kept hq, h7.kept hq, h8.kept hq, h9.imp (fun z => z.kept hq) (fun z => z.kept hq)⟩
theorem xStat.narrow {A B : Nat → Prop} {U : State} {H : Heap} (h : xStat ad tx A U H) (hAB : ∀ q, B q → A q) : xStat ad tx B U H := by
  obtain ⟨h1, h2, h3, h4, h5, h6, h7, h8, h9⟩ := h
  exact ⟨h1.narrow hAB, h2.narrow hAB, h3.narrow hAB, h4.narrow hAB, h5.narrow hAB, h6.narrow hAB, h7.narrow hAB, h8.narrow hAB, h9.imp (fun z => z.narrow hAB) (fun z => z.narrow hAB)⟩
end STAT
/-- the locals, by place: a value that is held, or nothing that is known -/
def lcv (ad : Nat → Nat → Nat) : Nat → List (Option AV) → List (Nat × Value)
  | _, [] => []
  | i, some v :: r => (i, cv ad v) :: lcv ad (i + 1) r
  | i, none :: r => lcv ad (i + 1) r
theorem mem_lcv {ad : Nat → Nat → Nat} {q : Nat × Value} : ∀ {ls : List (Option AV)} {j : Nat}, q ∈ lcv ad j ls ↔ ∃ (k : Nat) (v : AV), ls[k]? = some (some v) ∧ q = (j + k, cv ad v) := by
  intro ls
  induction ls with
  | nil => intro j; simp [lcv]
  | cons o r ih =>
    intro j
    cases o with
    | none =>
      rw [lcv, ih]
      constructor
      · rintro ⟨k, v, h, e⟩
        exact ⟨k + 1, v, by simpa using h, by rw [e]; congr 1; omega⟩
      · rintro ⟨k, v, h, e⟩
        cases k with
        | zero => simp at h
        | succ k => exact ⟨k, v, by simpa using h, by rw [e]; congr 1; omega⟩
    | some w =>
      rw [lcv, List.mem_cons, ih]
      constructor
      · rintro (rfl | ⟨k, v, h, e⟩)
        · exact ⟨0, w, by simp, rfl⟩
        · exact ⟨k + 1, v, by simpa using h, by rw [e]; congr 1; omega⟩
      · rintro ⟨k, v, h, e⟩
        cases k with
        | zero =>
          have hv : w = v := by simpa using h
          subst hv
          exact Or.inl e
        | succ k => exact Or.inr ⟨k, v, by simpa using h, by rw [e]; congr 1; omega⟩
theorem lv_mono {ls : Array Slot} {nL : Nat} {l l' : List (Nat × Value)} (h : lv_has ls nL l) (hs : ∀ q ∈ l', q ∈ l) : lv_has ls nL l' := ⟨h.1, h.2.1, fun q hq => h.2.2 q (hs q hq)⟩
/-- is the value at place i - 1 no long -/
def xnl (ls : List (Option AV)) (i : Nat) : Bool := match i with
  | 0 => true
  | k + 1 => match ls[k]? with
    | some (some (.inr (.inl _))) => false
    | _ => true
theorem cv_cat {ad : Nat → Nat → Nat} {v : AV} (h : (cv ad v).category = 2) : ∃ x, v = vl x := by
  rcases v with x | x | _ | ⟨k, i⟩
  · simp [cv, Value.category] at h
  · exact ⟨x, rfl⟩
  · simp [cv, Value.category] at h
  · simp [cv, Value.category] at h
theorem lcv_store {ad : Nat → Nat → Nat} {ls : List (Option AV)} {i : Nat} {v : AV} (hnl : xnl ls i = true) : ∀ q ∈ lcv ad 0 (ls.set i (some v)), q ∈ (i, cv ad v) :: (lcv ad 0 ls).filter (fun q => !(q.1 == i) && !(q.1 + 1 == i && q.2.category == 2)) := by
  intro q hq
  obtain ⟨k, w, h, rfl⟩ := mem_lcv.mp hq
  rw [Nat.zero_add]
  by_cases hk : i = k
  · subst hk
    rw [List.getElem?_set] at h
    by_cases hl : i < ls.length
    · simp [hl] at h
      subst h
      exact List.mem_cons_self
    · simp [hl] at h
  · rw [List.getElem?_set_ne hk] at h
    refine List.mem_cons_of_mem _ (List.mem_filter.mpr ⟨mem_lcv.mpr ⟨k, w, h, by rw [Nat.zero_add]⟩, ?_⟩)
    have h1 : ¬ k = i := fun e => hk e.symm
    simp only [Bool.and_eq_true, Bool.not_eq_true', beq_eq_false_iff_ne, ne_eq, h1, not_false_eq_true, true_and, Bool.and_eq_false_iff]
    by_cases h2 : k + 1 = i
    · right
      by_cases hc : (cv ad w).category = 2
      · obtain ⟨x, rfl⟩ := cv_cat hc
        subst h2
        simp [xnl, h] at hnl
      · simp [hc]
    · left
      exact h2
theorem lcv_store2 {ad : Nat → Nat → Nat} {ls : List (Option AV)} {i : Nat} {v : AV} (hnl : xnl ls i = true) : ∀ q ∈ lcv ad 0 ((ls.set i (some v)).set (i + 1) none), q ∈ (i, cv ad v) :: (lcv ad 0 ls).filter (fun q => !(q.1 == i) && (!(q.1 == i + 1) && !(q.1 + 1 == i && q.2.category == 2))) := by
  intro q hq
  obtain ⟨k, w, h, rfl⟩ := mem_lcv.mp hq
  have hk1 : ¬ i + 1 = k := by
    intro e
    subst e
    rw [List.getElem?_set] at h
    by_cases hl : i + 1 < (ls.set i (some v)).length
    · simp [hl] at h
    · simp [hl] at h
  rw [List.getElem?_set_ne hk1] at h
  have hm := lcv_store (ad := ad) hnl _ (mem_lcv.mpr ⟨k, w, h, rfl⟩)
  rcases List.mem_cons.mp hm with e | hm
  · rw [e]; exact List.mem_cons_self
  · refine List.mem_cons_of_mem _ (List.mem_filter.mpr ⟨(List.mem_filter.mp hm).1, ?_⟩)
    have h2 := (List.mem_filter.mp hm).2
    have h1 : ¬ (0 + k = i + 1) := by omega
    simp only [Bool.and_eq_true] at h2 ⊢
    refine ⟨h2.1, ?_, h2.2⟩
    simpa using (show ¬ k = i + 1 by omega)
/-- a method's locals at its start: a long takes two places -/
def xent : List AV → List (Option AV)
  | [] => []
  | .inr (.inl x) :: r => some (vl x) :: none :: xent r
  | v :: r => some v :: xent r
theorem xent_args {ad : Nat → Nat → Nat} : ∀ (vs : List AV) (i : Nat), lcv ad i (xent vs) = lv_args i (vs.map (cv ad)) := by
  intro vs
  induction vs with
  | nil => intro i; rfl
  | cons v r ih =>
    intro i
    rcases v with x | x | _ | ⟨k, j⟩
    · show _ :: lcv ad (i + 1) (xent r) = _
      rw [ih]
      simp [lv_args, cv, Value.category]
    · show _ :: lcv ad (i + 1 + 1) (xent r) = _
      rw [ih]
      simp [lv_args, cv, Value.category]
    · show _ :: lcv ad (i + 1) (xent r) = _
      rw [ih]
      simp [lv_args, cv, Value.category]
    · show _ :: lcv ad (i + 1) (xent r) = _
      rw [ih]
      simp [lv_args, cv, Value.category]
