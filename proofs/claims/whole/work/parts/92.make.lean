/-! MAKING 1: in a constructor the world grows. 'yw' is a world in the making: B says which final references (of an object: its field, of a row of references: its place) have been set; 'Gc' says of a place in a constructor what 'Gp' says of one in a method. -/
def Hi : HH := fun a _ k => match a with
  | 2 => if k = 0 then 40 else 0
  | 3 => if k = 6 then -1 else 0
  | 16 => if k = 1 then -1 else 0
  | _ => 0
def zH : HH := fun _ _ _ => 0
abbrev YB : Type := Nat → Nat → Nat → Bool
def nB : YB := fun _ _ _ => false
def sB (B : YB) (a i k : Nat) : YB := fun x y z => decide (x = a ∧ y = i ∧ z = k) || B x y z
def fB (L : List (Nat × Nat)) : YB := fun x y z => decide ((x, y) ∈ L) && decide (z < (xsh x).2.2)
def oB (B : YB) (L : List (Nat × Nat)) : YB := fun x y z => B x y z || fB L x y z
def ycell (cid : Nat → ClassId) (ad : Nat → Nat → Nat) (B : YB) (kd ix : Nat) (f : Nat → Int32) : va_E := match xsh kd with
  | (0, ci, n) => .inr (ci, (List.range n).map fun k => if (xsp kd k).isSome = true ∧ B kd ix k = false then Value.null else cv ad (xld kd ix k (f k)))
  | (1, _, n) => .inl (cid 0, n, .inl f)
  | (2, _, n) => .inl (cid 1, n, .inl f)
  | (t, _, n) => .inl (cid (t - 1), n, .inr (.inr (.inr (.inr fun j => if B kd ix j = true then some (ad (xra kd).1 ((xra kd).2 ix j)) else none))))
def yw (cid : Nat → ClassId) (ad : Nat → Nat → Nat) (B : YB) (L : List (Nat × Nat)) (H : HH) : va_W := L.map fun q => (ad q.1 q.2, ycell cid ad B q.1 q.2 (H q.1 q.2))
/-- all that is to be set has been set -/
def yfl (B : YB) (q : Nat × Nat) : Prop := (xsh q.1).1 = 1 ∨ (xsh q.1).1 = 2 ∨ ∀ k, k < (xsh q.1).2.2 → ((xsp q.1 k).isSome = true ∨ 3 ≤ (xsh q.1).1) → B q.1 q.2 k = true
/-- where its references lead is in it -/
def ycs (L : List (Nat × Nat)) (q : Nat × Nat) : Prop := (xsh q.1).1 = 1 ∨ (xsh q.1).1 = 2 ∨ ∀ k, k < (xsh q.1).2.2 → (∀ t, xsp q.1 k = some t → (t.1, t.2 q.2) ∈ L) ∧ (3 ≤ (xsh q.1).1 → ((xra q.1).1, (xra q.1).2 q.2 k) ∈ L)
def ycl (HI : HH) (L : List (Nat × Nat)) (B : YB) (H : HH) : Prop := L.Nodup ∧ (∀ q ∈ L, q.1 < 60) ∧ (∀ a i k, B a i k = true → (a, i) ∈ L ∧ (∀ t, xsp a k = some t → (t.1, t.2 i) ∈ L) ∧ (3 ≤ (xsh a).1 → ((xra a).1, (xra a).2 i k) ∈ L)) ∧ (∀ i, (19, i) ∈ L → xok L xTX.length (xld 19 i 2 (H 19 i 2))) ∧ ∀ a i, (a, i) ∉ L → H a i = HI a i
theorem hrow_same (H : HH) (kd ix : Nat) : hrow H kd ix (H kd ix) = H := by
  funext a b
  show (if a = kd ∧ b = ix then H kd ix else H a b) = H a b
  by_cases h : a = kd ∧ b = ix
  · rw [if_pos h, h.1, h.2]
  · rw [if_neg h]
section YW
variable {cid : Nat → ClassId} {D : va_G} {ad ad2 : Nat → Nat → Nat} {B B2 : YB} {L L2 : List (Nat × Nat)} {H : HH} {Hc : Heap} {A : Nat → Prop} {nT : Nat}
theorem ycell_o {kd ci N ix : Nat} (h : xsh kd = (0, ci, N)) (f : Nat → Int32) : ycell cid ad B kd ix f = .inr (ci, (List.range N).map fun k => if (xsp kd k).isSome = true ∧ B kd ix k = false then Value.null else cv ad (xld kd ix k (f k))) := by
  unfold ycell; rw [h]; rfl
theorem ycell_i {kd N ix a : Nat} (h : xsh kd = (1, a, N)) (f : Nat → Int32) : ycell cid ad B kd ix f = .inl (cid 0, N, .inl f) := by
  unfold ycell; rw [h]; rfl
theorem ycell_z {kd N ix a : Nat} (h : xsh kd = (2, a, N)) (f : Nat → Int32) : ycell cid ad B kd ix f = .inl (cid 1, N, .inl f) := by
  unfold ycell; rw [h]; rfl
theorem ycell_q {kd t N ix a : Nat} (h : xsh kd = (t + 3, a, N)) (f : Nat → Int32) : ycell cid ad B kd ix f = .inl (cid (t + 2), N, .inr (.inr (.inr (.inr fun j => if B kd ix j = true then some (ad (xra kd).1 ((xra kd).2 ix j)) else none)))) := by
  unfold ycell; rw [h]; rfl
theorem cv_ad (hL : ∀ q ∈ L, ad2 q.1 q.2 = ad q.1 q.2) (h60 : ∀ k, 60 ≤ k → ad2 k = ad k) {v : AV} (h : xok L nT v) : cv ad2 v = cv ad v := by
  rcases v with x | x | _ | ⟨k, i⟩
  · rfl
  · rfl
  · rfl
  · show Value.ref (ad2 k i) = Value.ref (ad k i)
    rcases h with h | h | h
    · exact congrArg Value.ref (hL (k, i) h)
    · rw [h60 k h.1]
    · rw [h60 k (Nat.le_trans (by decide) h.1)]
theorem st_ad (hL : ∀ q ∈ L, ad2 q.1 q.2 = ad q.1 q.2) (h60 : ∀ k, 60 ≤ k → ad2 k = ad k) {st : List AV} (h : ∀ v ∈ st, xok L nT v) : st.map (cv ad2) = st.map (cv ad) := List.map_congr_left fun v hv => cv_ad hL h60 (h v hv)
theorem lcv_ad (hL : ∀ q ∈ L, ad2 q.1 q.2 = ad q.1 q.2) (h60 : ∀ k, 60 ≤ k → ad2 k = ad k) : ∀ (ls : List (Option AV)) (i : Nat), (∀ v, some v ∈ ls → xok L nT v) → lcv ad2 i ls = lcv ad i ls := by
  intro ls
  induction ls with
  | nil => intro i _; rfl
  | cons o r ih =>
    intro i h
    cases o with
    | none => exact ih (i + 1) (fun v hv => h v (List.mem_cons_of_mem _ hv))
    | some v =>
      show (i, cv ad2 v) :: lcv ad2 (i + 1) r = (i, cv ad v) :: lcv ad (i + 1) r
      rw [cv_ad hL h60 (h v List.mem_cons_self), ih (i + 1) (fun v hv => h v (List.mem_cons_of_mem _ hv))]
theorem ycell_ad {kd ix : Nat} {f : Nat → Int32} (hL : ∀ q ∈ L, ad2 q.1 q.2 = ad q.1 q.2) (h60 : ∀ k, 60 ≤ k → ad2 k = ad k) (hq : ∀ k, B kd ix k = true → (∀ t, xsp kd k = some t → (t.1, t.2 ix) ∈ L) ∧ (3 ≤ (xsh kd).1 → ((xra kd).1, (xra kd).2 ix k) ∈ L)) (h19 : kd = 19 → xok L nT (xld 19 ix 2 (f 2))) : ycell cid ad2 B kd ix f = ycell cid ad B kd ix f := by
  rcases hx : xsh kd with ⟨t, ci, n⟩
  rcases t with _ | _ | _ | t
  · rw [ycell_o hx, ycell_o hx]
    refine congrArg (fun z => (Sum.inr (ci, z) : va_E)) (List.map_congr_left fun k _ => ?_)
    by_cases c : (xsp kd k).isSome = true ∧ B kd ix k = false
    · rw [if_pos c, if_pos c]
    · rw [if_neg c, if_neg c]
      cases hs : xsp kd k with
      | some t =>
        have hb : B kd ix k = true := by
          cases hB : B kd ix k with
          | true => rfl
          | false => exact absurd ⟨by rw [hs]; rfl, hB⟩ c
        have e : xld kd ix k (f k) = vr t.1 (t.2 ix) := by unfold xld; rw [hs]
        rw [e]
        exact congrArg Value.ref (hL _ ((hq k hb).1 t hs))
      | none =>
        by_cases c19 : kd = 19 ∧ k = 2
        · obtain ⟨rfl, rfl⟩ := c19
          exact cv_ad hL h60 (h19 rfl)
        · have e : xld kd ix k (f k) = vi (f k) := by unfold xld; rw [hs]; exact if_neg c19
          rw [e]; rfl
  · rw [ycell_i hx, ycell_i hx]
  · rw [ycell_z hx, ycell_z hx]
  · rw [ycell_q hx, ycell_q hx]
    refine congrArg (fun z => (Sum.inl (cid (t + 2), n, .inr (.inr (.inr (.inr z)))) : va_E)) (funext fun j => ?_)
    by_cases c : B kd ix j = true
    · rw [if_pos c, if_pos c]
      exact congrArg some (hL _ ((hq j c).2 (by rw [hx]; exact Nat.le_add_left 3 t)))
    · rw [if_neg c, if_neg c]
theorem yw_ad {HI : HH} (h : ycl HI L B H) (hL : ∀ q ∈ L, ad2 q.1 q.2 = ad q.1 q.2) (h60 : ∀ k, 60 ≤ k → ad2 k = ad k) : yw cid ad2 B L H = yw cid ad B L H := by
  refine List.map_congr_left fun q hq => ?_
  rw [hL q hq, ycell_ad (nT := xTX.length) hL h60 (fun k hb => (h.2.2.1 q.1 q.2 k hb).2) (fun e => by
    obtain ⟨a, i⟩ := q
    have e2 : a = 19 := e
    subst e2
    exact h.2.2.2.1 i hq)]
theorem ycell_B {kd ix : Nat} {f : Nat → Int32} (h : B kd ix = B2 kd ix) : ycell cid ad B kd ix f = ycell cid ad B2 kd ix f := by
  unfold ycell; rw [h]
theorem yw_app : yw cid ad B (L ++ L2) H = yw cid ad B L H ++ yw cid ad B L2 H := List.map_append
theorem yn_of {HI : HH} (h : ycl HI L B H) {a i : Nat} (hn : (a, i) ∉ L) : B a i = nB a i := by
  funext z
  cases hB : B a i z with
  | false => rfl
  | true => exact absurd (h.2.2.1 a i z hB).1 hn
theorem arrV_cg {cA : ClassId} {n : Nat} {f g : Nat → Value} (h : ∀ j, j < n → f j = g j) : arrV cA n f = arrV cA n g := by
  unfold arrV
  rw [show (fun j : Fin n => f j.val) = fun j : Fin n => g j.val from funext fun j => h j.val j.isLt]
theorem xcell_at {cl : List vw_C} {x kd ix : Nat} {f : Nat → Int32} (hf : yfl B (kd, ix)) : va_at D cl (x, ycell cid ad B kd ix f) Hc ↔ va_at D cl (x, xcell cid ad kd ix f) Hc := by
  rcases hx : xsh kd with ⟨t, ci, n⟩
  have hf2 : t = 1 ∨ t = 2 ∨ ∀ k, k < n → ((xsp kd k).isSome = true ∨ 3 ≤ t) → B kd ix k = true := by
    have := hf
    unfold yfl at this
    simp only [hx] at this
    exact this
  rcases t with _ | _ | _ | t
  · have h3 := (hf2.resolve_left (by decide)).resolve_left (by decide)
    rw [ycell_o hx, xcell_o hx, show ((List.range n).map fun k => if (xsp kd k).isSome = true ∧ B kd ix k = false then Value.null else cv ad (xld kd ix k (f k))) = (List.range n).map fun k => cv ad (xld kd ix k (f k)) from List.map_congr_left fun k hk => if_neg fun z => by
      have := h3 k (List.mem_range.mp hk) (Or.inl z.1)
      rw [z.2] at this
      exact absurd this (by decide)]
  · rw [ycell_i hx, xcell_i hx]
  · rw [ycell_z hx, xcell_z hx]
  · have h3 := (hf2.resolve_left (by omega)).resolve_left (by omega)
    rw [ycell_q hx, xcell_q hx]
    show Hc[x]? = some (vp_cell (cid (t + 2)) (n, .inr (.inr (.inr (.inr _))))) ↔ Hc[x]? = some (vp_cell (cid (t + 2)) (n, .inr (.inr (.inr (.inr _)))))
    rw [vp_cell_q, vp_cell_q, arrV_cg (f := fun j => va_rf (if B kd ix j = true then some (ad (xra kd).1 ((xra kd).2 ix j)) else none)) (g := fun j => va_rf (some (ad (xra kd).1 ((xra kd).2 ix j)))) (fun j hj => by
      show va_rf (if B kd ix j = true then some (ad (xra kd).1 ((xra kd).2 ix j)) else none) = _
      rw [if_pos (h3 j hj (Or.inr (Nat.le_add_left 3 t)))])]
theorem y_xw {cl : List vw_C} (hP : va_P D cl (yw cid ad B L H) Hc) (hs : ∀ q ∈ L2, q ∈ L) (hB : ∀ q ∈ L2, yfl B q) : va_P D cl (xw cid ad L2 H) Hc := by
  intro k q hk
  simp only [xw, List.getElem?_map, Option.map_eq_some_iff] at hk
  obtain ⟨a, ha, rfl⟩ := hk
  have hm := List.mem_of_getElem? ha
  obtain ⟨j, hj⟩ := List.mem_iff_getElem?.mp (hs a hm)
  exact (xcell_at (hB a hm)).mp (hP j (ad a.1 a.2, ycell cid ad B a.1 a.2 (H a.1 a.2)) (by simp only [yw, List.getElem?_map, hj, Option.map_some]))
theorem x_yw {cl : List vw_C} (hP : va_P D cl (xw cid ad L H) Hc) (hB : ∀ q ∈ L, yfl B q) : va_P D cl (yw cid ad B L H) Hc := by
  intro k q hk
  simp only [yw, List.getElem?_map, Option.map_eq_some_iff] at hk
  obtain ⟨a, ha, rfl⟩ := hk
  exact (xcell_at (hB a (List.mem_of_getElem? ha))).mpr (hP k (ad a.1 a.2, xcell cid ad a.1 a.2 (H a.1 a.2)) (by simp only [xw, List.getElem?_map, ha, Option.map_some]))
theorem fB_fl {q : Nat × Nat} (hq : q ∈ L) : yfl (fB L) q := by
  refine Or.inr (Or.inr fun k hk _ => ?_)
  unfold fB
  rw [decide_eq_true (show (q.1, q.2) ∈ L from hq), decide_eq_true hk]
  rfl
theorem mD {F G : Nat × Nat → va_E} (h : va_D A (L.map fun q => (ad q.1 q.2, F q))) (hn : L2.Nodup) (hs : ∀ q ∈ L2, q ∈ L) : va_D A (L2.map fun q => (ad q.1 q.2, G q)) := by
  have aux : ∀ (k : Nat) (q : Nat × va_E), (L2.map fun q => (ad q.1 q.2, G q))[k]? = some q → ∃ (a : Nat × Nat) (j : Nat), L2[k]? = some a ∧ L[j]? = some a ∧ q.1 = ad a.1 a.2 := by
    intro k q hk
    simp only [List.getElem?_map, Option.map_eq_some_iff] at hk
    obtain ⟨a, ha, rfl⟩ := hk
    obtain ⟨j, hj⟩ := List.mem_iff_getElem?.mp (hs a (List.mem_of_getElem? ha))
    exact ⟨a, j, ha, hj, rfl⟩
  refine ⟨fun i j p q hp hq e => ?_, fun k q hk => ?_⟩
  · obtain ⟨a, i2, h1, h2, h3⟩ := aux i p hp
    obtain ⟨b, j2, g1, g2, g3⟩ := aux j q hq
    have e2 := h.1 i2 j2 (ad a.1 a.2, F a) (ad b.1 b.2, F b) (by simp only [List.getElem?_map, h2, Option.map_some]) (by simp only [List.getElem?_map, g2, Option.map_some]) (by show ad a.1 a.2 = ad b.1 b.2; rw [← h3, ← g3]; exact e)
    subst e2
    have eab : a = b := Option.some.inj (h2.symm.trans g2)
    subst eab
    exact (List.getElem?_inj (List.getElem?_eq_some_iff.mp h1).1 hn).mp (h1.trans g1.symm)
  · obtain ⟨a, j, h1, h2, h3⟩ := aux k q hk
    rw [h3]
    exact h.2 j (ad a.1 a.2, F a) (by simp only [List.getElem?_map, h2, Option.map_some])
theorem ra_uni {U : State} {cA cB : ClassId} {ty : FieldType} (h1 : va_RA U cA ty) (h2 : va_RA U cB ty) : cA = cB := by
  cases ty with
  | object C =>
    obtain ⟨_, _, _, _, _, e1⟩ := h1
    obtain ⟨_, _, _, _, _, e2⟩ := h2
    exact Option.some.inj (e1.symm.trans e2)
  | _ => exact Option.some.inj (h1.symm.trans h2)
/-- behind a call on the second part of a world -/
theorem y_join {cl : List vw_C} {w1 w2 v2 : va_W} {H1 : Heap} (hP : va_P D cl (w1 ++ w2) Hc) (hD : va_D A (w1 ++ w2)) (hk : ∀ q : Nat, q < Hc.size → ¬ va_A w2 Hc.size q → H1[q]? = Hc[q]?) (hF : ∀ q, va_A w2 Hc.size q → A q) (hP1 : va_P D cl v2 H1) (hD1 : va_D (va_A w2 Hc.size) v2) : va_P D cl (w1 ++ v2) H1 ∧ va_D A (w1 ++ v2) := by
  have key : ∀ (k : Nat) (q : Nat × va_E), w1[k]? = some q → q.1 < Hc.size ∧ ¬ va_A w2 Hc.size q.1 := by
    intro k q hkq
    have hi : (w1 ++ w2)[k]? = some q := by rw [List.getElem?_append_left (List.getElem?_eq_some_iff.mp hkq).1]; exact hkq
    refine ⟨(hP _ q hi).lt, fun z => ?_⟩
    rcases z with ⟨j, e, hj⟩ | z
    · have hj2 : (w1 ++ w2)[w1.length + j]? = some (q.1, e) := by
        rw [List.getElem?_append_right (by omega), show w1.length + j - w1.length = j by omega]; exact hj
      have := hD.1 k (w1.length + j) q (q.1, e) hi hj2 rfl
      have := (List.getElem?_eq_some_iff.mp hkq).1
      omega
    · exact absurd (hP _ q hi).lt (Nat.not_lt.mpr z)
  refine ⟨va_P.app (fun k q hkq => ?_) hP1, va_D.app ⟨fun i j p q hp hq e => ?_, fun k q hkq => ?_⟩ ⟨hD1.1, fun k q hkq => hF _ (hD1.2 k q hkq)⟩ (fun i j p q hp hq e => ?_)⟩
  · have hi : (w1 ++ w2)[k]? = some q := by rw [List.getElem?_append_left (List.getElem?_eq_some_iff.mp hkq).1]; exact hkq
    exact (hP _ q hi).kept (hk q.1 (key k q hkq).1 (key k q hkq).2)
  · exact hD.1 i j p q (by rw [List.getElem?_append_left (List.getElem?_eq_some_iff.mp hp).1]; exact hp) (by rw [List.getElem?_append_left (List.getElem?_eq_some_iff.mp hq).1]; exact hq) e
  · exact hD.2 k q (by rw [List.getElem?_append_left (List.getElem?_eq_some_iff.mp hkq).1]; exact hkq)
  · exact (key i p hp).2 (by rw [e]; exact hD1.2 j q hq)
end YW
/-- nest mates' constructors that are called -/
def yNST : List (String × Nat × MethodName × String) := [("ThreePoints", 21, ⟨"ThreePoints$Reader", "<init>", "()V"⟩, "ThreePoints"), ("ThreePoints", 40, ⟨"ThreePoints$Ride", "<init>", "()V"⟩, "ThreePoints"), ("ThreePoints", 47, ⟨"ThreePoints$Search", "<init>", "()V"⟩, "ThreePoints"), ("ThreePoints", 52, ⟨"ThreePoints$Text", "<init>", "()V"⟩, "ThreePoints"), ("ThreePoints", 53, ⟨"ThreePoints$Sheet", "<init>", "()V"⟩, "ThreePoints"), ("ThreePoints$Reader", 11, ⟨"ThreePoints$Tape", "<init>", "()V"⟩, "ThreePoints"), ("ThreePoints$Reader", 20, ⟨"ThreePoints$Text", "<init>", "()V"⟩, "ThreePoints"), ("ThreePoints$Ride", 11, ⟨"ThreePoints$Lane", "<init>", "()V"⟩, "ThreePoints"), ("ThreePoints$Ride", 20, ⟨"ThreePoints$Vehicle", "<init>", "()V"⟩, "ThreePoints"), ("ThreePoints$Yard", 11, ⟨"ThreePoints$Lane", "<init>", "()V"⟩, "ThreePoints"), ("ThreePoints$Yard", 24, ⟨"ThreePoints$Vehicle", "<init>", "()V"⟩, "ThreePoints")]
/-- what a constructor needs besides -/
def yWd (U : State) : Prop := (∀ q ∈ yNST, va_Nw (.methodLinkNest q.1 q.2.1 q.2.2.1 q.2.2.2) U) ∧ va_AO "ThreePoints$Vehicle" U ∧ va_AO "ThreePoints$Text" U ∧ va_AO "ThreePoints$Sheet" U
theorem yWd.warm {s U : State} (hW : s.WarmedH U.vm) (h : yWd s) : yWd U := ⟨fun q hq => va_Nw.warmM hW (h.1 q hq), h.2.1.moved hW.alike, h.2.2.1.moved hW.alike, h.2.2.2.moved hW.alike⟩
theorem yWd.same {u U : State} (e : u.vm = U.vm) (h : yWd u) : yWd U := ⟨fun q hq => va_Nw.same rfl e (h.1 q hq), h.2.1.moved (by rw [e]; exact Vm.Alike.refl _), h.2.2.1.moved (by rw [e]; exact Vm.Alike.refl _), h.2.2.2.moved (by rw [e]; exact Vm.Alike.refl _)⟩
def yrm (f c s : Nat) : Room := { frames := f, cells := c, slots := s, locals := f * 64 }
section YC
variable (l : Launch) (cid : Nat → ClassId) (D : va_G)
def yPc (ad : Nat → Nat → Nat) (kd ix sz : Nat) : Array Value → State → Prop := va_Pc [.ref (ad kd ix)] (fun U => U.heap.size = sz ∧ va_P D xcl (yw cid ad nB [(kd, ix)] zH) U.heap ∧ va_K D xcl (xtys cid) U ∧ va_D (fun _ => True) (yw cid ad nB [(kd, ix)] zH) ∧ xStat ad xTX (va_A (yw cid ad nB [(kd, ix)] zH) sz) U U.heap ∧ xRefs ad xRF U ∧ yWd U)
def yQ (kd ix : Nat) (Lf : List (Nat × Nat)) (QH : HH → Prop) (ad0 : Nat → Nat → Nat) (A : Nat → Prop) : Array Value → State → Outcome → State → Prop := fun _ st oc t =>
  ∃ (ad : Nat → Nat → Nat) (H : HH), oc = .returned none ∧ ad kd ix = ad0 kd ix ∧ (∀ k, 60 ≤ k → ad k = ad0 k) ∧ va_P D xcl (yw cid ad (fB Lf) Lf H) t.heap ∧ va_D A (yw cid ad (fB Lf) Lf H) ∧ va_F A st t ∧ QH H ∧ ∀ q ∈ Lf, ycs Lf q
/-- a constructor's contract -/
def Mk (y : MethodName) (b : ByteArray) (nL kd ix : Nat) (Lf : List (Nat × Nat)) (R : Room) (QH : HH → Prop) : Prop :=
  ∀ (ad : Nat → Nat → Nat) (sz : Nat), Met l y (Cond.code y b nL none :: xtbl) R (yPc cid D ad kd ix sz) (yQ cid D kd ix Lf QH ad (va_A (yw cid ad nB [(kd, ix)] zH) sz)) R.cells R.slots (va_A (yw cid ad nB [(kd, ix)] zH) sz)
def yC (own : String) (b : ByteArray) (nL : Nat) (p : Program) (c : Code) (meth : Method) (s : State) (m : MethodId) (args : Array Value) (ad : Nat → Nat → Nat) (A : Nat → Prop) : Prop :=
  p.tables.exec = Jvm.exec ∧ c.code = b ∧ c.maxLocals = nL ∧ meth.sig.returnType = none ∧ s.vm.findClass own = some m.cls ∧ meth.locks = false ∧ meth.name = "<init>" ∧ (∀ w ∈ xtbl, w.before args s = true) ∧ va_K D xcl (xtys cid) s ∧ xStat ad xTX A s s.heap ∧ xRefs ad xRF s ∧ yWd s ∧ ∀ q, s.heap.size ≤ q → A q
variable (HI : HH) (R : Room) (own : String) (b : ByteArray) (nL kd0 ix0 : Nat) (Lf : List (Nat × Nat)) (QH : HH → Prop)
def Gc (pc : Nat) (ls : List (Option AV)) (st : List AV) (L : List (Nat × Nat)) (B : YB) (H : HH) (cells slots : Nat) : Prop :=
  ∀ (ad0 ad : Nat → Nat → Nat), ad kd0 ix0 = ad0 kd0 ix0 → (∀ k, 60 ≤ k → ad k = ad0 k) → (kd0, ix0) ∈ L → ycl HI L B H → ∀ (p : Program) (e : Env) (s : State) (m : MethodId) (args : Array Value) (below : List Frame) (meth : Method) (c : Code) (Hc : Heap) (locs : List Loc) (lsC : Array Slot) (A : Nat → Prop),
    yC cid D own b nL p c meth s m args ad A → xoks L xTX.length ls st → va_P D xcl (yw cid ad B L H) Hc → va_D A (yw cid ad B L H) → va_S A s.heap Hc locs → lv_has lsC nL (lcv ad 0 ls) →
    W p l e R s m args below meth c Hc locs cells slots (MQ below (yQ cid D kd0 ix0 Lf QH ad0 A) args s R.cells R.slots A) (F0 m pc lsC (st.map (cv ad)))
end YC
section YC2
variable {l : Launch} {cid : Nat → ClassId} {D : va_G} {HI : HH} {R : Room} {b : ByteArray} {nL kd ix : Nat} {Lf : List (Nat × Nat)} {QH : HH → Prop}
theorem lcv_none {ad : Nat → Nat → Nat} : ∀ (ls : List (Option AV)) (i : Nat), (∀ o ∈ ls, o = none) → lcv ad i ls = [] := by
  intro ls
  induction ls with
  | nil => intro i _; rfl
  | cons o r ih =>
    intro i h
    rw [h o List.mem_cons_self]
    exact ih (i + 1) (fun o ho => h o (List.mem_cons_of_mem _ ho))
theorem mk_of {y : MethodName} {ls : List (Option AV)} (hy : plainName y.cls = true) (hyi : y.name = "<init>") (h60 : kd < 60) (hnL : 1 ≤ nL) (hls : ∀ o ∈ ls, o = none) (h : Gc l cid D HI R y.cls b nL kd ix Lf QH 0 (some (vr kd ix) :: ls) [] [(kd, ix)] nB (hrow HI kd ix (fun _ => 0)) 0 0) : Mk l cid D y b nL kd ix Lf R QH := by
  intro ad sz
  refine Met.ofW (cc := b) (maxL := nL) (ret := none) hy rfl ?_
  intro p e s m args below meth c s₁ B hml hv
  obtain ⟨rfl, hsz, hP, hK, hD0, hZ, hrf, hwd⟩ := hv
  have hts := atoms_spec (ws := Cond.code y b nL none :: xtbl) B.pre
  have hown : s.vm.findClass y.cls = some m.cls := findClass_of_methodNamed B.named
  have hin : meth.name = "<init>" := (name_of_methodNamed B.named B.method).1.trans hyi
  subst hsz
  have hD := hD0.self (sz := s.heap.size)
  have hl := lv_entry ([.ref (ad kd ix)]) (n := nL) (by show 1 ≤ nL; exact hnL)
  rw [lg_entry_eq]
  generalize (lg_sl ([.ref (ad kd ix)]) ++ List.replicate (nL - (lg_sl ([.ref (ad kd ix)])).length) Slot.unset).toArray = lsC at hl ⊢
  have hH : yw cid ad nB [(kd, ix)] zH = yw cid ad nB [(kd, ix)] (hrow HI kd ix (fun _ => 0)) := by
    unfold yw
    refine List.map_congr_left fun q hq => ?_
    rw [List.mem_singleton.mp hq]
    show (ad kd ix, ycell cid ad nB kd ix (zH kd ix)) = (ad kd ix, ycell cid ad nB kd ix (hrow HI kd ix (fun _ => 0) kd ix))
    rw [show hrow HI kd ix (fun _ => 0) kd ix = zH kd ix from if_pos ⟨rfl, rfl⟩]
  rw [hH] at hP hD hZ ⊢
  refine h ad ad rfl (fun _ _ => rfl) List.mem_cons_self ⟨List.nodup_cons.mpr ⟨List.not_mem_nil, List.nodup_nil⟩, fun q hq => by rw [List.mem_singleton.mp hq]; exact h60, fun a i k z => (by cases z), fun i hi => ?_, fun a i hn => ?_⟩ p e s m _ below meth c s.heap [] lsC _ ⟨B.exec, B.bytes, hml, B.returns, hown, B.notSynchronized, hin, fun w hw => hts w (List.mem_cons_of_mem _ hw), hK, hZ, hrf, hwd, fun q hq => Or.inr hq⟩ ⟨fun v hv => ?_, fun v hv => by cases hv⟩ hP hD va_S.rf ?_
  · have e := List.mem_singleton.mp hi
    have e1 : 19 = kd := congrArg Prod.fst e
    have e2 : i = ix := congrArg Prod.snd e
    subst e1
    subst e2
    rw [show hrow HI 19 i (fun _ => 0) 19 i 2 = 0 from congrFun (if_pos (c := 19 = 19 ∧ i = i) ⟨rfl, rfl⟩) 2]
    exact trivial
  · unfold hrow
    rw [if_neg (fun z => hn (by rw [z.1, z.2]; exact List.mem_cons_self))]
  · rcases List.mem_cons.mp hv with e | hv
    · cases e
      exact Or.inl List.mem_cons_self
    · exact absurd (hls _ hv) (by simp)
  · show lv_has lsC nL ((0, Value.ref (ad kd ix)) :: lcv ad 1 ls)
    rw [lcv_none ls 1 hls]
    exact hl
end YC2
