/-! THE LAW 2: its 31 cases. Printed by wip/gen/gen9b.py. -/
/-- at a place of the law's, nothing on the stack -/
def LWp (p : Program) (l : Launch) (e : Env) (s : State) (m : MethodId) (b : Nat) (below : List Frame) (meth : Method) (c : Code) (cid : Nat → ClassId) (D : va_G) (ad : Nat → Nat → Nat) (Z : State → Prop) (i pc : Nat) (H : HH) : Prop := ∀ (Hc : Heap) (locs : List Loc) (lsC : Array Slot), lwS s cid D ad H Hc locs → lv_has lsC 4 [(3, .int (nI i)), (2, .ref (ad 30 0)), (1, .ref (ad 0 0)), (0, .ref b)] → W p l e room_1 s m #[Value.ref b] below meth c Hc locs 600000 7302250 Z (F0 m pc lsC [])
def caseOK (pc p1 p2 : Nat) (ks : List Nat) : Bool := decide (decode code pc = .ok (.aload_n 1, 1)) && (argsOK (pc + 1) ks p1 && (decide (decode code (p1 + 3) = .ok (.aload_n 2, 1)) && argsOK (p1 + 4) ks p2))
theorem sum_vi {f : Nat → Int32} : ∀ ks : List Nat, ((ks.map fun k => vi (f k)).map xcat).sum = ks.length := by
  intro ks
  induction ks with
  | nil => rfl
  | cons a r ih =>
    show 1 + ((r.map fun k => vi (f k)).map xcat).sum = r.length + 1
    rw [ih]; omega
section LCA
variable {p : Program} {l : Launch} {e : Env} {s : State} {m : MethodId} {below : List Frame} {meth : Method} {c : Code} {cid : Nat → ClassId} {D : va_G} {ad : Nat → Nat → Nat} {b L i : Nat} {xs : Nat → Int32} {Z : State → Prop} {H : HH}
theorem lw_case2 {pc p1 p2 i1 i2 n n1 n2 : Nat} {y1 y2 : MethodName} {b1 b2 : ByteArray} {rt : FieldType} (hC : lwC p s m #[Value.ref b] c cid D ad) (hX : va_X b L xs s s.heap) (hbl : b < s.heap.size) (hL : L ≤ 3584) (hi : i + 6 < L) (ks : List Nat) (hks : ∀ k ∈ ks, k ≤ 6) (hcode : caseOK pc p1 p2 ks = true)
    (hd1 : decode code p1 = .ok (.invokevirtual i1, 3)) (hM1 : xM y1 b1 n1 (some rt) n) (hl1 : Cond.methodLink "ThreePointsLaw" i1 y1 ∈ xtbl) (hi1 : Cond.instanceMethod y1 ∈ xtbl) (hs1 : Cond.selects y1.cls y1 y1 ∈ xtbl) (hy1 : y1.cls = "ThreePoints")
    (hd2 : decode code p2 = .ok (.invokevirtual i2, 3)) (hM2 : xM y2 b2 n2 (some rt) n) (hl2 : Cond.methodLink "ThreePointsLaw" i2 y2 ∈ xtbl) (hi2 : Cond.instanceMethod y2 ∈ xtbl) (hs2 : Cond.selects y2.cls y2 y2 ∈ xtbl) (hy2 : y2.cls = "ThreePointsModel")
    (hlen : ks.length = n) (hn1 : 1 + n ≤ n1) (hn2 : 1 + n ≤ n2) {Q2 : AV → AV → HH → Prop}
    (hrel : Gp l cid D ad xTX xRF xLC 80 y1.cls b1 n1 (some rt) 0 (xent (vr 0 0 :: ks.map fun k => vi (xs (i + k)))) [] H (fun v H1 => xcat v ≤ 2 ∧ Gp l cid D ad xTX xRF xLM 80 y2.cls b2 n2 (some rt) 0 (xent (vr 30 0 :: ks.map fun k => vi (xs (i + k)))) [] H1 (Q2 v)))
    (kk : ∀ (v v2 : AV) (H2 : HH) (Hc : Heap) (locs : List Loc) (lsC : Array Slot), Q2 v v2 H2 → lwS s cid D ad H2 Hc locs → lv_has lsC 4 [(3, .int (nI i)), (2, .ref (ad 30 0)), (1, .ref (ad 0 0)), (0, .ref b)] → W p l e room_1 s m #[Value.ref b] below meth c Hc locs 600000 7302250 Z (F0 m (p2 + 3) lsC [cv ad v2, cv ad v])) : LWp p l e s m b below meth c cid D ad Z i pc H := by
  intro Hc locs lsC hS hl
  have h0 : (decide (decode code pc = .ok (.aload_n 1, 1)) && (argsOK (pc + 1) ks p1 && (decide (decode code (p1 + 3) = .ok (.aload_n 2, 1)) && argsOK (p1 + 4) ks p2))) = true := hcode
  simp only [Bool.and_eq_true, decide_eq_true_eq] at h0
  obtain ⟨q1, q2, q3, q4⟩ := h0
  have hx := hC.1
  have hb := hC.2.1
  have l3 := lv_at hl 0 rfl
  have l2 := lv_at hl 1 rfl
  have l1 := lv_at hl 2 rfl
  have l0 := lv_at hl 3 rfl
  have hkL : ∀ k ∈ ks, i + k < L := fun k hk => by have := hks k hk; omega
  have hok : ∀ {Lz : List (Nat × Nat)}, ∀ v ∈ (ks.map fun k => vi (xs (i + k))), xok Lz xTX.length v := fun v hv => by
    obtain ⟨k, -, rfl⟩ := List.mem_map.mp hv
    exact trivial
  have hsum : ∀ kd : Nat, ((vr kd 0 :: ks.map fun k => vi (xs (i + k))).map xcat).sum = 1 + n := fun kd => by
    show 1 + ((ks.map fun k => vi (xs (i + k))).map xcat).sum = 1 + n
    rw [sum_vi (f := fun k => xs (i + k)), hlen]
  refine lv_aload_n hx hb q1 rfl l1 ?_
  refine lw_args (ad := ad) hx hb hX hbl hS.2.2 hL l0 l3 ks (pc + 1) [vr 0 0] q2 hkL ?_
  refine lw_callV (L1 := xLC) (st := []) (kd := 0) hC (Or.inl rfl) hd1 hM1 hl1 hi1 hs1 rfl (by rw [hy1]; rfl) (by decide) (by rw [List.length_map]; exact hlen) (by decide) (by rw [hsum 0]; exact hn1) hok (by decide) hl.1 hS ⟨Nat.le_refl _, Nat.le_refl _⟩ hrel (fun v H1 Hc1 locs1 hq hS1 => ?_)
  obtain ⟨hcv, hg⟩ := hq
  refine lv_aload_n hx hb q3 rfl l2 ?_
  refine lw_args (ad := ad) hx hb hX hbl hS1.2.2 hL l0 l3 ks (p1 + 3 + 1) [vr 30 0, v] q4 hkL ?_
  refine lw_callV (L1 := xLM) (st := [v]) (kd := 30) hC (Or.inr rfl) hd2 hM2 hl2 hi2 hs2 rfl (by rw [hy2]; rfl) (by decide) (by rw [List.length_map]; exact hlen) (by show xcat v + 0 ≤ 8; omega) (by rw [hsum 30]; exact hn2) hok (by decide) hl.1 hS1 ⟨Nat.le_refl _, Nat.le_refl _⟩ hg (fun v2 H2 Hc2 locs2 hq2 hS2 => ?_)
  exact kk v v2 H2 Hc2 locs2 lsC hq2 hS2 hl
theorem lw_caseI {pc p1 p2 i1 i2 n n1 n2 : Nat} {y1 y2 : MethodName} {b1 b2 : ByteArray} (hC : lwC p s m #[Value.ref b] c cid D ad) (hX : va_X b L xs s s.heap) (hbl : b < s.heap.size) (hL : L ≤ 3584) (hi : i + 6 < L) (kk : ∀ H2 s2, INV H2 s2 → LWp p l e s m b below meth c cid D ad Z i 1308 H2) (ks : List Nat) (hks : ∀ k ∈ ks, k ≤ 6) (hcode : caseOK pc p1 p2 ks = true) (off : Int) (hj : decode code (p2 + 3) = .ok (.if_icmp .eq off, 3)) (hoff : ((p2 + 3 : Nat) : Int) + off = 1308)
    (hd1 : decode code p1 = .ok (.invokevirtual i1, 3)) (hM1 : xM y1 b1 n1 (some .int) n) (hl1 : Cond.methodLink "ThreePointsLaw" i1 y1 ∈ xtbl) (hi1 : Cond.instanceMethod y1 ∈ xtbl) (hs1 : Cond.selects y1.cls y1 y1 ∈ xtbl) (hy1 : y1.cls = "ThreePoints")
    (hd2 : decode code p2 = .ok (.invokevirtual i2, 3)) (hM2 : xM y2 b2 n2 (some .int) n) (hl2 : Cond.methodLink "ThreePointsLaw" i2 y2 ∈ xtbl) (hi2 : Cond.instanceMethod y2 ∈ xtbl) (hs2 : Cond.selects y2.cls y2 y2 ∈ xtbl) (hy2 : y2.cls = "ThreePointsModel")
    (hlen : ks.length = n) (hn1 : 1 + n ≤ n1) (hn2 : 1 + n ≤ n2)
    (hrel : Gp l cid D ad xTX xRF xLC 80 y1.cls b1 n1 (some .int) 0 (xent (vr 0 0 :: ks.map fun k => vi (xs (i + k)))) [] H (qi fun r H1 => Gp l cid D ad xTX xRF xLM 80 y2.cls b2 n2 (some .int) 0 (xent (vr 30 0 :: ks.map fun k => vi (xs (i + k)))) [] H1 (qi (eqI r)))) : LWp p l e s m b below meth c cid D ad Z i pc H := by
  refine lw_case2 (Q2 := fun v v2 H2 => ∃ r r2, v = vi r ∧ v2 = vi r2 ∧ eqI r r2 H2) hC hX hbl hL hi ks hks hcode hd1 hM1 hl1 hi1 hs1 hy1 hd2 hM2 hl2 hi2 hs2 hy2 hlen hn1 hn2 (hrel.mono (fun v H1 hq => ?_)) (fun v v2 H2 Hc locs lsC hq hS hl => ?_)
  · obtain ⟨r, rfl, hg⟩ := hq
    refine ⟨show (1 : Nat) ≤ 2 by decide, hg.mono (fun v2 H2 hq2 => ?_)⟩
    obtain ⟨r2, rfl, hq3⟩ := hq2
    exact ⟨r, r2, rfl, rfl, hq3⟩
  · obtain ⟨r, r2, rfl, rfl, hr, s2, hI2⟩ := hq
    exact lv_icmp_eq (tgt := 1308) hC.1 hC.2.1 hj hoff (fun _ => kk H2 s2 hI2 Hc locs lsC hS hl) (fun z => absurd hr.symm z)
theorem lw_caseL {pc p1 p2 i1 i2 n n1 n2 : Nat} {y1 y2 : MethodName} {b1 b2 : ByteArray} (hC : lwC p s m #[Value.ref b] c cid D ad) (hX : va_X b L xs s s.heap) (hbl : b < s.heap.size) (hL : L ≤ 3584) (hi : i + 6 < L) (kk : ∀ H2 s2, INV H2 s2 → LWp p l e s m b below meth c cid D ad Z i 1308 H2) (ks : List Nat) (hks : ∀ k ∈ ks, k ≤ 6) (hcode : caseOK pc p1 p2 ks = true) (off : Int) (hj0 : decode code (p2 + 3) = .ok (.lcmp, 1)) (hj : decode code (p2 + 3 + 1) = .ok (.ifCond .eq off, 3)) (hoff : ((p2 + 3 + 1 : Nat) : Int) + off = 1308)
    (hd1 : decode code p1 = .ok (.invokevirtual i1, 3)) (hM1 : xM y1 b1 n1 (some .long) n) (hl1 : Cond.methodLink "ThreePointsLaw" i1 y1 ∈ xtbl) (hi1 : Cond.instanceMethod y1 ∈ xtbl) (hs1 : Cond.selects y1.cls y1 y1 ∈ xtbl) (hy1 : y1.cls = "ThreePoints")
    (hd2 : decode code p2 = .ok (.invokevirtual i2, 3)) (hM2 : xM y2 b2 n2 (some .long) n) (hl2 : Cond.methodLink "ThreePointsLaw" i2 y2 ∈ xtbl) (hi2 : Cond.instanceMethod y2 ∈ xtbl) (hs2 : Cond.selects y2.cls y2 y2 ∈ xtbl) (hy2 : y2.cls = "ThreePointsModel")
    (hlen : ks.length = n) (hn1 : 1 + n ≤ n1) (hn2 : 1 + n ≤ n2)
    (hrel : Gp l cid D ad xTX xRF xLC 80 y1.cls b1 n1 (some .long) 0 (xent (vr 0 0 :: ks.map fun k => vi (xs (i + k)))) [] H (ql fun r H1 => Gp l cid D ad xTX xRF xLM 80 y2.cls b2 n2 (some .long) 0 (xent (vr 30 0 :: ks.map fun k => vi (xs (i + k)))) [] H1 (ql (eqL r)))) : LWp p l e s m b below meth c cid D ad Z i pc H := by
  refine lw_case2 (Q2 := fun v v2 H2 => ∃ r r2, v = vl r ∧ v2 = vl r2 ∧ eqL r r2 H2) hC hX hbl hL hi ks hks hcode hd1 hM1 hl1 hi1 hs1 hy1 hd2 hM2 hl2 hi2 hs2 hy2 hlen hn1 hn2 (hrel.mono (fun v H1 hq => ?_)) (fun v v2 H2 Hc locs lsC hq hS hl => ?_)
  · obtain ⟨r, rfl, hg⟩ := hq
    refine ⟨show (2 : Nat) ≤ 2 by decide, hg.mono (fun v2 H2 hq2 => ?_)⟩
    obtain ⟨r2, rfl, hq3⟩ := hq2
    exact ⟨r, r2, rfl, rfl, hq3⟩
  · obtain ⟨r, r2, rfl, rfl, hr, s2, hI2⟩ := hq
    refine W.lcmp hC.1 hC.2.1 hj0 ?_
    have e0 : lg_cmp r r2 = 0 := (lg_cmp_eq r r2).mpr hr.symm
    rw [e0]
    exact lv_if_eq (tgt := 1308) hC.1 hC.2.1 hj hoff (fun _ => kk H2 s2 hI2 Hc locs lsC hS hl) (fun z => absurd rfl z)
end LCA
set_option maxRecDepth 20000 in
theorem cw_611 : Cond.methodLink "ThreePointsLaw" 13 ⟨"ThreePoints", "count", "(I)I"⟩ ∈ xtbl := xtbl_at 611 (by decide +kernel) (by decide +kernel)
set_option maxRecDepth 20000 in
theorem cw_612 : Cond.instanceMethod ⟨"ThreePoints", "count", "(I)I"⟩ ∈ xtbl := xtbl_at 612 (by decide +kernel) (by decide +kernel)
set_option maxRecDepth 20000 in
theorem cw_613 : Cond.selects "ThreePoints" ⟨"ThreePoints", "count", "(I)I"⟩ ⟨"ThreePoints", "count", "(I)I"⟩ ∈ xtbl := xtbl_at 613 (by decide +kernel) (by decide +kernel)
set_option maxRecDepth 20000 in
theorem cw_615 : Cond.methodLink "ThreePointsLaw" 18 ⟨"ThreePoints", "set", "(II)I"⟩ ∈ xtbl := xtbl_at 615 (by decide +kernel) (by decide +kernel)
set_option maxRecDepth 20000 in
theorem cw_616 : Cond.instanceMethod ⟨"ThreePoints", "set", "(II)I"⟩ ∈ xtbl := xtbl_at 616 (by decide +kernel) (by decide +kernel)
set_option maxRecDepth 20000 in
theorem cw_617 : Cond.selects "ThreePoints" ⟨"ThreePoints", "set", "(II)I"⟩ ⟨"ThreePoints", "set", "(II)I"⟩ ∈ xtbl := xtbl_at 617 (by decide +kernel) (by decide +kernel)
set_option maxRecDepth 20000 in
theorem cw_682 : Cond.methodLink "ThreePointsLaw" 23 ⟨"ThreePoints", "feed", "(IIIIII)I"⟩ ∈ xtbl := xtbl_at 682 (by decide +kernel) (by decide +kernel)
set_option maxRecDepth 20000 in
theorem cw_683 : Cond.instanceMethod ⟨"ThreePoints", "feed", "(IIIIII)I"⟩ ∈ xtbl := xtbl_at 683 (by decide +kernel) (by decide +kernel)
set_option maxRecDepth 20000 in
theorem cw_684 : Cond.selects "ThreePoints" ⟨"ThreePoints", "feed", "(IIIIII)I"⟩ ⟨"ThreePoints", "feed", "(IIIIII)I"⟩ ∈ xtbl := xtbl_at 684 (by decide +kernel) (by decide +kernel)
set_option maxRecDepth 20000 in
theorem cw_690 : Cond.methodLink "ThreePointsLaw" 28 ⟨"ThreePoints", "text", "()I"⟩ ∈ xtbl := xtbl_at 690 (by decide +kernel) (by decide +kernel)
set_option maxRecDepth 20000 in
theorem cw_691 : Cond.instanceMethod ⟨"ThreePoints", "text", "()I"⟩ ∈ xtbl := xtbl_at 691 (by decide +kernel) (by decide +kernel)
set_option maxRecDepth 20000 in
theorem cw_692 : Cond.selects "ThreePoints" ⟨"ThreePoints", "text", "()I"⟩ ⟨"ThreePoints", "text", "()I"⟩ ∈ xtbl := xtbl_at 692 (by decide +kernel) (by decide +kernel)
set_option maxRecDepth 20000 in
theorem cw_694 : Cond.methodLink "ThreePointsLaw" 33 ⟨"ThreePoints", "force", "(I)I"⟩ ∈ xtbl := xtbl_at 694 (by decide +kernel) (by decide +kernel)
set_option maxRecDepth 20000 in
theorem cw_695 : Cond.instanceMethod ⟨"ThreePoints", "force", "(I)I"⟩ ∈ xtbl := xtbl_at 695 (by decide +kernel) (by decide +kernel)
set_option maxRecDepth 20000 in
theorem cw_696 : Cond.selects "ThreePoints" ⟨"ThreePoints", "force", "(I)I"⟩ ⟨"ThreePoints", "force", "(I)I"⟩ ∈ xtbl := xtbl_at 696 (by decide +kernel) (by decide +kernel)
set_option maxRecDepth 20000 in
theorem cw_698 : Cond.methodLink "ThreePointsLaw" 37 ⟨"ThreePoints", "asks", "(IIII)I"⟩ ∈ xtbl := xtbl_at 698 (by decide +kernel) (by decide +kernel)
set_option maxRecDepth 20000 in
theorem cw_699 : Cond.instanceMethod ⟨"ThreePoints", "asks", "(IIII)I"⟩ ∈ xtbl := xtbl_at 699 (by decide +kernel) (by decide +kernel)
set_option maxRecDepth 20000 in
theorem cw_700 : Cond.selects "ThreePoints" ⟨"ThreePoints", "asks", "(IIII)I"⟩ ⟨"ThreePoints", "asks", "(IIII)I"⟩ ∈ xtbl := xtbl_at 700 (by decide +kernel) (by decide +kernel)
set_option maxRecDepth 20000 in
theorem cw_714 : Cond.methodLink "ThreePointsLaw" 42 ⟨"ThreePoints", "vehicle", "(II)I"⟩ ∈ xtbl := xtbl_at 714 (by decide +kernel) (by decide +kernel)
set_option maxRecDepth 20000 in
theorem cw_715 : Cond.instanceMethod ⟨"ThreePoints", "vehicle", "(II)I"⟩ ∈ xtbl := xtbl_at 715 (by decide +kernel) (by decide +kernel)
set_option maxRecDepth 20000 in
theorem cw_716 : Cond.selects "ThreePoints" ⟨"ThreePoints", "vehicle", "(II)I"⟩ ⟨"ThreePoints", "vehicle", "(II)I"⟩ ∈ xtbl := xtbl_at 716 (by decide +kernel) (by decide +kernel)
set_option maxRecDepth 20000 in
theorem cw_726 : Cond.methodLink "ThreePointsLaw" 46 ⟨"ThreePoints", "told", "(II)I"⟩ ∈ xtbl := xtbl_at 726 (by decide +kernel) (by decide +kernel)
set_option maxRecDepth 20000 in
theorem cw_727 : Cond.instanceMethod ⟨"ThreePoints", "told", "(II)I"⟩ ∈ xtbl := xtbl_at 727 (by decide +kernel) (by decide +kernel)
set_option maxRecDepth 20000 in
theorem cw_728 : Cond.selects "ThreePoints" ⟨"ThreePoints", "told", "(II)I"⟩ ⟨"ThreePoints", "told", "(II)I"⟩ ∈ xtbl := xtbl_at 728 (by decide +kernel) (by decide +kernel)
set_option maxRecDepth 20000 in
theorem cw_732 : Cond.methodLink "ThreePointsLaw" 50 ⟨"ThreePoints", "fit", "(II)I"⟩ ∈ xtbl := xtbl_at 732 (by decide +kernel) (by decide +kernel)
set_option maxRecDepth 20000 in
theorem cw_733 : Cond.instanceMethod ⟨"ThreePoints", "fit", "(II)I"⟩ ∈ xtbl := xtbl_at 733 (by decide +kernel) (by decide +kernel)
set_option maxRecDepth 20000 in
theorem cw_734 : Cond.selects "ThreePoints" ⟨"ThreePoints", "fit", "(II)I"⟩ ⟨"ThreePoints", "fit", "(II)I"⟩ ∈ xtbl := xtbl_at 734 (by decide +kernel) (by decide +kernel)
set_option maxRecDepth 20000 in
theorem cw_737 : Cond.methodLink "ThreePointsLaw" 54 ⟨"ThreePoints", "drive", "(III)I"⟩ ∈ xtbl := xtbl_at 737 (by decide +kernel) (by decide +kernel)
set_option maxRecDepth 20000 in
theorem cw_738 : Cond.instanceMethod ⟨"ThreePoints", "drive", "(III)I"⟩ ∈ xtbl := xtbl_at 738 (by decide +kernel) (by decide +kernel)
set_option maxRecDepth 20000 in
theorem cw_739 : Cond.selects "ThreePoints" ⟨"ThreePoints", "drive", "(III)I"⟩ ⟨"ThreePoints", "drive", "(III)I"⟩ ∈ xtbl := xtbl_at 739 (by decide +kernel) (by decide +kernel)
set_option maxRecDepth 20000 in
theorem cw_765 : Cond.methodLink "ThreePointsLaw" 59 ⟨"ThreePoints", "begin", "(II)I"⟩ ∈ xtbl := xtbl_at 765 (by decide +kernel) (by decide +kernel)
set_option maxRecDepth 20000 in
theorem cw_766 : Cond.instanceMethod ⟨"ThreePoints", "begin", "(II)I"⟩ ∈ xtbl := xtbl_at 766 (by decide +kernel) (by decide +kernel)
set_option maxRecDepth 20000 in
theorem cw_767 : Cond.selects "ThreePoints" ⟨"ThreePoints", "begin", "(II)I"⟩ ⟨"ThreePoints", "begin", "(II)I"⟩ ∈ xtbl := xtbl_at 767 (by decide +kernel) (by decide +kernel)
set_option maxRecDepth 20000 in
theorem cw_769 : Cond.methodLink "ThreePointsLaw" 63 ⟨"ThreePoints", "turned", "(II)I"⟩ ∈ xtbl := xtbl_at 769 (by decide +kernel) (by decide +kernel)
set_option maxRecDepth 20000 in
theorem cw_770 : Cond.instanceMethod ⟨"ThreePoints", "turned", "(II)I"⟩ ∈ xtbl := xtbl_at 770 (by decide +kernel) (by decide +kernel)
set_option maxRecDepth 20000 in
theorem cw_771 : Cond.selects "ThreePoints" ⟨"ThreePoints", "turned", "(II)I"⟩ ⟨"ThreePoints", "turned", "(II)I"⟩ ∈ xtbl := xtbl_at 771 (by decide +kernel) (by decide +kernel)
set_option maxRecDepth 20000 in
theorem cw_813 : Cond.methodLink "ThreePointsLaw" 67 ⟨"ThreePoints", "where", "(II)I"⟩ ∈ xtbl := xtbl_at 813 (by decide +kernel) (by decide +kernel)
set_option maxRecDepth 20000 in
theorem cw_814 : Cond.instanceMethod ⟨"ThreePoints", "where", "(II)I"⟩ ∈ xtbl := xtbl_at 814 (by decide +kernel) (by decide +kernel)
set_option maxRecDepth 20000 in
theorem cw_815 : Cond.selects "ThreePoints" ⟨"ThreePoints", "where", "(II)I"⟩ ⟨"ThreePoints", "where", "(II)I"⟩ ∈ xtbl := xtbl_at 815 (by decide +kernel) (by decide +kernel)
set_option maxRecDepth 20000 in
theorem cw_818 : Cond.methodLink "ThreePointsLaw" 71 ⟨"ThreePoints", "narrow", "(II)I"⟩ ∈ xtbl := xtbl_at 818 (by decide +kernel) (by decide +kernel)
set_option maxRecDepth 20000 in
theorem cw_819 : Cond.instanceMethod ⟨"ThreePoints", "narrow", "(II)I"⟩ ∈ xtbl := xtbl_at 819 (by decide +kernel) (by decide +kernel)
set_option maxRecDepth 20000 in
theorem cw_820 : Cond.selects "ThreePoints" ⟨"ThreePoints", "narrow", "(II)I"⟩ ⟨"ThreePoints", "narrow", "(II)I"⟩ ∈ xtbl := xtbl_at 820 (by decide +kernel) (by decide +kernel)
set_option maxRecDepth 20000 in
theorem cw_822 : Cond.methodLink "ThreePointsLaw" 75 ⟨"ThreePoints", "cut", "(II)I"⟩ ∈ xtbl := xtbl_at 822 (by decide +kernel) (by decide +kernel)
set_option maxRecDepth 20000 in
theorem cw_823 : Cond.instanceMethod ⟨"ThreePoints", "cut", "(II)I"⟩ ∈ xtbl := xtbl_at 823 (by decide +kernel) (by decide +kernel)
set_option maxRecDepth 20000 in
theorem cw_824 : Cond.selects "ThreePoints" ⟨"ThreePoints", "cut", "(II)I"⟩ ⟨"ThreePoints", "cut", "(II)I"⟩ ∈ xtbl := xtbl_at 824 (by decide +kernel) (by decide +kernel)
set_option maxRecDepth 20000 in
theorem cw_826 : Cond.methodLink "ThreePointsLaw" 79 ⟨"ThreePoints", "headings", "(I)I"⟩ ∈ xtbl := xtbl_at 826 (by decide +kernel) (by decide +kernel)
set_option maxRecDepth 20000 in
theorem cw_827 : Cond.instanceMethod ⟨"ThreePoints", "headings", "(I)I"⟩ ∈ xtbl := xtbl_at 827 (by decide +kernel) (by decide +kernel)
set_option maxRecDepth 20000 in
theorem cw_828 : Cond.selects "ThreePoints" ⟨"ThreePoints", "headings", "(I)I"⟩ ⟨"ThreePoints", "headings", "(I)I"⟩ ∈ xtbl := xtbl_at 828 (by decide +kernel) (by decide +kernel)
set_option maxRecDepth 20000 in
theorem cw_838 : Cond.methodLink "ThreePointsLaw" 83 ⟨"ThreePoints", "best", "(I)I"⟩ ∈ xtbl := xtbl_at 838 (by decide +kernel) (by decide +kernel)
set_option maxRecDepth 20000 in
theorem cw_839 : Cond.instanceMethod ⟨"ThreePoints", "best", "(I)I"⟩ ∈ xtbl := xtbl_at 839 (by decide +kernel) (by decide +kernel)
set_option maxRecDepth 20000 in
theorem cw_840 : Cond.selects "ThreePoints" ⟨"ThreePoints", "best", "(I)I"⟩ ⟨"ThreePoints", "best", "(I)I"⟩ ∈ xtbl := xtbl_at 840 (by decide +kernel) (by decide +kernel)
set_option maxRecDepth 20000 in
theorem cw_842 : Cond.methodLink "ThreePointsLaw" 87 ⟨"ThreePoints", "judge", "(II)I"⟩ ∈ xtbl := xtbl_at 842 (by decide +kernel) (by decide +kernel)
set_option maxRecDepth 20000 in
theorem cw_843 : Cond.instanceMethod ⟨"ThreePoints", "judge", "(II)I"⟩ ∈ xtbl := xtbl_at 843 (by decide +kernel) (by decide +kernel)
set_option maxRecDepth 20000 in
theorem cw_844 : Cond.selects "ThreePoints" ⟨"ThreePoints", "judge", "(II)I"⟩ ⟨"ThreePoints", "judge", "(II)I"⟩ ∈ xtbl := xtbl_at 844 (by decide +kernel) (by decide +kernel)
set_option maxRecDepth 20000 in
theorem cw_875 : Cond.methodLink "ThreePointsLaw" 91 ⟨"ThreePoints", "ends", "(III)I"⟩ ∈ xtbl := xtbl_at 875 (by decide +kernel) (by decide +kernel)
set_option maxRecDepth 20000 in
theorem cw_876 : Cond.instanceMethod ⟨"ThreePoints", "ends", "(III)I"⟩ ∈ xtbl := xtbl_at 876 (by decide +kernel) (by decide +kernel)
set_option maxRecDepth 20000 in
theorem cw_877 : Cond.selects "ThreePoints" ⟨"ThreePoints", "ends", "(III)I"⟩ ⟨"ThreePoints", "ends", "(III)I"⟩ ∈ xtbl := xtbl_at 877 (by decide +kernel) (by decide +kernel)
set_option maxRecDepth 20000 in
theorem cw_879 : Cond.methodLink "ThreePointsLaw" 95 ⟨"ThreePoints", "kinds", "(III)I"⟩ ∈ xtbl := xtbl_at 879 (by decide +kernel) (by decide +kernel)
set_option maxRecDepth 20000 in
theorem cw_880 : Cond.instanceMethod ⟨"ThreePoints", "kinds", "(III)I"⟩ ∈ xtbl := xtbl_at 880 (by decide +kernel) (by decide +kernel)
set_option maxRecDepth 20000 in
theorem cw_881 : Cond.selects "ThreePoints" ⟨"ThreePoints", "kinds", "(III)I"⟩ ⟨"ThreePoints", "kinds", "(III)I"⟩ ∈ xtbl := xtbl_at 881 (by decide +kernel) (by decide +kernel)
set_option maxRecDepth 20000 in
theorem cw_883 : Cond.methodLink "ThreePointsLaw" 99 ⟨"ThreePoints", "widths", "(III)I"⟩ ∈ xtbl := xtbl_at 883 (by decide +kernel) (by decide +kernel)
set_option maxRecDepth 20000 in
theorem cw_884 : Cond.instanceMethod ⟨"ThreePoints", "widths", "(III)I"⟩ ∈ xtbl := xtbl_at 884 (by decide +kernel) (by decide +kernel)
set_option maxRecDepth 20000 in
theorem cw_885 : Cond.selects "ThreePoints" ⟨"ThreePoints", "widths", "(III)I"⟩ ⟨"ThreePoints", "widths", "(III)I"⟩ ∈ xtbl := xtbl_at 885 (by decide +kernel) (by decide +kernel)
set_option maxRecDepth 20000 in
theorem cw_887 : Cond.methodLink "ThreePointsLaw" 103 ⟨"ThreePoints", "laws", "(II)I"⟩ ∈ xtbl := xtbl_at 887 (by decide +kernel) (by decide +kernel)
set_option maxRecDepth 20000 in
theorem cw_888 : Cond.instanceMethod ⟨"ThreePoints", "laws", "(II)I"⟩ ∈ xtbl := xtbl_at 888 (by decide +kernel) (by decide +kernel)
set_option maxRecDepth 20000 in
theorem cw_889 : Cond.selects "ThreePoints" ⟨"ThreePoints", "laws", "(II)I"⟩ ⟨"ThreePoints", "laws", "(II)I"⟩ ∈ xtbl := xtbl_at 889 (by decide +kernel) (by decide +kernel)
set_option maxRecDepth 20000 in
theorem cw_891 : Cond.methodLink "ThreePointsLaw" 107 ⟨"ThreePoints", "drawn", "(IIII)I"⟩ ∈ xtbl := xtbl_at 891 (by decide +kernel) (by decide +kernel)
set_option maxRecDepth 20000 in
theorem cw_892 : Cond.instanceMethod ⟨"ThreePoints", "drawn", "(IIII)I"⟩ ∈ xtbl := xtbl_at 892 (by decide +kernel) (by decide +kernel)
set_option maxRecDepth 20000 in
theorem cw_893 : Cond.selects "ThreePoints" ⟨"ThreePoints", "drawn", "(IIII)I"⟩ ⟨"ThreePoints", "drawn", "(IIII)I"⟩ ∈ xtbl := xtbl_at 893 (by decide +kernel) (by decide +kernel)
set_option maxRecDepth 20000 in
theorem cw_906 : Cond.methodLink "ThreePointsLaw" 111 ⟨"ThreePoints", "odds", "(IIII)J"⟩ ∈ xtbl := xtbl_at 906 (by decide +kernel) (by decide +kernel)
set_option maxRecDepth 20000 in
theorem cw_907 : Cond.instanceMethod ⟨"ThreePoints", "odds", "(IIII)J"⟩ ∈ xtbl := xtbl_at 907 (by decide +kernel) (by decide +kernel)
set_option maxRecDepth 20000 in
theorem cw_908 : Cond.selects "ThreePoints" ⟨"ThreePoints", "odds", "(IIII)J"⟩ ⟨"ThreePoints", "odds", "(IIII)J"⟩ ∈ xtbl := xtbl_at 908 (by decide +kernel) (by decide +kernel)
set_option maxRecDepth 20000 in
theorem cw_914 : Cond.methodLink "ThreePointsLaw" 116 ⟨"ThreePoints", "image", "()I"⟩ ∈ xtbl := xtbl_at 914 (by decide +kernel) (by decide +kernel)
set_option maxRecDepth 20000 in
theorem cw_915 : Cond.instanceMethod ⟨"ThreePoints", "image", "()I"⟩ ∈ xtbl := xtbl_at 915 (by decide +kernel) (by decide +kernel)
set_option maxRecDepth 20000 in
theorem cw_916 : Cond.selects "ThreePoints" ⟨"ThreePoints", "image", "()I"⟩ ⟨"ThreePoints", "image", "()I"⟩ ∈ xtbl := xtbl_at 916 (by decide +kernel) (by decide +kernel)
set_option maxRecDepth 20000 in
theorem cw_924 : Cond.methodLink "ThreePointsLaw" 120 ⟨"ThreePoints", "back", "()I"⟩ ∈ xtbl := xtbl_at 924 (by decide +kernel) (by decide +kernel)
set_option maxRecDepth 20000 in
theorem cw_925 : Cond.instanceMethod ⟨"ThreePoints", "back", "()I"⟩ ∈ xtbl := xtbl_at 925 (by decide +kernel) (by decide +kernel)
set_option maxRecDepth 20000 in
theorem cw_926 : Cond.selects "ThreePoints" ⟨"ThreePoints", "back", "()I"⟩ ⟨"ThreePoints", "back", "()I"⟩ ∈ xtbl := xtbl_at 926 (by decide +kernel) (by decide +kernel)
set_option maxRecDepth 20000 in
theorem cw_928 : Cond.methodLink "ThreePointsLaw" 124 ⟨"ThreePoints", "sheet", "(III)I"⟩ ∈ xtbl := xtbl_at 928 (by decide +kernel) (by decide +kernel)
set_option maxRecDepth 20000 in
theorem cw_929 : Cond.instanceMethod ⟨"ThreePoints", "sheet", "(III)I"⟩ ∈ xtbl := xtbl_at 929 (by decide +kernel) (by decide +kernel)
set_option maxRecDepth 20000 in
theorem cw_930 : Cond.selects "ThreePoints" ⟨"ThreePoints", "sheet", "(III)I"⟩ ⟨"ThreePoints", "sheet", "(III)I"⟩ ∈ xtbl := xtbl_at 930 (by decide +kernel) (by decide +kernel)
set_option maxRecDepth 20000 in
theorem cw_939 : Cond.methodLink "ThreePointsLaw" 128 ⟨"ThreePoints", "cell", "(III)I"⟩ ∈ xtbl := xtbl_at 939 (by decide +kernel) (by decide +kernel)
set_option maxRecDepth 20000 in
theorem cw_940 : Cond.instanceMethod ⟨"ThreePoints", "cell", "(III)I"⟩ ∈ xtbl := xtbl_at 940 (by decide +kernel) (by decide +kernel)
set_option maxRecDepth 20000 in
theorem cw_941 : Cond.selects "ThreePoints" ⟨"ThreePoints", "cell", "(III)I"⟩ ⟨"ThreePoints", "cell", "(III)I"⟩ ∈ xtbl := xtbl_at 941 (by decide +kernel) (by decide +kernel)
set_option maxRecDepth 20000 in
theorem cw_948 : Cond.methodLink "ThreePointsLaw" 132 ⟨"ThreePoints", "copy", "(IIIII)I"⟩ ∈ xtbl := xtbl_at 948 (by decide +kernel) (by decide +kernel)
set_option maxRecDepth 20000 in
theorem cw_949 : Cond.instanceMethod ⟨"ThreePoints", "copy", "(IIIII)I"⟩ ∈ xtbl := xtbl_at 949 (by decide +kernel) (by decide +kernel)
set_option maxRecDepth 20000 in
theorem cw_950 : Cond.selects "ThreePoints" ⟨"ThreePoints", "copy", "(IIIII)I"⟩ ⟨"ThreePoints", "copy", "(IIIII)I"⟩ ∈ xtbl := xtbl_at 950 (by decide +kernel) (by decide +kernel)
set_option maxRecDepth 20000 in
theorem cw_957 : Cond.methodLink "ThreePointsLaw" 137 ⟨"ThreePoints", "vehiclesBy", "(IIII)I"⟩ ∈ xtbl := xtbl_at 957 (by decide +kernel) (by decide +kernel)
set_option maxRecDepth 20000 in
theorem cw_958 : Cond.instanceMethod ⟨"ThreePoints", "vehiclesBy", "(IIII)I"⟩ ∈ xtbl := xtbl_at 958 (by decide +kernel) (by decide +kernel)
set_option maxRecDepth 20000 in
theorem cw_959 : Cond.selects "ThreePoints" ⟨"ThreePoints", "vehiclesBy", "(IIII)I"⟩ ⟨"ThreePoints", "vehiclesBy", "(IIII)I"⟩ ∈ xtbl := xtbl_at 959 (by decide +kernel) (by decide +kernel)
set_option maxRecDepth 20000 in
theorem cw_962 : Cond.methodLink "ThreePointsLaw" 141 ⟨"ThreePoints", "taken", "(II)I"⟩ ∈ xtbl := xtbl_at 962 (by decide +kernel) (by decide +kernel)
set_option maxRecDepth 20000 in
theorem cw_963 : Cond.instanceMethod ⟨"ThreePoints", "taken", "(II)I"⟩ ∈ xtbl := xtbl_at 963 (by decide +kernel) (by decide +kernel)
set_option maxRecDepth 20000 in
theorem cw_964 : Cond.selects "ThreePoints" ⟨"ThreePoints", "taken", "(II)I"⟩ ⟨"ThreePoints", "taken", "(II)I"⟩ ∈ xtbl := xtbl_at 964 (by decide +kernel) (by decide +kernel)
set_option maxRecDepth 20000 in
theorem cw_1144 : Cond.methodLink "ThreePointsLaw" 17 ⟨"ThreePointsModel", "count", "(I)I"⟩ ∈ xtbl := xtbl_at 1144 (by decide +kernel) (by decide +kernel)
set_option maxRecDepth 20000 in
theorem cw_1145 : Cond.instanceMethod ⟨"ThreePointsModel", "count", "(I)I"⟩ ∈ xtbl := xtbl_at 1145 (by decide +kernel) (by decide +kernel)
set_option maxRecDepth 20000 in
theorem cw_1146 : Cond.selects "ThreePointsModel" ⟨"ThreePointsModel", "count", "(I)I"⟩ ⟨"ThreePointsModel", "count", "(I)I"⟩ ∈ xtbl := xtbl_at 1146 (by decide +kernel) (by decide +kernel)
set_option maxRecDepth 20000 in
theorem cw_1148 : Cond.methodLink "ThreePointsLaw" 22 ⟨"ThreePointsModel", "set", "(II)I"⟩ ∈ xtbl := xtbl_at 1148 (by decide +kernel) (by decide +kernel)
set_option maxRecDepth 20000 in
theorem cw_1149 : Cond.instanceMethod ⟨"ThreePointsModel", "set", "(II)I"⟩ ∈ xtbl := xtbl_at 1149 (by decide +kernel) (by decide +kernel)
set_option maxRecDepth 20000 in
theorem cw_1150 : Cond.selects "ThreePointsModel" ⟨"ThreePointsModel", "set", "(II)I"⟩ ⟨"ThreePointsModel", "set", "(II)I"⟩ ∈ xtbl := xtbl_at 1150 (by decide +kernel) (by decide +kernel)
set_option maxRecDepth 20000 in
theorem cw_1186 : Cond.methodLink "ThreePointsLaw" 27 ⟨"ThreePointsModel", "feed", "(IIIIII)I"⟩ ∈ xtbl := xtbl_at 1186 (by decide +kernel) (by decide +kernel)
set_option maxRecDepth 20000 in
theorem cw_1187 : Cond.instanceMethod ⟨"ThreePointsModel", "feed", "(IIIIII)I"⟩ ∈ xtbl := xtbl_at 1187 (by decide +kernel) (by decide +kernel)
set_option maxRecDepth 20000 in
theorem cw_1188 : Cond.selects "ThreePointsModel" ⟨"ThreePointsModel", "feed", "(IIIIII)I"⟩ ⟨"ThreePointsModel", "feed", "(IIIIII)I"⟩ ∈ xtbl := xtbl_at 1188 (by decide +kernel) (by decide +kernel)
set_option maxRecDepth 20000 in
theorem cw_1193 : Cond.methodLink "ThreePointsLaw" 32 ⟨"ThreePointsModel", "text", "()I"⟩ ∈ xtbl := xtbl_at 1193 (by decide +kernel) (by decide +kernel)
set_option maxRecDepth 20000 in
theorem cw_1194 : Cond.methodLink "ThreePointsLaw" 36 ⟨"ThreePointsModel", "force", "(I)I"⟩ ∈ xtbl := xtbl_at 1194 (by decide +kernel) (by decide +kernel)
set_option maxRecDepth 20000 in
theorem cw_1195 : Cond.instanceMethod ⟨"ThreePointsModel", "force", "(I)I"⟩ ∈ xtbl := xtbl_at 1195 (by decide +kernel) (by decide +kernel)
set_option maxRecDepth 20000 in
theorem cw_1196 : Cond.selects "ThreePointsModel" ⟨"ThreePointsModel", "force", "(I)I"⟩ ⟨"ThreePointsModel", "force", "(I)I"⟩ ∈ xtbl := xtbl_at 1196 (by decide +kernel) (by decide +kernel)
set_option maxRecDepth 20000 in
theorem cw_1198 : Cond.methodLink "ThreePointsLaw" 41 ⟨"ThreePointsModel", "asks", "(IIII)I"⟩ ∈ xtbl := xtbl_at 1198 (by decide +kernel) (by decide +kernel)
set_option maxRecDepth 20000 in
theorem cw_1199 : Cond.instanceMethod ⟨"ThreePointsModel", "asks", "(IIII)I"⟩ ∈ xtbl := xtbl_at 1199 (by decide +kernel) (by decide +kernel)
set_option maxRecDepth 20000 in
theorem cw_1200 : Cond.selects "ThreePointsModel" ⟨"ThreePointsModel", "asks", "(IIII)I"⟩ ⟨"ThreePointsModel", "asks", "(IIII)I"⟩ ∈ xtbl := xtbl_at 1200 (by decide +kernel) (by decide +kernel)
set_option maxRecDepth 20000 in
theorem cw_1210 : Cond.methodLink "ThreePointsLaw" 45 ⟨"ThreePointsModel", "vehicle", "(II)I"⟩ ∈ xtbl := xtbl_at 1210 (by decide +kernel) (by decide +kernel)
set_option maxRecDepth 20000 in
theorem cw_1211 : Cond.instanceMethod ⟨"ThreePointsModel", "vehicle", "(II)I"⟩ ∈ xtbl := xtbl_at 1211 (by decide +kernel) (by decide +kernel)
set_option maxRecDepth 20000 in
theorem cw_1212 : Cond.selects "ThreePointsModel" ⟨"ThreePointsModel", "vehicle", "(II)I"⟩ ⟨"ThreePointsModel", "vehicle", "(II)I"⟩ ∈ xtbl := xtbl_at 1212 (by decide +kernel) (by decide +kernel)
set_option maxRecDepth 20000 in
theorem cw_1214 : Cond.methodLink "ThreePointsLaw" 49 ⟨"ThreePointsModel", "told", "(II)I"⟩ ∈ xtbl := xtbl_at 1214 (by decide +kernel) (by decide +kernel)
set_option maxRecDepth 20000 in
theorem cw_1215 : Cond.instanceMethod ⟨"ThreePointsModel", "told", "(II)I"⟩ ∈ xtbl := xtbl_at 1215 (by decide +kernel) (by decide +kernel)
set_option maxRecDepth 20000 in
theorem cw_1216 : Cond.selects "ThreePointsModel" ⟨"ThreePointsModel", "told", "(II)I"⟩ ⟨"ThreePointsModel", "told", "(II)I"⟩ ∈ xtbl := xtbl_at 1216 (by decide +kernel) (by decide +kernel)
set_option maxRecDepth 20000 in
theorem cw_1218 : Cond.methodLink "ThreePointsLaw" 53 ⟨"ThreePointsModel", "fit", "(II)I"⟩ ∈ xtbl := xtbl_at 1218 (by decide +kernel) (by decide +kernel)
set_option maxRecDepth 20000 in
theorem cw_1219 : Cond.instanceMethod ⟨"ThreePointsModel", "fit", "(II)I"⟩ ∈ xtbl := xtbl_at 1219 (by decide +kernel) (by decide +kernel)
set_option maxRecDepth 20000 in
theorem cw_1220 : Cond.selects "ThreePointsModel" ⟨"ThreePointsModel", "fit", "(II)I"⟩ ⟨"ThreePointsModel", "fit", "(II)I"⟩ ∈ xtbl := xtbl_at 1220 (by decide +kernel) (by decide +kernel)
set_option maxRecDepth 20000 in
theorem cw_1222 : Cond.methodLink "ThreePointsLaw" 58 ⟨"ThreePointsModel", "drive", "(III)I"⟩ ∈ xtbl := xtbl_at 1222 (by decide +kernel) (by decide +kernel)
set_option maxRecDepth 20000 in
theorem cw_1223 : Cond.instanceMethod ⟨"ThreePointsModel", "drive", "(III)I"⟩ ∈ xtbl := xtbl_at 1223 (by decide +kernel) (by decide +kernel)
set_option maxRecDepth 20000 in
theorem cw_1224 : Cond.selects "ThreePointsModel" ⟨"ThreePointsModel", "drive", "(III)I"⟩ ⟨"ThreePointsModel", "drive", "(III)I"⟩ ∈ xtbl := xtbl_at 1224 (by decide +kernel) (by decide +kernel)
set_option maxRecDepth 20000 in
theorem cw_1246 : Cond.methodLink "ThreePointsLaw" 62 ⟨"ThreePointsModel", "begin", "(II)I"⟩ ∈ xtbl := xtbl_at 1246 (by decide +kernel) (by decide +kernel)
set_option maxRecDepth 20000 in
theorem cw_1247 : Cond.instanceMethod ⟨"ThreePointsModel", "begin", "(II)I"⟩ ∈ xtbl := xtbl_at 1247 (by decide +kernel) (by decide +kernel)
set_option maxRecDepth 20000 in
theorem cw_1248 : Cond.selects "ThreePointsModel" ⟨"ThreePointsModel", "begin", "(II)I"⟩ ⟨"ThreePointsModel", "begin", "(II)I"⟩ ∈ xtbl := xtbl_at 1248 (by decide +kernel) (by decide +kernel)
set_option maxRecDepth 20000 in
theorem cw_1250 : Cond.methodLink "ThreePointsLaw" 66 ⟨"ThreePointsModel", "turned", "(II)I"⟩ ∈ xtbl := xtbl_at 1250 (by decide +kernel) (by decide +kernel)
set_option maxRecDepth 20000 in
theorem cw_1251 : Cond.instanceMethod ⟨"ThreePointsModel", "turned", "(II)I"⟩ ∈ xtbl := xtbl_at 1251 (by decide +kernel) (by decide +kernel)
set_option maxRecDepth 20000 in
theorem cw_1252 : Cond.selects "ThreePointsModel" ⟨"ThreePointsModel", "turned", "(II)I"⟩ ⟨"ThreePointsModel", "turned", "(II)I"⟩ ∈ xtbl := xtbl_at 1252 (by decide +kernel) (by decide +kernel)
set_option maxRecDepth 20000 in
theorem cw_1293 : Cond.methodLink "ThreePointsLaw" 70 ⟨"ThreePointsModel", "where", "(II)I"⟩ ∈ xtbl := xtbl_at 1293 (by decide +kernel) (by decide +kernel)
set_option maxRecDepth 20000 in
theorem cw_1294 : Cond.instanceMethod ⟨"ThreePointsModel", "where", "(II)I"⟩ ∈ xtbl := xtbl_at 1294 (by decide +kernel) (by decide +kernel)
set_option maxRecDepth 20000 in
theorem cw_1295 : Cond.selects "ThreePointsModel" ⟨"ThreePointsModel", "where", "(II)I"⟩ ⟨"ThreePointsModel", "where", "(II)I"⟩ ∈ xtbl := xtbl_at 1295 (by decide +kernel) (by decide +kernel)
set_option maxRecDepth 20000 in
theorem cw_1301 : Cond.methodLink "ThreePointsLaw" 74 ⟨"ThreePointsModel", "narrow", "(II)I"⟩ ∈ xtbl := xtbl_at 1301 (by decide +kernel) (by decide +kernel)
set_option maxRecDepth 20000 in
theorem cw_1302 : Cond.instanceMethod ⟨"ThreePointsModel", "narrow", "(II)I"⟩ ∈ xtbl := xtbl_at 1302 (by decide +kernel) (by decide +kernel)
set_option maxRecDepth 20000 in
theorem cw_1303 : Cond.selects "ThreePointsModel" ⟨"ThreePointsModel", "narrow", "(II)I"⟩ ⟨"ThreePointsModel", "narrow", "(II)I"⟩ ∈ xtbl := xtbl_at 1303 (by decide +kernel) (by decide +kernel)
set_option maxRecDepth 20000 in
theorem cw_1305 : Cond.methodLink "ThreePointsLaw" 78 ⟨"ThreePointsModel", "cut", "(II)I"⟩ ∈ xtbl := xtbl_at 1305 (by decide +kernel) (by decide +kernel)
set_option maxRecDepth 20000 in
theorem cw_1306 : Cond.instanceMethod ⟨"ThreePointsModel", "cut", "(II)I"⟩ ∈ xtbl := xtbl_at 1306 (by decide +kernel) (by decide +kernel)
set_option maxRecDepth 20000 in
theorem cw_1307 : Cond.selects "ThreePointsModel" ⟨"ThreePointsModel", "cut", "(II)I"⟩ ⟨"ThreePointsModel", "cut", "(II)I"⟩ ∈ xtbl := xtbl_at 1307 (by decide +kernel) (by decide +kernel)
set_option maxRecDepth 20000 in
theorem cw_1309 : Cond.methodLink "ThreePointsLaw" 82 ⟨"ThreePointsModel", "headings", "(I)I"⟩ ∈ xtbl := xtbl_at 1309 (by decide +kernel) (by decide +kernel)
set_option maxRecDepth 20000 in
theorem cw_1310 : Cond.instanceMethod ⟨"ThreePointsModel", "headings", "(I)I"⟩ ∈ xtbl := xtbl_at 1310 (by decide +kernel) (by decide +kernel)
set_option maxRecDepth 20000 in
theorem cw_1311 : Cond.selects "ThreePointsModel" ⟨"ThreePointsModel", "headings", "(I)I"⟩ ⟨"ThreePointsModel", "headings", "(I)I"⟩ ∈ xtbl := xtbl_at 1311 (by decide +kernel) (by decide +kernel)
set_option maxRecDepth 20000 in
theorem cw_1313 : Cond.methodLink "ThreePointsLaw" 86 ⟨"ThreePointsModel", "best", "(I)I"⟩ ∈ xtbl := xtbl_at 1313 (by decide +kernel) (by decide +kernel)
set_option maxRecDepth 20000 in
theorem cw_1314 : Cond.instanceMethod ⟨"ThreePointsModel", "best", "(I)I"⟩ ∈ xtbl := xtbl_at 1314 (by decide +kernel) (by decide +kernel)
set_option maxRecDepth 20000 in
theorem cw_1315 : Cond.selects "ThreePointsModel" ⟨"ThreePointsModel", "best", "(I)I"⟩ ⟨"ThreePointsModel", "best", "(I)I"⟩ ∈ xtbl := xtbl_at 1315 (by decide +kernel) (by decide +kernel)
set_option maxRecDepth 20000 in
theorem cw_1317 : Cond.methodLink "ThreePointsLaw" 90 ⟨"ThreePointsModel", "judge", "(II)I"⟩ ∈ xtbl := xtbl_at 1317 (by decide +kernel) (by decide +kernel)
set_option maxRecDepth 20000 in
theorem cw_1318 : Cond.instanceMethod ⟨"ThreePointsModel", "judge", "(II)I"⟩ ∈ xtbl := xtbl_at 1318 (by decide +kernel) (by decide +kernel)
set_option maxRecDepth 20000 in
theorem cw_1319 : Cond.selects "ThreePointsModel" ⟨"ThreePointsModel", "judge", "(II)I"⟩ ⟨"ThreePointsModel", "judge", "(II)I"⟩ ∈ xtbl := xtbl_at 1319 (by decide +kernel) (by decide +kernel)
set_option maxRecDepth 20000 in
theorem cw_1337 : Cond.methodLink "ThreePointsLaw" 94 ⟨"ThreePointsModel", "ends", "(III)I"⟩ ∈ xtbl := xtbl_at 1337 (by decide +kernel) (by decide +kernel)
set_option maxRecDepth 20000 in
theorem cw_1338 : Cond.instanceMethod ⟨"ThreePointsModel", "ends", "(III)I"⟩ ∈ xtbl := xtbl_at 1338 (by decide +kernel) (by decide +kernel)
set_option maxRecDepth 20000 in
theorem cw_1339 : Cond.selects "ThreePointsModel" ⟨"ThreePointsModel", "ends", "(III)I"⟩ ⟨"ThreePointsModel", "ends", "(III)I"⟩ ∈ xtbl := xtbl_at 1339 (by decide +kernel) (by decide +kernel)
set_option maxRecDepth 20000 in
theorem cw_1341 : Cond.methodLink "ThreePointsLaw" 98 ⟨"ThreePointsModel", "kinds", "(III)I"⟩ ∈ xtbl := xtbl_at 1341 (by decide +kernel) (by decide +kernel)
set_option maxRecDepth 20000 in
theorem cw_1342 : Cond.instanceMethod ⟨"ThreePointsModel", "kinds", "(III)I"⟩ ∈ xtbl := xtbl_at 1342 (by decide +kernel) (by decide +kernel)
set_option maxRecDepth 20000 in
theorem cw_1343 : Cond.selects "ThreePointsModel" ⟨"ThreePointsModel", "kinds", "(III)I"⟩ ⟨"ThreePointsModel", "kinds", "(III)I"⟩ ∈ xtbl := xtbl_at 1343 (by decide +kernel) (by decide +kernel)
set_option maxRecDepth 20000 in
theorem cw_1345 : Cond.methodLink "ThreePointsLaw" 102 ⟨"ThreePointsModel", "widths", "(III)I"⟩ ∈ xtbl := xtbl_at 1345 (by decide +kernel) (by decide +kernel)
set_option maxRecDepth 20000 in
theorem cw_1346 : Cond.instanceMethod ⟨"ThreePointsModel", "widths", "(III)I"⟩ ∈ xtbl := xtbl_at 1346 (by decide +kernel) (by decide +kernel)
set_option maxRecDepth 20000 in
theorem cw_1347 : Cond.selects "ThreePointsModel" ⟨"ThreePointsModel", "widths", "(III)I"⟩ ⟨"ThreePointsModel", "widths", "(III)I"⟩ ∈ xtbl := xtbl_at 1347 (by decide +kernel) (by decide +kernel)
set_option maxRecDepth 20000 in
theorem cw_1349 : Cond.methodLink "ThreePointsLaw" 106 ⟨"ThreePointsModel", "laws", "(II)I"⟩ ∈ xtbl := xtbl_at 1349 (by decide +kernel) (by decide +kernel)
set_option maxRecDepth 20000 in
theorem cw_1350 : Cond.instanceMethod ⟨"ThreePointsModel", "laws", "(II)I"⟩ ∈ xtbl := xtbl_at 1350 (by decide +kernel) (by decide +kernel)
set_option maxRecDepth 20000 in
theorem cw_1351 : Cond.selects "ThreePointsModel" ⟨"ThreePointsModel", "laws", "(II)I"⟩ ⟨"ThreePointsModel", "laws", "(II)I"⟩ ∈ xtbl := xtbl_at 1351 (by decide +kernel) (by decide +kernel)
set_option maxRecDepth 20000 in
theorem cw_1353 : Cond.methodLink "ThreePointsLaw" 110 ⟨"ThreePointsModel", "drawn", "(IIII)I"⟩ ∈ xtbl := xtbl_at 1353 (by decide +kernel) (by decide +kernel)
set_option maxRecDepth 20000 in
theorem cw_1354 : Cond.instanceMethod ⟨"ThreePointsModel", "drawn", "(IIII)I"⟩ ∈ xtbl := xtbl_at 1354 (by decide +kernel) (by decide +kernel)
set_option maxRecDepth 20000 in
theorem cw_1355 : Cond.selects "ThreePointsModel" ⟨"ThreePointsModel", "drawn", "(IIII)I"⟩ ⟨"ThreePointsModel", "drawn", "(IIII)I"⟩ ∈ xtbl := xtbl_at 1355 (by decide +kernel) (by decide +kernel)
set_option maxRecDepth 20000 in
theorem cw_1368 : Cond.methodLink "ThreePointsLaw" 115 ⟨"ThreePointsModel", "odds", "(IIII)J"⟩ ∈ xtbl := xtbl_at 1368 (by decide +kernel) (by decide +kernel)
set_option maxRecDepth 20000 in
theorem cw_1369 : Cond.instanceMethod ⟨"ThreePointsModel", "odds", "(IIII)J"⟩ ∈ xtbl := xtbl_at 1369 (by decide +kernel) (by decide +kernel)
set_option maxRecDepth 20000 in
theorem cw_1370 : Cond.selects "ThreePointsModel" ⟨"ThreePointsModel", "odds", "(IIII)J"⟩ ⟨"ThreePointsModel", "odds", "(IIII)J"⟩ ∈ xtbl := xtbl_at 1370 (by decide +kernel) (by decide +kernel)
set_option maxRecDepth 20000 in
theorem cw_1376 : Cond.methodLink "ThreePointsLaw" 119 ⟨"ThreePointsModel", "image", "()I"⟩ ∈ xtbl := xtbl_at 1376 (by decide +kernel) (by decide +kernel)
set_option maxRecDepth 20000 in
theorem cw_1377 : Cond.instanceMethod ⟨"ThreePointsModel", "image", "()I"⟩ ∈ xtbl := xtbl_at 1377 (by decide +kernel) (by decide +kernel)
set_option maxRecDepth 20000 in
theorem cw_1378 : Cond.selects "ThreePointsModel" ⟨"ThreePointsModel", "image", "()I"⟩ ⟨"ThreePointsModel", "image", "()I"⟩ ∈ xtbl := xtbl_at 1378 (by decide +kernel) (by decide +kernel)
set_option maxRecDepth 20000 in
theorem cw_1380 : Cond.methodLink "ThreePointsLaw" 123 ⟨"ThreePointsModel", "back", "()I"⟩ ∈ xtbl := xtbl_at 1380 (by decide +kernel) (by decide +kernel)
set_option maxRecDepth 20000 in
theorem cw_1381 : Cond.instanceMethod ⟨"ThreePointsModel", "back", "()I"⟩ ∈ xtbl := xtbl_at 1381 (by decide +kernel) (by decide +kernel)
set_option maxRecDepth 20000 in
theorem cw_1382 : Cond.selects "ThreePointsModel" ⟨"ThreePointsModel", "back", "()I"⟩ ⟨"ThreePointsModel", "back", "()I"⟩ ∈ xtbl := xtbl_at 1382 (by decide +kernel) (by decide +kernel)
set_option maxRecDepth 20000 in
theorem cw_1384 : Cond.methodLink "ThreePointsLaw" 127 ⟨"ThreePointsModel", "sheet", "(III)I"⟩ ∈ xtbl := xtbl_at 1384 (by decide +kernel) (by decide +kernel)
set_option maxRecDepth 20000 in
theorem cw_1385 : Cond.instanceMethod ⟨"ThreePointsModel", "sheet", "(III)I"⟩ ∈ xtbl := xtbl_at 1385 (by decide +kernel) (by decide +kernel)
set_option maxRecDepth 20000 in
theorem cw_1386 : Cond.selects "ThreePointsModel" ⟨"ThreePointsModel", "sheet", "(III)I"⟩ ⟨"ThreePointsModel", "sheet", "(III)I"⟩ ∈ xtbl := xtbl_at 1386 (by decide +kernel) (by decide +kernel)
set_option maxRecDepth 20000 in
theorem cw_1388 : Cond.methodLink "ThreePointsLaw" 131 ⟨"ThreePointsModel", "cell", "(III)I"⟩ ∈ xtbl := xtbl_at 1388 (by decide +kernel) (by decide +kernel)
set_option maxRecDepth 20000 in
theorem cw_1389 : Cond.instanceMethod ⟨"ThreePointsModel", "cell", "(III)I"⟩ ∈ xtbl := xtbl_at 1389 (by decide +kernel) (by decide +kernel)
set_option maxRecDepth 20000 in
theorem cw_1390 : Cond.selects "ThreePointsModel" ⟨"ThreePointsModel", "cell", "(III)I"⟩ ⟨"ThreePointsModel", "cell", "(III)I"⟩ ∈ xtbl := xtbl_at 1390 (by decide +kernel) (by decide +kernel)
set_option maxRecDepth 20000 in
theorem cw_1392 : Cond.methodLink "ThreePointsLaw" 136 ⟨"ThreePointsModel", "copy", "(IIIII)I"⟩ ∈ xtbl := xtbl_at 1392 (by decide +kernel) (by decide +kernel)
set_option maxRecDepth 20000 in
theorem cw_1393 : Cond.instanceMethod ⟨"ThreePointsModel", "copy", "(IIIII)I"⟩ ∈ xtbl := xtbl_at 1393 (by decide +kernel) (by decide +kernel)
set_option maxRecDepth 20000 in
theorem cw_1394 : Cond.selects "ThreePointsModel" ⟨"ThreePointsModel", "copy", "(IIIII)I"⟩ ⟨"ThreePointsModel", "copy", "(IIIII)I"⟩ ∈ xtbl := xtbl_at 1394 (by decide +kernel) (by decide +kernel)
set_option maxRecDepth 20000 in
theorem cw_1396 : Cond.methodLink "ThreePointsLaw" 140 ⟨"ThreePointsModel", "vehiclesBy", "(IIII)I"⟩ ∈ xtbl := xtbl_at 1396 (by decide +kernel) (by decide +kernel)
set_option maxRecDepth 20000 in
theorem cw_1397 : Cond.instanceMethod ⟨"ThreePointsModel", "vehiclesBy", "(IIII)I"⟩ ∈ xtbl := xtbl_at 1397 (by decide +kernel) (by decide +kernel)
set_option maxRecDepth 20000 in
theorem cw_1398 : Cond.selects "ThreePointsModel" ⟨"ThreePointsModel", "vehiclesBy", "(IIII)I"⟩ ⟨"ThreePointsModel", "vehiclesBy", "(IIII)I"⟩ ∈ xtbl := xtbl_at 1398 (by decide +kernel) (by decide +kernel)
set_option maxRecDepth 20000 in
theorem cw_1401 : Cond.methodLink "ThreePointsLaw" 144 ⟨"ThreePointsModel", "taken", "(II)I"⟩ ∈ xtbl := xtbl_at 1401 (by decide +kernel) (by decide +kernel)
set_option maxRecDepth 20000 in
theorem cw_1402 : Cond.instanceMethod ⟨"ThreePointsModel", "taken", "(II)I"⟩ ∈ xtbl := xtbl_at 1402 (by decide +kernel) (by decide +kernel)
set_option maxRecDepth 20000 in
theorem cw_1403 : Cond.selects "ThreePointsModel" ⟨"ThreePointsModel", "taken", "(II)I"⟩ ⟨"ThreePointsModel", "taken", "(II)I"⟩ ∈ xtbl := xtbl_at 1403 (by decide +kernel) (by decide +kernel)
theorem dl_178 : decode code 178 = .ok (.invokevirtual 13, 3) := by decide +kernel
theorem dl_187 : decode code 187 = .ok (.invokevirtual 17, 3) := by decide +kernel
theorem dl_190 : decode code 190 = .ok (.if_icmp .eq 1118, 3) := by decide +kernel
theorem ck_0 : caseOK 172 178 187 [1] = true := by decide +kernel
theorem dl_206 : decode code 206 = .ok (.invokevirtual 18, 3) := by decide +kernel
theorem dl_220 : decode code 220 = .ok (.invokevirtual 22, 3) := by decide +kernel
theorem dl_223 : decode code 223 = .ok (.if_icmp .eq 1085, 3) := by decide +kernel
theorem ck_1 : caseOK 195 206 220 [1, 2] = true := by decide +kernel
theorem dl_260 : decode code 260 = .ok (.invokevirtual 23, 3) := by decide +kernel
theorem dl_295 : decode code 295 = .ok (.invokevirtual 27, 3) := by decide +kernel
theorem dl_298 : decode code 298 = .ok (.if_icmp .eq 1010, 3) := by decide +kernel
theorem ck_2 : caseOK 228 260 295 [1, 2, 3, 4, 5, 6] = true := by decide +kernel
theorem dl_304 : decode code 304 = .ok (.invokevirtual 28, 3) := by decide +kernel
theorem dl_308 : decode code 308 = .ok (.invokevirtual 32, 3) := by decide +kernel
theorem dl_311 : decode code 311 = .ok (.if_icmp .eq 997, 3) := by decide +kernel
theorem ck_3 : caseOK 303 304 308 [] = true := by decide +kernel
theorem dl_322 : decode code 322 = .ok (.invokevirtual 33, 3) := by decide +kernel
theorem dl_331 : decode code 331 = .ok (.invokevirtual 36, 3) := by decide +kernel
theorem dl_334 : decode code 334 = .ok (.if_icmp .eq 974, 3) := by decide +kernel
theorem ck_4 : caseOK 316 322 331 [1] = true := by decide +kernel
theorem dl_360 : decode code 360 = .ok (.invokevirtual 37, 3) := by decide +kernel
theorem dl_384 : decode code 384 = .ok (.invokevirtual 41, 3) := by decide +kernel
theorem dl_387 : decode code 387 = .ok (.if_icmp .eq 921, 3) := by decide +kernel
theorem ck_5 : caseOK 339 360 384 [1, 2, 3, 4] = true := by decide +kernel
theorem dl_403 : decode code 403 = .ok (.invokevirtual 42, 3) := by decide +kernel
theorem dl_417 : decode code 417 = .ok (.invokevirtual 45, 3) := by decide +kernel
theorem dl_420 : decode code 420 = .ok (.if_icmp .eq 888, 3) := by decide +kernel
theorem ck_6 : caseOK 392 403 417 [1, 2] = true := by decide +kernel
theorem dl_436 : decode code 436 = .ok (.invokevirtual 46, 3) := by decide +kernel
theorem dl_450 : decode code 450 = .ok (.invokevirtual 49, 3) := by decide +kernel
theorem dl_453 : decode code 453 = .ok (.if_icmp .eq 855, 3) := by decide +kernel
theorem ck_7 : caseOK 425 436 450 [1, 2] = true := by decide +kernel
theorem dl_469 : decode code 469 = .ok (.invokevirtual 50, 3) := by decide +kernel
theorem dl_483 : decode code 483 = .ok (.invokevirtual 53, 3) := by decide +kernel
theorem dl_486 : decode code 486 = .ok (.if_icmp .eq 822, 3) := by decide +kernel
theorem ck_8 : caseOK 458 469 483 [1, 2] = true := by decide +kernel
theorem dl_507 : decode code 507 = .ok (.invokevirtual 54, 3) := by decide +kernel
theorem dl_526 : decode code 526 = .ok (.invokevirtual 58, 3) := by decide +kernel
theorem dl_529 : decode code 529 = .ok (.if_icmp .eq 779, 3) := by decide +kernel
theorem ck_9 : caseOK 491 507 526 [1, 2, 3] = true := by decide +kernel
theorem dl_545 : decode code 545 = .ok (.invokevirtual 59, 3) := by decide +kernel
theorem dl_559 : decode code 559 = .ok (.invokevirtual 62, 3) := by decide +kernel
theorem dl_562 : decode code 562 = .ok (.if_icmp .eq 746, 3) := by decide +kernel
theorem ck_10 : caseOK 534 545 559 [1, 2] = true := by decide +kernel
theorem dl_578 : decode code 578 = .ok (.invokevirtual 63, 3) := by decide +kernel
theorem dl_592 : decode code 592 = .ok (.invokevirtual 66, 3) := by decide +kernel
theorem dl_595 : decode code 595 = .ok (.if_icmp .eq 713, 3) := by decide +kernel
theorem ck_11 : caseOK 567 578 592 [1, 2] = true := by decide +kernel
theorem dl_611 : decode code 611 = .ok (.invokevirtual 67, 3) := by decide +kernel
theorem dl_625 : decode code 625 = .ok (.invokevirtual 70, 3) := by decide +kernel
theorem dl_628 : decode code 628 = .ok (.if_icmp .eq 680, 3) := by decide +kernel
theorem ck_12 : caseOK 600 611 625 [1, 2] = true := by decide +kernel
theorem dl_644 : decode code 644 = .ok (.invokevirtual 71, 3) := by decide +kernel
theorem dl_658 : decode code 658 = .ok (.invokevirtual 74, 3) := by decide +kernel
theorem dl_661 : decode code 661 = .ok (.if_icmp .eq 647, 3) := by decide +kernel
theorem ck_13 : caseOK 633 644 658 [1, 2] = true := by decide +kernel
theorem dl_677 : decode code 677 = .ok (.invokevirtual 75, 3) := by decide +kernel
theorem dl_691 : decode code 691 = .ok (.invokevirtual 78, 3) := by decide +kernel
theorem dl_694 : decode code 694 = .ok (.if_icmp .eq 614, 3) := by decide +kernel
theorem ck_14 : caseOK 666 677 691 [1, 2] = true := by decide +kernel
theorem dl_705 : decode code 705 = .ok (.invokevirtual 79, 3) := by decide +kernel
theorem dl_714 : decode code 714 = .ok (.invokevirtual 82, 3) := by decide +kernel
theorem dl_717 : decode code 717 = .ok (.if_icmp .eq 591, 3) := by decide +kernel
theorem ck_15 : caseOK 699 705 714 [1] = true := by decide +kernel
theorem dl_728 : decode code 728 = .ok (.invokevirtual 83, 3) := by decide +kernel
theorem dl_737 : decode code 737 = .ok (.invokevirtual 86, 3) := by decide +kernel
theorem dl_740 : decode code 740 = .ok (.if_icmp .eq 568, 3) := by decide +kernel
theorem ck_16 : caseOK 722 728 737 [1] = true := by decide +kernel
theorem dl_756 : decode code 756 = .ok (.invokevirtual 87, 3) := by decide +kernel
theorem dl_770 : decode code 770 = .ok (.invokevirtual 90, 3) := by decide +kernel
theorem dl_773 : decode code 773 = .ok (.if_icmp .eq 535, 3) := by decide +kernel
theorem ck_17 : caseOK 745 756 770 [1, 2] = true := by decide +kernel
theorem dl_794 : decode code 794 = .ok (.invokevirtual 91, 3) := by decide +kernel
theorem dl_813 : decode code 813 = .ok (.invokevirtual 94, 3) := by decide +kernel
theorem dl_816 : decode code 816 = .ok (.if_icmp .eq 492, 3) := by decide +kernel
theorem ck_18 : caseOK 778 794 813 [1, 2, 3] = true := by decide +kernel
theorem dl_837 : decode code 837 = .ok (.invokevirtual 95, 3) := by decide +kernel
theorem dl_856 : decode code 856 = .ok (.invokevirtual 98, 3) := by decide +kernel
theorem dl_859 : decode code 859 = .ok (.if_icmp .eq 449, 3) := by decide +kernel
theorem ck_19 : caseOK 821 837 856 [1, 2, 3] = true := by decide +kernel
theorem dl_880 : decode code 880 = .ok (.invokevirtual 99, 3) := by decide +kernel
theorem dl_899 : decode code 899 = .ok (.invokevirtual 102, 3) := by decide +kernel
theorem dl_902 : decode code 902 = .ok (.if_icmp .eq 406, 3) := by decide +kernel
theorem ck_20 : caseOK 864 880 899 [1, 2, 3] = true := by decide +kernel
theorem dl_918 : decode code 918 = .ok (.invokevirtual 103, 3) := by decide +kernel
theorem dl_932 : decode code 932 = .ok (.invokevirtual 106, 3) := by decide +kernel
theorem dl_935 : decode code 935 = .ok (.if_icmp .eq 373, 3) := by decide +kernel
theorem ck_21 : caseOK 907 918 932 [1, 2] = true := by decide +kernel
theorem dl_961 : decode code 961 = .ok (.invokevirtual 107, 3) := by decide +kernel
theorem dl_985 : decode code 985 = .ok (.invokevirtual 110, 3) := by decide +kernel
theorem dl_988 : decode code 988 = .ok (.if_icmp .eq 320, 3) := by decide +kernel
theorem ck_22 : caseOK 940 961 985 [1, 2, 3, 4] = true := by decide +kernel
theorem dl_1014 : decode code 1014 = .ok (.invokevirtual 111, 3) := by decide +kernel
theorem dl_1038 : decode code 1038 = .ok (.invokevirtual 115, 3) := by decide +kernel
theorem dl_1041 : decode code 1041 = .ok (.lcmp, 1) := by decide +kernel
theorem dl_1042 : decode code 1042 = .ok (.ifCond .eq 266, 3) := by decide +kernel
theorem ck_23 : caseOK 993 1014 1038 [1, 2, 3, 4] = true := by decide +kernel
theorem dl_1048 : decode code 1048 = .ok (.invokevirtual 116, 3) := by decide +kernel
theorem dl_1052 : decode code 1052 = .ok (.invokevirtual 119, 3) := by decide +kernel
theorem dl_1055 : decode code 1055 = .ok (.if_icmp .eq 253, 3) := by decide +kernel
theorem ck_24 : caseOK 1047 1048 1052 [] = true := by decide +kernel
theorem dl_1061 : decode code 1061 = .ok (.invokevirtual 120, 3) := by decide +kernel
theorem dl_1065 : decode code 1065 = .ok (.invokevirtual 123, 3) := by decide +kernel
theorem dl_1068 : decode code 1068 = .ok (.if_icmp .eq 240, 3) := by decide +kernel
theorem ck_25 : caseOK 1060 1061 1065 [] = true := by decide +kernel
theorem dl_1089 : decode code 1089 = .ok (.invokevirtual 124, 3) := by decide +kernel
theorem dl_1108 : decode code 1108 = .ok (.invokevirtual 127, 3) := by decide +kernel
theorem dl_1111 : decode code 1111 = .ok (.if_icmp .eq 197, 3) := by decide +kernel
theorem ck_26 : caseOK 1073 1089 1108 [1, 2, 3] = true := by decide +kernel
theorem dl_1132 : decode code 1132 = .ok (.invokevirtual 128, 3) := by decide +kernel
theorem dl_1151 : decode code 1151 = .ok (.invokevirtual 131, 3) := by decide +kernel
theorem dl_1154 : decode code 1154 = .ok (.if_icmp .eq 154, 3) := by decide +kernel
theorem ck_27 : caseOK 1116 1132 1151 [1, 2, 3] = true := by decide +kernel
theorem dl_1185 : decode code 1185 = .ok (.invokevirtual 132, 3) := by decide +kernel
theorem dl_1214 : decode code 1214 = .ok (.invokevirtual 136, 3) := by decide +kernel
theorem dl_1217 : decode code 1217 = .ok (.if_icmp .eq 91, 3) := by decide +kernel
theorem ck_28 : caseOK 1159 1185 1214 [1, 2, 3, 4, 5] = true := by decide +kernel
theorem dl_1243 : decode code 1243 = .ok (.invokevirtual 137, 3) := by decide +kernel
theorem dl_1267 : decode code 1267 = .ok (.invokevirtual 140, 3) := by decide +kernel
theorem dl_1270 : decode code 1270 = .ok (.if_icmp .eq 38, 3) := by decide +kernel
theorem ck_29 : caseOK 1222 1243 1267 [1, 2, 3, 4] = true := by decide +kernel
theorem dl_1286 : decode code 1286 = .ok (.invokevirtual 141, 3) := by decide +kernel
theorem dl_1300 : decode code 1300 = .ok (.invokevirtual 144, 3) := by decide +kernel
theorem dl_1303 : decode code 1303 = .ok (.if_icmp .eq 5, 3) := by decide +kernel
theorem ck_30 : caseOK 1275 1286 1300 [1, 2] = true := by decide +kernel
section LCB
variable {p : Program} {l : Launch} {e : Env} {s : State} {m : MethodId} {below : List Frame} {meth : Method} {c : Code} {cid : Nat → ClassId} {D : va_G} {ad : Nat → Nat → Nat} {b L i : Nat} {xs : Nat → Int32} {Z : State → Prop} {H : HH}
set_option maxRecDepth 20000 in
theorem law_0 (hC : lwC p s m #[Value.ref b] c cid D ad) (hX : va_X b L xs s s.heap) (hbl : b < s.heap.size) (hL : L ≤ 3584) (hi : i + 6 < L) (kk : ∀ H2 s2, INV H2 s2 → LWp p l e s m b below meth c cid D ad Z i 1308 H2) {sI : SN} (hI : INV H sI) : LWp p l e s m b below meth c cid D ad Z i 172 H :=
  lw_caseI hC hX hbl hL hi kk [1] (by decide) ck_0 1118 dl_190 (by decide) dl_178 xm_Main_count cw_611 cw_612 cw_613 rfl dl_187 xm_Model_count cw_1144 cw_1145 cw_1146 rfl rfl (by decide) (by decide) (m_count (E := (l, cid, D, ad)) (d := 80) (d2 := 80) hI)
set_option maxRecDepth 20000 in
theorem law_1 (hC : lwC p s m #[Value.ref b] c cid D ad) (hX : va_X b L xs s s.heap) (hbl : b < s.heap.size) (hL : L ≤ 3584) (hi : i + 6 < L) (kk : ∀ H2 s2, INV H2 s2 → LWp p l e s m b below meth c cid D ad Z i 1308 H2) {sI : SN} (hI : INV H sI) : LWp p l e s m b below meth c cid D ad Z i 195 H :=
  lw_caseI hC hX hbl hL hi kk [1, 2] (by decide) ck_1 1085 dl_223 (by decide) dl_206 xm_Main_set cw_615 cw_616 cw_617 rfl dl_220 xm_Model_set cw_1148 cw_1149 cw_1150 rfl rfl (by decide) (by decide) (m_set (E := (l, cid, D, ad)) (d := 60) (d2 := 60) hI)
set_option maxRecDepth 20000 in
theorem law_2 (hC : lwC p s m #[Value.ref b] c cid D ad) (hX : va_X b L xs s s.heap) (hbl : b < s.heap.size) (hL : L ≤ 3584) (hi : i + 6 < L) (kk : ∀ H2 s2, INV H2 s2 → LWp p l e s m b below meth c cid D ad Z i 1308 H2) {sI : SN} (hI : INV H sI) : LWp p l e s m b below meth c cid D ad Z i 228 H :=
  lw_caseI hC hX hbl hL hi kk [1, 2, 3, 4, 5, 6] (by decide) ck_2 1010 dl_298 (by decide) dl_260 xm_Main_feed cw_682 cw_683 cw_684 rfl dl_295 xm_Model_feed cw_1186 cw_1187 cw_1188 rfl rfl (by decide) (by decide) (m_feed (E := (l, cid, D, ad)) (d := 60) (d2 := 60) hI)
set_option maxRecDepth 20000 in
theorem law_3 (hC : lwC p s m #[Value.ref b] c cid D ad) (hX : va_X b L xs s s.heap) (hbl : b < s.heap.size) (hL : L ≤ 3584) (hi : i + 6 < L) (kk : ∀ H2 s2, INV H2 s2 → LWp p l e s m b below meth c cid D ad Z i 1308 H2) {sI : SN} (hI : INV H sI) : LWp p l e s m b below meth c cid D ad Z i 303 H :=
  lw_caseI hC hX hbl hL hi kk [] (by decide) ck_3 997 dl_311 (by decide) dl_304 xm_Main_text cw_690 cw_691 cw_692 rfl dl_308 xm_Model_text cw_1193 cw_980 cw_981 rfl rfl (by decide) (by decide) (m_text (E := (l, cid, D, ad)) (d := 20) (d2 := 60) hI)
set_option maxRecDepth 20000 in
theorem law_4 (hC : lwC p s m #[Value.ref b] c cid D ad) (hX : va_X b L xs s s.heap) (hbl : b < s.heap.size) (hL : L ≤ 3584) (hi : i + 6 < L) (kk : ∀ H2 s2, INV H2 s2 → LWp p l e s m b below meth c cid D ad Z i 1308 H2) {sI : SN} (hI : INV H sI) : LWp p l e s m b below meth c cid D ad Z i 316 H :=
  lw_caseI hC hX hbl hL hi kk [1] (by decide) ck_4 974 dl_334 (by decide) dl_322 xm_Main_force cw_694 cw_695 cw_696 rfl dl_331 xm_Model_force cw_1194 cw_1195 cw_1196 rfl rfl (by decide) (by decide) (m_force (E := (l, cid, D, ad)) (d := 60) (d2 := 60) hI)
set_option maxRecDepth 20000 in
theorem law_5 (hC : lwC p s m #[Value.ref b] c cid D ad) (hX : va_X b L xs s s.heap) (hbl : b < s.heap.size) (hL : L ≤ 3584) (hi : i + 6 < L) (kk : ∀ H2 s2, INV H2 s2 → LWp p l e s m b below meth c cid D ad Z i 1308 H2) {sI : SN} (hI : INV H sI) : LWp p l e s m b below meth c cid D ad Z i 339 H :=
  lw_caseI hC hX hbl hL hi kk [1, 2, 3, 4] (by decide) ck_5 921 dl_387 (by decide) dl_360 xm_Main_asks cw_698 cw_699 cw_700 rfl dl_384 xm_Model_asks cw_1198 cw_1199 cw_1200 rfl rfl (by decide) (by decide) (m_asks (E := (l, cid, D, ad)) (d := 60) (d2 := 60) hI)
set_option maxRecDepth 20000 in
theorem law_6 (hC : lwC p s m #[Value.ref b] c cid D ad) (hX : va_X b L xs s s.heap) (hbl : b < s.heap.size) (hL : L ≤ 3584) (hi : i + 6 < L) (kk : ∀ H2 s2, INV H2 s2 → LWp p l e s m b below meth c cid D ad Z i 1308 H2) {sI : SN} (hI : INV H sI) : LWp p l e s m b below meth c cid D ad Z i 392 H :=
  lw_caseI hC hX hbl hL hi kk [1, 2] (by decide) ck_6 888 dl_420 (by decide) dl_403 xm_Main_vehicle cw_714 cw_715 cw_716 rfl dl_417 xm_Model_vehicle cw_1210 cw_1211 cw_1212 rfl rfl (by decide) (by decide) (m_vehicle (E := (l, cid, D, ad)) (d := 60) (d2 := 60) hI)
set_option maxRecDepth 20000 in
theorem law_7 (hC : lwC p s m #[Value.ref b] c cid D ad) (hX : va_X b L xs s s.heap) (hbl : b < s.heap.size) (hL : L ≤ 3584) (hi : i + 6 < L) (kk : ∀ H2 s2, INV H2 s2 → LWp p l e s m b below meth c cid D ad Z i 1308 H2) {sI : SN} (hI : INV H sI) : LWp p l e s m b below meth c cid D ad Z i 425 H :=
  lw_caseI hC hX hbl hL hi kk [1, 2] (by decide) ck_7 855 dl_453 (by decide) dl_436 xm_Main_told cw_726 cw_727 cw_728 rfl dl_450 xm_Model_told cw_1214 cw_1215 cw_1216 rfl rfl (by decide) (by decide) (m_told (E := (l, cid, D, ad)) (d := 60) (d2 := 60) hI)
set_option maxRecDepth 20000 in
theorem law_8 (hC : lwC p s m #[Value.ref b] c cid D ad) (hX : va_X b L xs s s.heap) (hbl : b < s.heap.size) (hL : L ≤ 3584) (hi : i + 6 < L) (kk : ∀ H2 s2, INV H2 s2 → LWp p l e s m b below meth c cid D ad Z i 1308 H2) {sI : SN} (hI : INV H sI) : LWp p l e s m b below meth c cid D ad Z i 458 H :=
  lw_caseI hC hX hbl hL hi kk [1, 2] (by decide) ck_8 822 dl_486 (by decide) dl_469 xm_Main_fit cw_732 cw_733 cw_734 rfl dl_483 xm_Model_fit cw_1218 cw_1219 cw_1220 rfl rfl (by decide) (by decide) (m_fit (E := (l, cid, D, ad)) (d := 60) (d2 := 60) hI)
set_option maxRecDepth 20000 in
theorem law_9 (hC : lwC p s m #[Value.ref b] c cid D ad) (hX : va_X b L xs s s.heap) (hbl : b < s.heap.size) (hL : L ≤ 3584) (hi : i + 6 < L) (kk : ∀ H2 s2, INV H2 s2 → LWp p l e s m b below meth c cid D ad Z i 1308 H2) {sI : SN} (hI : INV H sI) : LWp p l e s m b below meth c cid D ad Z i 491 H :=
  lw_caseI hC hX hbl hL hi kk [1, 2, 3] (by decide) ck_9 779 dl_529 (by decide) dl_507 xm_Main_drive cw_737 cw_738 cw_739 rfl dl_526 xm_Model_drive cw_1222 cw_1223 cw_1224 rfl rfl (by decide) (by decide) (m_drive (E := (l, cid, D, ad)) (d := 60) (d2 := 60) hI)
set_option maxRecDepth 20000 in
theorem law_10 (hC : lwC p s m #[Value.ref b] c cid D ad) (hX : va_X b L xs s s.heap) (hbl : b < s.heap.size) (hL : L ≤ 3584) (hi : i + 6 < L) (kk : ∀ H2 s2, INV H2 s2 → LWp p l e s m b below meth c cid D ad Z i 1308 H2) {sI : SN} (hI : INV H sI) : LWp p l e s m b below meth c cid D ad Z i 534 H :=
  lw_caseI hC hX hbl hL hi kk [1, 2] (by decide) ck_10 746 dl_562 (by decide) dl_545 xm_Main_begin cw_765 cw_766 cw_767 rfl dl_559 xm_Model_begin cw_1246 cw_1247 cw_1248 rfl rfl (by decide) (by decide) (m_begin (E := (l, cid, D, ad)) (d := 60) (d2 := 60) hI)
set_option maxRecDepth 20000 in
theorem law_11 (hC : lwC p s m #[Value.ref b] c cid D ad) (hX : va_X b L xs s s.heap) (hbl : b < s.heap.size) (hL : L ≤ 3584) (hi : i + 6 < L) (kk : ∀ H2 s2, INV H2 s2 → LWp p l e s m b below meth c cid D ad Z i 1308 H2) {sI : SN} (hI : INV H sI) : LWp p l e s m b below meth c cid D ad Z i 567 H :=
  lw_caseI hC hX hbl hL hi kk [1, 2] (by decide) ck_11 713 dl_595 (by decide) dl_578 xm_Main_turned cw_769 cw_770 cw_771 rfl dl_592 xm_Model_turned cw_1250 cw_1251 cw_1252 rfl rfl (by decide) (by decide) (m_turned (E := (l, cid, D, ad)) (d := 60) (d2 := 60) hI)
set_option maxRecDepth 20000 in
theorem law_12 (hC : lwC p s m #[Value.ref b] c cid D ad) (hX : va_X b L xs s s.heap) (hbl : b < s.heap.size) (hL : L ≤ 3584) (hi : i + 6 < L) (kk : ∀ H2 s2, INV H2 s2 → LWp p l e s m b below meth c cid D ad Z i 1308 H2) {sI : SN} (hI : INV H sI) : LWp p l e s m b below meth c cid D ad Z i 600 H :=
  lw_caseI hC hX hbl hL hi kk [1, 2] (by decide) ck_12 680 dl_628 (by decide) dl_611 xm_Main_where cw_813 cw_814 cw_815 rfl dl_625 xm_Model_where cw_1293 cw_1294 cw_1295 rfl rfl (by decide) (by decide) (m_where (E := (l, cid, D, ad)) (d := 60) (d2 := 60) hI)
set_option maxRecDepth 20000 in
theorem law_13 (hC : lwC p s m #[Value.ref b] c cid D ad) (hX : va_X b L xs s s.heap) (hbl : b < s.heap.size) (hL : L ≤ 3584) (hi : i + 6 < L) (kk : ∀ H2 s2, INV H2 s2 → LWp p l e s m b below meth c cid D ad Z i 1308 H2) {sI : SN} (hI : INV H sI) : LWp p l e s m b below meth c cid D ad Z i 633 H :=
  lw_caseI hC hX hbl hL hi kk [1, 2] (by decide) ck_13 647 dl_661 (by decide) dl_644 xm_Main_narrow cw_818 cw_819 cw_820 rfl dl_658 xm_Model_narrow cw_1301 cw_1302 cw_1303 rfl rfl (by decide) (by decide) (m_narrow (E := (l, cid, D, ad)) (d := 60) (d2 := 60) hI)
set_option maxRecDepth 20000 in
theorem law_14 (hC : lwC p s m #[Value.ref b] c cid D ad) (hX : va_X b L xs s s.heap) (hbl : b < s.heap.size) (hL : L ≤ 3584) (hi : i + 6 < L) (kk : ∀ H2 s2, INV H2 s2 → LWp p l e s m b below meth c cid D ad Z i 1308 H2) {sI : SN} (hI : INV H sI) : LWp p l e s m b below meth c cid D ad Z i 666 H :=
  lw_caseI hC hX hbl hL hi kk [1, 2] (by decide) ck_14 614 dl_694 (by decide) dl_677 xm_Main_cut cw_822 cw_823 cw_824 rfl dl_691 xm_Model_cut cw_1305 cw_1306 cw_1307 rfl rfl (by decide) (by decide) (m_cut (E := (l, cid, D, ad)) (d := 60) (d2 := 60) hI)
set_option maxRecDepth 20000 in
theorem law_15 (hC : lwC p s m #[Value.ref b] c cid D ad) (hX : va_X b L xs s s.heap) (hbl : b < s.heap.size) (hL : L ≤ 3584) (hi : i + 6 < L) (kk : ∀ H2 s2, INV H2 s2 → LWp p l e s m b below meth c cid D ad Z i 1308 H2) {sI : SN} (hI : INV H sI) : LWp p l e s m b below meth c cid D ad Z i 699 H :=
  lw_caseI hC hX hbl hL hi kk [1] (by decide) ck_15 591 dl_717 (by decide) dl_705 xm_Main_headings cw_826 cw_827 cw_828 rfl dl_714 xm_Model_headings cw_1309 cw_1310 cw_1311 rfl rfl (by decide) (by decide) (m_headings (E := (l, cid, D, ad)) (d := 60) (d2 := 60) hI)
set_option maxRecDepth 20000 in
theorem law_16 (hC : lwC p s m #[Value.ref b] c cid D ad) (hX : va_X b L xs s s.heap) (hbl : b < s.heap.size) (hL : L ≤ 3584) (hi : i + 6 < L) (kk : ∀ H2 s2, INV H2 s2 → LWp p l e s m b below meth c cid D ad Z i 1308 H2) {sI : SN} (hI : INV H sI) : LWp p l e s m b below meth c cid D ad Z i 722 H :=
  lw_caseI hC hX hbl hL hi kk [1] (by decide) ck_16 568 dl_740 (by decide) dl_728 xm_Main_best cw_838 cw_839 cw_840 rfl dl_737 xm_Model_best cw_1313 cw_1314 cw_1315 rfl rfl (by decide) (by decide) (m_best (E := (l, cid, D, ad)) (d := 60) (d2 := 60) hI)
set_option maxRecDepth 20000 in
theorem law_17 (hC : lwC p s m #[Value.ref b] c cid D ad) (hX : va_X b L xs s s.heap) (hbl : b < s.heap.size) (hL : L ≤ 3584) (hi : i + 6 < L) (kk : ∀ H2 s2, INV H2 s2 → LWp p l e s m b below meth c cid D ad Z i 1308 H2) {sI : SN} (hI : INV H sI) : LWp p l e s m b below meth c cid D ad Z i 745 H :=
  lw_caseI hC hX hbl hL hi kk [1, 2] (by decide) ck_17 535 dl_773 (by decide) dl_756 xm_Main_judge cw_842 cw_843 cw_844 rfl dl_770 xm_Model_judge cw_1317 cw_1318 cw_1319 rfl rfl (by decide) (by decide) (m_judge (E := (l, cid, D, ad)) (d := 60) (d2 := 60) hI)
set_option maxRecDepth 20000 in
theorem law_18 (hC : lwC p s m #[Value.ref b] c cid D ad) (hX : va_X b L xs s s.heap) (hbl : b < s.heap.size) (hL : L ≤ 3584) (hi : i + 6 < L) (kk : ∀ H2 s2, INV H2 s2 → LWp p l e s m b below meth c cid D ad Z i 1308 H2) {sI : SN} (hI : INV H sI) : LWp p l e s m b below meth c cid D ad Z i 778 H :=
  lw_caseI hC hX hbl hL hi kk [1, 2, 3] (by decide) ck_18 492 dl_816 (by decide) dl_794 xm_Main_ends cw_875 cw_876 cw_877 rfl dl_813 xm_Model_ends cw_1337 cw_1338 cw_1339 rfl rfl (by decide) (by decide) (m_ends (E := (l, cid, D, ad)) (d := 60) (d2 := 60) hI)
set_option maxRecDepth 20000 in
theorem law_19 (hC : lwC p s m #[Value.ref b] c cid D ad) (hX : va_X b L xs s s.heap) (hbl : b < s.heap.size) (hL : L ≤ 3584) (hi : i + 6 < L) (kk : ∀ H2 s2, INV H2 s2 → LWp p l e s m b below meth c cid D ad Z i 1308 H2) {sI : SN} (hI : INV H sI) : LWp p l e s m b below meth c cid D ad Z i 821 H :=
  lw_caseI hC hX hbl hL hi kk [1, 2, 3] (by decide) ck_19 449 dl_859 (by decide) dl_837 xm_Main_kinds cw_879 cw_880 cw_881 rfl dl_856 xm_Model_kinds cw_1341 cw_1342 cw_1343 rfl rfl (by decide) (by decide) (m_kinds (E := (l, cid, D, ad)) (d := 60) (d2 := 60) hI)
set_option maxRecDepth 20000 in
theorem law_20 (hC : lwC p s m #[Value.ref b] c cid D ad) (hX : va_X b L xs s s.heap) (hbl : b < s.heap.size) (hL : L ≤ 3584) (hi : i + 6 < L) (kk : ∀ H2 s2, INV H2 s2 → LWp p l e s m b below meth c cid D ad Z i 1308 H2) {sI : SN} (hI : INV H sI) : LWp p l e s m b below meth c cid D ad Z i 864 H :=
  lw_caseI hC hX hbl hL hi kk [1, 2, 3] (by decide) ck_20 406 dl_902 (by decide) dl_880 xm_Main_widths cw_883 cw_884 cw_885 rfl dl_899 xm_Model_widths cw_1345 cw_1346 cw_1347 rfl rfl (by decide) (by decide) (m_widths (E := (l, cid, D, ad)) (d := 60) (d2 := 60) hI)
set_option maxRecDepth 20000 in
theorem law_21 (hC : lwC p s m #[Value.ref b] c cid D ad) (hX : va_X b L xs s s.heap) (hbl : b < s.heap.size) (hL : L ≤ 3584) (hi : i + 6 < L) (kk : ∀ H2 s2, INV H2 s2 → LWp p l e s m b below meth c cid D ad Z i 1308 H2) {sI : SN} (hI : INV H sI) : LWp p l e s m b below meth c cid D ad Z i 907 H :=
  lw_caseI hC hX hbl hL hi kk [1, 2] (by decide) ck_21 373 dl_935 (by decide) dl_918 xm_Main_laws cw_887 cw_888 cw_889 rfl dl_932 xm_Model_laws cw_1349 cw_1350 cw_1351 rfl rfl (by decide) (by decide) (m_laws (E := (l, cid, D, ad)) (d := 60) (d2 := 60) hI)
set_option maxRecDepth 20000 in
theorem law_22 (hC : lwC p s m #[Value.ref b] c cid D ad) (hX : va_X b L xs s s.heap) (hbl : b < s.heap.size) (hL : L ≤ 3584) (hi : i + 6 < L) (kk : ∀ H2 s2, INV H2 s2 → LWp p l e s m b below meth c cid D ad Z i 1308 H2) {sI : SN} (hI : INV H sI) : LWp p l e s m b below meth c cid D ad Z i 940 H :=
  lw_caseI hC hX hbl hL hi kk [1, 2, 3, 4] (by decide) ck_22 320 dl_988 (by decide) dl_961 xm_Main_drawn cw_891 cw_892 cw_893 rfl dl_985 xm_Model_drawn cw_1353 cw_1354 cw_1355 rfl rfl (by decide) (by decide) (m_drawn (E := (l, cid, D, ad)) (d := 60) (d2 := 60) hI)
set_option maxRecDepth 20000 in
theorem law_23 (hC : lwC p s m #[Value.ref b] c cid D ad) (hX : va_X b L xs s s.heap) (hbl : b < s.heap.size) (hL : L ≤ 3584) (hi : i + 6 < L) (kk : ∀ H2 s2, INV H2 s2 → LWp p l e s m b below meth c cid D ad Z i 1308 H2) {sI : SN} (hI : INV H sI) : LWp p l e s m b below meth c cid D ad Z i 993 H :=
  lw_caseL hC hX hbl hL hi kk [1, 2, 3, 4] (by decide) ck_23 266 dl_1041 dl_1042 (by decide) dl_1014 xm_Main_odds cw_906 cw_907 cw_908 rfl dl_1038 xm_Model_odds cw_1368 cw_1369 cw_1370 rfl rfl (by decide) (by decide) (m_odds (E := (l, cid, D, ad)) (d := 60) (d2 := 60) hI)
set_option maxRecDepth 20000 in
theorem law_24 (hC : lwC p s m #[Value.ref b] c cid D ad) (hX : va_X b L xs s s.heap) (hbl : b < s.heap.size) (hL : L ≤ 3584) (hi : i + 6 < L) (kk : ∀ H2 s2, INV H2 s2 → LWp p l e s m b below meth c cid D ad Z i 1308 H2) {sI : SN} (hI : INV H sI) : LWp p l e s m b below meth c cid D ad Z i 1047 H :=
  lw_caseI hC hX hbl hL hi kk [] (by decide) ck_24 253 dl_1055 (by decide) dl_1048 xm_Main_image cw_914 cw_915 cw_916 rfl dl_1052 xm_Model_image cw_1376 cw_1377 cw_1378 rfl rfl (by decide) (by decide) (m_image (E := (l, cid, D, ad)) (d := 60) (d2 := 80) hI)
set_option maxRecDepth 20000 in
theorem law_25 (hC : lwC p s m #[Value.ref b] c cid D ad) (hX : va_X b L xs s s.heap) (hbl : b < s.heap.size) (hL : L ≤ 3584) (hi : i + 6 < L) (kk : ∀ H2 s2, INV H2 s2 → LWp p l e s m b below meth c cid D ad Z i 1308 H2) {sI : SN} (hI : INV H sI) : LWp p l e s m b below meth c cid D ad Z i 1060 H :=
  lw_caseI hC hX hbl hL hi kk [] (by decide) ck_25 240 dl_1068 (by decide) dl_1061 xm_Main_back cw_924 cw_925 cw_926 rfl dl_1065 xm_Model_back cw_1380 cw_1381 cw_1382 rfl rfl (by decide) (by decide) (m_back (E := (l, cid, D, ad)) (d := 60) (d2 := 80) hI)
set_option maxRecDepth 20000 in
theorem law_26 (hC : lwC p s m #[Value.ref b] c cid D ad) (hX : va_X b L xs s s.heap) (hbl : b < s.heap.size) (hL : L ≤ 3584) (hi : i + 6 < L) (kk : ∀ H2 s2, INV H2 s2 → LWp p l e s m b below meth c cid D ad Z i 1308 H2) {sI : SN} (hI : INV H sI) : LWp p l e s m b below meth c cid D ad Z i 1073 H :=
  lw_caseI hC hX hbl hL hi kk [1, 2, 3] (by decide) ck_26 197 dl_1111 (by decide) dl_1089 xm_Main_sheet cw_928 cw_929 cw_930 rfl dl_1108 xm_Model_sheet cw_1384 cw_1385 cw_1386 rfl rfl (by decide) (by decide) (m_sheet (E := (l, cid, D, ad)) (d := 60) (d2 := 60) hI)
set_option maxRecDepth 20000 in
theorem law_27 (hC : lwC p s m #[Value.ref b] c cid D ad) (hX : va_X b L xs s s.heap) (hbl : b < s.heap.size) (hL : L ≤ 3584) (hi : i + 6 < L) (kk : ∀ H2 s2, INV H2 s2 → LWp p l e s m b below meth c cid D ad Z i 1308 H2) {sI : SN} (hI : INV H sI) : LWp p l e s m b below meth c cid D ad Z i 1116 H :=
  lw_caseI hC hX hbl hL hi kk [1, 2, 3] (by decide) ck_27 154 dl_1154 (by decide) dl_1132 xm_Main_cell cw_939 cw_940 cw_941 rfl dl_1151 xm_Model_cell cw_1388 cw_1389 cw_1390 rfl rfl (by decide) (by decide) (m_cell (E := (l, cid, D, ad)) (d := 60) (d2 := 60) hI)
set_option maxRecDepth 20000 in
theorem law_28 (hC : lwC p s m #[Value.ref b] c cid D ad) (hX : va_X b L xs s s.heap) (hbl : b < s.heap.size) (hL : L ≤ 3584) (hi : i + 6 < L) (kk : ∀ H2 s2, INV H2 s2 → LWp p l e s m b below meth c cid D ad Z i 1308 H2) {sI : SN} (hI : INV H sI) : LWp p l e s m b below meth c cid D ad Z i 1159 H :=
  lw_caseI hC hX hbl hL hi kk [1, 2, 3, 4, 5] (by decide) ck_28 91 dl_1217 (by decide) dl_1185 xm_Main_copy cw_948 cw_949 cw_950 rfl dl_1214 xm_Model_copy cw_1392 cw_1393 cw_1394 rfl rfl (by decide) (by decide) (m_copy (E := (l, cid, D, ad)) (d := 60) (d2 := 60) hI)
set_option maxRecDepth 20000 in
theorem law_29 (hC : lwC p s m #[Value.ref b] c cid D ad) (hX : va_X b L xs s s.heap) (hbl : b < s.heap.size) (hL : L ≤ 3584) (hi : i + 6 < L) (kk : ∀ H2 s2, INV H2 s2 → LWp p l e s m b below meth c cid D ad Z i 1308 H2) {sI : SN} (hI : INV H sI) : LWp p l e s m b below meth c cid D ad Z i 1222 H :=
  lw_caseI hC hX hbl hL hi kk [1, 2, 3, 4] (by decide) ck_29 38 dl_1270 (by decide) dl_1243 xm_Main_vehiclesBy cw_957 cw_958 cw_959 rfl dl_1267 xm_Model_vehiclesBy cw_1396 cw_1397 cw_1398 rfl rfl (by decide) (by decide) (m_vehiclesBy (E := (l, cid, D, ad)) (d := 60) (d2 := 60) hI)
set_option maxRecDepth 20000 in
theorem law_30 (hC : lwC p s m #[Value.ref b] c cid D ad) (hX : va_X b L xs s s.heap) (hbl : b < s.heap.size) (hL : L ≤ 3584) (hi : i + 6 < L) (kk : ∀ H2 s2, INV H2 s2 → LWp p l e s m b below meth c cid D ad Z i 1308 H2) {sI : SN} (hI : INV H sI) : LWp p l e s m b below meth c cid D ad Z i 1275 H :=
  lw_caseI hC hX hbl hL hi kk [1, 2] (by decide) ck_30 5 dl_1303 (by decide) dl_1286 xm_Main_taken cw_962 cw_963 cw_964 rfl dl_1300 xm_Model_taken cw_1401 cw_1402 cw_1403 rfl rfl (by decide) (by decide) (m_taken (E := (l, cid, D, ad)) (d := 60) (d2 := 60) hI)
end LCB
