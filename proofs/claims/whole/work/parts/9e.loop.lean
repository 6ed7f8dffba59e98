/-! THE CLAIM OUT OF ONE WALK OF THE LAW'S BODY. Your part is whole_start (and what it stands on); all else here is the same for every law, but numbers. -/
def R_law : String := "ThreePointsLaw"
def lw_P (b : Addr) (xs : List Int32) (args : Array Value) (s : State) : Prop := args = #[.ref b] ∧ s.IntsAt b xs ∧ xs.length ≤ 3584 ∧ (Jvm.Cond.and given_1 narrow_1).before args s = true
def lw_Q (_ : Array Value) (s : State) (o : Outcome) (t : State) : Prop := o = .returned (some (.int 1)) ∧ Framed s o t [] 600000 7302250
def lw_Z (below : List Frame) (a : Array Value) (s : State) : State → Prop := fun t => ∃ o, t.status = .running ∧ Ended t below o ∧ lw_Q a s o t
/-- the law's own end, with 1 on the stack, nothing written that was there before, its room as the claim has it -/
theorem lw_ret {p : Program} {l : Launch} {e : Env} {s : State} {m : MethodId} {below : List Frame} {meth : Method} {c : Code} {b : Nat} (hx : p.tables.exec = Jvm.exec) (hb : c.code = code) (hr : meth.sig.returnType = ret) (hlocks : meth.locks = false) {pc : Nat} {H : Heap} {ls : Array Slot} (hdg : decode code pc = .ok (.ireturn, 1)) : W p l e room_1 s m #[Value.ref b] below meth c H [] 600000 7302250 (lw_Z below #[Value.ref b] s) (F0 m pc ls [.int 1]) := by
  intro T hT X
  obtain ⟨fs, hret, hrun, hended, hW, hframe⟩ := X.leave (v := some (.int 1)) (hlocks := hlocks) (fun h => by rw [hr] at h; cases h)
  have hmeth' : T.vm.method? m = some meth := X.method'
  refine ⟨T.setFrames fs, ?_, .returned (some (.int 1)), hrun, hended, rfl, ⟨_, rfl⟩, hW, hframe⟩
  jvm_step X.here [X.here.top, hx, hb, hdg, hmeth', hr, ret, narrow_b1]
  (try refine ⟨rfl, ?_⟩); (try refine ⟨rfl, ?_⟩)
  first | (intro acts; rw [hret _ acts rfl rfl rfl]) | rw [hret _ _ rfl rfl rfl]
  exact Steps.refl _
/-- what holds at the law's entry: the machine, the code, the tables' words (any of lw_tbl by 'hts w (by decide +kernel)'), the script of L ints xs at the cell b, what the Statement gives of the start (any of its parts by flat_of_before) -/
def lw_At (p : Program) (s : State) (m : MethodId) (meth : Method) (c : Code) (b L : Nat) (xs : Nat → Int32) : Prop :=
  p.tables.exec = Jvm.exec ∧ c.code = code ∧ meth.sig.returnType = ret ∧ c.maxLocals = 4 ∧ s.vm.findClass R_law = some m.cls ∧ (∀ w ∈ lw_tbl, w.before #[Value.ref b] s = true) ∧ va_X b L xs s s.heap ∧ b < s.heap.size ∧ meth.locks = false ∧ (Jvm.Cond.and given_1 narrow_1).before #[Value.ref b] s = true
theorem dl_18 : decode code 18 = .ok (.iload_n 3, 1) := by decide +kernel
theorem dl_19 : decode code 19 = .ok (.aload_n 0, 1) := by decide +kernel
theorem dl_20 : decode code 20 = .ok (.arraylength, 1) := by decide +kernel
theorem dl_21 : decode code 21 = .ok (.bipush 7, 2) := by decide +kernel
theorem dl_23 : decode code 23 = .ok (.isub, 1) := by decide +kernel
theorem dl_24 : decode code 24 = .ok (.if_icmp .gt 1290, 3) := by decide +kernel
theorem dl_27 : decode code 27 = .ok (.aload_n 0, 1) := by decide +kernel
theorem dl_28 : decode code 28 = .ok (.iload_n 3, 1) := by decide +kernel
theorem dl_29 : decode code 29 = .ok (.iaload, 1) := by decide +kernel
theorem dl_30 : decode code 30 = .ok (.bipush 31, 2) := by decide +kernel
theorem dl_32 : decode code 32 = .ok (.iand, 1) := by decide +kernel
theorem dl_1308 : decode code 1308 = .ok (.iinc 3 7, 3) := by decide +kernel
theorem dl_1311 : decode code 1311 = .ok (.goto (-1293), 3) := by decide +kernel
theorem dl_1314 : decode code 1314 = .ok (.iconst 1, 1) := by decide +kernel
theorem dl_1315 : decode code 1315 = .ok (.ireturn, 1) := by decide +kernel
theorem dl_33 : decode code 33 = .ok (.tableswitch 1275 0 30 #[139, 162, 195, 270, 283, 306, 359, 392, 425, 458, 501, 534, 567, 600, 633, 666, 689, 712, 745, 788, 831, 874, 907, 960, 1014, 1027, 1040, 1083, 1126, 1189, 1242], 139) := by decide +kernel
theorem and31 (x : Int32) : ∃ k, k < 32 ∧ x &&& 31 = nI k := by
  refine ⟨(x.toBitVec &&& 31#32).toNat, ?_, ?_⟩
  · rw [BitVec.toNat_and]
    exact Nat.lt_of_le_of_lt Nat.and_le_right (by decide)
  · apply Int32.toBitVec_inj.mp
    show (x &&& 31).toBitVec = BitVec.ofNat 32 (x.toBitVec &&& 31#32).toNat
    rw [BitVec.ofNat_toNat, BitVec.setWidth_eq, Int32.toBitVec_and]
    rfl
section LLO
variable {p : Program} {l : Launch} {e : Env} {s : State} {m : MethodId} {below : List Frame} {meth : Method} {c : Code} {cid : Nat → ClassId} {D : va_G} {ad : Nat → Nat → Nat} {b L : Nat} {xs : Nat → Int32} {H : HH}
theorem law_head {Z : State → Prop} {i : Nat} (hC : lwC p s m #[Value.ref b] c cid D ad) (hX : va_X b L xs s s.heap) (hbl : b < s.heap.size) (hL : L ≤ 3584) (hi : i ≤ L + 7) (k1 : L < i + 7 → LWp p l e s m b below meth c cid D ad Z i 1314 H) (k2 : i + 7 ≤ L → LWp p l e s m b below meth c cid D ad Z i 27 H) : LWp p l e s m b below meth c cid D ad Z i 18 H := by
  intro Hc locs lsC hS hl
  have hx := hC.1
  have hb := hC.2.1
  refine lv_iload_n hx hb dl_18 rfl (lv_at hl 0 rfl) ?_
  refine lv_aload_n hx hb dl_19 rfl (lv_at hl 3 rfl) ?_
  refine va_slen hx hb hX hbl (Nat.not_le.mpr hbl) hS.2.2 dl_20 ?_
  refine lv_bipush (v := 7) hx hb dl_21 (by decide) ?_
  refine lv_isub hx hb dl_23 ?_
  have z7 : (7 : Int32).toInt = 7 := rfl
  have e7 : (nI L - 7).toInt = (L : Int) - 7 := by rw [ti_sub (by rw [ti_nI (by omega), z7]; omega) (by rw [ti_nI (by omega), z7]; omega), ti_nI (by omega), z7]
  refine lv_icmp_gt (tgt := 1314) hx hb dl_24 (by decide) (fun h => ?_) (fun h => ?_)
  · refine k1 ?_ Hc locs lsC hS hl
    have h2 : (nI L - 7) < nI i := h
    simp only [ti_lt] at h2
    rw [e7, ti_nI (by omega)] at h2
    omega
  · refine k2 ?_ Hc locs lsC hS hl
    have h2 : ¬ (nI L - 7) < nI i := h
    simp only [ti_lt] at h2
    rw [e7, ti_nI (by omega)] at h2
    omega
theorem law_end {i : Nat} (hC : lwC p s m #[Value.ref b] c cid D ad) (hr : meth.sig.returnType = ret) (hlocks : meth.locks = false) : LWp p l e s m b below meth c cid D ad (lw_Z below #[Value.ref b] s) i 1314 H := by
  intro Hc locs lsC hS hl
  refine lv_iconst (v := 1) hC.1 hC.2.1 dl_1314 (by decide) ?_
  refine va_forget (fun q hq => hS.2.2.2.2 q hq) ?_
  exact lw_ret hC.1 hC.2.1 hr hlocks dl_1315
theorem law_next {Z : State → Prop} {i : Nat} (hC : lwC p s m #[Value.ref b] c cid D ad) (k : LWp p l e s m b below meth c cid D ad Z (i + 7) 18 H) : LWp p l e s m b below meth c cid D ad Z i 1308 H := by
  intro Hc locs lsC hS hl
  refine lv_iinc (v := nI (i + 7)) (lv' := [(3, .int (nI (i + 7))), (2, .ref (ad 30 0)), (1, .ref (ad 0 0)), (0, .ref b)]) hC.1 hC.2.1 dl_1308 hl (k := 0) rfl (by rw [show Int32.ofInt 7 = nI 7 from rfl, nI_add]) (by decide) rfl (fun ls hl => ?_)
  refine lv_goto (tgt := 18) hC.1 hC.2.1 dl_1311 (by decide) ?_
  exact k Hc locs ls hS hl
theorem law_one {Z : State → Prop} {i : Nat} {sI : SN} (hC : lwC p s m #[Value.ref b] c cid D ad) (hX : va_X b L xs s s.heap) (hbl : b < s.heap.size) (hL : L ≤ 3584) (hi : i + 6 < L) (kk : ∀ H2 s2, INV H2 s2 → LWp p l e s m b below meth c cid D ad Z i 1308 H2) (hI : INV H sI) : LWp p l e s m b below meth c cid D ad Z i 27 H := by
  intro Hc locs lsC hS hl
  have hx := hC.1
  have hb := hC.2.1
  refine lv_aload_n hx hb dl_27 rfl (lv_at hl 3 rfl) ?_
  refine lv_iload_n hx hb dl_28 rfl (lv_at hl 0 rfl) ?_
  refine va_sld hx hb hX hbl (Nat.not_le.mpr hbl) hS.2.2 (vp_in_nI (by omega) (by omega)) dl_29 ?_
  refine lv_bipush (v := 31) hx hb dl_30 (by decide) ?_
  refine lv_iand hx hb dl_32 ?_
  obtain ⟨k, hk, ek⟩ := and31 (xs (nI i).toNatClampNeg)
  rw [ek]
  rcases (show k = 0 ∨ k = 1 ∨ k = 2 ∨ k = 3 ∨ k = 4 ∨ k = 5 ∨ k = 6 ∨ k = 7 ∨ k = 8 ∨ k = 9 ∨ k = 10 ∨ k = 11 ∨ k = 12 ∨ k = 13 ∨ k = 14 ∨ k = 15 ∨ k = 16 ∨ k = 17 ∨ k = 18 ∨ k = 19 ∨ k = 20 ∨ k = 21 ∨ k = 22 ∨ k = 23 ∨ k = 24 ∨ k = 25 ∨ k = 26 ∨ k = 27 ∨ k = 28 ∨ k = 29 ∨ k = 30 ∨ k = 31 by omega) with rfl | rfl | rfl | rfl | rfl | rfl | rfl | rfl | rfl | rfl | rfl | rfl | rfl | rfl | rfl | rfl | rfl | rfl | rfl | rfl | rfl | rfl | rfl | rfl | rfl | rfl | rfl | rfl | rfl | rfl | rfl | rfl
  · exact lv_tableIn (off := 139) (tgt := 172) hx hb dl_33 (by decide) (by decide) (by decide) (by decide) (law_0 hC hX hbl hL hi kk hI Hc locs lsC hS hl)
  · exact lv_tableIn (off := 162) (tgt := 195) hx hb dl_33 (by decide) (by decide) (by decide) (by decide) (law_1 hC hX hbl hL hi kk hI Hc locs lsC hS hl)
  · exact lv_tableIn (off := 195) (tgt := 228) hx hb dl_33 (by decide) (by decide) (by decide) (by decide) (law_2 hC hX hbl hL hi kk hI Hc locs lsC hS hl)
  · exact lv_tableIn (off := 270) (tgt := 303) hx hb dl_33 (by decide) (by decide) (by decide) (by decide) (law_3 hC hX hbl hL hi kk hI Hc locs lsC hS hl)
  · exact lv_tableIn (off := 283) (tgt := 316) hx hb dl_33 (by decide) (by decide) (by decide) (by decide) (law_4 hC hX hbl hL hi kk hI Hc locs lsC hS hl)
  · exact lv_tableIn (off := 306) (tgt := 339) hx hb dl_33 (by decide) (by decide) (by decide) (by decide) (law_5 hC hX hbl hL hi kk hI Hc locs lsC hS hl)
  · exact lv_tableIn (off := 359) (tgt := 392) hx hb dl_33 (by decide) (by decide) (by decide) (by decide) (law_6 hC hX hbl hL hi kk hI Hc locs lsC hS hl)
  · exact lv_tableIn (off := 392) (tgt := 425) hx hb dl_33 (by decide) (by decide) (by decide) (by decide) (law_7 hC hX hbl hL hi kk hI Hc locs lsC hS hl)
  · exact lv_tableIn (off := 425) (tgt := 458) hx hb dl_33 (by decide) (by decide) (by decide) (by decide) (law_8 hC hX hbl hL hi kk hI Hc locs lsC hS hl)
  · exact lv_tableIn (off := 458) (tgt := 491) hx hb dl_33 (by decide) (by decide) (by decide) (by decide) (law_9 hC hX hbl hL hi kk hI Hc locs lsC hS hl)
  · exact lv_tableIn (off := 501) (tgt := 534) hx hb dl_33 (by decide) (by decide) (by decide) (by decide) (law_10 hC hX hbl hL hi kk hI Hc locs lsC hS hl)
  · exact lv_tableIn (off := 534) (tgt := 567) hx hb dl_33 (by decide) (by decide) (by decide) (by decide) (law_11 hC hX hbl hL hi kk hI Hc locs lsC hS hl)
  · exact lv_tableIn (off := 567) (tgt := 600) hx hb dl_33 (by decide) (by decide) (by decide) (by decide) (law_12 hC hX hbl hL hi kk hI Hc locs lsC hS hl)
  · exact lv_tableIn (off := 600) (tgt := 633) hx hb dl_33 (by decide) (by decide) (by decide) (by decide) (law_13 hC hX hbl hL hi kk hI Hc locs lsC hS hl)
  · exact lv_tableIn (off := 633) (tgt := 666) hx hb dl_33 (by decide) (by decide) (by decide) (by decide) (law_14 hC hX hbl hL hi kk hI Hc locs lsC hS hl)
  · exact lv_tableIn (off := 666) (tgt := 699) hx hb dl_33 (by decide) (by decide) (by decide) (by decide) (law_15 hC hX hbl hL hi kk hI Hc locs lsC hS hl)
  · exact lv_tableIn (off := 689) (tgt := 722) hx hb dl_33 (by decide) (by decide) (by decide) (by decide) (law_16 hC hX hbl hL hi kk hI Hc locs lsC hS hl)
  · exact lv_tableIn (off := 712) (tgt := 745) hx hb dl_33 (by decide) (by decide) (by decide) (by decide) (law_17 hC hX hbl hL hi kk hI Hc locs lsC hS hl)
  · exact lv_tableIn (off := 745) (tgt := 778) hx hb dl_33 (by decide) (by decide) (by decide) (by decide) (law_18 hC hX hbl hL hi kk hI Hc locs lsC hS hl)
  · exact lv_tableIn (off := 788) (tgt := 821) hx hb dl_33 (by decide) (by decide) (by decide) (by decide) (law_19 hC hX hbl hL hi kk hI Hc locs lsC hS hl)
  · exact lv_tableIn (off := 831) (tgt := 864) hx hb dl_33 (by decide) (by decide) (by decide) (by decide) (law_20 hC hX hbl hL hi kk hI Hc locs lsC hS hl)
  · exact lv_tableIn (off := 874) (tgt := 907) hx hb dl_33 (by decide) (by decide) (by decide) (by decide) (law_21 hC hX hbl hL hi kk hI Hc locs lsC hS hl)
  · exact lv_tableIn (off := 907) (tgt := 940) hx hb dl_33 (by decide) (by decide) (by decide) (by decide) (law_22 hC hX hbl hL hi kk hI Hc locs lsC hS hl)
  · exact lv_tableIn (off := 960) (tgt := 993) hx hb dl_33 (by decide) (by decide) (by decide) (by decide) (law_23 hC hX hbl hL hi kk hI Hc locs lsC hS hl)
  · exact lv_tableIn (off := 1014) (tgt := 1047) hx hb dl_33 (by decide) (by decide) (by decide) (by decide) (law_24 hC hX hbl hL hi kk hI Hc locs lsC hS hl)
  · exact lv_tableIn (off := 1027) (tgt := 1060) hx hb dl_33 (by decide) (by decide) (by decide) (by decide) (law_25 hC hX hbl hL hi kk hI Hc locs lsC hS hl)
  · exact lv_tableIn (off := 1040) (tgt := 1073) hx hb dl_33 (by decide) (by decide) (by decide) (by decide) (law_26 hC hX hbl hL hi kk hI Hc locs lsC hS hl)
  · exact lv_tableIn (off := 1083) (tgt := 1116) hx hb dl_33 (by decide) (by decide) (by decide) (by decide) (law_27 hC hX hbl hL hi kk hI Hc locs lsC hS hl)
  · exact lv_tableIn (off := 1126) (tgt := 1159) hx hb dl_33 (by decide) (by decide) (by decide) (by decide) (law_28 hC hX hbl hL hi kk hI Hc locs lsC hS hl)
  · exact lv_tableIn (off := 1189) (tgt := 1222) hx hb dl_33 (by decide) (by decide) (by decide) (by decide) (law_29 hC hX hbl hL hi kk hI Hc locs lsC hS hl)
  · exact lv_tableIn (off := 1242) (tgt := 1275) hx hb dl_33 (by decide) (by decide) (by decide) (by decide) (law_30 hC hX hbl hL hi kk hI Hc locs lsC hS hl)
  · exact lv_tableOut (tgt := 1308) hx hb dl_33 (Or.inr (by decide)) (by decide) (kk H sI hI Hc locs lsC hS hl)
theorem law_loop (hC : lwC p s m #[Value.ref b] c cid D ad) (hX : va_X b L xs s s.heap) (hbl : b < s.heap.size) (hL : L ≤ 3584) (hr : meth.sig.returnType = ret) (hlocks : meth.locks = false) : ∀ (n i : Nat) (H : HH) (sI : SN), L ≤ i + n → i ≤ L + 7 → INV H sI → LWp p l e s m b below meth c cid D ad (lw_Z below #[Value.ref b] s) i 18 H := by
  intro n
  induction n with
  | zero =>
    intro i H sI h1 h2 _
    exact law_head hC hX hbl hL h2 (fun _ => law_end hC hr hlocks) (fun z => absurd z (by omega))
  | succ n ih =>
    intro i H sI h1 h2 hI
    refine law_head hC hX hbl hL h2 (fun _ => law_end hC hr hlocks) (fun z => ?_)
    exact law_one hC hX hbl hL (by omega) (fun H2 s2 hI2 => law_next hC (ih (i + 7) H2 s2 (by omega) (by omega) hI2)) hI
end LLO
