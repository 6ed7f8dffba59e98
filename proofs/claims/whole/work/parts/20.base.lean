/-! SPECS 1: helpers; Arrays.fill; texts; the small methods. s_m: what m answers, in pure terms. -/
theorem ti_lt (x y : Int32) : x < y ↔ x.toInt < y.toInt := Int32.lt_iff_toInt_lt
theorem ti_le (x y : Int32) : x ≤ y ↔ x.toInt ≤ y.toInt := Int32.le_iff_toInt_le
theorem ti_eq (x y : Int32) : x = y ↔ x.toInt = y.toInt := Int32.toInt_inj.symm
theorem ti_lo (x : Int32) : -2147483648 ≤ x.toInt := by have := Int32.le_toInt x; simpa using this
theorem ti_hi (x : Int32) : x.toInt < 2147483648 := by have := Int32.toInt_lt x; simpa using this
theorem ti_bm {n : Int} (h1 : -2147483648 ≤ n) (h2 : n < 2147483648) : n.bmod (2 ^ 32) = n := by
  rw [Int.bmod_def]
  have e : ((2 ^ 32 : Nat) : Int) = 4294967296 := by decide
  rw [e]
  split <;> omega
theorem ti_add {x y : Int32} (h1 : -2147483648 ≤ x.toInt + y.toInt) (h2 : x.toInt + y.toInt < 2147483648) : (x + y).toInt = x.toInt + y.toInt := by
  rw [Int32.toInt_add]; exact ti_bm h1 h2
theorem ti_sub {x y : Int32} (h1 : -2147483648 ≤ x.toInt - y.toInt) (h2 : x.toInt - y.toInt < 2147483648) : (x - y).toInt = x.toInt - y.toInt := by
  rw [Int32.toInt_sub]; exact ti_bm h1 h2
theorem ti_mul {x y : Int32} (h1 : -2147483648 ≤ x.toInt * y.toInt) (h2 : x.toInt * y.toInt < 2147483648) : (x * y).toInt = x.toInt * y.toInt := by
  rw [Int32.toInt_mul]; exact ti_bm h1 h2
theorem ti_neg {x : Int32} (h1 : -2147483648 < x.toInt) : (-x).toInt = -x.toInt := by
  rw [Int32.toInt_neg]; have := ti_hi x; exact ti_bm (by omega) (by omega)
theorem ti_nI {n : Nat} (h : n < 2147483648) : (nI n).toInt = n := nI_toInt h
theorem ti_cl {x : Int32} (h : 0 ≤ x.toInt) : (x.toNatClampNeg : Int) = x.toInt := by
  show ((x.toInt.toNat : Nat) : Int) = x.toInt
  omega
theorem ti_in {x : Int32} {n : Nat} (h1 : 0 ≤ x.toInt) (h2 : x.toInt < n) : vp_in x n := vp_in_iff.mpr ⟨h1, h2⟩
theorem hu_at (H : HH) (kd ix k : Nat) (x : Int32) : hu H kd ix k x kd ix k = x := by simp [hu]
theorem hu_kd (H : HH) {kd a : Nat} (ix k : Nat) (x : Int32) (h : a ≠ kd) : hu H kd ix k x a = H a := by
  funext b c; simp [hu, h]
theorem hu_ix (H : HH) {kd ix b : Nat} (k : Nat) (x : Int32) (h : b ≠ ix) : hu H kd ix k x kd b = H kd b := by
  funext c; simp [hu, h]
theorem hu_k (H : HH) {kd ix k c : Nat} (x : Int32) (h : c ≠ k) : hu H kd ix k x kd ix c = H kd ix c := by simp [hu, h]
theorem hrow_at (H : HH) (kd ix : Nat) (f : Nat → Int32) : hrow H kd ix f kd ix = f := by simp [hrow]
theorem hrow_kd (H : HH) {kd a : Nat} (ix : Nat) (f : Nat → Int32) (h : a ≠ kd) : hrow H kd ix f a = H a := by
  funext b; simp [hrow, h]
theorem hrow_ix (H : HH) {kd ix b : Nat} (f : Nat → Int32) (h : b ≠ ix) : hrow H kd ix f kd b = H kd b := by
  simp [hrow, h]
theorem hrow_self (H : HH) (kd ix : Nat) : hrow H kd ix (H kd ix) = H := by
  funext a b
  by_cases h : a = kd ∧ b = ix
  · obtain ⟨rfl, rfl⟩ := h; simp [hrow]
  · simp only [hrow, if_neg h]
theorem hu_hrow (H : HH) (kd ix k : Nat) (x : Int32) (f : Nat → Int32) : hu (hrow H kd ix f) kd ix k x = hrow H kd ix (upd f k x) := by
  funext a b c
  by_cases h : a = kd ∧ b = ix
  · obtain ⟨rfl, rfl⟩ := h
    by_cases hc : c = k <;> simp [hu, hrow, upd, hc]
  · have h2 : ¬ (a = kd ∧ b = ix ∧ c = k) := fun q => h ⟨q.1, q.2.1⟩
    simp [hu, hrow, h, h2]
/-- only these kinds have changed -/
def hfr (K : List Nat) (H H1 : HH) : Prop := ∀ a, a ∉ K → H1 a = H a
theorem hfr.rf {K : List Nat} {H : HH} : hfr K H H := fun _ _ => rfl
theorem hfr.tr {K : List Nat} {H H1 H2 : HH} (h1 : hfr K H H1) (h2 : hfr K H1 H2) : hfr K H H2 := fun a h => (h2 a h).trans (h1 a h)
theorem hfr.wk {K K2 : List Nat} {H H1 : HH} (h : hfr K H H1) (hs : ∀ a ∈ K, a ∈ K2) : hfr K2 H H1 := fun a ha => h a (fun q => ha (hs a q))
theorem hfr.hu {K : List Nat} {H H1 : HH} {kd ix k : Nat} {x : Int32} (h : hfr K H H1) (hk : kd ∈ K) : hfr K H (hu H1 kd ix k x) := fun a ha => (hu_kd H1 ix k x (fun (e : a = kd) => ha (by rw [e]; exact hk))).trans (h a ha)
theorem hfr.hrow {K : List Nat} {H H1 : HH} {kd ix : Nat} {f : Nat → Int32} (h : hfr K H H1) (hk : kd ∈ K) : hfr K H (hrow H1 kd ix f) := fun a ha => (hrow_kd H1 ix f (fun (e : a = kd) => ha (by rw [e]; exact hk))).trans (h a ha)
/-- Arrays.fill -/
theorem s_fill {E : XE} {d kd N a ix : Nat} {v : Int32} {H : HH} {Q : HH → Prop} (h60 : kd < 60) (hsh : xsh kd = (1, a, N)) (hN : N < 2147483647) (h : Q (hrow H kd ix (fun j => if j < N then v else H kd ix j))) : c_fill E d kd N ix v H Q := by
  show g_fill E d 0 (xent [vr kd ix, vi v]) [] H (qv Q)
  have key : ∀ k z, N - z < k → z ≤ N → g_fill E d 5 [some (vr kd ix), some (vi v), some (vi (nI z)), some (vi (nI N))] [] (hrow H kd ix (fun j => if j < z then v else H kd ix j)) (qv Q) := by
    intro k
    induction k with
    | zero => intro z h; omega
    | succ k ih =>
      intro z hz hzN
      refine g_iload_n (q := 2) (i := 2) (by decide +kernel) rfl rfl ?_
      refine g_iload_n (q := 3) (i := 3) (by decide +kernel) rfl rfl ?_
      refine g_icmp_ge (off := 13) (tgt := 20) (by decide +kernel) (by decide) (fun c => ?_) (fun c => ?_)
      · have e : z = N := by
          rcases Nat.lt_or_ge z N with q | q
          · exact absurd c (nI_ge q (by omega))
          · omega
        subst e
        exact g_vret (by decide +kernel) rfl h
      · have hlt : z < N := by
          rcases Nat.lt_or_ge z N with q | q
          · exact q
          · exact absurd (nI_le q (by omega)) c
        refine g_aload_n (q := 0) (i := 0) (by decide +kernel) rfl rfl ?_
        refine g_iload_n (q := 2) (i := 2) (by decide +kernel) rfl rfl ?_
        refine g_iload_n (q := 1) (i := 1) (by decide +kernel) rfl rfl ?_
        refine g_iast (by decide +kernel) h60 hsh (vp_in_nI hlt (by omega)) ?_
        refine g_iinc (i := 2) (n := 1) (v := nI (z + 1)) (ls2 := [some (vr kd ix), some (vi v), some (vi (nI (z + 1))), some (vi (nI N))]) (by decide +kernel) rfl (by rw [← nI_1]; rfl) (by decide) rfl rfl ?_
        refine g_goto (off := (-12)) (tgt := 5) (by decide +kernel) (by decide) ?_
        refine g_heapE (H1 := hrow H kd ix (fun j => if j < z + 1 then v else H kd ix j)) ?_ (ih (z + 1) (by omega) (by omega))
        rw [hu_hrow, nI_clamp (by omega)]
        congr 1
        funext j
        simp only [upd]
        by_cases hj : j = z
        · simp [hj]
        · by_cases hj2 : j < z
          · rw [if_neg hj, if_pos hj2, if_pos (by omega)]
          · rw [if_neg hj, if_neg hj2, if_neg (by omega)]
  refine g_drop (ls2 := [some (vr kd ix), some (vi v), none, none]) (And.intro rfl (And.intro rfl trivial)) ?_
  refine g_iconst (n := 0) (v := 0) (by decide +kernel) (by decide) ?_
  refine g_istore_n (q := 2) (i := 2) (ls2 := [some (vr kd ix), some (vi v), some (vi 0), none]) (by decide +kernel) rfl (by decide) rfl rfl ?_
  refine g_aload_n (q := 0) (i := 0) (by decide +kernel) rfl rfl ?_
  refine g_alen (v := nI N) (by decide +kernel) h60 hsh rfl ?_
  refine g_istore_n (q := 3) (i := 3) (ls2 := [some (vr kd ix), some (vi v), some (vi 0), some (vi (nI N))]) (by decide +kernel) rfl (by decide) rfl rfl ?_
  refine g_heapE (H1 := hrow H kd ix (fun j => if j < 0 then v else H kd ix j)) ?_ (key (N + 1) 0 (by omega) (Nat.zero_le _))
  have e : (fun j => if j < 0 then v else H kd ix j) = H kd ix := by funext j; simp
  rw [e, hrow_self]
-- texts
theorem s_String_coder {E : XE} {d t : Nat} {H : HH} {Q : Int32 → HH → Prop} (h : Q 0 H) : c_String_coder E d t H Q := l_String_coder ⟨rfl, h⟩
theorem s_String_length {E : XE} {d t : Nat} {H : HH} {Q : Int32 → HH → Prop} (ht : t < 14) (h : Q (nI (xTX.getD t []).length) H) : c_String_length E (d + 1) t H Q := by
  refine l_String_length (s_String_coder ?_)
  have e : ∀ t, t < 14 → nI (xTX.getD t []).length >>> ((0 : Int32) &&& 31) = nI (xTX.getD t []).length := by decide +kernel
  show Q (nI (xTX.getD t []).length >>> ((0 : Int32) &&& 31)) H
  rw [e t ht]
  exact h
theorem s_String_isLatin1 {E : XE} {d t : Nat} {H : HH} {Q : Int32 → HH → Prop} (h : Q 1 H) : c_String_isLatin1 E d t H Q := l_String_isLatin1 h
theorem s_Precond_checkIndex {E : XE} {d : Nat} {x n : Int32} {H : HH} {Q : Int32 → HH → Prop} (h0 : ¬ x < 0) (h1 : x < n) (h : Q x H) : c_Precond_checkIndex E d x n H Q := l_Precond_checkIndex ⟨fun q => h0 q, fun _ => ⟨fun _ => h, fun q => q h1⟩⟩
theorem s_String_checkIndex {E : XE} {d : Nat} {x n : Int32} {H : HH} {Q : HH → Prop} (h0 : ¬ x < 0) (h1 : x < n) (h : Q H) : c_String_checkIndex E (d + 1) x n H Q := l_String_checkIndex (s_Precond_checkIndex h0 h1 h)
/-- the sign at place k of text t -/
def xchr (t k : Nat) : Int32 := (xTX.getD t []).getD k 0
theorem xchr_all : ∀ t, t < 14 → ∀ k, k < (xTX.getD t []).length → ((xchr t k &&& 255).toUInt32 % 65536).toInt32 = xchr t k ∧ narrow .char (.int (xchr t k)) = .int (xchr t k) := by decide +kernel
theorem xlen_all : ∀ t, t < 14 → (xTX.getD t []).length < 40 := by decide +kernel
theorem s_Latin1_charAt {E : XE} {d t k : Nat} {H : HH} {Q : Int32 → HH → Prop} (ht : t < 14) (hk : k < (xTX.getD t []).length) (h : Q (xchr t k) H) : c_Latin1_charAt E (d + 2) t (nI k) H Q := by
  have hl := xlen_all t ht
  refine l_Latin1_charAt (s_String_checkIndex (nI_pos (by omega)) (nI_lt hk (by omega)) ?_)
  obtain ⟨e1, e2⟩ := xchr_all t ht k hk
  have e3 : ((((xTX.getD t []).getD (nI k).toNatClampNeg 0) &&& 255).toUInt32 % 65536).toInt32 = xchr t k := by
    rw [nI_clamp (by omega)]; exact e1
  refine ⟨vp_in_nI hk (by omega), ?_, ?_⟩
  · rw [e3]; exact e2
  · rw [e3]; exact h
theorem s_String_charAt {E : XE} {d t k : Nat} {H : HH} {Q : Int32 → HH → Prop} (ht : t < 14) (hk : k < (xTX.getD t []).length) (h : Q (xchr t k) H) : c_String_charAt E (d + 3) t (nI k) H Q :=
  l_String_charAt (s_String_isLatin1 ⟨fun q => absurd q (by decide), fun _ => s_Latin1_charAt ht hk ⟨(xchr_all t ht k hk).2, h⟩⟩)
