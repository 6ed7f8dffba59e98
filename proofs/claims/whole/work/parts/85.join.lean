/-! THE READER 2: what joins operands. -/
/-- in the loop of level L: what has been read so far -/
def lpI (B : HH) (n L t : Nat) (mn : Bool) (hs : List Nat) (out : List Int32) (m : Nat) (G : HH) : Prop := ∃ t2 mn2 hs1 o1 ys, rdS B n t2 (cnt hs) (out ++ ys) G ∧ gdS ys ∧ t < t2 ∧ t2 ≤ n ∧ ys.length + t ≤ t2 ∧ mR (kT (B 7 0) n) (vT (B 7 0) n) (t, true, mn, hs, out) (t2, false, mn2, hs1, o1) ∧ unw L hs1 o1 = (hs, out ++ ys) ∧ blk (kT (B 7 0) n) (L + 1) t2 hs1 o1 ∧ 160 + t < m + t2
theorem nI_m1 (m : Nat) : nI (m + 1) + (-1) = nI m := by
  have h := nI_pred m
  rw [Int32.sub_eq_add_neg] at h
  exact h
/-- one more operand, behind a sign that joins two -/
theorem lp_step {E : XE} {d n L t m s : Nat} {mn mb : Bool} {hs : List Nat} {out : List Int32} {k0 code : Int32} {B G : HH} {cX : HH → (Int32 → HH → Prop) → Prop} {Q : Int32 → HH → Prop} {R : HH → Prop} (hB : tkOK B n) (h160 : n ≤ 160) (hol : out.length ≤ t) (hp : tpr hs < L) (hL4 : 4 ≤ L + 1 → mb = false) (hX : rdP cX B n (L + 1) (s :: hs) mb) (hk : k0 ≠ 59 ∧ k0 ≠ 41 ∧ k0 ≠ 264) (hsg : sgS k0 = s) (hs0 : s ≠ 0 ∧ s ≠ 13 ∧ s ≠ 19) (hr : rkS s = L) (hr4 : L ≠ 4) (hmb : decide (s ≤ 12) = mb) (hcd : nI (19989 + s) = code) (hop : code = 20000 ∨ code = 20001 ∨ code = 20003 ∨ code = 20004 ∨ code = 20005 ∨ code = 20006 ∨ code = 20007) (hI : lpI B n L t mn hs out (m + 1) G) (hkt : G 5 0 3 = k0) (hN : rdN B n (t, true, mn, hs, out) Q) (hR : ∀ H9, lpI B n L t mn hs out m H9 → R H9) : c_Reader_goTo E (d + 1) (G 5 0 2 + 1) G (fun H6 => cX H6 (fun r H7 => (¬ r = 0 → c_Text_put E (d + 1) 6 code H7 (fun H9 => R H9)) ∧ (r = 0 → Q 0 H7))) := by
  obtain ⟨t2, mn2, hs1, o1, ys, g, gy, ty, tn, ly, my, uy, by4, bm⟩ := hI
  have kt : kT (B 7 0) n t2 = k0 := by rw [← g.2.2.1]; exact hkt
  have hin := kT_in (T := B 7 0) (n := n) (t := t2) (by rw [kt]; exact hk.2.2)
  have st : mst (kT (B 7 0) n) (vT (B 7 0) n) (t2, false, mn2, hs1, o1) = some (t2 + 1, true, mb, s :: hs, out ++ ys) := by
    rw [mst_two (by rw [kt]; exact ⟨hk.1, hk.2.1⟩) (by rw [kt]; exact hsg) hs0.1 hr hr4 uy, hmb]
  have cs : cnt (s :: hs) = cnt hs := by
    show cnt hs + (if s = 0 ∨ s = 13 ∨ s = 19 then 1 else 0) = cnt hs
    rw [if_neg (by omega)]; rfl
  refine s_Reader_goTo hB g (by omega) (fun G2 g2 => ?_)
  refine hX G2 (t2 + 1) (out ++ ys) _ (fun q => Or.inl (hL4 q)) (by rw [cs]; exact g2) (by rw [List.length_append]; omega) (by omega) ?_ ?_
  · intro G3 t3 mn3 hs3 o3 zs g3 gz tz tn3 lz mz uz bz
    refine ⟨fun _ => ?_, fun z => absurd z (by decide)⟩
    rw [cs] at g3
    refine s_Text_put g3 (by rw [List.length_append, List.length_append]; omega) (fun G4 g4 => hR G4 ?_)
    refine ⟨t3, mn3, hs3, o3, ys ++ zs ++ [code], ?_, gd_bin hop gy gz, by omega, tn3, ?_, (my.step st).trans mz, ?_, bz, by omega⟩
    · have e : out ++ (ys ++ zs ++ [code]) = out ++ ys ++ zs ++ [code] := by simp only [List.append_assoc]
      rw [e]; exact g4
    · rw [List.length_append, List.length_append]; show ys.length + zs.length + 1 + t ≤ t3; omega
    · have e := unw_to (l := L) (by omega) uz
      rw [e, unw_pop (by rw [hr]; exact Nat.le_refl _), unw_lt hp, hcd]
      simp only [List.append_assoc]
  · intro G3 o3 out3 cf h1 h2 h3 h4 h5
    exact ⟨fun z => absurd rfl z, fun _ => hN G3 o3 out3 cf h1 ((my.step st).trans h2) h3 h4 h5⟩
/-- the loop begins -/
theorem lp_begin {B : HH} {n L t : Nat} {mn : Bool} {hs : List Nat} {out : List Int32} (hp : tpr hs < L) {G : HH} {t2 : Nat} {mn2 : Bool} {hs1 : List Nat} {o1 ys : List Int32} (g : rdS B n t2 (cnt hs) (out ++ ys) G) (gy : gdS ys) (ty : t < t2) (tn : t2 ≤ n) (ly : ys.length + t ≤ t2) (my : mR (kT (B 7 0) n) (vT (B 7 0) n) (t, true, mn, hs, out) (t2, false, mn2, hs1, o1)) (uy : unw (L + 1) hs1 o1 = unw (L + 1) hs (out ++ ys)) (by4 : blk (kT (B 7 0) n) (L + 1) t2 hs1 o1) : lpI B n L t mn hs out 160 G := by
  refine ⟨t2, mn2, hs1, o1, ys, g, gy, ty, tn, ly, my, ?_, by4, by omega⟩
  rw [unw_to (l := L) (by omega) uy, unw_lt hp]
/-- the loop ends -/
theorem lp_end {B : HH} {n L t m : Nat} {mn : Bool} {hs : List Nat} {out : List Int32} {Q : Int32 → HH → Prop} (hp : tpr hs < L) {G : HH} (hI : lpI B n L t mn hs out m G) (hb : ∀ t2 hs1 o1, G 5 0 3 = kT (B 7 0) n t2 → blk (kT (B 7 0) n) (L + 1) t2 hs1 o1 → blk (kT (B 7 0) n) L t2 hs1 o1) (hY : rdY B n L t mn hs out Q) : Q 1 G := by
  obtain ⟨t2, mn2, hs1, o1, ys, g, gy, ty, tn, ly, my, uy, by4, bm⟩ := hI
  exact hY G t2 mn2 hs1 o1 ys g gy ty tn ly my (by rw [uy, unw_lt hp]) (hb t2 hs1 o1 g.2.2.1 by4)
theorem lp_0 {B : HH} {n L t : Nat} {mn : Bool} {hs : List Nat} {out : List Int32} {G : HH} (h160 : n ≤ 160) : ¬ lpI B n L t mn hs out 0 G := by
  rintro ⟨t2, mn2, hs1, o1, ys, g, gy, ty, tn, ly, my, uy, by4, bm⟩
  omega
theorem nI_le0 {m : Nat} (hm : m < 2147483648) : nI m ≤ 0 ↔ m = 0 := by
  rw [show (0 : Int32) = nI 0 from rfl, nI_leI hm (by omega)]; omega
theorem rd_term {E : XE} {d n : Nat} {B : HH} {hs : List Nat} {mn : Bool} (hB : tkOK B n) (h160 : n ≤ 160) (hp : tpr hs < 6) (h1 : rdP (fun H Q => c_Reader_readOne E (d + 1) H Q) B n 7 hs mn) (h2 : rdP (fun H Q => c_Reader_readOne E (d + 1) H Q) B n 7 (18 :: hs) false) : rdP (fun H Q => c_Reader_readTerm E (d + 2) H Q) B n 6 hs mn := by
  intro H t out Q hmn hS hol htn hY hN
  refine l_Reader_readTerm ?_
  refine h1 H t out _ (fun _ => hmn (by decide)) hS hol htn ?_ ?_
  · intro G t2 mn2 hs1 o1 ys g gy ty tn ly my uy by4
    refine ⟨fun _ => ⟨fun z G => ∃ m, m ≤ 160 ∧ z = nI m ∧ lpI B n 6 t mn hs out m G, fun z _ => z.toNatClampNeg, ⟨160, Nat.le_refl _, rfl, lp_begin hp g gy ty tn ly my uy by4⟩, ?_⟩, fun z => absurd z (by decide)⟩
    rintro z G5 ⟨m, hm, rfl, hI⟩
    refine ⟨fun q => ?_, fun q => ⟨fun k => ?_, fun k => ?_⟩⟩
    · rw [nI_le0 (by omega)] at q; subst q; exact absurd hI (lp_0 h160)
    · exact lp_end hp hI (fun t3 hs3 o3 e b => ⟨fun _ => by rw [← e]; exact k, fun z => absurd z (by decide), fun z => absurd z (by decide), fun z => absurd z (by decide), fun z => absurd z (by decide)⟩) hY
    · rw [nI_le0 (by omega)] at q
      obtain ⟨m1, rfl⟩ : ∃ m1, m = m1 + 1 := ⟨m - 1, by omega⟩
      refine lp_step (s := 18) hB h160 hol hp (fun _ => rfl) h2 (by decide) (by decide) (by decide) (by decide) (by decide) (by decide) (by decide) (by decide) hI k hN (fun H9 h9 => ⟨⟨m1, by omega, nI_m1 m1, h9⟩, ?_⟩)
      show (nI (m1 + 1) + -1).toNatClampNeg < (nI (m1 + 1)).toNatClampNeg
      rw [nI_m1, nI_clamp (by omega), nI_clamp (by omega)]; omega
  · intro G o2 out2 cf h1 h2 h3 h4 h5
    exact ⟨fun z => absurd rfl z, fun _ => hN G o2 out2 cf h1 h2 h3 h4 h5⟩
theorem rd_sum {E : XE} {d n : Nat} {B : HH} {hs : List Nat} {mn : Bool} (hB : tkOK B n) (h160 : n ≤ 160) (hp : tpr hs < 5) (h1 : rdP (fun H Q => c_Reader_readTerm E (d + 1) H Q) B n 6 hs mn) (h2 : rdP (fun H Q => c_Reader_readTerm E (d + 1) H Q) B n 6 (16 :: hs) false) (h3 : rdP (fun H Q => c_Reader_readTerm E (d + 1) H Q) B n 6 (17 :: hs) false) : rdP (fun H Q => c_Reader_readSum E (d + 2) H Q) B n 5 hs mn := by
  intro H t out Q hmn hS hol htn hY hN
  refine l_Reader_readSum ?_
  refine h1 H t out _ (fun _ => hmn (by decide)) hS hol htn ?_ ?_
  · intro G t2 mn2 hs1 o1 ys g gy ty tn ly my uy by4
    refine ⟨fun _ => ⟨fun z G => ∃ m, m ≤ 160 ∧ z = nI m ∧ lpI B n 5 t mn hs out m G, fun z _ => z.toNatClampNeg, ⟨160, Nat.le_refl _, rfl, lp_begin hp g gy ty tn ly my uy by4⟩, ?_⟩, fun z => absurd z (by decide)⟩
    rintro z G5 ⟨m, hm, rfl, hI⟩
    refine ⟨fun q => ?_, fun q => ?_⟩
    · rw [nI_le0 (by omega)] at q; subst q; exact absurd hI (lp_0 h160)
    rw [nI_le0 (by omega)] at q
    obtain ⟨m1, rfl⟩ : ∃ m1, m = m1 + 1 := ⟨m - 1, by omega⟩
    have mu : (nI (m1 + 1) + -1).toNatClampNeg < (nI (m1 + 1)).toNatClampNeg := by rw [nI_m1, nI_clamp (by omega), nI_clamp (by omega)]; omega
    refine ⟨fun k v7 e7 => ?_, fun k => ⟨fun k2 => ?_, fun k2 v13 e13 => ?_⟩⟩
    · rw [if_pos k] at e7
      subst e7
      exact lp_step (s := 16) hB h160 hol hp (fun _ => rfl) h2 (by decide) (by decide) (by decide) (by decide) (by decide) (by decide) (by decide) (by decide) hI k hN (fun H9 h9 => ⟨⟨m1, by omega, nI_m1 m1, h9⟩, mu⟩)
    · exact lp_end hp hI (fun t3 hs3 o3 e b => ⟨fun _ => b.1 (by decide), fun _ => by rw [← e]; exact ⟨k, k2⟩, fun z => absurd z (by decide), fun z => absurd z (by decide), fun z => absurd z (by decide)⟩) hY
    · rw [if_neg k] at e13
      subst e13
      exact lp_step (s := 17) hB h160 hol hp (fun _ => rfl) h3 (by decide) (by decide) (by decide) (by decide) (by decide) (by decide) (by decide) (by decide) hI k2 hN (fun H9 h9 => ⟨⟨m1, by omega, nI_m1 m1, h9⟩, mu⟩)
  · intro G o2 out2 cf h1 h2 h3 h4 h5
    exact ⟨fun z => absurd rfl z, fun _ => hN G o2 out2 cf h1 h2 h3 h4 h5⟩
theorem rd_and {E : XE} {d n : Nat} {B : HH} {hs : List Nat} (hB : tkOK B n) (h160 : n ≤ 160) (hp : tpr hs < 2) (h1 : rdP (fun H Q => c_Reader_readNot E (d + 1) H Q) B n 3 hs true) (h2 : rdP (fun H Q => c_Reader_readNot E (d + 1) H Q) B n 3 (12 :: hs) true) : rdP (fun H Q => c_Reader_readAnd E (d + 2) H Q) B n 2 hs true := by
  intro H t out Q hmn hS hol htn hY hN
  refine l_Reader_readAnd ?_
  refine h1 H t out _ (fun z => absurd z (by decide)) hS hol htn ?_ ?_
  · intro G t2 mn2 hs1 o1 ys g gy ty tn ly my uy by4
    refine ⟨fun _ => ⟨fun z G => ∃ m, m ≤ 160 ∧ z = nI m ∧ lpI B n 2 t true hs out m G, fun z _ => z.toNatClampNeg, ⟨160, Nat.le_refl _, rfl, lp_begin hp g gy ty tn ly my uy by4⟩, ?_⟩, fun z => absurd z (by decide)⟩
    rintro z G5 ⟨m, hm, rfl, hI⟩
    refine ⟨fun q => ?_, fun q => ⟨fun k => ?_, fun k => ?_⟩⟩
    · rw [nI_le0 (by omega)] at q; subst q; exact absurd hI (lp_0 h160)
    · exact lp_end hp hI (fun t3 hs3 o3 e b => ⟨fun _ => b.1 (by decide), fun _ => b.2.1 (by decide), fun _ => b.2.2.1 (by decide), fun _ => by rw [← e]; exact k, fun z => absurd z (by decide)⟩) hY
    · rw [nI_le0 (by omega)] at q
      obtain ⟨m1, rfl⟩ : ∃ m1, m = m1 + 1 := ⟨m - 1, by omega⟩
      refine lp_step (s := 12) hB h160 hol hp (fun z => absurd z (by decide)) h2 (by decide) (by decide) (by decide) (by decide) (by decide) (by decide) (by decide) (by decide) hI k hN (fun H9 h9 => ⟨⟨m1, by omega, nI_m1 m1, h9⟩, ?_⟩)
      show (nI (m1 + 1) + -1).toNatClampNeg < (nI (m1 + 1)).toNatClampNeg
      rw [nI_m1, nI_clamp (by omega), nI_clamp (by omega)]; omega
  · intro G o2 out2 cf h1 h2 h3 h4 h5
    exact ⟨fun z => absurd rfl z, fun _ => hN G o2 out2 cf h1 h2 h3 h4 h5⟩
theorem rd_or {E : XE} {d n : Nat} {B : HH} {hs : List Nat} (hB : tkOK B n) (h160 : n ≤ 160) (hp : tpr hs < 1) (h1 : rdP (fun H Q => c_Reader_readAnd E (d + 1) H Q) B n 2 hs true) (h2 : rdP (fun H Q => c_Reader_readAnd E (d + 1) H Q) B n 2 (11 :: hs) true) : rdP (fun H Q => c_Reader_readOr E (d + 2) H Q) B n 1 hs true := by
  intro H t out Q hmn hS hol htn hY hN
  refine l_Reader_readOr ?_
  refine h1 H t out _ (fun z => absurd z (by decide)) hS hol htn ?_ ?_
  · intro G t2 mn2 hs1 o1 ys g gy ty tn ly my uy by4
    refine ⟨fun _ => ⟨fun z G => ∃ m, m ≤ 160 ∧ z = nI m ∧ lpI B n 1 t true hs out m G, fun z _ => z.toNatClampNeg, ⟨160, Nat.le_refl _, rfl, lp_begin hp g gy ty tn ly my uy by4⟩, ?_⟩, fun z => absurd z (by decide)⟩
    rintro z G5 ⟨m, hm, rfl, hI⟩
    refine ⟨fun q => ?_, fun q => ⟨fun k => ?_, fun k => ?_⟩⟩
    · rw [nI_le0 (by omega)] at q; subst q; exact absurd hI (lp_0 h160)
    · exact lp_end hp hI (fun t3 hs3 o3 e b => ⟨fun _ => b.1 (by decide), fun _ => b.2.1 (by decide), fun _ => b.2.2.1 (by decide), fun _ => b.2.2.2.1 (by decide), fun _ => by rw [← e]; exact k⟩) hY
    · rw [nI_le0 (by omega)] at q
      obtain ⟨m1, rfl⟩ : ∃ m1, m = m1 + 1 := ⟨m - 1, by omega⟩
      refine lp_step (s := 11) hB h160 hol hp (fun z => absurd z (by decide)) h2 (by decide) (by decide) (by decide) (by decide) (by decide) (by decide) (by decide) (by decide) hI k hN (fun H9 h9 => ⟨⟨m1, by omega, nI_m1 m1, h9⟩, ?_⟩)
      show (nI (m1 + 1) + -1).toNatClampNeg < (nI (m1 + 1)).toNatClampNeg
      rw [nI_m1, nI_clamp (by omega), nI_clamp (by omega)]; omega
  · intro G o2 out2 cf h1 h2 h3 h4 h5
    exact ⟨fun z => absurd rfl z, fun _ => hN G o2 out2 cf h1 h2 h3 h4 h5⟩
/-- a comparison: the second sum -/
theorem cmp_step {E : XE} {d n t s : Nat} {mn : Bool} {hs : List Nat} {out : List Int32} {k0 code : Int32} {B G : HH} {Q : Int32 → HH → Prop} (hB : tkOK B n) (h160 : n ≤ 160) (hol : out.length ≤ t) (hp : tpr hs < 4) (hX : rdP (fun H Q => c_Reader_readSum E (d + 1) H Q) B n 5 (s :: hs) false) (hk : k0 ≠ 59 ∧ k0 ≠ 41 ∧ k0 ≠ 264) (hsg : sgS k0 = s) (hs0 : s ≠ 0 ∧ s ≠ 13 ∧ s ≠ 19) (hr : rkS s = 4) (hcd : nI (19989 + s) = code) (hop : code = 20000 ∨ code = 20001 ∨ code = 20003 ∨ code = 20004 ∨ code = 20005 ∨ code = 20006 ∨ code = 20007) {t2 : Nat} {mn2 : Bool} {hs1 : List Nat} {o1 ys : List Int32} (g : rdS B n t2 (cnt hs) (out ++ ys) G) (gy : gdS ys) (ty : t < t2) (tn : t2 ≤ n) (ly : ys.length + t ≤ t2) (my : mR (kT (B 7 0) n) (vT (B 7 0) n) (t, true, mn, hs, out) (t2, false, mn2, hs1, o1)) (uy : unw 5 hs1 o1 = (hs, out ++ ys)) (hkt : G 5 0 3 = k0) (hY : rdY B n 4 t mn hs out Q) (hN : rdN B n (t, true, mn, hs, out) Q) : c_Reader_goTo E (d + 1) (G 5 0 2 + 1) G (fun H5 => c_Reader_readSum E (d + 1) H5 (fun r7 H6 => (¬ r7 = 0 → (c_Text_put E (d + 1) 6 code H6 (fun H8 => Q 1 H8))) ∧ (r7 = 0 → (Q 0 H6)))) := by
  have kt : kT (B 7 0) n t2 = k0 := by rw [← g.2.2.1]; exact hkt
  have hin := kT_in (T := B 7 0) (n := n) (t := t2) (by rw [kt]; exact hk.2.2)
  have st : mst (kT (B 7 0) n) (vT (B 7 0) n) (t2, false, mn2, hs1, o1) = some (t2 + 1, true, false, s :: hs, out ++ ys) :=
    mst_cmp (by rw [kt]; exact ⟨hk.1, hk.2.1⟩) (by rw [kt]; exact hsg) hs0.1 hr uy (by omega)
  have cs : cnt (s :: hs) = cnt hs := by
    show cnt hs + (if s = 0 ∨ s = 13 ∨ s = 19 then 1 else 0) = cnt hs
    rw [if_neg (by omega)]; rfl
  refine s_Reader_goTo hB g (by omega) (fun G2 g2 => ?_)
  refine hX G2 (t2 + 1) (out ++ ys) _ (fun q => Or.inl rfl) (by rw [cs]; exact g2) (by rw [List.length_append]; omega) (by omega) ?_ ?_
  · intro G3 t3 mn3 hs3 o3 zs g3 gz tz tn3 lz mz uz bz
    refine ⟨fun _ => ?_, fun z => absurd z (by decide)⟩
    rw [cs] at g3
    refine s_Text_put g3 (by rw [List.length_append, List.length_append]; omega) (fun G4 g4 => ?_)
    have uz5 : unw 5 hs3 o3 = (s :: hs, out ++ ys ++ zs) := by rw [uz]; exact unw_lt (by show rkS s < 5; omega)
    refine hY G4 t3 mn3 hs3 o3 (ys ++ zs ++ [code]) ?_ (gd_bin hop gy gz) (by omega) tn3 ?_ ((my.step st).trans mz) ?_ ⟨fun _ => bz.1 (by decide), fun _ => bz.2.1 (by decide), fun _ _ => ?_, fun z => absurd z (by decide), fun z => absurd z (by decide)⟩
    · have e : out ++ (ys ++ zs ++ [code]) = out ++ ys ++ zs ++ [code] := by simp only [List.append_assoc]
      rw [e]; exact g4
    · rw [List.length_append, List.length_append]; show ys.length + zs.length + 1 + t ≤ t3; omega
    · have e := unw_to (l := 4) (by omega) uz
      rw [e, unw_pop (by rw [hr]; exact Nat.le_refl _), hcd]
      simp only [List.append_assoc]
    · rw [uz5]; exact hr
  · intro G3 o3 out3 cf h1 h2 h3 h4 h5
    exact ⟨fun z => absurd rfl z, fun _ => hN G3 o3 out3 cf h1 ((my.step st).trans h2) h3 h4 h5⟩
theorem rd_cmp {E : XE} {d n : Nat} {B : HH} {hs : List Nat} {mn : Bool} (hB : tkOK B n) (h160 : n ≤ 160) (hp : tpr hs < 4) (h1 : rdP (fun H Q => c_Reader_readSum E (d + 1) H Q) B n 5 hs mn) (h2 : rdP (fun H Q => c_Reader_readSum E (d + 1) H Q) B n 5 (14 :: hs) false) (h3 : rdP (fun H Q => c_Reader_readSum E (d + 1) H Q) B n 5 (15 :: hs) false) : rdP (fun H Q => c_Reader_readComparison E (d + 2) H Q) B n 4 hs mn := by
  intro H t out Q hmn hS hol htn hY hN
  refine l_Reader_readComparison ?_
  refine h1 H t out _ (fun _ => hmn (by decide)) hS hol htn ?_ ?_
  · intro G t2 mn2 hs1 o1 ys g gy ty tn ly my uy by4
    have u5 : unw 5 hs1 o1 = (hs, out ++ ys) := by rw [uy]; exact unw_lt (by omega)
    refine ⟨fun _ => ⟨fun k v4 e4 => ?_, fun k => ⟨fun k2 v10 e10 => ?_, fun k2 => ?_⟩⟩, fun z => absurd z (by decide)⟩
    · rw [if_pos k] at e4
      subst e4
      exact cmp_step (s := 14) hB h160 hol hp h2 (by decide) (by decide) (by decide) (by decide) (by decide) (by decide) g gy ty tn ly my u5 k hY hN
    · rw [if_neg k] at e10
      subst e10
      exact cmp_step (s := 15) hB h160 hol hp h3 (by decide) (by decide) (by decide) (by decide) (by decide) (by decide) g gy ty tn ly my u5 k2 hY hN
    · rw [g.2.2.1] at k k2
      exact hY G t2 mn2 hs1 o1 ys g gy ty tn ly my (unw_to (by omega) uy) ⟨fun _ => by4.1 (by decide), fun _ => by4.2.1 (by decide), fun _ z => absurd z (fun y => y.elim k k2), fun z => absurd z (by decide), fun z => absurd z (by decide)⟩
  · intro G o2 out2 cf h1 h2 h3 h4 h5
    exact ⟨fun z => absurd rfl z, fun _ => hN G o2 out2 cf h1 h2 h3 h4 h5⟩
theorem rd_not {E : XE} {d n : Nat} {B : HH} {hs : List Nat} (hB : tkOK B n) (h160 : n ≤ 160) (hc : cnt hs ≤ 5) (h1 : rdP (fun H Q => c_Reader_readComparison E (d + 3) H Q) B n 4 hs true) (ih : cnt hs < 5 → rdP (fun H Q => c_Reader_readNot E (d + 3) H Q) B n 3 (13 :: hs) true) : rdP (fun H Q => c_Reader_readNot E (d + 4) H Q) B n 3 hs true := by
  intro H t out Q hmn hS hol htn hY hN
  refine l_Reader_readNot ?_
  unfold p_Reader_readNot
  rw [hS.2.2.1]
  refine ⟨fun k => ?_, fun k => ?_⟩
  · have hin := kT_in (T := B 7 0) (n := n) (t := t) (by rw [k]; decide)
    refine s_Reader_mayOpen hB hS (by omega) hc (fun c5 G g => ⟨fun z => absurd z (by decide), fun _ => ?_⟩) (fun c5 => ⟨fun _ => ?_, fun z => absurd rfl z⟩)
    · have st : mst (kT (B 7 0) n) (vT (B 7 0) n) (t, true, true, hs, out) = some (t + 1, true, true, 13 :: hs, out) := by rw [mst_not k, if_neg (by omega)]
      refine ih c5 G (t + 1) out _ (fun z => absurd z (by decide)) g (by omega) (by omega) ?_ ?_
      · intro G2 t2 mn2 hs1 o1 ys g2 gy ty tn ly my uy by4
        refine ⟨fun _ H19 e19 => ?_, fun z => absurd z (by decide)⟩
        subst e19
        refine s_Text_put (rdS.dec g2) (by rw [List.length_append]; omega) (fun G4 g4 => ?_)
        refine hY G4 t2 mn2 hs1 o1 (ys ++ [20002]) (by rw [← List.append_assoc]; exact g4) (gd_un (Or.inl rfl) gy) (by omega) tn (by rw [List.length_append]; simp; omega) (mR.head st my) ?_ by4
        rw [uy, unw_pop (by decide), List.append_assoc]; rfl
      · intro G2 o2 out2 cf h1 h2 h3 h4 h5
        exact ⟨fun z => absurd rfl z, fun _ => hN G2 o2 out2 cf h1 (mR.head st h2) h3 h4 h5⟩
    · exact hN H (cnt hs) out (t, true, true, hs, out) hS (mR.refl _) htn (by rw [mst_not k, if_pos c5]) mok_w
  · refine h1 H t out _ (fun _ => Or.inr k) hS hol htn ?_ ?_
    · intro G2 t2 mn2 hs1 o1 ys g2 gy ty tn ly my uy by4
      exact ⟨Or.inr rfl, hY G2 t2 mn2 hs1 o1 ys g2 gy ty tn ly my (unw_to (by omega) uy) ⟨fun _ => by4.1 (by decide), fun _ => by4.2.1 (by decide), fun _ => by4.2.2.1 (by decide), fun z => absurd z (by decide), fun z => absurd z (by decide)⟩⟩
    · intro G2 o2 out2 cf h1 h2 h3 h4 h5
      exact ⟨Or.inl rfl, hN G2 o2 out2 cf h1 h2 h3 h4 h5⟩
