/-! THE READER 1: what it stands on, and what it reads where an operand must come. -/
def rdF (a i k : Nat) : Prop := a = 5 ∨ (a = 11 ∧ i = 6 ∧ k = 1) ∨ (a = 12 ∧ i = 6)
def rdS (B : HH) (n t o : Nat) (out : List Int32) (H : HH) : Prop := (∀ a i k, ¬ rdF a i k → H a i k = B a i k) ∧ H 5 0 2 = nI t ∧ H 5 0 3 = kT (B 7 0) n t ∧ H 5 0 4 = nI o ∧ H 11 6 1 = nI out.length ∧ ∀ i, i < out.length → H 12 6 i = out.getD i 0
theorem tkOK.fr {B H : HH} {n : Nat} (h : tkOK B n) (h65 : H 6 0 5 = B 6 0 5) (h7 : H 7 0 = B 7 0) (h8 : ∀ k, H 8 0 k = B 8 0 k) (h9 : ∀ k, H 9 0 k = B 9 0 k) (h10 : ∀ k, H 10 0 k = B 10 0 k) : tkOK H n := by
  obtain ⟨m, h1, h2, h3, h4⟩ := h
  refine ⟨m, h1, by rw [h65]; exact h2, fun t ht => ?_, by rw [h7]; exact h4⟩
  rw [h7, h8, h9, h10]
  exact h3 t ht
theorem rdS.tk {B H : HH} {n t o : Nat} {out : List Int32} (hB : tkOK B n) (h : rdS B n t o out H) : tkOK H n ∧ H 7 0 = B 7 0 := by
  have f := h.1
  have e7 : H 7 0 = B 7 0 := by funext k; exact f 7 0 k (by unfold rdF; omega)
  exact ⟨hB.fr (f 6 0 5 (by unfold rdF; omega)) e7 (fun k => f 8 0 k (by unfold rdF; omega)) (fun k => f 9 0 k (by unfold rdF; omega)) (fun k => f 10 0 k (by unfold rdF; omega)), e7⟩
/-- the class goes to the next token -/
theorem s_Reader_goToAt {E : XE} {d n t o : Nat} {out : List Int32} {B H : HH} {Q : HH → Prop} (hB : tkOK B n) (hf : ∀ a i k, ¬ rdF a i k → H a i k = B a i k) (h4 : H 5 0 4 = nI o) (h11 : H 11 6 1 = nI out.length) (h12 : ∀ i, i < out.length → H 12 6 i = out.getD i 0) (ht : t < 1000) (hq : ∀ G, rdS B n t o out G → Q G) : c_Reader_goTo E (d + 1) (nI t) H Q := by
  refine l_Reader_goTo (fun H1 e1 => ?_)
  have f1 : ∀ a i k, ¬ rdF a i k → H1 a i k = B a i k := fun a i k q => by
    have q' := q
    unfold rdF at q'
    rw [e1, hu_ne (by omega)]; exact hf a i k q
  have e7 : H1 7 0 = B 7 0 := by funext k; exact f1 7 0 k (by unfold rdF; omega)
  refine s_Tape_kindOf (hB.fr (f1 6 0 5 (by unfold rdF; omega)) e7 (fun k => f1 8 0 k (by unfold rdF; omega)) (fun k => f1 9 0 k (by unfold rdF; omega)) (fun k => f1 10 0 k (by unfold rdF; omega))) ht (fun H4 e4 => ?_)
  refine hq H4 ⟨fun a i k q => ?_, ?_, ?_, ?_, ?_, fun i hi => ?_⟩
  · have q' := q
    unfold rdF at q'
    rw [e4, hu_ne (by omega)]; exact f1 a i k q
  · rw [e4, hu_ne (by omega), e1, hu_at]
  · rw [e4, hu_at, e7]
  · rw [e4, hu_ne (by omega), e1, hu_ne (by omega)]; exact h4
  · rw [e4, hu_ne (by omega), e1, hu_ne (by omega)]; exact h11
  · rw [e4, hu_ne (by omega), e1, hu_ne (by omega)]; exact h12 i hi
theorem s_Reader_goTo {E : XE} {d n t o : Nat} {out : List Int32} {B H : HH} {Q : HH → Prop} (hB : tkOK B n) (h : rdS B n t o out H) (ht : t < 900) (hq : ∀ G, rdS B n (t + 1) o out G → Q G) : c_Reader_goTo E (d + 1) (H 5 0 2 + 1) H Q := by
  rw [h.2.1, nI_1]
  exact s_Reader_goToAt hB h.1 h.2.2.2.1 h.2.2.2.2.1 h.2.2.2.2.2 (by omega) hq
theorem s_Text_put {E : XE} {d n t o : Nat} {out : List Int32} {c : Int32} {B H : HH} {Q : HH → Prop} (h : rdS B n t o out H) (hl : out.length < 160) (hq : ∀ G, rdS B n t o (out ++ [c]) G → Q G) : c_Text_put E d 6 c H Q := by
  obtain ⟨hf, h2, h3, h4, h5, h6⟩ := h
  refine l_Text_put ⟨fun _ => ⟨by rw [h5]; exact vp_in_nI hl (by omega), fun H1 e1 H2 e2 => ?_⟩, fun q => absurd (by rw [h5]; exact nI_lt (b := 160) hl (by omega)) q⟩
  rw [h5, nI_clamp (by omega)] at e1
  have k1 : H1 11 6 1 = nI out.length := by rw [e1, hu_ne (by omega)]; exact h5
  rw [k1, nI_1] at e2
  refine hq H2 ⟨fun a i k q => ?_, ?_, ?_, ?_, ?_, fun i hi => ?_⟩
  · have q' := q
    unfold rdF at q'
    rw [e2, hu_ne (by omega), e1, hu_ne (by omega)]; exact hf a i k q
  · rw [e2, hu_ne (by omega), e1, hu_ne (by omega)]; exact h2
  · rw [e2, hu_ne (by omega), e1, hu_ne (by omega)]; exact h3
  · rw [e2, hu_ne (by omega), e1, hu_ne (by omega)]; exact h4
  · rw [e2, hu_at, List.length_append]; rfl
  · rw [List.length_append] at hi
    have hi2 : i < out.length + 1 := hi
    rw [e2, hu_ne (by omega), e1]
    by_cases c1 : i = out.length
    · rw [c1, hu_at, List.getD_eq_getElem?_getD, List.getElem?_append_right (Nat.le_refl _)]; simp
    · rw [hu_ne (by omega), h6 i (by omega), List.getD_eq_getElem?_getD, List.getD_eq_getElem?_getD, List.getElem?_append_left (by omega)]
theorem rdS.dec {B H : HH} {n t o : Nat} {out : List Int32} (h : rdS B n t (o + 1) out H) : rdS B n t o out (hu H 5 0 4 (H 5 0 4 - 1)) := by
  obtain ⟨hf, h2, h3, h4, h5, h6⟩ := h
  refine ⟨fun a i k q => ?_, ?_, ?_, ?_, ?_, fun i hi => ?_⟩
  · have q' := q
    unfold rdF at q'
    rw [hu_ne (by omega)]; exact hf a i k q
  · rw [hu_ne (by omega)]; exact h2
  · rw [hu_ne (by omega)]; exact h3
  · rw [hu_at, h4, nI_pred]
  · rw [hu_ne (by omega)]; exact h5
  · rw [hu_ne (by omega)]; exact h6 i hi
theorem s_Reader_mayOpen {E : XE} {d n t o : Nat} {out : List Int32} {B H : HH} {Q : Int32 → HH → Prop} (hB : tkOK B n) (h : rdS B n t o out H) (ht : t < 900) (ho : o ≤ 5) (h1 : o < 5 → ∀ G, rdS B n (t + 1) (o + 1) out G → Q 1 G) (h0 : o = 5 → Q 0 H) : c_Reader_mayOpen E (d + 2) H Q := by
  refine l_Reader_mayOpen ?_
  unfold p_Reader_mayOpen
  rw [h.2.2.2.1]
  have e5 : nI o < 5 ↔ o < 5 := nI_ltI (b := 5) (by omega) (by omega)
  rw [e5]
  refine ⟨fun q H1 e1 => ?_, fun q => h0 (by omega)⟩
  rw [nI_1] at e1
  have k2 : H1 5 0 2 = nI t := by rw [e1, hu_ne (by omega)]; exact h.2.1
  rw [k2, nI_1]
  refine s_Reader_goToAt hB (o := o + 1) (out := out) (fun a i k q => ?_) (by rw [e1, hu_at]) (by rw [e1, hu_ne (by omega)]; exact h.2.2.2.2.1) (fun i hi => by rw [e1, hu_ne (by omega)]; exact h.2.2.2.2.2 i hi) (by omega) (h1 q)
  have q' := q
  unfold rdF at q'
  rw [e1, hu_ne (by omega)]; exact h.1 a i k q
-- tokens are below n
theorem kT_in {T : Nat → Int32} {n t : Nat} (h : kT T n t ≠ 264) : t < n := by
  have c : sT T n t < n := by
    by_cases c : sT T n t < n
    · exact c
    · exact absurd (if_neg c) h
  rcases Nat.lt_or_ge t n with q | q
  · exact q
  · have e : sT T n n = n := by
      have h1 := tP_ge (T := T) n (Nat.le_refl n)
      have h2 := @sT_ge T n n
      have h3 := @sT_le T n n
      omega
    rw [sT_mono e t q] at c
    omega
theorem wNm_le : ∀ w, w ≤ 12 → wKd w = 262 → ∃ j, j < 6 ∧ wNm w = nI j := by
  intro w hw h
  have : ∀ w, w ≤ 12 → wKd w = 262 → 3 ≤ w ∧ w ≤ 8 := by decide +kernel
  obtain ⟨h1, h2⟩ := this w hw h
  exact ⟨w - 3, by omega, if_pos ⟨h1, h2⟩⟩
theorem sg_ne : ∀ v : Int32, isSg v → v ≠ 262 ∧ v ≠ 263 ∧ v ≠ 264 := by
  rintro v (e | e | e | e | e | e | e | e) <;> rw [e] <;> decide
theorem kT_nam {T : Nat → Int32} {n t : Nat} (h : kT T n t = 262) : ∃ j, j < 6 ∧ vT T n t = nI j := by
  have hin := kT_in (T := T) (n := n) (t := t) (by rw [h]; decide)
  have c : sT T n t < n := by
    by_cases c : sT T n t < n
    · exact c
    · have : kT T n t = 264 := if_neg c
      rw [h] at this; exact absurd this (by decide)
  have e1 : kT T n t = tKd T n (sT T n t) := if_pos c
  rw [e1] at h
  unfold tKd at h
  by_cases l : isLt (T (sT T n t))
  · rw [if_pos l] at h
    have nd : ¬ isDg (T (sT T n t)) := fun z => by
      have z1 := z.2
      have z2 := l.1
      simp only [ti_le] at z1 z2
      have c1 : (57 : Int32).toInt = 57 := rfl
      have c2 : (97 : Int32).toInt = 97 := rfl
      omega
    have ev : vT T n t = wNm (wIx T (sT T n t) (tEnd T n (sT T n t))) := if_neg nd
    rw [ev]
    exact wNm_le _ (by rcases wIx_cases T (sT T n t) (tEnd T n (sT T n t)) with ⟨z, _⟩ | ⟨z, _⟩ <;> omega) h
  · rw [if_neg l] at h
    by_cases dg : isDg (T (sT T n t))
    · rw [if_pos dg] at h
      split at h <;> exact absurd h (by decide)
    · rw [if_neg dg] at h
      by_cases s : isSg (T (sT T n t))
      · rw [if_pos s] at h; exact absurd h (sg_ne _ s).1
      · rw [if_neg s] at h; exact absurd h (by decide)
theorem numF_le {T : Nat → Int32} {a : Nat} : ∀ k, k ≤ 4 → (∀ j, j < k → isDg (T (a + j))) → ∃ m, numF T a k = nI m ∧ m < 10 ^ k := by
  intro k
  induction k with
  | zero => intro _ _; exact ⟨0, rfl, by decide⟩
  | succ k ih =>
    intro hk hd
    obtain ⟨m, e, hm⟩ := ih (by omega) (fun j hj => hd j (by omega))
    have hd1 := hd k (by omega)
    have c1 : (48 : Int32).toInt = 48 := rfl
    have c2 : (57 : Int32).toInt = 57 := rfl
    have z1 := hd1.1
    have z2 := hd1.2
    simp only [ti_le] at z1 z2
    obtain ⟨b, hb, eb⟩ := byte_nat (v := T (a + k)) (by omega) (by omega)
    have p4 : 10 ^ k ≤ 1000 := by
      have : 10 ^ k ≤ 10 ^ 3 := Nat.pow_le_pow_right (by omega) (by omega)
      exact this
    have hb2 : 48 ≤ b ∧ b ≤ 57 := by rw [eb, ti_nI (by omega)] at z1 z2; omega
    refine ⟨m * 10 + b - 48, ?_, ?_⟩
    · show numF T a k * 10 + T (a + k) - 48 = _
      rw [e, eb, show (10 : Int32) = nI 10 from rfl, show (48 : Int32) = nI 48 from rfl, nI_mul, nI_add, nI_subI (by omega) (by omega)]
    · rw [Nat.pow_succ]; omega
theorem kT_num {T : Nat → Int32} {n t : Nat} (h : kT T n t = 263) : ∃ m, m < 10000 ∧ vT T n t = nI m := by
  have c : sT T n t < n := by
    by_cases c : sT T n t < n
    · exact c
    · have : kT T n t = 264 := if_neg c
      rw [h] at this; exact absurd this (by decide)
  have e1 : kT T n t = tKd T n (sT T n t) := if_pos c
  rw [e1] at h
  unfold tKd at h
  by_cases l : isLt (T (sT T n t))
  · rw [if_pos l] at h
    have : ∀ w, w ≤ 12 → wKd w ≠ 263 := by decide +kernel
    exact absurd h (this _ (by rcases wIx_cases T (sT T n t) (tEnd T n (sT T n t)) with ⟨z, _⟩ | ⟨z, _⟩ <;> omega))
  · rw [if_neg l] at h
    by_cases dg : isDg (T (sT T n t))
    · rw [if_pos dg] at h
      have e4 : tEnd T n (sT T n t) - sT T n t ≤ 4 := by
        by_cases c4 : tEnd T n (sT T n t) - sT T n t ≤ 4
        · exact c4
        · rw [if_neg c4] at h; exact absurd h (by decide)
      have ev : vT T n t = numF T (sT T n t) (tEnd T n (sT T n t) - sT T n t) := if_pos dg
      rw [ev]
      obtain ⟨m, em, hm⟩ := numF_le (T := T) (a := sT T n t) _ e4 (fun j hj => by
        by_cases j0 : j = 0
        · rw [j0]; exact dg
        · have ee : tEnd T n (sT T n t) = rn isDg T n (sT T n t + 1) := by unfold tEnd; rw [if_neg l, if_pos dg]
          exact (rn_in (a := sT T n t + 1) (n := n) (by omega) (by omega)).2)
      refine ⟨m, ?_, em⟩
      have : 10 ^ (tEnd T n (sT T n t) - sT T n t) ≤ 10 ^ 4 := Nat.pow_le_pow_right (by omega) e4
      have z : (10 : Nat) ^ 4 = 10000 := rfl
      omega
    · rw [if_neg dg] at h
      by_cases s : isSg (T (sT T n t))
      · rw [if_pos s] at h; exact absurd h (sg_ne _ s).2.1
      · rw [if_neg s] at h; exact absurd h (by decide)
-- what a read.. promises
def rdY (B : HH) (n L t : Nat) (mn : Bool) (hs : List Nat) (out : List Int32) (Q : Int32 → HH → Prop) : Prop := ∀ G t2 mn2 hs1 o1 ys, rdS B n t2 (cnt hs) (out ++ ys) G → gdS ys → t < t2 → t2 ≤ n → ys.length + t ≤ t2 → mR (kT (B 7 0) n) (vT (B 7 0) n) (t, true, mn, hs, out) (t2, false, mn2, hs1, o1) → unw L hs1 o1 = unw L hs (out ++ ys) → blk (kT (B 7 0) n) L t2 hs1 o1 → Q 1 G
def rdN (B : HH) (n : Nat) (c0 : CF) (Q : Int32 → HH → Prop) : Prop := ∀ G o2 out2 cf, rdS B n cf.1 o2 out2 G → mR (kT (B 7 0) n) (vT (B 7 0) n) c0 cf → cf.1 ≤ n → mst (kT (B 7 0) n) (vT (B 7 0) n) cf = none → ¬ mok (kT (B 7 0) n) cf → Q 0 G
theorem rdN.head {B : HH} {n : Nat} {c0 c1 : CF} {Q : Int32 → HH → Prop} (h : rdN B n c0 Q) (e : mR (kT (B 7 0) n) (vT (B 7 0) n) c0 c1) : rdN B n c1 Q := fun G o2 out2 cf h1 h2 h3 h4 h5 => h G o2 out2 cf h1 (e.trans h2) h3 h4 h5
def rdP (c : HH → (Int32 → HH → Prop) → Prop) (B : HH) (n L : Nat) (hs : List Nat) (mn : Bool) : Prop := ∀ (H : HH) (t : Nat) (out : List Int32) (Q : Int32 → HH → Prop), (4 ≤ L → mn = false ∨ kT (B 7 0) n t ≠ 261) → rdS B n t (cnt hs) out H → out.length ≤ t → t ≤ n → rdY B n L t mn hs out Q → rdN B n (t, true, mn, hs, out) Q → c H Q
theorem mok_w {K : Nat → Int32} {t : Nat} {mn : Bool} {hs : List Nat} {o : List Int32} : ¬ mok K (t, true, mn, hs, o) := fun z => absurd (show true = false from z.1) (by decide)
theorem blk7 {K : Nat → Int32} {t : Nat} {hs : List Nat} {o : List Int32} : blk K 7 t hs o := ⟨fun z => absurd z (by decide), fun z => absurd z (by decide), fun z => absurd z (by decide), fun z => absurd z (by decide), fun z => absurd z (by decide)⟩
theorem rd_one {E : XE} {d n : Nat} {B : HH} {hs : List Nat} {mn : Bool} (hB : tkOK B n) (h160 : n ≤ 160) (hc : cnt hs ≤ 5) (ih : cnt hs < 5 → rdP (fun H Q => c_Reader_readOne E (d + 3) H Q) B n 7 (19 :: hs) false) (ihO : cnt hs < 5 → rdP (fun H Q => c_Reader_readOr E (d + 3) H Q) B n 1 (0 :: hs) true) : rdP (fun H Q => c_Reader_readOne E (d + 4) H Q) B n 7 hs mn := by
  intro H t out Q hmn hS hol htn hY hN
  obtain ⟨tk, e7⟩ := hS.tk hB
  refine l_Reader_readOne ?_
  unfold p_Reader_readOne
  rw [hS.2.2.1, hS.2.1]
  -- a number or a name
  have val : ∀ x : Int32, kT (B 7 0) n t ≠ 264 → gdS [x] → mst (kT (B 7 0) n) (vT (B 7 0) n) (t, true, mn, hs, out) = some (t + 1, false, mn, unw 7 hs (out ++ [x])) → c_Text_put E (d + 3) 6 x H (fun H3 => c_Reader_goTo E (d + 3) (H3 5 0 2 + 1) H3 (fun H4 => Q 1 H4)) := by
    intro x hk hg hm
    have hin := kT_in hk
    refine s_Text_put hS (by omega) (fun G1 g1 => s_Reader_goTo hB g1 (by omega) (fun G2 g2 => ?_))
    exact hY G2 (t + 1) mn _ _ [x] g2 hg (by omega) (by omega) (by simp; omega) ((mR.refl _).step hm) (unw_unw (Nat.le_refl 7) _ _) blk7
  have nam : kT (B 7 0) n t = 262 → c_Tape_valueOf E (d + 3) (nI t) H (fun r6 H5 => c_Text_put E (d + 3) 6 (10000 + r6) H5 (fun H7 => c_Reader_goTo E (d + 3) ((H7 5 0 2) + 1) H7 (fun H8 => Q 1 H8))) := by
    intro k
    have hin := kT_in (T := B 7 0) (n := n) (t := t) (by rw [k]; decide)
    refine s_Tape_valueOf tk (by omega) (by rw [e7, k]; decide) ?_
    rw [e7]
    obtain ⟨j, hj, ej⟩ := kT_nam k
    refine val _ (by rw [k]; decide) (gd_one ?_) (mst_nam k)
    rw [ej]
    have : ∀ j, j < 6 → 0 ≤ 10000 + nI j ∧ 10000 + nI j < 10006 := by decide +kernel
    exact this j hj
  refine ⟨fun k => ⟨fun _ => ?_, fun k2 => nam k2⟩, fun k63 => ⟨fun k62 => ⟨fun k45 => ⟨fun k40 => ?_, fun k40 => ?_⟩, fun k45 => ?_⟩, fun k62 => ⟨fun z => absurd k62 z, fun _ => nam k62⟩⟩⟩
  · have hin := kT_in (T := B 7 0) (n := n) (t := t) (by rw [k]; decide)
    refine s_Tape_valueOf tk (by omega) (by rw [e7, k]; decide) ?_
    rw [e7]
    obtain ⟨m, hm, em⟩ := kT_num k
    refine val _ (by rw [k]; decide) (gd_one ?_) (mst_num k)
    rw [em]
    exact ⟨nI_pos' (by omega), nI_lt (b := 10006) (by omega) (by omega)⟩
  · exact hN H (cnt hs) out (t, true, mn, hs, out) hS (mR.refl _) htn (mst_no k63 k62 (hmn (by decide)) k45 k40) mok_w
  -- (
  · have hin := kT_in (T := B 7 0) (n := n) (t := t) (by rw [k40]; decide)
    refine s_Reader_mayOpen hB hS (by omega) hc (fun c5 G g => ⟨fun z => absurd z (by decide), fun _ => ?_⟩) (fun c5 => ⟨fun _ => ?_, fun z => absurd rfl z⟩)
    · have st : mst (kT (B 7 0) n) (vT (B 7 0) n) (t, true, mn, hs, out) = some (t + 1, true, true, 0 :: hs, out) := by rw [mst_opn k40, if_neg (by omega)]
      refine ihO c5 G (t + 1) out _ (fun z => absurd z (by decide)) g (by omega) (by omega) ?_ ?_
      · intro G2 t2 mn2 hs1 o1 ys g2 gy ty tn ly my uy by4
        refine ⟨fun z => absurd z (by decide), fun _ => ?_⟩
        rw [g2.2.2.1]
        have u1 : unw 1 hs1 o1 = (0 :: hs, out ++ ys) := by rw [uy]; exact unw_lt (by show rkS 0 < 1; decide)
        have mm := (mR.refl (K := kT (B 7 0) n) (V := vT (B 7 0) n) (t, true, mn, hs, out)).step st |>.trans my
        refine ⟨fun k41 H13 e13 => ?_, fun k41 => ?_⟩
        · have hin2 := kT_in (T := B 7 0) (n := n) (t := t2) (by rw [k41]; decide)
          subst e13
          refine s_Reader_goTo hB (rdS.dec g2) (by omega) (fun G4 g4 => ?_)
          exact hY G4 (t2 + 1) mn2 _ _ ys g4 gy (by omega) (by omega) (by omega) (mm.step (mst_cls k41 u1)) (unw_unw (Nat.le_refl 7) _ _) blk7
        · refine hN G2 _ _ (t2, false, mn2, hs1, o1) g2 mm tn ?_ (fun z => ?_)
          · by_cases k59 : kT (B 7 0) n t2 = 59
            · unfold mst; rw [if_neg Bool.false_ne_true, if_pos k59]
            · exact mst_end by4 k59 (fun z => absurd z k41)
          · have z2 : (unw 1 hs1 o1).1 = [] := z.2.2
            rw [u1] at z2; cases z2
      · intro G2 o2 out2 cf h1 h2 h3 h4 h5
        exact ⟨fun _ => hN G2 o2 out2 cf h1 (mR.head st h2) h3 h4 h5, fun z => absurd rfl z⟩
    · exact hN H (cnt hs) out (t, true, mn, hs, out) hS (mR.refl _) htn (by rw [mst_opn k40, if_pos c5]) mok_w
  -- -
  · have hin := kT_in (T := B 7 0) (n := n) (t := t) (by rw [k45]; decide)
    refine s_Reader_mayOpen hB hS (by omega) hc (fun c5 G g => ⟨fun z => absurd z (by decide), fun _ => ?_⟩) (fun c5 => ⟨fun _ => ?_, fun z => absurd rfl z⟩)
    · have st : mst (kT (B 7 0) n) (vT (B 7 0) n) (t, true, mn, hs, out) = some (t + 1, true, false, 19 :: hs, out) := by rw [mst_neg k45, if_neg (by omega)]
      refine ih c5 G (t + 1) out _ (fun _ => Or.inl rfl) g (by omega) (by omega) ?_ ?_
      · intro G2 t2 mn2 hs1 o1 ys g2 gy ty tn ly my uy by4
        refine ⟨fun _ H19 e19 => ?_, fun z => absurd z (by decide)⟩
        subst e19
        refine s_Text_put (rdS.dec g2) (by rw [List.length_append]; omega) (fun G4 g4 => ?_)
        refine hY G4 t2 mn2 hs1 o1 (ys ++ [20008]) (by rw [← List.append_assoc]; exact g4) (gd_un (Or.inr rfl) gy) (by omega) tn (by rw [List.length_append]; simp; omega) (mR.head st my) ?_ blk7
        rw [uy, unw_pop (by decide), List.append_assoc]; rfl
      · intro G2 o2 out2 cf h1 h2 h3 h4 h5
        exact ⟨fun z => absurd rfl z, fun _ => hN G2 o2 out2 cf h1 (mR.head st h2) h3 h4 h5⟩
    · exact hN H (cnt hs) out (t, true, mn, hs, out) hS (mR.refl _) htn (by rw [mst_neg k45, if_pos c5]) mok_w
