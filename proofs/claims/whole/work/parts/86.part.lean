/-! THE READER 3: all of an E, its parts, and the FAULT of THE TAPE. -/
theorem cnt_op {s : Nat} {hs : List Nat} (h : s ≠ 0 ∧ s ≠ 13 ∧ s ≠ 19) : cnt (s :: hs) = cnt hs := by
  show cnt hs + (if s = 0 ∨ s = 13 ∨ s = 19 then 1 else 0) = cnt hs
  rw [if_neg (by omega)]; rfl
theorem cnt_up {s : Nat} {hs : List Nat} (h : s = 0 ∨ s = 13 ∨ s = 19) : cnt (s :: hs) = cnt hs + 1 := by
  show cnt hs + (if s = 0 ∨ s = 13 ∨ s = 19 then 1 else 0) = cnt hs + 1
  rw [if_pos h]
theorem rd_up {E : XE} {n f : Nat} {B : HH} (hB : tkOK B n) (h160 : n ≤ 160) (one : ∀ (d : Nat) (hs : List Nat) (mn : Bool), cnt hs ≤ 5 → 5 ≤ cnt hs + f → rdP (fun H Q => c_Reader_readOne E (d + 7 * f + 4) H Q) B n 7 hs mn) : ∀ (d : Nat) (hs : List Nat) (mn : Bool), cnt hs ≤ 5 → 5 ≤ cnt hs + f → tpr hs < 4 → rdP (fun H Q => c_Reader_readComparison E (d + 7 * f + 7) H Q) B n 4 hs mn := by
  have term : ∀ (d : Nat) (hs : List Nat) (mn : Bool), cnt hs ≤ 5 → 5 ≤ cnt hs + f → tpr hs < 6 → rdP (fun H Q => c_Reader_readTerm E (d + 7 * f + 5) H Q) B n 6 hs mn := fun d hs mn h1 h2 hp =>
    rd_term (d := d + 7 * f + 3) hB h160 hp (one d hs mn h1 h2) (one d (18 :: hs) false (by rw [cnt_op (by decide)]; exact h1) (by rw [cnt_op (by decide)]; exact h2))
  have sum : ∀ (d : Nat) (hs : List Nat) (mn : Bool), cnt hs ≤ 5 → 5 ≤ cnt hs + f → tpr hs < 5 → rdP (fun H Q => c_Reader_readSum E (d + 7 * f + 6) H Q) B n 5 hs mn := fun d hs mn h1 h2 hp =>
    rd_sum (d := d + 7 * f + 4) hB h160 hp (term d hs mn h1 h2 (by omega)) (term d (16 :: hs) false (by rw [cnt_op (by decide)]; exact h1) (by rw [cnt_op (by decide)]; exact h2) (show rkS 16 < 6 by decide)) (term d (17 :: hs) false (by rw [cnt_op (by decide)]; exact h1) (by rw [cnt_op (by decide)]; exact h2) (show rkS 17 < 6 by decide))
  exact fun d hs mn h1 h2 hp =>
    rd_cmp (d := d + 7 * f + 5) hB h160 hp (sum d hs mn h1 h2 (by omega)) (sum d (14 :: hs) false (by rw [cnt_op (by decide)]; exact h1) (by rw [cnt_op (by decide)]; exact h2) (show rkS 14 < 5 by decide)) (sum d (15 :: hs) false (by rw [cnt_op (by decide)]; exact h1) (by rw [cnt_op (by decide)]; exact h2) (show rkS 15 < 5 by decide))
theorem rd_up2 {E : XE} {n f : Nat} {B : HH} (hB : tkOK B n) (h160 : n ≤ 160) (nt : ∀ (d : Nat) (hs : List Nat), cnt hs ≤ 5 → 5 ≤ cnt hs + f → tpr hs < 4 → rdP (fun H Q => c_Reader_readNot E (d + 7 * f + 8) H Q) B n 3 hs true) : ∀ (d : Nat) (hs : List Nat), cnt hs ≤ 5 → 5 ≤ cnt hs + f → tpr hs < 1 → rdP (fun H Q => c_Reader_readOr E (d + 7 * f + 10) H Q) B n 1 hs true := by
  have an : ∀ (d : Nat) (hs : List Nat), cnt hs ≤ 5 → 5 ≤ cnt hs + f → tpr hs < 2 → rdP (fun H Q => c_Reader_readAnd E (d + 7 * f + 9) H Q) B n 2 hs true := fun d hs h1 h2 hp =>
    rd_and (d := d + 7 * f + 7) hB h160 hp (nt d hs h1 h2 (by omega)) (nt d (12 :: hs) (by rw [cnt_op (by decide)]; exact h1) (by rw [cnt_op (by decide)]; exact h2) (show rkS 12 < 4 by decide))
  exact fun d hs h1 h2 hp =>
    rd_or (d := d + 7 * f + 8) hB h160 hp (an d hs h1 h2 (by omega)) (an d (11 :: hs) (by rw [cnt_op (by decide)]; exact h1) (by rw [cnt_op (by decide)]; exact h2) (show rkS 11 < 2 by decide))
theorem rd_all {E : XE} {n : Nat} {B : HH} (hB : tkOK B n) (h160 : n ≤ 160) : ∀ f, (∀ (d : Nat) (hs : List Nat) (mn : Bool), cnt hs ≤ 5 → 5 ≤ cnt hs + f → rdP (fun H Q => c_Reader_readOne E (d + 7 * f + 4) H Q) B n 7 hs mn) ∧ (∀ (d : Nat) (hs : List Nat), cnt hs ≤ 5 → 5 ≤ cnt hs + f → tpr hs < 4 → rdP (fun H Q => c_Reader_readNot E (d + 7 * f + 8) H Q) B n 3 hs true) ∧ ∀ (d : Nat) (hs : List Nat), cnt hs ≤ 5 → 5 ≤ cnt hs + f → tpr hs < 1 → rdP (fun H Q => c_Reader_readOr E (d + 7 * f + 10) H Q) B n 1 hs true := by
  intro f
  induction f with
  | zero =>
    have one : ∀ (d : Nat) (hs : List Nat) (mn : Bool), cnt hs ≤ 5 → 5 ≤ cnt hs + 0 → rdP (fun H Q => c_Reader_readOne E (d + 7 * 0 + 4) H Q) B n 7 hs mn := fun d hs mn h1 h2 => rd_one (d := d + 7 * 0) hB h160 h1 (fun z => absurd z (by omega)) (fun z => absurd z (by omega))
    have nt : ∀ (d : Nat) (hs : List Nat), cnt hs ≤ 5 → 5 ≤ cnt hs + 0 → tpr hs < 4 → rdP (fun H Q => c_Reader_readNot E (d + 7 * 0 + 8) H Q) B n 3 hs true := fun d hs h1 h2 hp => rd_not (d := d + 7 * 0 + 4) hB h160 h1 (rd_up hB h160 one d hs true h1 h2 hp) (fun z => absurd z (by omega))
    exact ⟨one, nt, rd_up2 hB h160 nt⟩
  | succ f ih =>
    obtain ⟨i1, i2, i3⟩ := ih
    have one : ∀ (d : Nat) (hs : List Nat) (mn : Bool), cnt hs ≤ 5 → 5 ≤ cnt hs + (f + 1) → rdP (fun H Q => c_Reader_readOne E (d + 7 * (f + 1) + 4) H Q) B n 7 hs mn := by
      intro d hs mn h1 h2
      refine rd_one (d := d + 7 * (f + 1)) hB h160 h1 (fun z => ?_) (fun z => ?_)
      · have y := i1 (d + 6) (19 :: hs) false (by rw [cnt_up (by decide)]; omega) (by rw [cnt_up (by decide)]; omega)
        rw [show d + 6 + 7 * f + 4 = d + 7 * (f + 1) + 3 by omega] at y; exact y
      · have y := i3 d (0 :: hs) (by rw [cnt_up (by decide)]; omega) (by rw [cnt_up (by decide)]; omega) (show rkS 0 < 1 by decide)
        rw [show d + 7 * f + 10 = d + 7 * (f + 1) + 3 by omega] at y; exact y
    have nt : ∀ (d : Nat) (hs : List Nat), cnt hs ≤ 5 → 5 ≤ cnt hs + (f + 1) → tpr hs < 4 → rdP (fun H Q => c_Reader_readNot E (d + 7 * (f + 1) + 8) H Q) B n 3 hs true := by
      intro d hs h1 h2 hp
      refine rd_not (d := d + 7 * (f + 1) + 4) hB h160 h1 (rd_up hB h160 one d hs true h1 h2 hp) (fun z => ?_)
      have y := i2 (d + 6) (13 :: hs) (by rw [cnt_up (by decide)]; omega) (by rw [cnt_up (by decide)]; omega) (show rkS 13 < 4 by decide)
      rw [show d + 6 + 7 * f + 8 = d + 7 * (f + 1) + 4 + 3 by omega] at y; exact y
    exact ⟨one, nt, rd_up2 hB h160 nt⟩
theorem rd_E {E : XE} {d n : Nat} {B : HH} (hB : tkOK B n) (h160 : n ≤ 160) : rdP (fun H Q => c_Reader_readOr E (d + 45) H Q) B n 1 [] true := (rd_all hB h160 5).2.2 d [] (by decide) (by decide) (by decide)
-- parts
def wdk (p : Nat) : Int32 := 256 + nI p
/-- part p, from token t, is read well, up to token t2 -/
def paY (K V : Nat → Int32) (p t : Nat) (out : List Int32) (t2 : Nat) (out2 : List Int32) : Prop := K t = wdk p ∧ ∃ cf, mR K V (t + 1, true, true, [], out) cf ∧ mst K V cf = none ∧ mok K cf ∧ t2 = cf.1 + 1 ∧ out2 = (unw 1 cf.2.2.2.1 cf.2.2.2.2).2
/-- part p, from token t, has its fault at token tf -/
def paN (K V : Nat → Int32) (p t : Nat) (out : List Int32) (tf : Nat) : Prop := (K t ≠ wdk p ∧ tf = t) ∨ (K t = wdk p ∧ ∃ cf, mR K V (t + 1, true, true, [], out) cf ∧ mst K V cf = none ∧ ¬ mok K cf ∧ tf = cf.1)
theorem paY_det {K V : Nat → Int32} {p t t2 t3 : Nat} {out o2 o3 : List Int32} (h1 : paY K V p t out t2 o2) (h2 : paY K V p t out t3 o3) : t2 = t3 ∧ o2 = o3 := by
  obtain ⟨_, cf, a1, a2, a3, rfl, rfl⟩ := h1
  obtain ⟨_, cg, b1, b2, b3, rfl, rfl⟩ := h2
  have e := mR_det a1 a2 b1 b2
  subst e
  exact ⟨rfl, rfl⟩
theorem paYN {K V : Nat → Int32} {p t t2 t3 : Nat} {out o2 : List Int32} (h1 : paY K V p t out t2 o2) (h2 : paN K V p t out t3) : False := by
  obtain ⟨k, cf, a1, a2, a3, rfl, rfl⟩ := h1
  rcases h2 with ⟨b, _⟩ | ⟨_, cg, b1, b2, b3, _⟩
  · exact b k
  · have e := mR_det a1 a2 b1 b2
    subst e
    exact b3 a3
theorem paN_det {K V : Nat → Int32} {p t t2 t3 : Nat} {out : List Int32} (h1 : paN K V p t out t2) (h2 : paN K V p t out t3) : t2 = t3 := by
  rcases h1 with ⟨a, rfl⟩ | ⟨a, cf, a1, a2, a3, rfl⟩
  · rcases h2 with ⟨b, rfl⟩ | ⟨b, _⟩
    · rfl
    · exact absurd b a
  · rcases h2 with ⟨b, _⟩ | ⟨b, cg, b1, b2, b3, rfl⟩
    · exact absurd a b
    · rw [mR_det a1 a2 b1 b2]
theorem kT_end {T : Nat → Int32} {n t : Nat} {k : Int32} (h : kT T n t = k) (hk : k ≠ 264) : t < n := kT_in (by rw [h]; exact hk)
theorem wdk_ne : ∀ p, p < 3 → wdk p ≠ 264 := by decide +kernel
theorem s_Reader_readPart {E : XE} {d n t p : Nat} {out : List Int32} {B H : HH} {Q : Int32 → HH → Prop} (hB : tkOK B n) (h160 : n ≤ 160) (hp : p < 3) (hS : rdS B n t 0 out H) (hol : out.length ≤ t) (htn : t ≤ n) (h1 : ∀ G t2 ys, rdS (hu B 13 6 p (nI (out ++ ys).length)) n t2 0 (out ++ ys) G → gdS ys → t2 ≤ n → (out ++ ys).length ≤ t2 → paY (kT (B 7 0) n) (vT (B 7 0) n) p t out t2 (out ++ ys) → Q 1 G) (h0 : ∀ G tf o2 out2 x, rdS (hu B 13 6 p x) n tf o2 out2 G → tf ≤ n → paN (kT (B 7 0) n) (vT (B 7 0) n) p t out tf → Q 0 G) : c_Reader_readPart E (d + 46) (wdk p) (nI p) H Q := by
  have same : ∀ {t o : Nat} {out : List Int32} {G : HH}, rdS B n t o out G → rdS (hu B 13 6 p (B 13 6 p)) n t o out G := fun g => by rw [hu_same]; exact g
  refine l_Reader_readPart ?_
  unfold p_Reader_readPart
  rw [hS.2.2.1]
  refine ⟨fun k => ?_, fun k => ?_⟩
  · have hin := kT_end k (wdk_ne p hp)
    refine s_Reader_goTo hB hS (by omega) (fun G1 g1 => ?_)
    refine rd_E hB h160 G1 (t + 1) out _ (fun z => absurd z (by decide)) g1 (by omega) (by omega) ?_ ?_
    · intro G2 t2 mn2 hs1 o1 ys g2 gy ty tn ly my uy by4
      refine ⟨fun _ => ?_, fun z => absurd z (by decide)⟩
      have uy2 : unw 1 hs1 o1 = ([], out ++ ys) := uy
      refine l_Text_endPart ⟨fun z => absurd z (nI_pos (by omega)), fun _ => ⟨fun z => absurd (by rw [show (3 : Int32) = nI 3 from rfl, nI_leI (by omega) (by omega)] at z; exact z) (by omega : ¬ 3 ≤ p), fun _ => ⟨vp_in_nI (by omega) (by omega), fun H4 e4 => ?_⟩⟩⟩
      rw [nI_clamp (by omega), g2.2.2.2.2.1] at e4
      have g4 : rdS (hu B 13 6 p (nI (out ++ ys).length)) n t2 0 (out ++ ys) H4 := by
        obtain ⟨f1, f2, f3, f4, f5, f6⟩ := g2
        refine ⟨fun a i c q => ?_, ?_, ?_, ?_, ?_, fun i hi => ?_⟩
        · rw [e4]
          by_cases y : a = 13 ∧ i = 6 ∧ c = p
          · obtain ⟨rfl, rfl, rfl⟩ := y; rw [hu_at, hu_at]
          · rw [hu_ne y, hu_ne y]; exact f1 a i c q
        · rw [e4, hu_ne (by omega)]; exact f2
        · rw [e4, hu_ne (by omega), hu_kd _ _ _ _ (by omega)]; exact f3
        · rw [e4, hu_ne (by omega)]; exact f4
        · rw [e4, hu_ne (by omega)]; exact f5
        · rw [e4, hu_ne (by omega)]; exact f6 i hi
      have hB4 : tkOK (hu B 13 6 p (nI (out ++ ys).length)) n := hB.fr (hu_ne (by omega)) (by rw [hu_kd _ _ _ _ (by omega)]) (fun k => hu_ne (by omega)) (fun k => hu_ne (by omega)) (fun k => hu_ne (by omega))
      have e3 : H4 5 0 3 = kT (B 7 0) n t2 := by rw [e4, hu_ne (by omega)]; exact g2.2.2.1
      rw [e3]
      refine ⟨fun k59 => ?_, fun k59 => ?_⟩
      · have hin2 := kT_end k59 (by decide)
        refine s_Reader_goTo hB4 g4 (by omega) (fun G5 g5 => ?_)
        refine h1 G5 (t2 + 1) ys g5 gy (by omega) (by rw [List.length_append]; omega) ⟨k, (t2, false, mn2, hs1, o1), my, ?_, ⟨rfl, k59, by show (unw 1 hs1 o1).1 = []; rw [uy2]⟩, rfl, by show out ++ ys = (unw 1 hs1 o1).2; rw [uy2]⟩
        unfold mst; rw [if_neg Bool.false_ne_true, if_pos k59]
      · refine h0 H4 t2 0 (out ++ ys) _ g4 tn (Or.inr ⟨k, (t2, false, mn2, hs1, o1), my, mst_end by4 k59 (fun _ => by rw [uy2]), fun z => k59 z.2.1, rfl⟩)
    · intro G2 o2 out2 cf c1 c2 c3 c4 c5
      exact ⟨fun z => absurd rfl z, fun _ => h0 G2 cf.1 o2 out2 _ (same c1) c3 (Or.inr ⟨k, cf, c2, c4, c5, rfl⟩)⟩
  · exact h0 H t 0 out _ (same hS) htn (Or.inl ⟨k, rfl⟩)
-- the whole tape
def txY (K V : Nat → Int32) (o1 o2 o3 : List Int32) : Prop := ∃ t1 t2 t3, paY K V 0 0 [] t1 o1 ∧ paY K V 1 t1 o1 t2 o2 ∧ paY K V 2 t2 o2 t3 o3 ∧ K t3 = 264
def txN (K V : Nat → Int32) (tf : Nat) : Prop := paN K V 0 0 [] tf ∨ ∃ t1 o1, paY K V 0 0 [] t1 o1 ∧ (paN K V 1 t1 o1 tf ∨ ∃ t2 o2, paY K V 1 t1 o1 t2 o2 ∧ (paN K V 2 t2 o2 tf ∨ ∃ t3 o3, paY K V 2 t2 o2 t3 o3 ∧ K t3 ≠ 264 ∧ tf = t3))
theorem txY_det {K V : Nat → Int32} {o1 o2 o3 q1 q2 q3 : List Int32} (h1 : txY K V o1 o2 o3) (h2 : txY K V q1 q2 q3) : o1 = q1 ∧ o2 = q2 ∧ o3 = q3 := by
  obtain ⟨t1, t2, t3, a1, a2, a3, a4⟩ := h1
  obtain ⟨s1, s2, s3, b1, b2, b3, b4⟩ := h2
  obtain ⟨rfl, rfl⟩ := paY_det a1 b1
  obtain ⟨rfl, rfl⟩ := paY_det a2 b2
  obtain ⟨rfl, rfl⟩ := paY_det a3 b3
  exact ⟨rfl, rfl, rfl⟩
theorem txYN {K V : Nat → Int32} {o1 o2 o3 : List Int32} {tf : Nat} (h1 : txY K V o1 o2 o3) (h2 : txN K V tf) : False := by
  obtain ⟨t1, t2, t3, a1, a2, a3, a4⟩ := h1
  rcases h2 with b1 | ⟨s1, q1, b1, b2 | ⟨s2, q2, b2, b3 | ⟨s3, q3, b3, b4, _⟩⟩⟩
  · exact paYN a1 b1
  · obtain ⟨rfl, rfl⟩ := paY_det a1 b1
    exact paYN a2 b2
  · obtain ⟨rfl, rfl⟩ := paY_det a1 b1
    obtain ⟨rfl, rfl⟩ := paY_det a2 b2
    exact paYN a3 b3
  · obtain ⟨rfl, rfl⟩ := paY_det a1 b1
    obtain ⟨rfl, rfl⟩ := paY_det a2 b2
    obtain ⟨rfl, rfl⟩ := paY_det a3 b3
    exact b4 a4
theorem txN_det {K V : Nat → Int32} {tf tg : Nat} (h1 : txN K V tf) (h2 : txN K V tg) : tf = tg := by
  rcases h1 with a1 | ⟨t1, o1, a1, a2 | ⟨t2, o2, a2, a3 | ⟨t3, o3, a3, a4, rfl⟩⟩⟩
  · rcases h2 with b1 | ⟨s1, q1, b1, _⟩
    · exact paN_det a1 b1
    · exact absurd a1 (fun z => paYN b1 z)
  · rcases h2 with b1 | ⟨s1, q1, b1, b2 | ⟨s2, q2, b2, _⟩⟩
    · exact absurd b1 (fun z => paYN a1 z)
    · obtain ⟨rfl, rfl⟩ := paY_det a1 b1
      exact paN_det a2 b2
    · obtain ⟨rfl, rfl⟩ := paY_det a1 b1
      exact absurd a2 (fun z => paYN b2 z)
  · rcases h2 with b1 | ⟨s1, q1, b1, b2 | ⟨s2, q2, b2, b3 | ⟨s3, q3, b3, _⟩⟩⟩
    · exact absurd b1 (fun z => paYN a1 z)
    · obtain ⟨rfl, rfl⟩ := paY_det a1 b1
      exact absurd b2 (fun z => paYN a2 z)
    · obtain ⟨rfl, rfl⟩ := paY_det a1 b1
      obtain ⟨rfl, rfl⟩ := paY_det a2 b2
      exact paN_det a3 b3
    · obtain ⟨rfl, rfl⟩ := paY_det a1 b1
      obtain ⟨rfl, rfl⟩ := paY_det a2 b2
      exact absurd a3 (fun z => paYN b3 z)
  · rcases h2 with b1 | ⟨s1, q1, b1, b2 | ⟨s2, q2, b2, b3 | ⟨s3, q3, b3, b4, rfl⟩⟩⟩
    · exact absurd b1 (fun z => paYN a1 z)
    · obtain ⟨rfl, rfl⟩ := paY_det a1 b1
      exact absurd b2 (fun z => paYN a2 z)
    · obtain ⟨rfl, rfl⟩ := paY_det a1 b1
      obtain ⟨rfl, rfl⟩ := paY_det a2 b2
      exact absurd b3 (fun z => paYN a3 z)
    · obtain ⟨rfl, rfl⟩ := paY_det a1 b1
      obtain ⟨rfl, rfl⟩ := paY_det a2 b2
      obtain ⟨rfl, rfl⟩ := paY_det a3 b3
      rfl
