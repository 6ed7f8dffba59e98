/-! THE CALLS 10: told moves: what is refused; judge, ends. -/
/-- rows of three that are moves -/
def mvV (f : Nat → Int32) (n : Nat) : Prop := n % 3 = 0 ∧ ∀ r, 3 * r + 2 < n → (0 ≤ f (3 * r) ∧ f (3 * r) ≤ 1) ∧ (-1 ≤ f (3 * r + 1) ∧ f (3 * r + 1) ≤ 1) ∧ 1 ≤ f (3 * r + 2) ∧ f (3 * r + 2) ≤ 30
theorem s_Sheet_tellsMoves {E : XE} {d u n : Nat} {H : HH} {Q : Int32 → HH → Prop} (hn : H 16 u 2 = nI n) (hn40 : n ≤ 40) (h1 : mvV (H 17 u) n → Q 1 H) (h0 : ¬ mvV (H 17 u) n → Q 0 H) : c_Sheet_tellsMoves E (d + 1) u H Q := by
  refine l_Sheet_tellsMoves ?_
  unfold p_Sheet_tellsMoves
  rw [hn, show (3 : Int32) = nI 3 from rfl, xrem_nI (by omega) (by decide) (by decide)]
  refine ⟨fun q => ?_, fun q => h0 (fun z => q (by rw [z.1]; rfl))⟩
  have q3 : n % 3 = 0 := by rw [show (0 : Int32) = nI 0 from rfl, nI_eq (by omega) (by omega)] at q; exact q
  refine ⟨fun z H3 => ∃ r, 3 * r ≤ n ∧ z = nI (3 * r) ∧ H3 = H ∧ ∀ r2, r2 < r → (0 ≤ H 17 u (3 * r2) ∧ H 17 u (3 * r2) ≤ 1) ∧ (-1 ≤ H 17 u (3 * r2 + 1) ∧ H 17 u (3 * r2 + 1) ≤ 1) ∧ 1 ≤ H 17 u (3 * r2 + 2) ∧ H 17 u (3 * r2 + 2) ≤ 30, fun z _ => 100 - z.toNatClampNeg, ⟨0, by omega, rfl, rfl, fun r2 hr => absurd hr (Nat.not_lt_zero _)⟩, fun z2 H3 hJ => ?_⟩
  obtain ⟨r, hr, rfl, e3, hv⟩ := hJ
  rw [e3, hn]
  have i1 : nI (3 * r) + 1 = nI (3 * r + 1) := nI_1 _
  have i2 : nI (3 * r) + 2 = nI (3 * r + 2) := by rw [show (2 : Int32) = nI 2 from rfl, nI_add]
  have i3 : nI (3 * r) + nI 3 = nI (3 * (r + 1)) := by rw [nI_add]; rfl
  rw [i1, i2]
  refine ⟨fun q2 => ?_, fun q2 => ?_⟩
  · rw [nI_leI (by omega) (by omega)] at q2
    exact h1 ⟨q3, fun r2 hr2 => hv r2 (by omega)⟩
  · rw [nI_leI (by omega) (by omega)] at q2
    have bad : ∀ {P : Prop}, ¬ P → (mvV (H 17 u) n → P) → Q 0 H := fun hP hm => h0 (fun z => hP (hm z))
    refine ⟨vp_in_nI (by omega) (by omega), ?_⟩
    rw [nI_clamp (by omega), nI_clamp (by omega), nI_clamp (by omega)]
    refine s_Main_isWithin (fun a1 a2 => ⟨fun _ => ⟨vp_in_nI (by omega) (by omega), ?_⟩, fun z => absurd z (by decide)⟩) (fun a => ⟨fun z => absurd rfl z, fun _ => bad a (fun z => (z.2 r (by omega)).1)⟩)
    refine s_Main_isWithin (fun b1 b2 => ⟨fun z => absurd z (by decide), fun _ => ⟨vp_in_nI (by omega) (by omega), ?_⟩⟩) (fun b => ⟨fun _ => bad b (fun z => (z.2 r (by omega)).2.1), fun z => absurd rfl z⟩)
    refine s_Main_isWithin (fun c1 c2 => ⟨fun _ => ?_, fun z => absurd z (by decide)⟩) (fun c => ⟨fun z => absurd rfl z, fun _ => bad c (fun z => (z.2 r (by omega)).2.2)⟩)
    rw [i3]
    have mu : 100 - (nI (3 * (r + 1))).toNatClampNeg < 100 - (nI (3 * r)).toNatClampNeg := by rw [nI_clamp (by omega), nI_clamp (by omega)]; omega
    refine ⟨⟨r + 1, by omega, rfl, rfl, fun r2 hr2 => ?_⟩, mu⟩
    by_cases e : r2 = r
    · rw [e]; exact ⟨⟨a1, a2⟩, ⟨b1, b2⟩, c1, c2⟩
    · exact hv r2 (by omega)
/-- told moves that are refused -/
def rfB (H : HH) (s : SN) (x1 x2 r : Int32) : Prop := ((∀ u, u < 4 → ¬ x1 = nI u) ∧ r = -2) ∨ ∃ u, u < 4 ∧ x1 = nI u ∧ ((H 16 u 1 = -1 ∧ r = -11) ∨ (¬ H 16 u 1 = -1 ∧ ∃ n, n ≤ 40 ∧ H 16 u 2 = nI n ∧ ((¬ mvV (H 17 u) n ∧ r = -2) ∨ (mvV (H 17 u) n ∧ (∀ j, j < s.nv → ¬ x2 = nI j) ∧ r = -5))))
theorem s_Main_isSheetN {E : XE} {d : Nat} {x : Int32} {H : HH} {Q : Int32 → HH → Prop} (h1 : ∀ u, u < 4 → x = nI u → Q 1 H) (h0 : (∀ u, u < 4 → ¬ x = nI u) → Q 0 H) : c_Main_isSheet E d x H Q := by
  refine s_Main_isSheet (fun a b => ?_) (fun q => h0 (fun u hu e => q ?_))
  · obtain ⟨u, hu, e⟩ := nI_of (x := x) (fun z => by simp only [ti_lt, ti_le] at *; omega)
    rw [e, show (4 : Int32) = nI 4 from rfl, nI_ltI hu (by omega)] at b
    exact h1 u b e
  · rw [e]
    exact ⟨nI_pos' (by omega), nI_lt (b := 4) hu (by omega)⟩
theorem s_Model_in3 {E : XE} {d : Nat} {x : Int32} {H : HH} {Q : Int32 → HH → Prop} (h1 : ∀ u, u < 4 → x = nI u → Q 1 H) (h0 : (∀ u, u < 4 → ¬ x = nI u) → Q 0 H) : c_Model_in E d x 0 3 H Q := by
  refine s_Model_in (fun a b => ?_) (fun q => h0 (fun u hu e => q ?_))
  · obtain ⟨u, hu, e⟩ := nat_of (n := 3) (by omega) a b
    exact h1 u (by omega) e
  · rw [e]
    exact ⟨nI_pos' (by omega), nI_le (b := 3) (by omega) (by omega)⟩
theorem s_Main_refusal {E : XE} {d : Nat} {x1 x2 : Int32} {s : SN} {H : HH} {Q : Int32 → HH → Prop} (hI : INV H s) (hb : ∀ r, ¬ r = 0 → rfB H s x1 x2 r → Q r H)
    (hok : ∀ u n j, u < 4 → x1 = nI u → j < s.nv → x2 = nI j → n ≤ 40 → H 16 u 2 = nI n → ¬ H 16 u 1 = -1 → mvV (H 17 u) n → Q 0 H) : c_Main_refusalOfMoves E (d + 2) x1 x2 H Q := by
  refine l_Main_refusalOfMoves (s_Main_isSheetN (fun u hu eu => ?_) (fun no => ?_))
  · have vin4 : vp_in x1 4 := by rw [eu]; exact vp_in_nI hu (by omega)
    have cu : x1.toNatClampNeg = u := by rw [eu, nI_clamp (by omega)]
    obtain ⟨-, -, ⟨n, hn, en, -⟩, -⟩ := hI.2.2.2.2.2.2.2.1 u hu
    refine ⟨fun _ => ⟨vin4, ?_⟩, fun z => absurd z (by decide)⟩
    rw [cu]
    refine s_Sheet_isMissing (fun m => ⟨fun z => absurd z (by decide), fun _ => hb _ (by decide) (Or.inr ⟨u, hu, eu, Or.inl ⟨m, rfl⟩⟩)⟩) (fun m => ⟨fun _ => ⟨vin4, ?_⟩, fun z => absurd rfl z⟩)
    refine s_Sheet_tellsMoves en hn (fun mv => ⟨fun _ => ?_, fun z => absurd z (by decide)⟩) (fun mv => ⟨fun z => absurd rfl z, fun _ => hb _ (by decide) (Or.inr ⟨u, hu, eu, Or.inr ⟨m, n, hn, en, Or.inl ⟨mv, rfl⟩⟩⟩)⟩)
    refine s_Main_isVehicle hI (fun j hj ej => ?_) (fun no => ?_)
    · exact hok u n j hu eu hj ej hn en m mv
    · exact hb _ (by decide) (Or.inr ⟨u, hu, eu, Or.inr ⟨m, n, hn, en, Or.inr ⟨mv, no, rfl⟩⟩⟩)
  · exact ⟨fun z => absurd rfl z, fun _ => hb _ (by decide) (Or.inl ⟨no, rfl⟩)⟩
theorem and1 (z : Int32) (h : z = 0 ∨ z = 1) : z &&& 1 = z ∧ z &&& 0 = 0 := by
  rcases h with rfl | rfl <;> decide
theorem s_Model_sheetRows {E : XE} {d u n : Nat} {x1 x2 : Int32} {s : SN} {H : HH} {Q : Int32 → HH → Prop} (hI : INV H s) (hu : u < 4) (eu : x1 = nI u) (hn : n ≤ 40) (en : H 16 u 2 = nI n) (hm : ¬ H 16 u 1 = -1)
    (h1 : mvV (H 17 u) n → (∃ j, j < s.nv ∧ x2 = nI j) → Q 0 H) (h2 : mvV (H 17 u) n → (∀ j, j < s.nv → ¬ x2 = nI j) → Q (-5) H) (h0 : ¬ mvV (H 17 u) n → Q (-2) H) : c_Model_sheetWrong E (d + 2) x1 x2 H Q := by
  obtain ⟨e40, -, ⟨n', hn', en', e41⟩, e42⟩ := hI.2.2.2.2.2.2.2.1 u hu
  have enn : n' = n := by rw [en', nI_eq (by omega) (by omega)] at en; exact en
  subst enn
  have vin4 : vp_in x1 4 := by rw [eu]; exact vp_in_nI hu (by omega)
  have cu : x1.toNatClampNeg = u := by rw [eu, nI_clamp (by omega)]
  refine l_Model_sheetWrong (s_Model_in3 (fun _ _ _ => ?_) (fun no => absurd eu (no u hu)))
  refine ⟨fun _ => ⟨vin4, ?_⟩, fun z => absurd z (by decide)⟩
  rw [cu, e40]
  refine ⟨fun _ => ⟨vin4, fun v4 e4 => ?_⟩, fun z => absurd z hm⟩
  rw [e41, show (3 : Int32) = nI 3 from rfl, xrem_nI (by omega) (by decide) (by decide)] at e4
  have e4' : v4 = if n' % 3 = 0 then 1 else 0 := by
    rw [e4]
    by_cases c : n' % 3 = 0
    · rw [if_pos c, if_pos (by rw [c]; rfl)]
    · rw [if_neg c, if_neg (fun z => c (by rw [show (0 : Int32) = nI 0 from rfl, nI_eq (by omega) (by omega)] at z; exact z))]
  -- r rows have been looked at
  refine ⟨fun z6 z7 H8 => ∃ r, 3 * r ≤ n' + 2 ∧ z7 = nI (3 * r) ∧ H8 = H ∧ ((z6 = 1 ∧ n' % 3 = 0 ∧ ∀ r2, r2 < r → (0 ≤ H 17 u (3 * r2) ∧ H 17 u (3 * r2) ≤ 1) ∧ (-1 ≤ H 17 u (3 * r2 + 1) ∧ H 17 u (3 * r2 + 1) ≤ 1) ∧ 1 ≤ H 17 u (3 * r2 + 2) ∧ H 17 u (3 * r2 + 2) ≤ 30) ∨ (z6 = 0 ∧ ¬ mvV (H 17 u) n')), fun _ z7 _ => 100 - z7.toNatClampNeg, ⟨0, by omega, rfl, rfl, ?_⟩, fun z6 z7 H8 hJ => ?_⟩
  · rw [e4']
    by_cases c : n' % 3 = 0
    · rw [if_pos c]; exact Or.inl ⟨rfl, c, fun r2 hr => absurd hr (Nat.not_lt_zero _)⟩
    · rw [if_neg c]; exact Or.inr ⟨rfl, fun z => c z.1⟩
  obtain ⟨r, hr, rfl, e8, hc⟩ := hJ
  rw [e8, e41]
  have i2 : nI (3 * r) + 2 = nI (3 * r + 2) := by rw [show (2 : Int32) = nI 2 from rfl, nI_add]
  have i3 : nI (3 * r) + 3 = nI (3 * (r + 1)) := by rw [show (3 : Int32) = nI 3 from rfl, nI_add]; rfl
  rw [i2, i3]
  refine ⟨vin4, fun q => ?_, fun q v12 e12 => ?_⟩
  · rw [nI_leI (by omega) (by omega)] at q
    rcases hc with ⟨rfl, c3, hv⟩ | ⟨rfl, hno⟩
    · have mv : mvV (H 17 u) n' := ⟨c3, fun r2 hr2 => hv r2 (by omega)⟩
      refine ⟨fun _ => ?_, fun z => absurd z (by decide)⟩
      exact s_Model_isVehicle hI (fun j hj ej => h1 mv ⟨j, hj, ej⟩) (fun no => h2 mv no)
    · exact ⟨fun z => absurd rfl z, fun _ => h0 hno⟩
  · rw [nI_leI (by omega) (by omega)] at q
    have e12' : v12 = nI (40 * u + 3 * r) := by rw [e12, eu, show (40 : Int32) = nI 40 from rfl, nI_mul, nI_add]
    subst e12'
    have j1 : nI (40 * u + 3 * r) + 1 = nI (40 * u + (3 * r + 1)) := by rw [nI_1]; rfl
    have j2 : nI (40 * u + 3 * r) + 2 = nI (40 * u + (3 * r + 2)) := by rw [show (2 : Int32) = nI 2 from rfl, nI_add]; rfl
    rw [j1, j2]
    have mu : 100 - (nI (3 * (r + 1))).toNatClampNeg < 100 - (nI (3 * r)).toNatClampNeg := by rw [nI_clamp (by omega), nI_clamp (by omega)]; omega
    have z01 : z6 = 0 ∨ z6 = 1 := by rcases hc with ⟨e, -⟩ | ⟨e, -⟩ <;> simp [e]
    have bad : ∀ (z : Int32), z = 0 → (¬ mvV (H 17 u) n') → (∃ r', 3 * r' ≤ n' + 2 ∧ nI (3 * (r + 1)) = nI (3 * r') ∧ H = H ∧ ((z = 1 ∧ n' % 3 = 0 ∧ ∀ r2, r2 < r' → (0 ≤ H 17 u (3 * r2) ∧ H 17 u (3 * r2) ≤ 1) ∧ (-1 ≤ H 17 u (3 * r2 + 1) ∧ H 17 u (3 * r2 + 1) ≤ 1) ∧ 1 ≤ H 17 u (3 * r2 + 2) ∧ H 17 u (3 * r2 + 2) ≤ 30) ∨ (z = 0 ∧ ¬ mvV (H 17 u) n'))) ∧ 100 - (nI (3 * (r + 1))).toNatClampNeg < 100 - (nI (3 * r)).toNatClampNeg :=
      fun z ez hno => ⟨⟨r + 1, by omega, rfl, rfl, Or.inr ⟨ez, hno⟩⟩, mu⟩
    refine ⟨vp_in_nI (by omega) (by omega), ?_⟩
    have g0 := e42 (3 * r) (by omega)
    have g1 := e42 (3 * r + 1) (by omega)
    have g2 := e42 (3 * r + 2) (by omega)
    rw [nI_clamp (by omega), nI_clamp (by omega), nI_clamp (by omega), g0]
    refine s_Model_in (fun a1 a2 => ⟨fun z => absurd z (by decide), fun _ => ⟨vp_in_nI (by omega) (by omega), ?_⟩⟩) (fun a => ⟨fun _ => bad _ (and1 z6 z01).2 (fun z => a (z.2 r (by omega)).1), fun z => absurd rfl z⟩)
    rw [g1]
    refine s_Model_in (fun b1 b2 => ⟨fun z => absurd z (by decide), fun _ => ⟨vp_in_nI (by omega) (by omega), ?_⟩⟩) (fun b => ⟨fun _ => bad _ (and1 z6 z01).2 (fun z => b (z.2 r (by omega)).2.1), fun z => absurd rfl z⟩)
    rw [g2]
    refine s_Model_in (fun c1 c2 v20 e20 => ?_) (fun c v20 e20 => ?_)
    · rw [if_neg (by decide), (and1 z6 z01).1] at e20
      refine ⟨⟨r + 1, by omega, rfl, rfl, ?_⟩, mu⟩
      rw [e20]
      rcases hc with ⟨e, c3, hv⟩ | ⟨e, hno⟩
      · refine Or.inl ⟨e, c3, fun r2 hr2 => ?_⟩
        by_cases e : r2 = r
        · rw [e]; exact ⟨⟨a1, a2⟩, ⟨b1, b2⟩, c1, c2⟩
        · exact hv r2 (by omega)
      · exact Or.inr ⟨e, hno⟩
    · rw [if_pos rfl, (and1 z6 z01).2] at e20
      exact bad v20 e20 (fun z => c (z.2 r (by omega)).2.2)
theorem s_Model_refusal {E : XE} {d : Nat} {x1 x2 r : Int32} {s : SN} {H : HH} {Q : Int32 → HH → Prop} (hI : INV H s) (hr : rfB H s x1 x2 r) (hq : ¬ r = 0 → Q r H) : c_Model_sheetWrong E (d + 2) x1 x2 H Q := by
  rcases hr with ⟨no, rfl⟩ | ⟨u, hu, eu, ⟨m, rfl⟩ | ⟨m, n, hn, en, h⟩⟩
  · exact l_Model_sheetWrong (s_Model_in3 (fun u hu e => absurd e (no u hu)) (fun _ => ⟨fun z => absurd rfl z, fun _ => hq (by decide)⟩))
  · obtain ⟨e40, -, -, -⟩ := hI.2.2.2.2.2.2.2.1 u hu
    have vin4 : vp_in x1 4 := by rw [eu]; exact vp_in_nI hu (by omega)
    have cu : x1.toNatClampNeg = u := by rw [eu, nI_clamp (by omega)]
    refine l_Model_sheetWrong (s_Model_in3 (fun _ _ _ => ?_) (fun no => absurd eu (no u hu)))
    refine ⟨fun _ => ⟨vin4, ?_⟩, fun z => absurd z (by decide)⟩
    rw [cu, e40]
    exact ⟨fun z => absurd m z, fun _ => hq (by decide)⟩
  · rcases h with ⟨mv, rfl⟩ | ⟨mv, no, rfl⟩
    · exact s_Model_sheetRows hI hu eu hn en m (fun z => absurd z mv) (fun z => absurd z mv) (fun _ => hq (by decide))
    · exact s_Model_sheetRows hI hu eu hn en m (fun _ z => by obtain ⟨j, hj, ej⟩ := z; exact absurd ej (no j hj)) (fun _ _ => hq (by decide)) (fun z => absurd mv z)
theorem s_Model_fine {E : XE} {d u n j : Nat} {x1 x2 : Int32} {s : SN} {H : HH} {Q : Int32 → HH → Prop} (hI : INV H s) (hu : u < 4) (eu : x1 = nI u) (hj : j < s.nv) (ej : x2 = nI j) (hn : n ≤ 40) (en : H 16 u 2 = nI n) (hm : ¬ H 16 u 1 = -1) (mv : mvV (H 17 u) n) (hq : Q 0 H) : c_Model_sheetWrong E (d + 2) x1 x2 H Q :=
  s_Model_sheetRows hI hu eu hn en hm (fun _ _ => hq) (fun _ no => absurd ej (no j hj)) (fun z => absurd mv z)
/-- told moves keep what every step keeps -/
theorem repF_pres {f : VV → Option VV} {P : VV → Prop} (hf : ∀ v v2, P v → f v = some v2 → P v2) : ∀ {n : Nat} {v : VV}, P v → P (repF f n v).2 := by
  intro n
  induction n with
  | zero => intro v h; exact h
  | succ n ih =>
    intro v h
    unfold repF
    cases hz : f v with
    | none => exact h
    | some v2 => exact ih (hf v v2 h hz)
theorem thrF_pres {st : VV → Int32 → Int32 → Option VV} {mv : Nat → Int32} {P : VV → Prop} (hf : ∀ v a b v2, P v → st v a b = some v2 → P v2) : ∀ {n r : Nat} {v : VV}, P v → P (thrF st mv n r v).2 := by
  intro n
  induction n with
  | zero => intro r v h; exact h
  | succ n ih =>
    intro r v h
    unfold thrF
    have hp := repF_pres (f := fun v => st v (mv (3 * r)) (mv (3 * r + 1))) (P := P) (fun v v2 a b => hf v _ _ v2 a b) (n := (mv (3 * r + 2)).toNatClampNeg) h
    cases hz : repF (fun v => st v (mv (3 * r)) (mv (3 * r + 1))) (mv (3 * r + 2)).toNatClampNeg v with
    | mk b v2 =>
      rw [hz] at hp
      cases b with
      | true => exact ih hp
      | false => exact hp
theorem thrF_cong {st : VV → Int32 → Int32 → Option VV} {mv mv2 : Nat → Int32} : ∀ {n r : Nat} {v : VV}, (∀ i, 3 * r ≤ i → i < 3 * (r + n) → mv i = mv2 i) → thrF st mv n r v = thrF st mv2 n r v := by
  intro n
  induction n with
  | zero => intro r v _; rfl
  | succ n ih =>
    intro r v h
    unfold thrF
    rw [h (3 * r) (by omega) (by omega), h (3 * r + 1) (by omega) (by omega), h (3 * r + 2) (by omega) (by omega)]
    cases repF (fun v => st v (mv2 (3 * r)) (mv2 (3 * r + 1))) (mv2 (3 * r + 2)).toNatClampNeg v with
    | mk b v2 =>
      cases b with
      | true => exact ih (fun i a b => h i (by omega) (by omega))
      | false => rfl
theorem stF_k {lw : LW} {wd op : Int32} {v v2 : VV} {way w : Int32} (h : stF lw wd op v way w = some v2) : v2 0 = v 0 ∧ v2 1 = v 1 ∧ ∀ k, 7 ≤ k → v2 k = v k := by
  have e := stF_gs h
  rw [e]
  unfold gsF
  obtain ⟨g0, g1, -, -⟩ := goV_k v (v 2 + shF (v 3) way) ((v 3 + tuF (v 0) (v 1) way w) &&& 15) way (lw 1 (v 1) 0 (v 3) (v 2) wd (if w = 0 then 0 else 1))
  refine ⟨g0, g1, fun k hk => ?_⟩
  unfold goV
  rw [if_neg (by omega), if_neg (by omega), if_neg (by omega), if_neg (by omega), if_neg (by omega)]
theorem thr_k {lw : LW} {wd op : Int32} {mv : Nat → Int32} {n r : Nat} {v : VV} : ∀ k, 7 ≤ k → (thrF (stF lw wd op) mv n r v).2 k = v k :=
  thrF_pres (P := fun w => ∀ k, 7 ≤ k → w k = v k) (fun w a b w2 h e k hk => by rw [(stF_k e).2.2 k hk]; exact h k hk) (fun _ _ => rfl)
/-- what told moves come to -/
theorem s_cl_thr {E : XE} {d t wdn u n : Nat} {op : Int32} {v : VV} {lw : LW} {H : HH} {Q : Int32 → HH → Prop} (ht : thk H t wdn op v lw) (hm : mvOK H u n)
    (hq : ∀ H1, rat H H1 (thrF (stF lw (nI wdn) op) (H 17 u) n 0 v).2 → scF H H1 → Q (thrF (stF lw (nI wdn) op) (H 17 u) n 0 v).1 H1) : c_Ride_through E (d + 5) u H Q := by
  obtain ⟨a, b, c, e, f⟩ := ht
  have ra : rat H H v := by rw [← e]; exact rat.self
  refine s_Ride_through a hm ra (fun r v2 h H1 r1 => ?_)
  rw [f, b, c] at h
  have h1 : r = (thrF (stF lw (nI wdn) op) (H 17 u) n 0 v).1 := by rw [h]
  have h2 : v2 = (thrF (stF lw (nI wdn) op) (H 17 u) n 0 v).2 := by rw [h]
  rw [h1]
  rw [h2] at r1
  exact hq H1 r1 (r1.sc (fun k hk => by rw [thr_k k hk, e]))
theorem mv_num {f : Nat → Int32} {n : Nat} (h : mvV f n) (hn : n ≤ 40) : ∃ n3, n3 < 14 ∧ n = 3 * n3 ∧ ∀ r, r < n3 → (f (3 * r + 1) = -1 ∨ f (3 * r + 1) = 0 ∨ f (3 * r + 1) = 1) ∧ 1 ≤ f (3 * r + 2) ∧ f (3 * r + 2) ≤ 30 := by
  have h3 := h.1
  refine ⟨n / 3, by omega, by omega, fun r hr => ?_⟩
  obtain ⟨-, b, c⟩ := h.2 r (by omega)
  exact ⟨whl_of b.1 b.2, c⟩
theorem m_judge {E : XE} {d d2 : Nat} {x1 x2 : Int32} {s : SN} {H : HH} (hI : INV H s) : c_Main_judge E (d + 20) x1 x2 H (fun r H1 => c_Model_judge E (d2 + 20) x1 x2 H1 (eqI r)) := by
  have nv4 : s.nv ≤ 4 := hI.1.1
  refine l_Main_judge (s_Main_refusal hI (fun r hr hb => ?_) (fun u n j hu eu hj ej hn en hm mv => ?_))
  · refine ⟨fun z => absurd z hr, fun _ => ?_⟩
    exact l_Model_judge (s_Model_refusal hI hb (fun _ => ⟨fun _ => eqI_sc hI scF.rf rfl, fun z => absurd z hr⟩))
  · refine ⟨fun _ => ?_, fun z => absurd rfl z⟩
    obtain ⟨n3, hn3, e3, hrow⟩ := mv_num mv hn
    subst ej
    refine s_Main_think hI hj (fun H3 s3 r3 k0 k1 k8 => ⟨by rw [eu]; exact vp_in_nI hu (by omega), ?_⟩)
    rw [eu, nI_clamp (by omega)]
    have t3 := thk_of hI s3 r3 k0 k1 k8
    have e17 : H3 17 u = H 17 u := by funext k; exact s3 17 u k (by unfold scr; omega)
    have mo : mvOK H3 u n3 := ⟨hn3, by rw [s3 16 u 2 (by unfold scr; omega), en, e3], fun r hr => by rw [e17]; exact (hrow r hr).2⟩
    refine s_cl_thr t3 mo (fun H4 r4 s4 => ?_)
    have s4' := s3.tr s4
    have hI4 := hI.sc s4'
    obtain ⟨f40, -, ⟨n', hn', en', f41⟩, f42⟩ := hI4.2.2.2.2.2.2.2.1 u hu
    have f16 : H4 16 u 2 = nI n := by rw [s4' 16 u 2 (by unfold scr; omega)]; exact en
    have f17 : H4 17 u = H 17 u := by funext k; exact s4' 17 u k (by unfold scr; omega)
    refine l_Model_judge (s_Model_fine hI4 hu rfl hj rfl hn f16 (by rw [s4' 16 u 1 (by unfold scr; omega)]; exact hm) (by rw [f17]; exact mv) ⟨fun z => absurd rfl z, fun _ => ?_⟩)
    have mm : mmOK H4 u n3 := by
      refine ⟨hn3, ?_, fun r hr => ?_⟩
      · rw [f41, ← en', f16, e3]
      · rw [f42 _ (by omega), f42 _ (by omega), f17]; exact hrow r hr
    refine s_Model_firstWrong hI4.ml (by omega) hu mm (by rw [INV.vM_sc s4']; exact (hI.2.2.2.2.2.1 j hj).2.2.2.2.2) (fun r v2 h H5 f5 k5 => ?_)
    refine eqI_sc hI (s4'.tr (f5.sc (by decide))) ?_
    rw [think_lw hI s4', hI4.2.2.1.2.1, hI4.2.2.1.2.2.1, INV.vM_sc s4'] at h
    have ec : thrF (stF (lwH H s) (nI s.wd) (nI s.op)) (fun i => H4 42 0 (40 * u + i)) n3 0 (vM H j) = thrF (stF (lwH H s) (nI s.wd) (nI s.op)) (H3 17 u) n3 0 (vM H j) := thrF_cong (fun i _ hi => by rw [f42 i (by omega), f17, e17])
    rw [ec] at h
    rw [h]
theorem m_ends {E : XE} {d d2 : Nat} {x1 x2 x3 : Int32} {s : SN} {H : HH} (hI : INV H s) : c_Main_ends E (d + 20) x1 x2 x3 H (fun r H1 => c_Model_ends E (d2 + 20) x1 x2 x3 H1 (eqI r)) := by
  have nv4 : s.nv ≤ 4 := hI.1.1
  refine l_Main_ends (s_Main_refusal hI (fun r hr hb => ?_) (fun u n j hu eu hj ej hn en hm mv => ?_))
  · refine ⟨fun z => absurd z hr, fun _ => ?_⟩
    exact l_Model_ends (s_Model_refusal hI hb (fun _ => ⟨fun z => absurd z hr, fun _ => eqI_sc hI scF.rf rfl⟩))
  · refine ⟨fun _ => ?_, fun z => absurd rfl z⟩
    obtain ⟨n3, hn3, e3, hrow⟩ := mv_num mv hn
    subst ej
    refine s_Main_think hI hj (fun H3 s3 r3 k0 k1 k8 => ⟨by rw [eu]; exact vp_in_nI hu (by omega), ?_⟩)
    rw [eu, nI_clamp (by omega)]
    have t3 := thk_of hI s3 r3 k0 k1 k8
    have e17 : H3 17 u = H 17 u := by funext k; exact s3 17 u k (by unfold scr; omega)
    have mo : mvOK H3 u n3 := ⟨hn3, by rw [s3 16 u 2 (by unfold scr; omega), en, e3], fun r hr => by rw [e17]; exact (hrow r hr).2⟩
    refine s_cl_thr t3 mo (fun H4 r4 s4 => ?_)
    have s4' := s3.tr s4
    have hI4 := hI.sc s4'
    obtain ⟨f40, -, ⟨n', hn', en', f41⟩, f42⟩ := hI4.2.2.2.2.2.2.2.1 u hu
    have f16 : H4 16 u 2 = nI n := by rw [s4' 16 u 2 (by unfold scr; omega)]; exact en
    have f17 : H4 17 u = H 17 u := by funext k; exact s4' 17 u k (by unfold scr; omega)
    have v8 : H4 3 8 = (thrF (stF (lwH H s) (nI s.wd) (nI s.op)) (H3 17 u) n3 0 (vM H j)).2 := r4.v8
    -- the reference's side: number w is told
    have md : ∀ r : Int32, (∀ w, w < 4 → x3 = nI w → r = (thrF (stF (lwH H s) (nI s.wd) (nI s.op)) (H3 17 u) n3 0 (vM H j)).2 (w + 2)) → ((∀ w, w < 4 → ¬ x3 = nI w) → r = -7) → c_Model_ends E (d2 + 20) (nI u) (nI j) x3 H4 (eqI r) := by
      intro r hw hno
      refine l_Model_ends (s_Model_fine hI4 hu rfl hj rfl hn f16 (by rw [s4' 16 u 1 (by unfold scr; omega)]; exact hm) (by rw [f17]; exact mv) ⟨fun _ => ?_, fun z => absurd rfl z⟩)
      have mm : mmOK H4 u n3 := by
        refine ⟨hn3, ?_, fun r hr => ?_⟩
        · rw [f41, ← en', f16, e3]
        · rw [f42 _ (by omega), f42 _ (by omega), f17]; exact hrow r hr
      refine s_Model_in3 (fun w hw4 ew => ⟨fun _ => ?_, fun z => absurd z (by decide)⟩) (fun no => ⟨fun z => absurd rfl z, fun _ => eqI_sc hI s4' (hno no).symm⟩)
      refine s_Model_firstWrong hI4.ml (by omega) hu mm (by rw [INV.vM_sc s4']; exact (hI.2.2.2.2.2.1 j hj).2.2.2.2.2) (fun r2 v2 h H5 f5 k5 => ?_)
      rw [ew]
      refine ⟨vp_in_nI (by omega) (by omega), eqI_sc hI (s4'.tr (f5.sc (by decide))) ?_⟩
      rw [think_lw hI s4', hI4.2.2.1.2.1, hI4.2.2.1.2.2.1, INV.vM_sc s4'] at h
      have ec : thrF (stF (lwH H s) (nI s.wd) (nI s.op)) (fun i => H4 42 0 (40 * u + i)) n3 0 (vM H j) = thrF (stF (lwH H s) (nI s.wd) (nI s.op)) (H3 17 u) n3 0 (vM H j) := thrF_cong (fun i _ hi => by rw [f42 i (by omega), f17, e17])
      rw [ec] at h
      rw [nI_clamp (by omega), k5 w (by omega), hw w hw4 ew, h]
    refine ⟨fun e => ?_, fun e => ?_, fun e => ?_, fun e => ?_, fun n0 n1 n2 n3' => ?_⟩
    · refine md _ (fun w hw ew => ?_) (fun no => absurd e (no 0 (by omega)))
      have : w = 0 := by rw [e, show (0 : Int32) = nI 0 from rfl, nI_eq (by omega) (by omega)] at ew; exact ew.symm
      subst this; rw [v8]
    · refine md _ (fun w hw ew => ?_) (fun no => absurd e (no 1 (by omega)))
      have : w = 1 := by rw [e, show (1 : Int32) = nI 1 from rfl, nI_eq (by omega) (by omega)] at ew; exact ew.symm
      subst this; rw [v8]
    · refine md _ (fun w hw ew => ?_) (fun no => absurd e (no 2 (by omega)))
      have : w = 2 := by rw [e, show (2 : Int32) = nI 2 from rfl, nI_eq (by omega) (by omega)] at ew; exact ew.symm
      subst this; rw [v8]
    · refine md _ (fun w hw ew => ?_) (fun no => absurd e (no 3 (by omega)))
      have : w = 3 := by rw [e, show (3 : Int32) = nI 3 from rfl, nI_eq (by omega) (by omega)] at ew; exact ew.symm
      subst this; rw [v8]
    · refine md _ (fun w hw ew => ?_) (fun _ => rfl)
      rcases (show w = 0 ∨ w = 1 ∨ w = 2 ∨ w = 3 by omega) with e | e | e | e
      · subst e; exact absurd ew n0
      · subst e; exact absurd ew n1
      · subst e; exact absurd ew n2
      · subst e; exact absurd ew n3'
