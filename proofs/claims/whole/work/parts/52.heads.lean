/-! SPECS 20: the headings that are reached (the class). -/
/-- bits by a set -/
def bsF (s : Nat → Bool) : Nat → Int32
  | 0 => 0
  | n + 1 => if s n = true then bsF s n ||| (1 <<< (nI n &&& 31)) else bsF s n
theorem bsF_cong {s s2 : Nat → Bool} : ∀ {n : Nat}, (∀ k, k < n → s k = s2 k) → bsF s n = bsF s2 n := by
  intro n
  induction n with
  | zero => intro _; rfl
  | succ n ih => intro h; unfold bsF; rw [ih (fun k hk => h k (by omega)), h n (by omega)]
theorem bsF_or {s : Nat → Bool} {h : Nat} : ∀ {n : Nat}, h < n → bsF s n ||| (1 <<< (nI h &&& 31)) = bsF (fun k => if k = h then true else s k) n := by
  intro n
  induction n with
  | zero => intro q; omega
  | succ n ih =>
    intro q
    unfold bsF
    by_cases e : h = n
    · subst e
      rw [if_pos (show (if h = h then true else s h) = true by rw [if_pos rfl]), bsF_cong (s := fun k => if k = h then true else s k) (s2 := s) (fun k hk => by rw [if_neg (by omega)])]
      by_cases c : s h = true
      · rw [if_pos c, Int32.or_assoc, Int32.or_self]
      · rw [if_neg c]
    · have e2 : (if n = h then true else s n) = s n := by rw [if_neg (fun q => e q.symm)]
      rw [e2, ← ih (by omega)]
      by_cases c : s n = true
      · rw [if_pos c, if_pos c, Int32.or_assoc, Int32.or_comm (1 <<< (nI n &&& 31)), ← Int32.or_assoc]
      · rw [if_neg c, if_neg c]
/-- by n steps from a place and heading to another -/
def rchN (G : GR) : Nat → Nat → Nat → Nat → Nat → Prop
  | 0, p, h, p2, h2 => p = p2 ∧ h = h2
  | n + 1, p, h, p2, h2 => ∃ c q, c < 6 ∧ nxt G.tu (nI G.wdn) (nI (c / 3)) (nI (c % 3) - 1) p h = some q ∧ G.ft q.1 q.2 ∧ rchN G n q.1 q.2 p2 h2
theorem rchN_snoc {G : GR} {c : Nat} {q : Nat × Nat} (hc : c < 6) : ∀ {n p h p2 h2 : Nat}, rchN G n p h p2 h2 → nxt G.tu (nI G.wdn) (nI (c / 3)) (nI (c % 3) - 1) p2 h2 = some q → G.ft q.1 q.2 → rchN G (n + 1) p h q.1 q.2 := by
  intro n
  induction n with
  | zero =>
    rintro p h p2 h2 ⟨e1, e2⟩ h3 h4
    subst e1; subst e2
    exact ⟨c, q, hc, h3, h4, rfl, rfl⟩
  | succ n ih =>
    rintro p h p2 h2 ⟨c2, q2, a1, a2, a3, a4⟩ h3 h4
    exact ⟨c2, q2, a1, a2, a3, ih a4 h3 h4⟩
theorem way_rch {G : GR} {g hd : Nat} : ∀ {n p h l : Nat}, (∃ k, wayS G g hd n p h l k) ↔ ∃ p2, rchN G n p h p2 hd := by
  intro n
  induction n with
  | zero =>
    intro p h l
    constructor
    · rintro ⟨k, e1, e2⟩; exact ⟨p, rfl, e1⟩
    · rintro ⟨p2, e1, e2⟩; exact ⟨0, e2, rfl⟩
  | succ n ih =>
    intro p h l
    constructor
    · rintro ⟨k, way, i, p2, h2, k2, a1, a2, a3, a4, a5, a6⟩
      obtain ⟨p3, hp3⟩ := (ih (l := way)).mp ⟨k2, a5⟩
      exact ⟨p3, 3 * way + i, (p2, h2), by omega, by rw [show (3 * way + i) / 3 = way by omega, show (3 * way + i) % 3 = i by omega]; exact a3, a4, hp3⟩
    · rintro ⟨p3, c, q, a1, a2, a3, a4⟩
      obtain ⟨k2, hk2⟩ := (ih (l := c / 3)).mpr ⟨p3, a4⟩
      exact ⟨_, c / 3, c % 3, q.1, q.2, k2, by omega, Nat.mod_lt _ (by decide), a2, a3, hk2, rfl⟩
/-- what has been seen (V), what has been found, in its row (L) -/
def hrH (H : HH) (V : Nat → Bool) (L : List Nat) : Prop := (∀ x, x < 1952 → H 23 0 x = if V x = true then 0 else 2147483647) ∧ ∀ k x, L[k]? = some x → H 25 0 k = nI x
def hrP (G : GR) (p0 h0 : Nat) (V : Nat → Bool) (L : List Nat) : Prop :=
  (∀ x ∈ L, V x = true ∧ x < 1952 ∧ x % 2 = 0 ∧ x / 32 ≤ G.wdn ∧ ∃ n, rchN G n p0 h0 (x / 32) (x / 2 % 16)) ∧
  L.length ≤ cntF V 1952 ∧ ∀ x, V x = true → x ∈ L ∨ ¬ G.ft (x / 32) (x / 2 % 16)
/-- all steps from (p, h) by the first c choices have been seen -/
def seenF (G : GR) (V : Nat → Bool) (p h c : Nat) : Prop := ∀ c2, c2 < c → ∀ q, nxt G.tu (nI G.wdn) (nI (c2 / 3)) (nI (c2 % 3) - 1) p h = some q → V (sno q.1 q.2 0) = true
theorem s_Search_addBehind {E : XE} {d t wdn p h p0 h0 : Nat} {H0 H : HH} {V0 : Nat → Bool} {L0 : List Nat} {Q : Int32 → HH → Prop} (hr : rdOK H0 t) (hw : H0 2 2 0 = nI wdn) (hw61 : wdn < 61) (hp : p ≤ wdn) (hh : h < 16) (hf0 : hfr [14, 20, 23, 25] H0 H) (hr0 : ∃ n, rchN (grH H0 t wdn) n p0 h0 p h) (hH : hrH H V0 L0) (hP : hrP (grH H0 t wdn) p0 h0 V0 L0)
    (hq : ∀ H1 V L, hfr [14, 20, 23, 25] H0 H1 → hrH H1 V (L0 ++ L) → hrP (grH H0 t wdn) p0 h0 V (L0 ++ L) → (∀ x, V0 x = true → V x = true) → seenF (grH H0 t wdn) V p h 6 → Q (nI (L0 ++ L).length) H1) : c_Search_addBehind E (d + 4) (nI p) (nI h) (nI L0.length) H Q := by
  have wi : ∀ i, i < 4 → (1 < nI i - 1 ↔ i = 3) ∧ nI i - 1 + 1 = nI (i + 1) - 1 := by decide +kernel
  have wy : ∀ n, n < 3 → (1 < nI n ↔ n = 2) := by decide +kernel
  have mu1 : ∀ n, n < 2 → 2 - (nI n + 1).toNatClampNeg < 2 - (nI n).toNatClampNeg := by decide +kernel
  have mu2 : ∀ i, i < 3 → 3 - (nI i - 1 + 1 + 1).toNatClampNeg < 3 - (nI i - 1 + 1).toNatClampNeg := by decide +kernel
  have gd : ∀ c, nxt (grH H0 t wdn).tu (nI (grH H0 t wdn).wdn) (nI (c / 3)) (nI (c % 3) - 1) p h = nxt (tuR H0) (nI wdn) (nI (c / 3)) (nI (c % 3) - 1) p h := fun c => rfl
  have gft : ∀ a b, (grH H0 t wdn).ft a b = fitR H0 t (nI a) (nI b) := fun a b => rfl
  have gw : (grH H0 t wdn).wdn = wdn := rfl
  generalize hG : grH H0 t wdn = G at *
  refine l_Search_addBehind ⟨fun z2 z3 H4 => ∃ n V L, n ≤ 2 ∧ z3 = nI n ∧ z2 = nI (L0 ++ L).length ∧ hfr [14, 20, 23, 25] H0 H4 ∧ hrH H4 V (L0 ++ L) ∧ hrP G p0 h0 V (L0 ++ L) ∧ (∀ x, V0 x = true → V x = true) ∧ seenF G V p h (3 * n), fun _ z3 _ => 2 - z3.toNatClampNeg, ⟨0, V0, [], by omega, rfl, by rw [List.append_nil], hf0, by rw [List.append_nil]; exact hH, by rw [List.append_nil]; exact hP, fun _ q => q, fun c2 q => absurd q (Nat.not_lt_zero _)⟩, fun z2 z3 H4 hI => ?_⟩
  obtain ⟨n, V, L, hn, rfl, rfl, f4, k4, p4, m4, s4⟩ := hI
  refine ⟨fun q => ?_, fun q => s_Ride_shift ?_⟩
  · have e : n = 2 := (wy n (by omega)).mp q
    subst e
    exact hq H4 V L f4 k4 p4 m4 s4
  · have hn2 : n < 2 := by
      rcases Nat.lt_or_ge n 2 with y | y
      · exact y
      · exact absurd ((wy n (by omega)).mpr (by omega)) q
    have skip : (nI p + shF (nI h) (nI n) < 0 ∨ ¬ nI p + shF (nI h) (nI n) ≤ nI wdn) → (∃ n' V' L', n' ≤ 2 ∧ nI n + 1 = nI n' ∧ nI (L0 ++ L).length = nI (L0 ++ L').length ∧ hfr [14, 20, 23, 25] H0 H4 ∧ hrH H4 V' (L0 ++ L') ∧ hrP G p0 h0 V' (L0 ++ L') ∧ (∀ x, V0 x = true → V' x = true) ∧ seenF G V' p h (3 * n')) ∧ 2 - (nI n + 1).toNatClampNeg < 2 - (nI n).toNatClampNeg := by
      intro cc
      refine ⟨⟨n + 1, V, L, hn2, nI_1 n, rfl, f4, k4, p4, m4, fun c2 hc2 q hq2 => ?_⟩, mu1 n hn2⟩
      rcases Nat.lt_or_ge c2 (3 * n) with y | y
      · exact s4 c2 y q hq2
      · rw [gd] at hq2
        have e3 : c2 / 3 = n := by omega
        rw [e3] at hq2
        unfold nxt at hq2
        rw [if_pos cc] at hq2
        cases hq2
    rw [f4 2 (by decide), hw]
    refine ⟨fun c1 => skip (Or.inl c1), fun c1 => ⟨fun c2 => ?_, fun c2 => skip (Or.inr c2)⟩⟩
    refine ⟨fun z8 z9 H10 => ∃ i V L, i ≤ 3 ∧ z9 = nI i - 1 ∧ z8 = nI (L0 ++ L).length ∧ hfr [14, 20, 23, 25] H0 H10 ∧ hrH H10 V (L0 ++ L) ∧ hrP G p0 h0 V (L0 ++ L) ∧ (∀ x, V0 x = true → V x = true) ∧ seenF G V p h (3 * n + i), fun _ z9 _ => 3 - (z9 + 1).toNatClampNeg, ⟨0, V, L, by omega, by decide, rfl, f4, k4, p4, m4, s4⟩, fun z8 z9 H10 hI2 => ?_⟩
    obtain ⟨i, V, L, hi, rfl, rfl, f10, k10, p10, m10, s10⟩ := hI2
    refine ⟨fun q7 => ?_, fun q7 => ?_⟩
    · have e : i = 3 := (wi i (by omega)).1.mp q7
      subst e
      exact ⟨⟨n + 1, V, L, hn2, nI_1 n, rfl, f10, k10, p10, m10, s10⟩, mu1 n hn2⟩
    · have hi3 : i < 3 := by
        rcases Nat.lt_or_ge i 3 with y | y
        · exact y
        · exact absurd ((wi i (by omega)).1.mpr (by omega)) q7
      have nxI : nI i - 1 + 1 = nI (i + 1) - 1 := (wi i (by omega)).2
      obtain ⟨qq, hqq⟩ : ∃ qq, nxt (tuR H0) (nI wdn) (nI n) (nI i - 1) p h = some qq := by
        unfold nxt
        rw [if_neg (fun z => z.elim c1 (fun y => y c2))]
        exact ⟨_, rfl⟩
      obtain ⟨n1, n2, n3, n4⟩ := nxt_some hw61 hqq
      have gq : nxt G.tu (nI G.wdn) (nI ((3 * n + i) / 3)) (nI ((3 * n + i) % 3) - 1) p h = some qq := by
        rw [gd, show (3 * n + i) / 3 = n by omega, show (3 * n + i) % 3 = i by omega]; exact hqq
      refine s_Ride_turnedBy ?_
      have et : tuF (H10 3 8 0) (H10 3 8 1) (nI n) (nI i - 1) = tuR H0 (nI n) (nI i - 1) := by rw [f10 3 (by decide)]; rfl
      rw [et, n3, n4]
      refine s_Search_state (b := 0) (by omega) n2 (by decide) ?_
      have h52 : sno qq.1 qq.2 0 < 1952 := by unfold sno; omega
      obtain ⟨d1, d2, d3⟩ := sno_d (p := qq.1) (l := 0) n2 (by decide)
      have vin : vp_in (nI (sno qq.1 qq.2 0)) 1952 := vp_in_nI h52 (by omega)
      -- one more choice is done
      have fin : ∀ H17 V' L', hfr [14, 20, 23, 25] H0 H17 → hrH H17 V' (L0 ++ L') → hrP G p0 h0 V' (L0 ++ L') → (∀ x, V x = true → V' x = true) → V' (sno qq.1 qq.2 0) = true → (∃ i' V L, i' ≤ 3 ∧ nI i - 1 + 1 = nI i' - 1 ∧ nI (L0 ++ L').length = nI (L0 ++ L).length ∧ hfr [14, 20, 23, 25] H0 H17 ∧ hrH H17 V (L0 ++ L) ∧ hrP G p0 h0 V (L0 ++ L) ∧ (∀ x, V0 x = true → V x = true) ∧ seenF G V p h (3 * n + i')) ∧ 3 - (nI i - 1 + 1 + 1).toNatClampNeg < 3 - (nI i - 1 + 1).toNatClampNeg := by
        intro H17 V' L' f17 k17 p17 m17 hv
        refine ⟨⟨i + 1, V', L', hi3, nxI, rfl, f17, k17, p17, fun x hx => m17 x (m10 x hx), fun c2 hc2 q hq2 => ?_⟩, mu2 i hi3⟩
        rcases Nat.lt_or_ge c2 (3 * n + i) with y | y
        · exact m17 _ (s10 c2 y q hq2)
        · have e : c2 = 3 * n + i := by omega
          subst e
          rw [gq] at hq2
          cases hq2
          exact hv
      have v23 := k10.1 _ h52
      refine ⟨vin, fun hv => ?_, fun hv => ⟨fun hlt => ⟨vin, fun H15 e15 => ?_⟩, fun hlt => ?_⟩⟩
      · rw [nI_clamp (by omega), v23] at hv
        have hV : V (sno qq.1 qq.2 0) = true := by
          cases hz : V (sno qq.1 qq.2 0) with
          | true => rfl
          | false => rw [hz] at hv; exact absurd rfl hv
        exact fin H10 V L f10 k10 p10 (fun _ q => q) hV
      · rw [nI_clamp (by omega), v23] at hv
        have hV : V (sno qq.1 qq.2 0) = false := by
          cases hz : V (sno qq.1 qq.2 0) with
          | false => rfl
          | true => rw [hz, if_pos rfl] at hv; exact absurd hv (by decide)
        rw [nI_clamp (by omega)] at e15
        have f15 : hfr [14, 20, 23, 25] H0 H15 := by rw [e15]; exact f10.hu (by decide)
        have hc := cntF_set (w := V) h52 hV
        have hc2 := cntF_le (fun k => if k = sno qq.1 qq.2 0 then true else V k) 1952
        have hll := p10.2.1
        have w15 : ∀ x, x < 1952 → H15 23 0 x = if (if x = sno qq.1 qq.2 0 then true else V x) = true then 0 else 2147483647 := by
          intro x hx
          rw [e15]
          by_cases e : x = sno qq.1 qq.2 0
          · rw [if_pos e, e, hu_at]; rfl
          · rw [if_neg e, hu_k _ _ e]; exact k10.1 x hx
        have r15 : rdOK H15 t := by
          unfold rdOK
          rw [f15 12 (by decide), f15 13 (by decide), f15 19 (by decide)]
          exact hr
        have ft15 : fitR H15 t = fitR H0 t := by
          funext a b
          exact fitR_k (f15 12 (by decide)) (f15 13 (by decide)) (f15 3 (by decide)) (f15 2 (by decide))
        refine s_Ride_fits r15 (fun hf H16 f16 => ?_) (fun hf H16 f16 => ?_)
        · rw [ft15] at hf
          refine ⟨fun _ => ⟨vp_in_nI (by omega) (by omega), fun H18 e18 => ?_⟩, fun z => absurd z (by decide)⟩
          rw [nI_clamp (by omega)] at e18
          have f18 : hfr [14, 20, 23, 25] H0 H18 := by rw [e18]; exact (f15.tr (f16.wk (by decide))).hu (by decide)
          have el : nI (L0 ++ L).length + 1 = nI (L0 ++ (L ++ [sno qq.1 qq.2 0])).length := by rw [nI_1, ← List.append_assoc, List.length_append (bs := [sno qq.1 qq.2 0])]; rfl
          rw [el]
          refine fin H18 (fun k => if k = sno qq.1 qq.2 0 then true else V k) (L ++ [sno qq.1 qq.2 0]) f18 ⟨fun x hx => ?_, fun k x hk => ?_⟩ ⟨fun x hx => ?_, ?_, fun x hx => ?_⟩ (fun x hx => by by_cases e : x = sno qq.1 qq.2 0 <;> simp [e, hx]) (by simp)
          · rw [e18, hu_kd _ _ _ _ (by decide), f16 23 (by decide)]; exact w15 x hx
          · rw [← List.append_assoc] at hk
            rcases Nat.lt_or_ge k (L0 ++ L).length with y | y
            · rw [List.getElem?_append_left y] at hk
              rw [e18, hu_k _ _ (by omega), f16 25 (by decide), e15, hu_kd _ _ _ _ (by decide)]
              exact k10.2 k x hk
            · rw [List.getElem?_append_right y] at hk
              have ek : k = (L0 ++ L).length := by
                rcases Nat.eq_or_lt_of_le y with e | e
                · exact e.symm
                · rw [List.getElem?_eq_none (by simp only [List.length_singleton]; omega)] at hk; cases hk
              rw [ek, Nat.sub_self] at hk
              simp only [List.getElem?_cons_zero, Option.some.injEq] at hk
              rw [e18, ek, hu_at, hk]
          · rw [← List.append_assoc] at hx
            rcases List.mem_append.mp hx with y | y
            · obtain ⟨a1, a2⟩ := p10.1 x y
              refine ⟨?_, a2⟩
              by_cases e : x = sno qq.1 qq.2 0
              · simp [e]
              · simp [e, a1]
            · simp only [List.mem_singleton] at y
              subst y
              refine ⟨by simp, h52, by omega, by rw [d1, gw]; exact n1, ?_⟩
              obtain ⟨n9, h9⟩ := hr0
              rw [d1, d2]
              exact ⟨n9 + 1, rchN_snoc (by omega) h9 gq (by rw [gft]; exact hf)⟩
          · rw [← List.append_assoc, List.length_append, hc]
            simp only [List.length_singleton]
            omega
          · rw [← List.append_assoc]
            by_cases e : x = sno qq.1 qq.2 0
            · left; rw [e]; simp
            · simp only [if_neg e] at hx
              rcases p10.2.2 x hx with y | y
              · left; exact List.mem_append_left _ y
              · exact Or.inr y
        · rw [ft15] at hf
          refine ⟨fun z => absurd rfl z, fun _ => ?_⟩
          have f18 : hfr [14, 20, 23, 25] H0 H16 := f15.tr (f16.wk (by decide))
          refine fin H16 (fun k => if k = sno qq.1 qq.2 0 then true else V k) L f18 ⟨fun x hx => ?_, fun k x hk => ?_⟩ ⟨fun x hx => ?_, ?_, fun x hx => ?_⟩ (fun x hx => by by_cases e : x = sno qq.1 qq.2 0 <;> simp [e, hx]) (by simp)
          · rw [f16 23 (by decide)]; exact w15 x hx
          · rw [f16 25 (by decide), e15, hu_kd _ _ _ _ (by decide)]
            exact k10.2 k x hk
          · obtain ⟨a1, a2⟩ := p10.1 x hx
            refine ⟨?_, a2⟩
            by_cases e : x = sno qq.1 qq.2 0
            · simp [e]
            · simp [e, a1]
          · rw [hc]; omega
          · by_cases e : x = sno qq.1 qq.2 0
            · right; rw [e, d1, d2, gft]; exact hf
            · simp only [if_neg e] at hx
              exact p10.2.2 x hx
      · rw [nI_clamp (by omega), v23] at hv
        have hV : V (sno qq.1 qq.2 0) = false := by
          cases hz : V (sno qq.1 qq.2 0) with
          | false => rfl
          | true => rw [hz, if_pos rfl] at hv; exact absurd hv (by decide)
        have hc := cntF_set (w := V) h52 hV
        have hc2 := cntF_le (fun k => if k = sno qq.1 qq.2 0 then true else V k) 1952
        have hll := p10.2.1
        rw [show (1952 : Int32) = nI 1952 from rfl, nI_ltI (by omega) (by omega)] at hlt
        omega
theorem s_Search_headingsReached {E : XE} {d t wdn p h : Nat} {H : HH} {Q : Int32 → HH → Prop} (hr : rdOK H t) (hw : H 2 2 0 = nI wdn) (hw61 : wdn < 61) (hp : p ≤ wdn) (hh : h < 16) (h2 : H 3 8 2 = nI p) (h3 : H 3 8 3 = nI h)
    (hq : ∀ H1 s, hfr [14, 20, 23, 25] H H1 → (∀ hd, hd < 16 → (s hd = true ↔ ∃ n p2, rchN (grH H t wdn) n p h p2 hd)) → Q (bsF s 16) H1) : c_Search_headingsReached E (d + 5) H Q := by
  refine l_Search_headingsReached (s_fill (a := 0) (by decide) rfl (by decide) ?_)
  have f1 : hfr [14, 20, 23, 25] H (hrow H 23 0 (fun j => if j < 1952 then 2147483647 else H 23 0 j)) := hfr.rf.hrow (by decide)
  have w1 : ∀ x, x < 1952 → hrow H 23 0 (fun j => if j < 1952 then 2147483647 else H 23 0 j) 23 0 x = 2147483647 := by
    intro x hx
    rw [hrow_at, if_pos hx]
  generalize hrow H 23 0 (fun j => if j < 1952 then 2147483647 else H 23 0 j) = H1 at *
  rw [f1 3 (by decide), h2, h3]
  refine s_Search_state (b := 0) (by omega) hh (by decide) ?_
  have h52 : sno p h 0 < 1952 := by unfold sno; omega
  obtain ⟨d1, d2, d3⟩ := sno_d (p := p) (l := 0) hh (by decide)
  refine ⟨vp_in_nI h52 (by omega), fun H4 e4 => ?_⟩
  rw [nI_clamp (by omega)] at e4
  have f4 : hfr [14, 20, 23, 25] H H4 := by rw [e4]; exact (f1.hu (by decide)).hu (by decide)
  refine ⟨fun z6 z7 z8 H9 => ∃ i s V L, i ≤ L.length ∧ L.length ≤ 1952 ∧ z6 = nI L.length ∧ z7 = bsF s 16 ∧ z8 = nI i ∧ hfr [14, 20, 23, 25] H H9 ∧ hrH H9 V L ∧ hrP (grH H t wdn) p h V L ∧ sno p h 0 ∈ L ∧ (∀ hd, s hd = true ↔ ∃ k x, k < i ∧ L[k]? = some x ∧ x / 2 % 16 = hd) ∧ (∀ k x, k < i → L[k]? = some x → seenF (grH H t wdn) V (x / 32) (x / 2 % 16) 6), fun _ _ z8 _ => 1952 - z8.toNatClampNeg, ⟨0, fun _ => false, fun x => if x = sno p h 0 then true else false, [sno p h 0], by omega, by simp, rfl, by decide, rfl, f4, ⟨fun x hx => ?_, fun k x hk => ?_⟩, ⟨fun x hx => ?_, ?_, fun x hx => ?_⟩, by simp, fun hd => ?_, fun k x hk => absurd hk (Nat.not_lt_zero _)⟩, fun z6 z7 z8 H9 hI => ?_⟩
  · rw [e4, hu_kd _ _ _ _ (by decide)]
    by_cases e : x = sno p h 0
    · rw [if_pos (by simp only [e, if_true]), e, hu_at]
    · rw [if_neg (by simp only [if_neg e]; decide), hu_k _ _ e]; exact w1 x hx
  · cases k with
    | zero =>
      simp only [List.getElem?_cons_zero, Option.some.injEq] at hk
      rw [e4, hu_at, hk]
    | succ k => simp at hk
  · simp only [List.mem_singleton] at hx
    subst hx
    exact ⟨by simp, h52, by omega, by rw [d1]; exact hp, 0, by rw [d1, d2]; exact ⟨rfl, rfl⟩⟩
  · have := cntF_set (w := fun _ => false) (x := sno p h 0) h52 rfl
    rw [cntF_none] at this
    simp only [List.length_singleton]
    exact Nat.le_of_eq this.symm
  · left
    by_cases e : x = sno p h 0
    · simp [e]
    · simp only [if_neg e] at hx; cases hx
  · constructor
    · intro q; cases q
    · rintro ⟨k, x, hk, -⟩; exact absurd hk (Nat.not_lt_zero _)
  obtain ⟨i, s, V, L, hi, hl, rfl, rfl, rfl, f9, k9, p9, st9, s9, c9⟩ := hI
  refine ⟨fun q => ?_, fun q => ⟨fun q2 => ?_, fun q2 => ?_⟩⟩
  · rw [nI_leI (by omega) (by omega)] at q
    have e : i = L.length := by omega
    subst e
    refine hq H9 s f9 (fun hd hhd => ?_)
    rw [s9]
    constructor
    · rintro ⟨k, x, hk, hx, e⟩
      obtain ⟨-, -, -, -, n, hn⟩ := p9.1 x (List.mem_of_getElem? hx)
      rw [e] at hn
      exact ⟨n, _, hn⟩
    · rintro ⟨n, p2, hn⟩
      have key : ∀ n a b a2 b2, sno a b 0 ∈ L → b < 16 → rchN (grH H t wdn) n a b a2 b2 → sno a2 b2 0 ∈ L ∧ b2 < 16 := by
        intro n
        induction n with
        | zero => rintro a b a2 b2 m hb ⟨e1, e2⟩; subst e1; subst e2; exact ⟨m, hb⟩
        | succ n ih =>
          rintro a b a2 b2 m hb ⟨c, q9, hc, a1, a3, a4⟩
          obtain ⟨n1, n2, -, -⟩ := nxt_some (show (grH H t wdn).wdn < 61 from hw61) a1
          obtain ⟨k, hk⟩ := List.mem_iff_getElem?.mp m
          have hkl : k < L.length := (List.getElem?_eq_some_iff.mp hk).1
          obtain ⟨g1, g2, g3⟩ := sno_d (p := a) (l := 0) hb (by decide)
          have hV := c9 k _ hkl hk c hc q9 (by rw [g1, g2]; exact a1)
          obtain ⟨g4, g5, g6⟩ := sno_d (p := q9.1) (l := 0) n2 (by decide)
          rcases p9.2.2 _ hV with y | y
          · exact ih _ _ _ _ y n2 a4
          · rw [g4, g5] at y; exact absurd a3 y
      obtain ⟨m, hb⟩ := key n p h p2 hd st9 hh hn
      obtain ⟨k, hk⟩ := List.mem_iff_getElem?.mp m
      have hkl : k < L.length := (List.getElem?_eq_some_iff.mp hk).1
      exact ⟨k, _, hkl, hk, (sno_d (l := 0) hb (by decide)).2.1⟩
  · rw [nI_leI (by omega) (by omega)] at q
    rw [show (1952 : Int32) = nI 1952 from rfl, nI_leI (by omega) (by omega)] at q2
    omega
  · rw [nI_leI (by omega) (by omega)] at q
    have hil : i < L.length := by omega
    have hx := List.getElem?_eq_getElem hil
    generalize L[i] = x at hx
    have hxm := List.mem_of_getElem? hx
    obtain ⟨a1, a2, a3, a4, a5⟩ := p9.1 x hxm
    have e25 : H9 25 0 i = nI x := k9.2 i x hx
    obtain ⟨sh1, sh2, sh3, sh4⟩ := sh_all x a2
    have vi9 : vp_in (nI i) 1952 := vp_in_nI (by omega) (by omega)
    refine ⟨vi9, fun v10 e10 v11 e11 => ⟨vi9, ?_⟩⟩
    rw [nI_clamp (by omega), e25, sh1, sh2] at e10
    subst e10
    rw [nI_clamp (by omega), e25, sh3]
    refine s_Search_addBehind hr hw hw61 a4 (Nat.mod_lt _ (by decide)) f9 a5 k9 p9 (fun H12 V' L' f12 k12 p12 m12 s12 => ?_)
    have hl12 : (L ++ L').length ≤ 1952 := Nat.le_trans p12.2.1 (cntF_le _ _)
    have hpre : ∀ k, k ≤ i → (L ++ L')[k]? = L[k]? := fun k hk => List.getElem?_append_left (by omega)
    refine ⟨⟨i + 1, fun k => if k = x / 2 % 16 then true else s k, V', L ++ L', by rw [List.length_append]; omega, hl12, rfl, ?_, nI_1 i, f12, k12, p12, List.mem_append_left _ st9, fun hd => ?_, fun k y hk hy => ?_⟩, ?_⟩
    · rw [e11, bsF_or (Nat.mod_lt _ (by decide))]
    · constructor
      · intro e
        by_cases e2 : hd = x / 2 % 16
        · exact ⟨i, x, by omega, by rw [hpre i (by omega)]; exact hx, e2.symm⟩
        · simp only [if_neg e2] at e
          obtain ⟨k, y, hk, hy, e3⟩ := (s9 hd).mp e
          exact ⟨k, y, by omega, by rw [hpre k (by omega)]; exact hy, e3⟩
      · rintro ⟨k, y, hk, hy, e3⟩
        rw [hpre k (by omega)] at hy
        by_cases e2 : hd = x / 2 % 16
        · simp only [if_pos e2]
        · simp only [if_neg e2]
          refine (s9 hd).mpr ⟨k, y, ?_, hy, e3⟩
          have : ¬ k = i := by
            intro e; subst e
            rw [hx] at hy; cases hy
            exact e2 e3.symm
          omega
    · rw [hpre k (by omega)] at hy
      by_cases e : k = i
      · subst e
        rw [hx] at hy; cases hy
        exact s12
      · intro c2 hc2 q9 hq9
        exact m12 _ (c9 k y (by omega) hy c2 hc2 q9 hq9)
    · show 1952 - (nI i + 1).toNatClampNeg < 1952 - (nI i).toNatClampNeg
      rw [nI_1, nI_clamp (by omega), nI_clamp (by omega)]
      omega
