/-! THE READER 4: the FAULT of THE TAPE. -/
def fpF (a i k : Nat) : Prop := tkF a i k ∨ rdF a i k ∨ (a = 13 ∧ i = 6)
theorem rdS.hu13 {B G : HH} {n t o p : Nat} {out : List Int32} {x : Int32} (h : rdS (hu B 13 6 p x) n t o out G) : ∀ a i k, ¬ rdF a i k → ¬ (a = 13 ∧ i = 6 ∧ k = p) → G a i k = B a i k := fun a i k q1 q2 => by rw [h.1 a i k q1, hu_ne q2]
theorem s_Text_clear6 {E : XE} {d : Nat} {H : HH} {Q : HH → Prop} (hq : ∀ G, G 11 6 1 = 0 → (∀ a i k, ¬ (a = 11 ∧ i = 6 ∧ k = 1) → ¬ (a = 13 ∧ i = 6) → G a i k = H a i k) → Q G) : c_Text_clear E (d + 3) 6 H Q := by
  refine l_Text_clear (fun H1 e1 => s_fill (a := 0) (by decide) rfl (by decide) (hq _ ?_ (fun a i k q1 q2 => ?_)))
  · rw [hrow_kd _ _ _ (by decide), e1, hu_at]
  · by_cases c : a = 13
    · subst c
      rw [hrow_ix _ _ (by omega), e1, hu_ne q1]
    · rw [hrow_kd _ _ _ c, e1, hu_ne q1]
/-- what the class has found of THE TAPE as a TEXT -/
def drS (G : HH) (o1 o2 o3 : List Int32) : Prop := G 11 6 1 = nI o3.length ∧ (∀ i, i < o3.length → G 12 6 i = o3.getD i 0) ∧ G 13 6 0 = nI o1.length ∧ G 13 6 1 = nI o2.length ∧ G 13 6 2 = nI o3.length ∧ o3.length ≤ 160 ∧ gdS o1 ∧ ∃ y2 y3, o2 = o1 ++ y2 ∧ o3 = o2 ++ y3 ∧ gdS y2 ∧ gdS y3
theorem s_Reader_faultOfTape {E : XE} {d n : Nat} {H : HH} {Q : Int32 → HH → Prop} (hn : H 6 0 1 = nI n) (h160 : n ≤ 160) (hb : ∀ i, i < n → 0 ≤ (H 7 0 i).toInt ∧ (H 7 0 i).toInt ≤ 255) (hY : ∀ G o1 o2 o3, txY (kT (H 7 0) n) (vT (H 7 0) n) o1 o2 o3 → (∀ a i k, ¬ fpF a i k → G a i k = H a i k) → drS G o1 o2 o3 → Q (-1) G) (hN : ∀ G tf, txN (kT (H 7 0) n) (vT (H 7 0) n) tf → tf ≤ n → (∀ a i k, ¬ fpF a i k → G a i k = H a i k) → Q (nI (sT (H 7 0) n tf)) G) : c_Reader_faultOfTape E (d + 47) H Q := by
  refine l_Reader_faultOfTape (s_Tape_split hn h160 hb (fun H1 tk1 f1 => s_Text_clear6 (fun H2 k11 f2 H3 e3 => ?_)))
  -- the heap below
  have f3 : ∀ a i k, ¬ fpF a i k → H3 a i k = H a i k := by
    intro a i k q
    have q' := q
    unfold fpF rdF at q'
    rw [e3, hu_ne (by omega), f2 a i k (by omega) (by omega)]
    exact f1 a i k (fun z => q (Or.inl z))
  have e7 : H3 7 0 = H 7 0 := by funext k; exact f3 7 0 k (by unfold fpF tkF rdF; omega)
  have tk3 : tkOK H3 n := tk1.fr (by rw [e3, hu_ne (by omega), f2 6 0 5 (by omega) (by omega)]) (by funext k; rw [e3, hu_ne (by omega), f2 7 0 k (by omega) (by omega)]) (fun k => by rw [e3, hu_ne (by omega), f2 8 0 k (by omega) (by omega)]) (fun k => by rw [e3, hu_ne (by omega), f2 9 0 k (by omega) (by omega)]) (fun k => by rw [e3, hu_ne (by omega), f2 10 0 k (by omega) (by omega)])
  have n3 : H3 6 0 1 = nI n := by rw [f3 6 0 1 (by unfold fpF tkF rdF; omega)]; exact hn
  rw [← e7] at hY hN
  -- a fault
  have bad : ∀ (B G : HH) (tf o : Nat) (out : List Int32) (p : Nat) (x : Int32), (∀ a i k, ¬ rdF a i k → ¬ (a = 13 ∧ i = 6) → B a i k = H3 a i k) → rdS (hu B 13 6 p x) n tf o out G → tf ≤ n → txN (kT (H3 7 0) n) (vT (H3 7 0) n) tf → c_Tape_startOf E (d + 46) (G 5 0 2) G (fun r H1 => Q r H1) := by
    intro B G tf o out p x hBf g tn hx
    have fg : ∀ a i k, ¬ rdF a i k → ¬ (a = 13 ∧ i = 6) → G a i k = H3 a i k := fun a i k q1 q2 => by rw [g.hu13 a i k q1 (by omega)]; exact hBf a i k q1 q2
    have g7 : G 7 0 = H3 7 0 := by funext k; exact fg 7 0 k (by unfold rdF; omega) (by omega)
    have tkg : tkOK G n := tk3.fr (fg 6 0 5 (by unfold rdF; omega) (by omega)) g7 (fun k => fg 8 0 k (by unfold rdF; omega) (by omega)) (fun k => fg 9 0 k (by unfold rdF; omega) (by omega)) (fun k => fg 10 0 k (by unfold rdF; omega) (by omega))
    rw [g.2.1]
    refine s_Tape_startOf tkg (by rw [fg 6 0 1 (by unfold rdF; omega) (by omega)]; exact n3) (by omega) ?_
    rw [g7]
    refine hN G tf hx tn (fun a i k q => ?_)
    have q' := q
    unfold fpF at q'
    rw [fg a i k (fun z => q' (Or.inr (Or.inl z))) (fun z => q' (Or.inr (Or.inr z)))]
    exact f3 a i k q
  refine s_Reader_goToAt (t := 0) tk3 (o := 0) (out := []) (fun a i k q => rfl) (by rw [e3, hu_at]; rfl) (by rw [e3, hu_ne (by omega)]; exact k11) (fun i hi => absurd hi (Nat.not_lt_zero _)) (by omega) (fun G4 g4 => ?_)
  refine s_Reader_readPart (p := 0) tk3 h160 (by decide) g4 (Nat.le_refl _) (Nat.zero_le _) ?_ ?_
  · intro G5 t1 o1 g5 gd1 tn1 ol1 p1
    rw [List.nil_append] at g5 ol1 p1
    refine ⟨fun z => absurd z (by decide), fun _ => ?_⟩
    have hB1 : tkOK (hu H3 13 6 0 (nI o1.length)) n := tk3.fr (hu_ne (by omega)) (by rw [hu_kd _ _ _ _ (by omega)]) (fun k => hu_ne (by omega)) (fun k => hu_ne (by omega)) (fun k => hu_ne (by omega))
    have b17 : hu H3 13 6 0 (nI o1.length) 7 0 = H3 7 0 := by rw [hu_kd _ _ _ _ (by omega)]
    refine s_Reader_readPart (p := 1) hB1 h160 (by decide) g5 ol1 tn1 ?_ ?_
    · intro G9 t2 y2 g9 gd2 tn2 ol2 p2
      rw [b17] at p2
      refine ⟨fun z => absurd z (by decide), fun _ => ?_⟩
      have hB2 : tkOK (hu (hu H3 13 6 0 (nI o1.length)) 13 6 1 (nI (o1 ++ y2).length)) n := hB1.fr (hu_ne (by omega)) (by rw [hu_kd _ _ _ _ (by omega)]) (fun k => hu_ne (by omega)) (fun k => hu_ne (by omega)) (fun k => hu_ne (by omega))
      have b27 : hu (hu H3 13 6 0 (nI o1.length)) 13 6 1 (nI (o1 ++ y2).length) 7 0 = H3 7 0 := by rw [hu_kd _ _ _ _ (by omega), b17]
      refine s_Reader_readPart (p := 2) hB2 h160 (by decide) g9 ol2 tn2 ?_ ?_
      · intro G13 t3 y3 g13 gd3 tn3 ol3 p3 v17 e17
        rw [b27] at p3
        have k13 : G13 5 0 3 = kT (H3 7 0) n t3 := by rw [g13.2.2.1, hu_kd _ _ _ _ (by omega), b27]
        rw [k13] at e17
        by_cases k : kT (H3 7 0) n t3 = 264
        · rw [if_neg (by decide), if_pos k] at e17
          subst e17
          refine ⟨fun z => absurd z (by decide), fun _ => hY G13 o1 (o1 ++ y2) (o1 ++ y2 ++ y3) ⟨t1, t2, t3, p1, p2, p3, k⟩ (fun a i c q => ?_) ⟨g13.2.2.2.2.1, g13.2.2.2.2.2, ?_, ?_, ?_, by omega, gd1, y2, y3, rfl, rfl, gd2, gd3⟩⟩
          · have q' := q
            unfold fpF at q'
            rw [g13.hu13 a i c (fun z => q' (Or.inr (Or.inl z))) (fun z => q' (Or.inr (Or.inr ⟨z.1, z.2.1⟩))), hu_ne (fun z => q' (Or.inr (Or.inr ⟨z.1, z.2.1⟩))), hu_ne (fun z => q' (Or.inr (Or.inr ⟨z.1, z.2.1⟩)))]
            exact f3 a i c q
          · rw [g13.1 13 6 0 (by unfold rdF; omega), hu_ne (by omega), hu_ne (by omega), hu_at]
          · rw [g13.1 13 6 1 (by unfold rdF; omega), hu_ne (by omega), hu_at]
          · rw [g13.1 13 6 2 (by unfold rdF; omega), hu_at]
        · rw [if_neg (by decide), if_neg k] at e17
          subst e17
          refine ⟨fun _ => bad _ G13 t3 _ _ _ _ (fun a i c q1 q2 => ?_) g13 tn3 (Or.inr ⟨t1, o1, p1, Or.inr ⟨t2, o1 ++ y2, p2, Or.inr ⟨t3, _, p3, k, rfl⟩⟩⟩), fun z => absurd rfl z⟩
          rw [hu_ne (by omega), hu_ne (by omega)]
      · intro G13 tf o out x g tn hp v17 e17
        rw [b27] at hp
        rw [if_pos rfl] at e17
        subst e17
        refine ⟨fun _ => bad _ G13 tf _ _ _ _ (fun a i c q1 q2 => ?_) g tn (Or.inr ⟨t1, o1, p1, Or.inr ⟨t2, o1 ++ y2, p2, Or.inl hp⟩⟩), fun z => absurd rfl z⟩
        rw [hu_ne (by omega), hu_ne (by omega)]
    · intro G9 tf o out x g tn hp
      rw [b17] at hp
      refine ⟨fun _ => bad _ G9 tf _ _ _ _ (fun a i c q1 q2 => ?_) g tn (Or.inr ⟨t1, o1, p1, Or.inl hp⟩), fun z => absurd rfl z⟩
      rw [hu_ne (by omega)]
  · intro G5 tf o out x g tn hp
    exact ⟨fun _ => bad H3 G5 tf _ _ _ _ (fun a i c q1 q2 => rfl) g tn (Or.inl hp), fun z => absurd rfl z⟩
