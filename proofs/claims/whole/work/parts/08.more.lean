/-! RULES: names, loops, Math.max, Math.min, System.arraycopy; what stands for both sides of the law. -/
abbrev xrem (x y : Int32) : Int32 := x - x / y * y
theorem vp_lit {i : Int32} {n : Nat} (h : (decide (i < 0) || decide (n ≤ i.toNatClampNeg)) = false) : vp_in i n := by
  intro q
  rcases q with q | q
  · simp [q] at h
  · simp [q] at h
section MRU
variable {l : Launch} {cid : Nat → ClassId} {D : va_G} {ad : Nat → Nat → Nat} {tx : List (List Int32)} {rf : List (String × Nat × String)} {Lc : List (Nat × Nat)} {d : Nat} {own : String} {b : ByteArray} {nL : Nat} {ret : Option FieldType} {pc : Nat} {ls : List (Option AV)} {st : List AV} {H : HH} {Q Q2 : AV → HH → Prop}
theorem g_topi {x : Int32} (k : ∀ y, y = x → Gp l cid D ad tx rf Lc d own b nL ret pc ls (vi y :: st) H Q) : Gp l cid D ad tx rf Lc d own b nL ret pc ls (vi x :: st) H Q := k x rfl
theorem g_topl {x : Int64} (k : ∀ y, y = x → Gp l cid D ad tx rf Lc d own b nL ret pc ls (vl y :: st) H Q) : Gp l cid D ad tx rf Lc d own b nL ret pc ls (vl x :: st) H Q := k x rfl
theorem g_heap (k : ∀ H1, H1 = H → Gp l cid D ad tx rf Lc d own b nL ret pc ls st H1 Q) : Gp l cid D ad tx rf Lc d own b nL ret pc ls st H Q := k H rfl
theorem g_mmax {index : Nat} {x y : Int32} (hd : decode b pc = .ok (.invokestatic index, 3)) (hm : Cond.methodLink own index Lib.Math.max.name ∈ xtbl) (h1 : Cond.static Lib.Math.max.name ∈ xtbl) (h2 : Cond.initialized "java/lang/Math" ∈ xtbl) (h3 : Cond.code Lib.Math.max.name Lib.Math.max.code 2 (some .int) ∈ xtbl) (hcat : (st.map xcat).sum ≤ 8)
    (k : Gp l cid D ad tx rf Lc (d + 1) own b nL ret (pc + 3) ls (vi (if x < y then y else x) :: st) H Q) : Gp l cid D ad tx rf Lc (d + 1) own b nL ret pc ls (vi y :: vi x :: st) H Q := by
  intro H0 h0 p e R s m args below meth c Hc locs lsC A hC ho hP hD hS hl
  obtain ⟨hx, hb, hml, hr, hown, hlk, hts, hR, hK, hZ, hrf, hA, hcl⟩ := id hC
  subst hR
  exact va_mmax hx hb (hml.trans hl.1.symm) hown (hts _ hm) (hts _ h1) (hts _ h2) (hts _ h3) (by simp only [xrm]; omega) (by rw [xcats]; simp only [xrm]; omega) (Nat.zero_le _) (Nat.zero_le _) hd (k H0 h0 p e _ s m args below meth c Hc locs lsC A hC (ho.pop.pop.push trivial) hP hD hS hl)
theorem g_mmin {index : Nat} {x y : Int32} (hd : decode b pc = .ok (.invokestatic index, 3)) (hm : Cond.methodLink own index Lib.Math.min.name ∈ xtbl) (h1 : Cond.static Lib.Math.min.name ∈ xtbl) (h2 : Cond.initialized "java/lang/Math" ∈ xtbl) (h3 : Cond.code Lib.Math.min.name Lib.Math.min.code 2 (some .int) ∈ xtbl) (hcat : (st.map xcat).sum ≤ 8)
    (k : Gp l cid D ad tx rf Lc (d + 1) own b nL ret (pc + 3) ls (vi (if y < x then y else x) :: st) H Q) : Gp l cid D ad tx rf Lc (d + 1) own b nL ret pc ls (vi y :: vi x :: st) H Q := by
  intro H0 h0 p e R s m args below meth c Hc locs lsC A hC ho hP hD hS hl
  obtain ⟨hx, hb, hml, hr, hown, hlk, hts, hR, hK, hZ, hrf, hA, hcl⟩ := id hC
  subst hR
  exact va_mmin hx hb (hml.trans hl.1.symm) hown (hts _ hm) (hts _ h1) (hts _ h2) (hts _ h3) (by simp only [xrm]; omega) (by rw [xcats]; simp only [xrm]; omega) (Nat.zero_le _) (Nat.zero_le _) hd (k H0 h0 p e _ s m args below meth c Hc locs lsC A hC (ho.pop.pop.push trivial) hP hD hS hl)
/-- System.arraycopy between rows of ints -/
theorem g_copy {index : Nat} {k0 i0 k1 i1 a0 a1 n0 n1 : Nat} {sp dp n : Int32} (hd : decode b pc = .ok (.invokestatic index, 3)) (hm : Cond.methodLink own index arraycopyName ∈ xtbl) (h1 : Cond.native arraycopyName ∈ xtbl) (h2 : Cond.static arraycopyName ∈ xtbl) (h3 : Cond.initialized "java/lang/System" ∈ xtbl) (hcat : (st.map xcat).sum ≤ 8)
    (hk0 : k0 < 60) (hk1 : k1 < 60) (hs0 : xsh k0 = (1, a0, n0)) (hs1 : xsh k1 = (1, a1, n1)) (q1 : ¬ sp < 0) (q2 : ¬ dp < 0) (q3 : ¬ n < 0) (q4 : sp.toNatClampNeg + n.toNatClampNeg ≤ n0) (q5 : dp.toNatClampNeg + n.toNatClampNeg ≤ n1)
    (k : Gp l cid D ad tx rf Lc (d + 1) own b nL ret (pc + 3) ls st (hrow H k1 i1 (va_cpy (H k0 i0) (H k1 i1) sp.toNatClampNeg dp.toNatClampNeg n.toNatClampNeg)) Q) : Gp l cid D ad tx rf Lc (d + 1) own b nL ret pc ls (vi n :: vi dp :: vr k1 i1 :: vi sp :: vr k0 i0 :: st) H Q := by
  intro H0 h0 p e R s m args below meth c Hc locs lsC A hC ho hP hD hS hl
  obtain ⟨hx, hb, hml, hr, hown, hlk, hts, hR, hK, hZ, hrf, hA, hcl⟩ := id hC
  subst hR
  obtain ⟨p0, hp0, hw0⟩ := xw_at (cid := cid) (ad := ad) (H := H) (xok_in (ho.2 (vr k0 i0) (by simp)) hk0)
  obtain ⟨p1, hp1, hw1⟩ := xw_at (cid := cid) (ad := ad) (H := H) (xok_in (ho.2 (vr k1 i1) (by simp)) hk1)
  rw [xcell_i hs0] at hw0
  rw [xcell_i hs1] at hw1
  have hnf : nativeFrameWords "java/lang/System" "arraycopy" 5 ≤ 30 := by decide +kernel
  refine va_copyi hx hb (hml.trans hl.1.symm) hown (hts _ hm) (hts _ h1) (hts _ h2) (hts _ h3) hK hP hD hS p0 p1 0 0 hw0 hw1 rfl rfl rfl q1 q2 q3 q4 q5 (fun _ _ => rfl) (by simp only [xrm]; omega) (by rw [xcats]; simp only [xrm]; omega) hd (fun H1 locs1 hP1 hD1 hS1 => ?_)
  rw [← xcell_i (cid := cid) (ad := ad) (ix := i1) hs1, xw_set hcl.1 hp1] at hP1
  exact k H0 (h0.row (xok_in (ho.2 (vr k1 i1) (by simp)) hk1)) p e _ s m args below meth c H1 locs1 lsC A hC ⟨ho.1, fun v hv => ho.2 v (by simp [hv])⟩ hP1 (xw_D hD) hS1 hl
end MRU
/-- a loop: an invariant, a measure that falls -/
theorem xloop {σ : Type} (I : σ → HH → Prop) (μ : σ → HH → Nat) (G : σ → HH → Prop) (h : ∀ x H, I x H → (∀ y H1, I y H1 → μ y H1 < μ x H → G y H1) → G x H) : ∀ x H, I x H → G x H := by
  have key : ∀ n x H, μ x H < n → I x H → G x H := by
    intro n
    induction n with
    | zero => intro x H q; exact absurd q (Nat.not_lt_zero _)
    | succ n ih => exact fun x H q hI => h x H hI fun y H1 hy hlt => ih y H1 (by omega) hy
  exact fun x H hI => key _ x H (Nat.lt_succ_self _) hI
theorem xsw {x : Int32} {m : Int} (hm : (Int32.ofInt m).toInt = m) (h : ¬ x = Int32.ofInt m) : ¬ x.toInt = m := fun e => h (Int32.toInt_inj.mp (e.trans hm.symm))
def qi (Q : Int32 → HH → Prop) : AV → HH → Prop := fun v H => ∃ r, v = vi r ∧ Q r H
def ql (Q : Int64 → HH → Prop) : AV → HH → Prop := fun v H => ∃ r, v = vl r ∧ Q r H
def qv (Q : HH → Prop) : AV → HH → Prop := fun _ H => Q H
abbrev XE : Type := Launch × (Nat → ClassId) × va_G × (Nat → Nat → Nat)
/-- the texts that the class holds as constants: whose, which entry, what; their bytes -/
def xRF : List (String × Nat × String) := [("ThreePoints", 58, "clears 1 ; wears 1 + steers ; sure 90 ;"), ("ThreePoints$Tape", 101, "more"), ("ThreePoints$Tape", 105, "wall"), ("ThreePoints$Tape", 107, "heading"), ("ThreePoints$Tape", 109, "place"), ("ThreePoints$Tape", 111, "width"), ("ThreePoints$Tape", 113, "steers"), ("ThreePoints$Tape", 85, "clears"), ("ThreePoints$Tape", 91, "wears"), ("ThreePoints$Tape", 93, "sure"), ("ThreePoints$Tape", 95, "or"), ("ThreePoints$Tape", 97, "and"), ("ThreePoints$Tape", 99, "not"), ("ThreePoints$Tape", 80, "();+-*<=")]
def xTX : List (List Int32) := [[99, 108, 101, 97, 114, 115, 32, 49, 32, 59, 32, 119, 101, 97, 114, 115, 32, 49, 32, 43, 32, 115, 116, 101, 101, 114, 115, 32, 59, 32, 115, 117, 114, 101, 32, 57, 48, 32, 59], [109, 111, 114, 101], [119, 97, 108, 108], [104, 101, 97, 100, 105, 110, 103], [112, 108, 97, 99, 101], [119, 105, 100, 116, 104], [115, 116, 101, 101, 114, 115], [99, 108, 101, 97, 114, 115], [119, 101, 97, 114, 115], [115, 117, 114, 101], [111, 114], [97, 110, 100], [110, 111, 116], [40, 41, 59, 43, 45, 42, 60, 61]]
section MR2
variable {l : Launch} {cid : Nat → ClassId} {D : va_G} {ad : Nat → Nat → Nat} {tx : List (List Int32)} {rf : List (String × Nat × String)} {Lc : List (Nat × Nat)} {d : Nat} {own : String} {b : ByteArray} {nL : Nat} {ret : Option FieldType} {pc : Nat} {ls : List (Option AV)} {st : List AV} {H : HH} {Q Q2 : AV → HH → Prop}
theorem g_topE {x y : Int32} (e : x = y) (k : Gp l cid D ad tx rf Lc d own b nL ret pc ls (vi y :: st) H Q) : Gp l cid D ad tx rf Lc d own b nL ret pc ls (vi x :: st) H Q := e ▸ k
theorem g_heapE {H1 : HH} (e : H = H1) (k : Gp l cid D ad tx rf Lc d own b nL ret pc ls st H1 Q) : Gp l cid D ad tx rf Lc d own b nL ret pc ls st H Q := e ▸ k
end MR2
abbrev xmax (x y : Int32) : Int32 := if x < y then y else x
abbrev xmin (x y : Int32) : Int32 := if y < x then y else x
theorem nbool {x : Int32} (h : x = 0 ∨ x = 1) : narrow .boolean (.int x) = .int x := by rcases h with rfl | rfl <;> rfl
