/-! isEven -/
theorem eC_pW {b p N fu o : Nat} {A : tA} {V : tV} {gn : tN} {gp : tV} {pi : Nat → Nat} {f1 : jM} (hfu : 2000 ≤ fu) (hP : SP A V gp pi) (hms : A 0 2 ≤ 60) (ho : ∀ i, i < A 0 2 → A 15 i < 120) (ho1 : o < 120) : mX3_weightOf fu (mkC b p N gn gp pi f1) p (nI o) = some (nI (sm (msW A o) (A 0 2)), mkC b p N gn gp pi f1) := by
  obtain ⟨p1, p2, p3, p4⟩ := hP
  unfold mX3_weightOf
  refine lup0 (fun k i => mX3_weightOf_L4 fu p (nI o) k (nI (sm (msW A o) i)) (nI i) (mkC b p N gn gp pi f1)) (A 0 2) _ fu (by omega) ?_ ?_
  · intro k
    rw [mX3_weightOf_L4]
    simp only [cP1, Option.bind_some, p1]
    rw [if_pos (nI_le (Nat.le_refl _) (by omega))]
  · intro k i hi
    have ho := ho i hi
    rw [mX3_weightOf_L4]
    simp (disch := omega) only [cP1, cP0, cLat, Option.bind_some, p1]
    rw [if_neg (nI_ge hi (by omega))]
    have hpi := p2 i (by omega)
    simp only [cLg3 hpi, cLg4 hpi, Option.bind_some, (p4 i hi).2.2.2.1, (p4 i hi).2.2.2.2.1, nI_1, nI_add]
    by_cases e : A 15 i = o
    · rw [if_pos (by rw [e])]
      simp only [sm, msW, e, if_true]
    · rw [if_neg (fun w => e ((nI_eq (by omega) (by omega)).mp w))]
      simp only [sm, msW, e, if_false, Nat.add_zero]
theorem eC_nW {b p N fu o : Nat} {A : tA} {V : tV} {gn : tN} {gp : tV} {pi : Nat → Nat} {od : Nat → Nat → Nat} {q : Nat → Nat} {f1 : jM} (hfu : 2000 ≤ fu) (hp : b + 2 + 8 * N ≤ p) (hN : N ≤ 5) (hS : SIM A V N gn gp pi od q) (hms : A 0 2 ≤ 60) (ho : ∀ i, i < A 0 2 → A 15 i < 120) (ho1 : o < 120) : mX5_weightsOf fu (mkC b p N gn gp pi f1) b (nI o) = some (nI (sm (msW A o) (A 0 2) + sm (fun m => A 9 (120 * m + o)) N), mkC b p N gn gp pi f1) := by
  unfold mX5_weightsOf
  simp only [cF1 hp, cPchk, Option.bind_some, eC_pW hfu hS.2.1 hms ho ho1]
  refine lup0 (fun k m => mX5_weightsOf_L11 fu b (nI o) k (nI (sm (msW A o) (A 0 2) + sm (fun m => A 9 (120 * m + o)) m)) (nI m) (mkC b p N gn gp pi f1)) N _ fu (by omega) ?_ ?_
  · intro k
    rw [mX5_weightsOf_L11]
    simp only [cF0 hp, cLen hp, Option.bind_some]
    rw [if_pos (nI_le (Nat.le_refl _) (by omega))]
  · intro k m hm
    have h6 := (hS.1 m hm).2.2.2.2.1 o ho1
    rw [mX5_weightsOf_L11]
    simp only [cF0 hp, cLen hp, Option.bind_some]
    rw [if_neg (nI_ge hm (by omega))]
    simp only [cNod hp hm (show N < 2 ^ 31 by omega), cchk2 hp hm, eC_wOI hp hm ho1, h6, Option.bind_some, nI_add, nI_1, sm]
    rw [Nat.add_assoc]
theorem q_isEven {b p M N cl fu : Nat} {f0 f : jM} (hfu : 2000 ≤ fu) (hl : Lay b p M N) (hI : Inv b p M N cl f0 f) : ∃ r, mX5_isEven fu f b = some (r, f) ∧ mX6_isEven fu f M = some (r, f) := by
  obtain ⟨A, V, gn, gp, pi, od, q, rfl, hS, ⟨⟨hA, hN1, hN5⟩, wR, wF, wT, wW, wE, wM, wTo, wI⟩, wL⟩ := hI
  have hp := hl.1
  have hms := wM.1
  have ho : ∀ i, i < A 0 2 → A 15 i < 120 := fun i hi => by
    have := (wM.2 i hi).2.2.2.1
    omega
  have hT : ∀ o, o < 120 → sm (msW A o) (A 0 2) + sm (fun m => A 9 (120 * m + o)) N = A 3 o := fun o h => by
    have h1 := wE o h
    have h2 := sm_tail (f := fun m => A 9 (120 * m + o)) (N := N) (K := 5) hN5 (fun m m1 m2 => by
      rcases Nat.eq_zero_or_pos (A 9 (120 * m + o)) with u | u
      · exact u
      · have := (wW m o m2 h u).1
        omega)
    omega
  refine ⟨1, ?_, ?_⟩
  · unfold mX5_isEven
    refine lup0 (fun k n => mX5_isEven_L2 fu b k (nI n) (mkC b p N gn gp pi (mkR M (toR A V) f0))) N _ fu (by omega) ?_ ?_
    · intro k
      rw [mX5_isEven_L2]
      simp only [cF0 hp, cLen hp, Option.bind_some]
      rw [if_pos (nI_le (Nat.le_refl _) (by omega))]
    · intro k n hn
      rw [mX5_isEven_L2]
      simp only [cF0 hp, cLen hp, Option.bind_some]
      rw [if_neg (nI_ge hn (by omega))]
      refine lup0 (fun j i => mX5_isEven_L13 fu (mX5_isEven_L2 fu b k) b (nI n) j (nI i) (mkC b p N gn gp pi (mkR M (toR A V) f0))) 24 _ fu (by omega) ?_ ?_
      · intro j
        rw [mX5_isEven_L13, i24, if_pos (nI_le (Nat.le_refl _) (by omega)), nI_1]
      · intro j i hi
        have h5 := ((hS.1 n hn).2.2.2.1 i hi).2.2
        have htb := tot_bd wTo (show 24 * n + i < 120 by omega)
        rw [mX5_isEven_L13, i24, if_neg (nI_ge hi (by omega))]
        simp only [cF0 hp, cNod hp hn (show N < 2 ^ 31 by omega), cNr5 hp hn, cNl5 hp hn, gl_nI hi (show 24 < 2 ^ 31 by omega), h5, Option.bind_some, eC_idOf, cchk5 hp, nI_1]
        rw [show n * 24 + i = 24 * n + i by omega, eC_nW hfu hp hN5 hS hms ho (show 24 * n + i < 120 by omega), hT _ (by omega), Option.bind_some]
        by_cases c : nI (A 3 (24 * n + i)) ≤ 0
        · rw [if_pos c]
        · rw [if_neg c, if_pos rfl]
  · rw [swapCR hl]
    unfold mX6_isEven
    refine lup0 (fun k o => mX6_isEven_L2 fu M k (nI o) (mkR M (toR A V) (mkC b p N gn gp pi f0))) 120 _ fu (by omega) ?_ ?_
    · intro k
      rw [mX6_isEven_L2, i120, if_pos (nI_le (Nat.le_refl _) (by omega))]
    · intro k o hoo
      rw [mX6_isEven_L2, i120, if_neg (nI_ge hoo (by omega))]
      refine lup0 (fun j m => mX6_isEven_L12 fu (mX6_isEven_L2 fu M k) M (nI o) j (nI (sm (fun m => A 9 (120 * m + o)) m)) (nI m) (mkR M (toR A V) (mkC b p N gn gp pi f0))) N _ fu (by omega) ?_ ?_
      · intro j
        rw [mX6_isEven_L12]
        simp only [rI1, tR0, hA, Option.bind_some]
        rw [if_pos (nI_le (Nat.le_refl _) (by omega))]
        refine lup0 (fun j i => mX6_isEven_L42 fu (mX6_isEven_L2 fu M k) M (nI o) j (nI (sm (fun m => A 9 (120 * m + o)) N + sm (msW A o) i)) (nI i) (mkR M (toR A V) (mkC b p N gn gp pi f0))) (A 0 2) _ fu (by omega) ?_ ?_
        · intro j
          have htb := tot_bd wTo hoo
          have e : sm (fun m => A 9 (120 * m + o)) N + sm (msW A o) (A 0 2) = A 3 o := by
            have := hT o hoo
            omega
          rw [mX6_isEven_L42, e]
          simp (disch := omega) only [rI13, tR0, rR5, rl4, rR4, rl3, gl_nI, tR4, tR3, Option.bind_some]
          rw [if_pos (nI_le (Nat.le_refl _) (by omega))]
          unfold mX6_isEven_B104
          rcases wT o hoo with u | u
          · rw [u.1, if_neg (by decide), if_pos rfl, nI_1]
          · rw [u.1, if_pos (by decide), u.2, if_pos (by decide), nI_1]
        · intro j i hi
          have ho := ho i hi
          rw [mX6_isEven_L42]
          simp (disch := omega) only [rI13, tR0, rR17, rl15, rR16, rl14, rR18, rl16, gl_nI, tR14, tR15, tR16, Option.bind_some]
          rw [if_neg (nI_ge hi (by omega)), nI_1]
          by_cases e : A 15 i = o
          · rw [if_pos (by rw [e])]
            have hk := (wM.2 i hi).2.2.2.2
            by_cases c : nI (A 14 i) = 3
            · rw [if_pos c]
              have : A 16 i = 0 := by
                rcases hk with u | u | u | u
                · rw [u.1] at c; exact absurd c (by decide)
                · rw [u.1] at c; exact absurd c (by decide)
                · exact u.2.1
                · rw [u.1] at c; exact absurd c (by decide)
              simp only [sm, msW, e, if_true, this, Nat.add_zero]
            · rw [if_neg c, nI_add]
              simp only [sm, msW, e, if_true, Nat.add_assoc]
          · rw [if_neg (fun w => e ((nI_eq (by omega) (by omega)).mp w))]
            simp only [sm, msW, e, if_false, Nat.add_zero]
      · intro j m hm
        rw [mX6_isEven_L12]
        simp (disch := omega) only [rI1, tR0, hA, rR10, rl9, i120, nI_mul, nI_add, gl_nI, tR9, Option.bind_some, nI_1]
        rw [if_neg (nI_ge hm (by omega))]
        simp only [sm]
