/-! object -/
theorem o_object {b p M N cl fu : Nat} {f0 f : jM} (hfu : 2000 ≤ fu) (hl : Lay b p M N) (hI : Inv b p M N cl f0 f) (hc : cl < 512) (x y w : Int32) : ∃ r f1 f2, mX5_object fu f b x y w = some (r, f1) ∧ mX6_object fu f1 M x y w = some (r, f2) ∧ Inv b p M N (cl + 1) f0 f2 := by
  obtain ⟨s, rfl, hs⟩ := Inv_to hI
  have hp := hl.1
  have hN5 : N ≤ 5 := hs.2.1.1.2.2
  have hs1 := sOk_more hs hc
  obtain ⟨A, V, gn, gp, pi, od, q⟩ := s
  obtain ⟨hS, hW, wL⟩ := id hs
  dsimp only at hS hW wL
  have hW0 := hW
  obtain ⟨⟨h11, hN1, -⟩, wR, wF, wT, wW, wE, wM, wTo, wI⟩ := hW
  have bad : ((x < 0 ∨ nI N ≤ x) ∨ (y < 0 ∨ nI 24 ≤ y)) → ∃ r f1 f2, mX5_object fu (sC b p N (A, V, gn, gp, pi, od, q) (sR M (A, V, gn, gp, pi, od, q) f0)) b x y w = some (r, f1) ∧ mX6_object fu f1 M x y w = some (r, f2) ∧ Inv b p M N (cl + 1) f0 f2 := by
    intro hx
    refine step (m5 := fun f => mX5_object fu f b x y w) (m6 := fun f => mX6_object fu f M x y w) (r := -2) hl (fun f1 => ?_) (fun f2 => ?_) hs1
    · unfold mX5_object
      simp only [cchk5 hp, Option.bind_some, eC_isObjX hp hN5 hx, if_true]
    · unfold mX6_object
      simp only [rchk, Option.bind_some, eR_isObjX h11 hN5 hx, if_true]
  rcases idx x (n := N) (by omega) with ⟨n, hn, rfl⟩ | hx
  · rcases idx y (n := 24) (by omega) with ⟨k, hk, rfl⟩ | hy
    · have hsz : A 4 (24 * n + k) = 1 → A 1 (24 * n + k) ≤ 12 := fun w => (wF _ (by omega) w).1
      have eo : ∀ f1, mX5_isObject (mkC b p N gn gp pi f1) b (nI n) (nI k) = _ := fun f1 => eC_isObj (f0 := f1) hp hN5 hn hk (hS.1 n hn) hsz
      have er : ∀ f2, mX6_isObject (mkR M (toR A V) f2) M (nI n) (nI k) = _ := fun f2 => eR_isObj (f0 := f2) h11 hN5 hn hk wT
      by_cases c1 : A 4 (24 * n + k) = 1
      · rw [c1] at eo er
        have h34 := ((hS.1 n hn).2.2.2.1 k hk).1 c1
        have h5 := ((hS.1 n hn).2.2.2.1 k hk).2.2
        by_cases w0 : w = 0
        · subst w0
          refine step (m5 := fun f => mX5_object fu f b (nI n) (nI k) 0) (m6 := fun f => mX6_object fu f M (nI n) (nI k) 0) (r := nI (A 2 (24 * n + k))) hl (fun f1 => ?_) (fun f2 => ?_) hs1
          · unfold mX5_object
            simp only [cchk5 hp, Option.bind_some, eo, if_true]
            rw [if_neg (by decide)]
            simp only [cF0 hp, cNod hp hn (show N < 2 ^ 31 by omega), cNr4 hp hn, cNl4 hp hn, gl_nI hk (show 24 < 2 ^ 31 by omega), Option.bind_some, h34.2]
          · unfold mX6_object
            simp only [rchk, Option.bind_some, er, if_true]
            rw [if_neg (by decide)]
            simp (disch := omega) only [rR3, rl2, i24, nI_mul, nI_add, gl_nI, tR2, Option.bind_some]
        · by_cases w1 : w = 1
          · subst w1
            refine step (m5 := fun f => mX5_object fu f b (nI n) (nI k) 1) (m6 := fun f => mX6_object fu f M (nI n) (nI k) 1) (r := nI (A 1 (24 * n + k))) hl (fun f1 => ?_) (fun f2 => ?_) hs1
            · unfold mX5_object
              simp only [cchk5 hp, Option.bind_some, eo, if_true]
              rw [if_neg (by decide), if_neg (by decide)]
              simp only [cF0 hp, cNod hp hn (show N < 2 ^ 31 by omega), cNr3 hp hn, cNl3 hp hn, gl_nI hk (show 24 < 2 ^ 31 by omega), Option.bind_some, h34.1]
            · unfold mX6_object
              simp only [rchk, Option.bind_some, er, if_true]
              rw [if_neg (by decide), if_neg (by decide)]
              simp (disch := omega) only [rR2, rl1, i24, nI_mul, nI_add, gl_nI, tR1, Option.bind_some]
          · by_cases w2 : w = 2
            · subst w2
              refine step (m5 := fun f => mX5_object fu f b (nI n) (nI k) 2) (m6 := fun f => mX6_object fu f M (nI n) (nI k) 2) (r := nI (A 3 (24 * n + k))) hl (fun f1 => ?_) (fun f2 => ?_) hs1
              · unfold mX5_object
                simp only [cchk5 hp, Option.bind_some, eo, if_true]
                rw [if_neg (by decide), if_neg (by decide), if_neg (by decide)]
                simp only [cF0 hp, cNod hp hn (show N < 2 ^ 31 by omega), cNr5 hp hn, cNl5 hp hn, gl_nI hk (show 24 < 2 ^ 31 by omega), Option.bind_some, h5]
              · unfold mX6_object
                simp only [rchk, Option.bind_some, er, if_true]
                rw [if_neg (by decide), if_neg (by decide), if_neg (by decide)]
                simp (disch := omega) only [rR4, rl3, i24, nI_mul, nI_add, gl_nI, tR3, Option.bind_some]
            · by_cases w3 : w = 3
              · subst w3
                obtain ⟨gp', m, e, a1, a2, a3, a4, a5⟩ := eC_held (b := b) (p := p) hfu hp hS hW0
                obtain ⟨A', b1, b2, b3, b4⟩ := eR_hold (M := M) hfu hW0
                have hx : 24 * n + k < 120 := by omega
                refine step (m5 := fun f => mX5_object fu f b (nI n) (nI k) 3) (m6 := fun f => mX6_object fu f M (nI n) (nI k) 3) (s' := (A', V, gn, gp', pi, od, q)) (r := if A' 24 (24 * n + k) = 1 then 1 else 0) hl (fun f1 => ?_) (fun f2 => ?_) (scr_sOk b2 a3 a4 hs1)
                · unfold mX5_object
                  simp only [cchk5 hp, Option.bind_some, eo, if_true]
                  rw [if_neg (by decide), if_neg (by decide), if_neg (by decide), if_neg (by decide)]
                  simp only [a1, Option.bind_some, cF2 hp, eC_idOf, cMchk (show isM 62 from Or.inl rfl)]
                  rw [show n * 24 + k = 24 * n + k by omega, eC_has (Or.inl rfl) a2 hx, Option.bind_some]
                  rcases MK_01 a2 hx with u | u
                  · have := (b4 _ hx).mpr ((a5 _ hx).mp u)
                    rw [if_pos this]
                    simp only [u]
                    rfl
                  · have : ¬ A' 24 (24 * n + k) = 1 := fun w => by
                      have w' : gp' (62 + 1) (24 * n + k) = 1 := (a5 _ hx).mpr ((b4 _ hx).mp w)
                      rw [u] at w'
                      exact absurd w' (by decide)
                    rw [if_neg this]
                    simp only [u, if_true]
                · unfold mX6_object
                  simp only [rchk, Option.bind_some, er, if_true]
                  rw [if_neg (by decide), if_neg (by decide), if_neg (by decide), if_neg (by decide)]
                  simp only [b1, Option.bind_some]
                  simp (disch := omega) only [rR27, rl24, i24, nI_mul, nI_add, gl_nI, tR24, Option.bind_some]
                  have hb := b3 _ hx
                  rcases (show A' 24 (24 * n + k) = 0 ∨ A' 24 (24 * n + k) = 1 by omega) with u | u
                  · rw [u, if_pos (by decide), if_neg (by decide)]
                  · rw [u, if_neg (by decide), if_pos (by decide)]
              · refine step (m5 := fun f => mX5_object fu f b (nI n) (nI k) w) (m6 := fun f => mX6_object fu f M (nI n) (nI k) w) (r := -2) hl (fun f1 => ?_) (fun f2 => ?_) hs1
                · unfold mX5_object
                  simp only [cchk5 hp, Option.bind_some, eo, if_true]
                  rw [if_neg (by decide), if_neg w0, if_neg w1, if_neg w2, if_neg w3]
                · unfold mX6_object
                  simp only [rchk, Option.bind_some, er, if_true]
                  rw [if_neg (by decide), if_neg w0, if_neg w1, if_neg w2, if_neg w3]
      · refine step (m5 := fun f => mX5_object fu f b (nI n) (nI k) w) (m6 := fun f => mX6_object fu f M (nI n) (nI k) w) (r := -2) hl (fun f1 => ?_) (fun f2 => ?_) hs1
        · unfold mX5_object
          simp only [cchk5 hp, Option.bind_some, eo, c1, if_false, if_true]
        · unfold mX6_object
          simp only [rchk, Option.bind_some, er, c1, if_false, if_true]
    · exact bad (Or.inr hy)
  · exact bad (Or.inl hx)
/-! count -/
def ctot (c : Nat → Int32) (v : Int32) : Nat → Int32
  | 0 => 0
  | n + 1 => if v = -1 ∨ v = nI n then ctot c v n + c n else ctot c v n
theorem ct5 {b p N fu : Nat} {gn : tN} {gp : tV} {pi : Nat → Nat} {f1 : jM} {c : Nat → Int32} {v w : Int32} (hfu : 2000 ≤ fu) (hp : b + 2 + 8 * N ≤ p) (hN : N ≤ 5) (h : ∀ n, n < N → mX5_countOf fu (mkC b p N gn gp pi f1) b (b + 2 + 8 * n) w = some (c n, mkC b p N gn gp pi f1)) : mX5_count_B34 fu b v w (mkC b p N gn gp pi f1) = some (ctot c v N, mkC b p N gn gp pi f1) := by
  unfold mX5_count_B34
  refine lup0 (fun k n => mX5_count_L39 fu b v w k (ctot c v n) (nI n) (mkC b p N gn gp pi f1)) N _ fu (by omega) ?_ ?_
  · intro k
    rw [mX5_count_L39]
    simp only [cF0 hp, cLen hp, Option.bind_some]
    rw [if_pos (nI_le (Nat.le_refl _) (by omega))]
  · intro k n hn
    rw [mX5_count_L39]
    simp only [cF0 hp, cLen hp, Option.bind_some]
    rw [if_neg (nI_ge hn (by omega))]
    unfold mX5_count_B60
    simp only [cF0 hp, cNod hp hn (show N < 2 ^ 31 by omega), cchk5 hp, Option.bind_some, h n hn, nI_1]
    by_cases e : v = -1
    · rw [if_pos e]
      simp only [ctot, e, true_or, if_true]
    · rw [if_neg e]
      by_cases e' : v = nI n
      · rw [if_pos e']
        simp only [ctot]
        rw [if_pos (Or.inr e')]
      · rw [if_neg e']
        simp only [ctot]
        rw [if_neg (fun u => u.elim e e')]
theorem ct6 {M N fu : Nat} {A : tA} {V : tV} {f2 : jM} {c : Nat → Int32} {v w : Int32} (hfu : 2000 ≤ fu) (hA : A 0 1 = N) (hN : N ≤ 5) (h : ∀ n k39 v3, n < N → mX6_count_B62 fu k39 M v w v3 (nI n) (mkR M (toR A V) f2) = k39 (v3 + c n) (nI n + 1) (mkR M (toR A V) f2)) : mX6_count_B36 fu M v w 0 (mkR M (toR A V) f2) = some (ctot c v N, mkR M (toR A V) f2) := by
  unfold mX6_count_B36
  refine lup0 (fun k n => mX6_count_L39 fu M v w k (ctot c v n) (nI n) (mkR M (toR A V) f2)) N _ fu (by omega) ?_ ?_
  · intro k
    rw [mX6_count_L39]
    simp only [rI1, tR0, hA, Option.bind_some]
    rw [if_pos (nI_le (Nat.le_refl _) (by omega))]
  · intro k n hn
    rw [mX6_count_L39]
    simp only [rI1, tR0, hA, Option.bind_some]
    rw [if_neg (nI_ge hn (by omega)), h n _ _ hn, nI_1]
    by_cases e : v = -1
    · rw [if_pos e]
      simp only [ctot, e, true_or, if_true]
    · rw [if_neg e]
      by_cases e' : nI n = v
      · rw [if_pos e']
        simp only [ctot]
        rw [if_pos (Or.inr e'.symm)]
      · rw [if_neg e']
        simp only [ctot]
        rw [if_neg (fun u => u.elim e (fun u => e' u.symm))]
theorem rc177 {M fu n : Nat} {k39 : Int32 → Int32 → jM → Option (Int32 × jM)} {v w v3 : Int32} {f : jM} {P : Nat → Bool} (hfu : 2000 ≤ fu) (hn : n < 5) (hstep : ∀ kk v3 o, 24 * n ≤ o → o < 24 * n + 24 → mX6_count_L177 fu k39 M v w (nI n) (kk + 1) v3 (nI o) f = mX6_count_L177 fu k39 M v w (nI n) kk (if P o = true then v3 + 1 else v3) (nI (o + 1)) f) : mX6_count_B170 fu k39 M v w v3 (nI n) f = k39 (v3 + nI (cnt (fun k => P (24 * n + k)) 24)) (nI n + 1) f := by
  unfold mX6_count_B170
  have h := lup0 (fun k i => mX6_count_L177 fu k39 M v w (nI n) k (v3 + nI (cnt (fun k => P (24 * n + k)) i)) (nI (24 * n + i)) f) 24 (k39 (v3 + nI (cnt (fun k => P (24 * n + k)) 24)) (nI n + 1) f) fu (by omega)
    (by
      intro k
      rw [mX6_count_L177, i24, nI_mul, nI_add, if_pos (nI_le (Nat.le_refl _) (by omega))])
    (by
      intro k i hi
      rw [hstep k _ (24 * n + i) (by omega) (by omega)]
      by_cases e : P (24 * n + i) = true
      · rw [if_pos e]
        simp only [cnt, e, if_true]
        rw [Int32.add_assoc, nI_1]
        rfl
      · rw [if_neg e]
        simp only [cnt, e, if_false]
        rfl)
  rw [show cnt (fun k => P (24 * n + k)) 0 = 0 from rfl, nI_0, Int32.add_zero, Nat.add_zero] at h
  rw [i24, nI_mul]
  exact h
theorem rc_step {M fu n : Nat} {A : tA} {V : tV} {f2 : jM} {k39 : Int32 → Int32 → jM → Option (Int32 × jM)} {v w : Int32} {P : Nat → Bool} (hn : n < 5) (h01 : ∀ o, o < 120 → A 4 o = 0 ∨ A 4 o = 1) (hb : ∀ o, o < 120 → A 24 o ≤ 1) (h3 : ∀ o, o < 120 → A 3 o < 2 ^ 31) (hP : ∀ o, o < 120 → (P o = true ↔ A 4 o = 1 ∧ (w = 0 ∨ (w = 1 ∧ 0 < A 3 o) ∨ (w = 3 ∧ A 24 o = 0)))) : ∀ kk v3 o, 24 * n ≤ o → o < 24 * n + 24 → mX6_count_L177 fu k39 M v w (nI n) (kk + 1) v3 (nI o) (mkR M (toR A V) f2) = mX6_count_L177 fu k39 M v w (nI n) kk (if P o = true then v3 + 1 else v3) (nI (o + 1)) (mkR M (toR A V) f2) := by
  intro kk v3 o h1 h2
  have ho : o < 120 := by omega
  have hP := hP o ho
  have h3 := h3 o ho
  have hb := hb o ho
  rw [mX6_count_L177, i24, nI_mul, nI_add, if_neg (nI_ge (by omega) (by omega)), rR5, Option.bind_some, rl4, gl_nI ho (by omega), Option.bind_some, tR4, nI_1]
  rcases h01 o ho with u | u
  · rw [u, if_pos (by decide), if_neg (fun w => by have := (hP.mp w).1; omega)]
  · have e219 : ∀ k177 : Int32 → Int32 → jM → Option (Int32 × jM), mX6_count_B219 fu k39 k177 M v w v3 (nI n) (nI o) (mkR M (toR A V) f2) = k177 (if w = 3 ∧ A 24 o = 0 then v3 + 1 else v3) (nI (o + 1)) (mkR M (toR A V) f2) := by
      intro k177
      unfold mX6_count_B219
      rw [nI_1]
      by_cases w3 : w = 3
      · rw [if_pos w3, rR27, Option.bind_some, rl24, gl_nI ho (by omega), Option.bind_some, tR24]
        rcases (show A 24 o = 0 ∨ A 24 o = 1 by omega) with u | u
        · rw [u, if_pos (by decide), if_pos ⟨w3, rfl⟩]
        · rw [u, if_neg (by decide), if_neg (by omega)]
      · rw [if_neg w3, if_neg (fun u => w3 u.1)]
    rw [u, if_neg (by decide)]
    by_cases w0 : w = 0
    · rw [if_pos w0, if_pos (hP.mpr ⟨u, Or.inl w0⟩)]
    · rw [if_neg w0]
      by_cases w1 : w = 1
      · rw [if_pos w1, rR4, Option.bind_some, rl3, gl_nI ho (by omega), Option.bind_some, tR3]
        by_cases c : 0 < A 3 o
        · rw [if_pos (by rw [i0]; exact nI_lt c h3), if_pos (hP.mpr ⟨u, Or.inr (Or.inl ⟨w1, c⟩)⟩)]
        · rw [if_neg (by rw [i0]; exact nI_nlt (by omega) (by omega)), e219, if_neg (by rw [w1]; intro u; exact absurd u.1 (by decide)), if_neg (fun z => by
            rcases (hP.mp z).2 with z | z | z
            · exact w0 z
            · exact c z.2
            · rw [w1] at z; exact absurd z.1 (by decide))]
      · rw [if_neg w1, e219]
        by_cases c : w = 3 ∧ A 24 o = 0
        · rw [if_pos c, if_pos (hP.mpr ⟨u, Or.inr (Or.inr c)⟩)]
        · rw [if_neg c, if_neg (fun z => by
            rcases (hP.mp z).2 with z | z | z
            · exact w0 z
            · exact w1 z.1
            · exact c z)]
