/-! cell, message -/
theorem eC_objectAt {b p N fu : Nat} {gn : tN} {gp : tV} {pi : Nat → Nat} {f0 : jM} {A : tA} {V : tV} {n : Nat} {od : Nat → Nat} {q : Nat} {x : Int32} (hp : b + 2 + 8 * N ≤ p) (hn : n < N) (hfu : 2000 ≤ fu) (hS : SN A V n gn od q) (hsz : ∀ k, k < 24 → A 4 (24 * n + k) = 1 → A 1 (24 * n + k) ≤ 12) : (∃ j, j < 24 ∧ (A 4 (24 * n + j) = 1 ∧ ¬ x < nI (A 2 (24 * n + j)) ∧ ¬ nI (A 2 (24 * n + j) + A 1 (24 * n + j)) < x) ∧ (∀ k, k < j → ¬ (A 4 (24 * n + k) = 1 ∧ ¬ x < nI (A 2 (24 * n + k)) ∧ ¬ nI (A 2 (24 * n + k) + A 1 (24 * n + k)) < x)) ∧ mX2_objectAt fu (mkC b p N gn gp pi f0) (b + 2 + 8 * n) x = some (nI j, mkC b p N gn gp pi f0)) ∨ ((∀ k, k < 24 → ¬ (A 4 (24 * n + k) = 1 ∧ ¬ x < nI (A 2 (24 * n + k)) ∧ ¬ nI (A 2 (24 * n + k) + A 1 (24 * n + k)) < x)) ∧ mX2_objectAt fu (mkC b p N gn gp pi f0) (b + 2 + 8 * n) x = some (-1, mkC b p N gn gp pi f0)) := by
  unfold mX2_objectAt
  refine lsr0 (fun k i => mX2_objectAt_L2 fu (b + 2 + 8 * n) x k (nI i) (mkC b p N gn gp pi f0)) 24 (fun j => A 4 (24 * n + j) = 1 ∧ ¬ x < nI (A 2 (24 * n + j)) ∧ ¬ nI (A 2 (24 * n + j) + A 1 (24 * n + j)) < x) (fun j => some (nI j, mkC b p N gn gp pi f0)) _ fu (by omega) ?_ ?_ ?_
  · intro k _
    rw [mX2_objectAt_L2]
    rfl
  · intro k i hi _ hP
    obtain ⟨h1, h2, h3⟩ := hP
    rw [mX2_objectAt_L2, i24, if_neg (nI_ge hi (by omega))]
    simp only [cchk2 hp hn, Option.bind_some, eC_hasO hp hn hi hS (hsz i hi), h1, if_true]
    rw [if_neg (by decide)]
    simp (disch := omega) only [cNr3, cNl3, cNr4, cNl4, gl_nI, Option.bind_some, ((hS.2.2.2.1 i hi).1 h1).1, ((hS.2.2.2.1 i hi).1 h1).2, nI_add]
    rw [if_neg h2, if_neg h3]
  · intro k i hi hP
    have hP := hP i (Nat.le_refl _)
    rw [mX2_objectAt_L2, i24, if_neg (nI_ge hi (by omega))]
    simp only [cchk2 hp hn, Option.bind_some, eC_hasO hp hn hi hS (hsz i hi)]
    by_cases h1 : A 4 (24 * n + i) = 1
    · simp only [h1, if_true]
      rw [if_neg (by decide)]
      simp (disch := omega) only [cNr3, cNl3, cNr4, cNl4, gl_nI, Option.bind_some, ((hS.2.2.2.1 i hi).1 h1).1, ((hS.2.2.2.1 i hi).1 h1).2, nI_add, i1]
      by_cases h2 : x < nI (A 2 (24 * n + i))
      · rw [if_pos h2]
      · rw [if_neg h2, if_pos (by
          by_cases h3 : nI (A 2 (24 * n + i) + A 1 (24 * n + i)) < x
          · exact h3
          · exact absurd ⟨h1, h2, h3⟩ hP)]
    · simp only [h1, if_false, if_true, i1, nI_add]
theorem sm_mono {f : Nat → Nat} {i j : Nat} (h : i ≤ j) : sm f i ≤ sm f j := by
  induction j with
  | zero => rw [show i = 0 by omega]; exact Nat.le_refl _
  | succ j ih =>
    by_cases hj : i = j + 1
    · subst hj; exact Nat.le_refl _
    · have := ih (by omega)
      simp only [sm]; omega
theorem lay_top {A : tA} {n q : Nat} {od : Nat → Nat} (h : lay1 A n od q) {k : Nat} (hk : k < 24) (ht : A 4 (24 * n + k) = 1) : A 2 (24 * n + k) + A 1 (24 * n + k) < A 10 n := by
  obtain ⟨-, h2, -, h4, h5, -⟩ := h
  obtain ⟨i, hi, rfl⟩ := h4 k hk ht
  rw [h5, (h2 i hi).2.2]
  have := sm_mono (f := fun j => A 1 (24 * n + od j) + 1) (show i + 1 ≤ q by omega)
  simp only [sm] at this
  omega
theorem q_cell {b p M N cl fu : Nat} {f0 f : jM} (hfu : 2000 ≤ fu) (hl : Lay b p M N) (hI : Inv b p M N cl f0 f) (x y z : Int32) : ∃ r, mX5_cell fu f b x y z = some (r, f) ∧ mX6_cell fu f M x y z = some (r, f) := by
  obtain ⟨A, V, gn, gp, pi, od, q, rfl, ⟨hSN, hSP, hSM⟩, ⟨⟨hA, hN1, hN5⟩, wR, wF, wT, wW, wE, wM, wTo, wI⟩, wL⟩ := hI
  have hp := hl.1
  have hr : ∀ r : Int32, mX5_cell fu (mkC b p N gn gp pi (mkR M (toR A V) f0)) b x y z = some (r, mkC b p N gn gp pi (mkR M (toR A V) f0)) → mX6_cell fu (mkR M (toR A V) (mkC b p N gn gp pi f0)) M x y z = some (r, mkR M (toR A V) (mkC b p N gn gp pi f0)) → ∃ r, mX5_cell fu (mkC b p N gn gp pi (mkR M (toR A V) f0)) b x y z = some (r, mkC b p N gn gp pi (mkR M (toR A V) f0)) ∧ mX6_cell fu (mkC b p N gn gp pi (mkR M (toR A V) f0)) M x y z = some (r, mkC b p N gn gp pi (mkR M (toR A V) f0)) := fun r h h' => ⟨r, h, by rw [swapCR hl]; exact h'⟩
  rcases idx x (n := N) (by omega) with ⟨n, hn, rfl⟩ | hx
  · have hS := hSN n hn
    have hL := wL n hn
    have hsz : ∀ k, k < 24 → A 4 (24 * n + k) = 1 → A 1 (24 * n + k) ≤ 12 := fun k hk h => (wF _ (by omega) h).1
    by_cases hz : z < 0 ∨ nI 2 ≤ z
    · have hz' : z < 0 ∨ ¬ z ≤ 1 := hz.imp id (fun h q => absurd (Int32.le_trans h q) (by decide))
      refine hr (-1) ?_ ?_
      · unfold mX5_cell
        simp only [cchk5 hp, Option.bind_some, eC_isNode hp hN5 hn]
        rw [if_neg (by decide)]
        by_cases h0 : z < 0
        · rw [if_pos h0]
        · rw [if_neg h0, if_neg (hz'.resolve_left h0)]
      · unfold mX6_cell
        simp (disch := omega) only [rchk, Option.bind_some, eR_isNd hA hN5 hn, rR11, rl10, gl_nI, tR10]
        rw [if_neg (by decide)]
        by_cases h1 : y < 0
        · rw [if_pos h1]
        · rw [if_neg h1]
          by_cases h2 : nI (A 10 n) ≤ y
          · rw [if_pos h2]
          · rw [if_neg h2]
            by_cases h0 : z < 0
            · rw [if_pos h0]
            · rw [if_neg h0, if_neg (hz'.resolve_left h0)]
    · have hz := z2 hz
      have hz0 : ¬ z < 0 := by rcases hz with rfl | rfl <;> decide
      have hz1 : z ≤ 1 := by rcases hz with rfl | rfl <;> decide
      have c5 : ∀ r0 : Int32, mX2_objectAt fu (mkC b p N gn gp pi (mkR M (toR A V) f0)) (b + 2 + 8 * n) y = some (r0, mkC b p N gn gp pi (mkR M (toR A V) f0)) → ∀ r, (if r0 = -1 then some (-1, mkC b p N gn gp pi (mkR M (toR A V) f0)) else (if z = 0 then some (r0, mkC b p N gn gp pi (mkR M (toR A V) f0)) else (gl 24 (gn n 4) r0).bind fun x15 => some (y - x15, mkC b p N gn gp pi (mkR M (toR A V) f0)))) = some (r, mkC b p N gn gp pi (mkR M (toR A V) f0)) → mX5_cell fu (mkC b p N gn gp pi (mkR M (toR A V) f0)) b (nI n) y z = some (r, mkC b p N gn gp pi (mkR M (toR A V) f0)) := by
        intro r0 h0 r h
        unfold mX5_cell
        simp only [cchk5 hp, Option.bind_some, eC_isNode hp hN5 hn]
        rw [if_neg (by decide), if_neg hz0, if_pos hz1]
        simp only [cF0 hp, cNod hp hn (by omega), cchk2 hp hn, Option.bind_some, h0, cNr4 hp hn, cNl4 hp hn]
        exact h
      have c6 : ¬ y < 0 → ¬ nI (A 10 n) ≤ y → ∀ r, mX6_cell_L36 fu M (nI n) y z fu 0 (mkR M (toR A V) (mkC b p N gn gp pi f0)) = some (r, mkR M (toR A V) (mkC b p N gn gp pi f0)) → mX6_cell fu (mkR M (toR A V) (mkC b p N gn gp pi f0)) M (nI n) y z = some (r, mkR M (toR A V) (mkC b p N gn gp pi f0)) := by
        intro h1 h2 r h
        unfold mX6_cell
        simp (disch := omega) only [rchk, Option.bind_some, eR_isNd hA hN5 hn, rR11, rl10, gl_nI, tR10]
        rw [if_neg (by decide), if_neg h1, if_neg h2, if_neg hz0, if_pos hz1]
        exact h
      by_cases hy : y < 0 ∨ nI (A 10 n) ≤ y
      · refine hr (-1) ?_ ?_
        · rcases eC_objectAt (x := y) (gp := gp) (pi := pi) (f0 := mkR M (toR A V) f0) hp hn hfu hS hsz with ⟨j, hj, ⟨hP1, hP2, hP3⟩, -, -⟩ | ⟨-, h⟩
          · exfalso
            have ht := lay_top hL hj hP1
            have h160 := hL.2.2.2.2.2.1
            rcases hy with hy | hy
            · exact hP2 (Int32.lt_of_lt_of_le hy (nI_pos' (by omega)))
            · exact hP3 (Int32.lt_of_lt_of_le (nI_lt ht (by omega)) hy)
          · exact c5 (-1) h (-1) rfl
        · unfold mX6_cell
          simp (disch := omega) only [rchk, Option.bind_some, eR_isNd hA hN5 hn, rR11, rl10, gl_nI, tR10]
          rw [if_neg (by decide)]
          by_cases h1 : y < 0
          · rw [if_pos h1]
          · rw [if_neg h1, if_pos (hy.resolve_left h1)]
      · have h1 : ¬ y < 0 := fun h => hy (Or.inl h)
        have h2 : ¬ nI (A 10 n) ≤ y := fun h => hy (Or.inr h)
        have r6 := lsr0 (fun k i => mX6_cell_L36 fu M (nI n) y z k (nI i) (mkR M (toR A V) (mkC b p N gn gp pi f0))) 24 (fun j => A 4 (24 * n + j) = 1 ∧ ¬ y < nI (A 2 (24 * n + j)) ∧ ¬ nI (A 2 (24 * n + j) + A 1 (24 * n + j)) < y) (fun j => some (if z = 0 then nI j else y - nI (A 2 (24 * n + j)), mkR M (toR A V) (mkC b p N gn gp pi f0))) (some (-1, mkR M (toR A V) (mkC b p N gn gp pi f0))) fu (by omega)
          (by intro k _; rw [mX6_cell_L36]; rfl)
          (by
            intro k i hi _ hP
            obtain ⟨h1, h2, h3⟩ := hP
            rw [mX6_cell_L36, i24, if_neg (nI_ge hi (by omega))]
            simp (disch := omega) only [rR5, rl4, rR3, rl2, rR2, rl1, nI_mul, nI_add, gl_nI, tR4, tR2, tR1, Option.bind_some, h1]
            rw [if_neg (by decide), if_neg h2, if_neg h3]
            by_cases h0 : z = 0 <;> simp [h0])
          (by
            intro k i hi hP
            have hP := hP i (Nat.le_refl _)
            rw [mX6_cell_L36, i24, if_neg (nI_ge hi (by omega))]
            simp (disch := omega) only [rR5, rl4, rR3, rl2, rR2, rl1, nI_mul, nI_add, gl_nI, tR4, tR2, tR1, Option.bind_some, i1]
            rcases wT (24 * n + i) (by omega) with ht | ht
            · rw [ht.1, if_neg (by decide)]
              by_cases q2 : y < nI (A 2 (24 * n + i))
              · rw [if_pos q2]
              · rw [if_neg q2, if_pos (by
                  by_cases q3 : nI (A 2 (24 * n + i) + A 1 (24 * n + i)) < y
                  · exact q3
                  · exact absurd ⟨ht.1, q2, q3⟩ hP)]
            · rw [ht.1, if_pos (by decide)])
        rcases eC_objectAt (x := y) (gp := gp) (pi := pi) (f0 := mkR M (toR A V) f0) hp hn hfu hS hsz with ⟨j, hj, hP, hmin, h⟩ | ⟨hno, h⟩
        · rcases r6 with ⟨j', hj', hP', hmin', h'⟩ | ⟨hno', -⟩
          · have : j = j' := least_eq (P := fun j => A 4 (24 * n + j) = 1 ∧ ¬ y < nI (A 2 (24 * n + j)) ∧ ¬ nI (A 2 (24 * n + j) + A 1 (24 * n + j)) < y) hP hmin hP' hmin'
            subst this
            refine hr (if z = 0 then nI j else y - nI (A 2 (24 * n + j))) (c5 (nI j) h _ ?_) (c6 h1 h2 _ h')
            rw [if_neg (nI_m1 (by omega))]
            simp (disch := omega) only [gl_nI, Option.bind_some, ((hS.2.2.2.1 j hj).1 hP.1).2]
            by_cases h0 : z = 0 <;> simp [h0]
          · exact absurd hP (hno' j hj)
        · rcases r6 with ⟨j', hj', hP', hmin', h'⟩ | ⟨hno', h'⟩
          · exact absurd hP' (hno j' hj')
          · exact hr (-1) (c5 (-1) h (-1) rfl) (c6 h1 h2 _ h')
  · refine hr (-1) ?_ ?_
    · unfold mX5_cell
      simp only [cchk5 hp, Option.bind_some, eC_isNodeX hp hx]
      rfl
    · unfold mX6_cell
      simp only [rchk, Option.bind_some, eR_isNdX hA hx]
      rfl
