/-! field, weight, cell -/
theorem nI_m1 {j : Nat} (h : j < 2 ^ 31) : ¬ nI j = -1 := fun e => absurd (show nI j < 0 by rw [e]; decide) (nI_pos h)
theorem eR_isObj {M : Nat} {A : tA} {V : tV} {f0 : jM} {n k N : Nat} (hN : A 0 1 = N) (hN5 : N ≤ 5) (hn : n < N) (hk : k < 24) (wT : wThe A N) : mX6_isObject (mkR M (toR A V) f0) M (nI n) (nI k) = some (if A 4 (24 * n + k) = 1 then 1 else 0, mkR M (toR A V) f0) := by
  unfold mX6_isObject
  simp only [rchk, Option.bind_some, eR_isNd hN hN5 hn]
  rw [if_neg (by decide), if_neg (nI_pos (by omega)), i24, if_neg (nI_ge hk (by omega))]
  simp (disch := omega) only [rR5, rl4, nI_mul, nI_add, gl_nI, tR4, Option.bind_some]
  rcases wT (24 * n + k) (by omega) with h | h
  · rw [h.1, if_neg (by decide), if_pos rfl]
  · rw [h.1, if_pos (by decide), if_neg (by decide)]
theorem eR_isObjX {M : Nat} {A : tA} {V : tV} {f0 : jM} {N : Nat} {x y : Int32} (hN : A 0 1 = N) (hN5 : N ≤ 5) (h : (x < 0 ∨ nI N ≤ x) ∨ (y < 0 ∨ nI 24 ≤ y)) : mX6_isObject (mkR M (toR A V) f0) M x y = some (0, mkR M (toR A V) f0) := by
  unfold mX6_isObject
  simp only [rchk, Option.bind_some]
  rcases idx x (n := N) (by omega) with ⟨n, hn, rfl⟩ | hx
  · have hy : y < 0 ∨ nI 24 ≤ y := by
      rcases h with h | h
      · rcases h with h | h
        · exact absurd h (nI_pos (by omega))
        · exact absurd h (nI_ge hn (by omega))
      · exact h
    simp only [eR_isNd hN hN5 hn, Option.bind_some]
    rw [if_neg (by decide)]
    by_cases h0 : y < 0
    · rw [if_pos h0]
    · rw [if_neg h0, i24, if_pos (hy.resolve_left h0)]
  · simp only [eR_isNdX hN hx, Option.bind_some]
    rfl
/-- whether the class has the object -/
theorem eC_hasO {b p N : Nat} {gn : tN} {gp : tV} {pi : Nat → Nat} {f0 : jM} {A : tA} {V : tV} {n k : Nat} {od : Nat → Nat} {q : Nat} (hp : b + 2 + 8 * N ≤ p) (hn : n < N) (hk : k < 24) (hS : SN A V n gn od q) (hsz : A 4 (24 * n + k) = 1 → A 1 (24 * n + k) ≤ 12) : mX2_hasObject (mkC b p N gn gp pi f0) (b + 2 + 8 * n) (nI k) = some (if A 4 (24 * n + k) = 1 then 1 else 0, mkC b p N gn gp pi f0) := by
  rw [eC_hasObject hp hn hk]
  obtain ⟨-, -, -, h4, -⟩ := hS
  by_cases h : A 4 (24 * n + k) = 1
  · rw [if_pos h, ((h4 k hk).1 h).1, if_neg (nI_m1 (by have := hsz h; omega))]
  · rw [if_neg h, (h4 k hk).2.1 h, if_pos rfl]
theorem eC_hasF {b p N : Nat} {gn : tN} {gp : tV} {pi : Nat → Nat} {f0 : jM} {A : tA} {V : tV} {n k : Nat} {od : Nat → Nat} {q : Nat} {y : Int32} (hp : b + 2 + 8 * N ≤ p) (hn : n < N) (hk : k < 24) (hS : SN A V n gn od q) (hsz : A 4 (24 * n + k) = 1 → A 1 (24 * n + k) ≤ 12) : mX2_hasField (mkC b p N gn gp pi f0) (b + 2 + 8 * n) (nI k) y = some (if A 4 (24 * n + k) = 1 ∧ ¬ y < 0 ∧ ¬ nI (A 1 (24 * n + k)) ≤ y then 1 else 0, mkC b p N gn gp pi f0) := by
  unfold mX2_hasField
  simp only [cchk2 hp hn, Option.bind_some, eC_hasO hp hn hk hS hsz]
  by_cases h : A 4 (24 * n + k) = 1
  · simp only [h, if_true]
    rw [if_neg (by decide)]
    by_cases h0 : y < 0
    · simp [h0]
    · simp (disch := omega) only [h0, if_false, cNr3, cNl3, gl_nI, Option.bind_some, ((hS.2.2.2.1 k hk).1 h).1]
      by_cases h1 : nI (A 1 (24 * n + k)) ≤ y
      · simp [h1]
      · simp [h1]
  · simp [h]
theorem eC_hasFX {b p N : Nat} {gn : tN} {gp : tV} {pi : Nat → Nat} {f0 : jM} {n : Nat} {x y : Int32} (hp : b + 2 + 8 * N ≤ p) (hn : n < N) (h : x < 0 ∨ nI 24 ≤ x) : mX2_hasField (mkC b p N gn gp pi f0) (b + 2 + 8 * n) x y = some (0, mkC b p N gn gp pi f0) := by
  unfold mX2_hasField
  simp only [cchk2 hp hn, Option.bind_some, eC_hasObjectX h, if_true]
theorem q_field {b p M N cl : Nat} {f0 f : jM} (hl : Lay b p M N) (hI : Inv b p M N cl f0 f) (x y w z : Int32) : ∃ r, mX5_field f b x y w z = some (r, f) ∧ mX6_field f M x y w z = some (r, f) := by
  obtain ⟨A, V, gn, gp, pi, od, q, rfl, ⟨hSN, hSP, hSM⟩, ⟨⟨hA, hN1, hN5⟩, wR, wF, wT, wW, wE, wM, wTo, wI⟩, wL⟩ := hI
  have hp := hl.1
  rcases idx x (n := N) (by omega) with ⟨n, hn, rfl⟩ | hx
  · rcases idx y (n := 24) (by omega) with ⟨k, hk, rfl⟩ | hy
    · have hS := hSN n hn
      have hsz : A 4 (24 * n + k) = 1 → A 1 (24 * n + k) ≤ 12 := fun h => (wF _ (by omega) h).1
      by_cases hc : A 4 (24 * n + k) = 1 ∧ ¬ w < 0 ∧ ¬ nI (A 1 (24 * n + k)) ≤ w
      · obtain ⟨h1, h2, h3⟩ := hc
        obtain ⟨g, hg1, rfl⟩ := nI_of h2
        have hs := hsz h1
        have hg : g < A 1 (24 * n + k) := by
          rcases Nat.lt_or_ge g (A 1 (24 * n + k)) with h | h
          · exact h
          · exact absurd (nI_le h hg1) h3
        have hv := (wF _ (by omega) h1).2.1 g hg
        rw [show (24 * n + k) / 24 = n by omega] at hv
        have hss := hS.2.1 k g hk (by omega) h1
        refine ⟨ansT n (A 5 (12 * (24 * n + k) + g)) (V 6 (12 * (24 * n + k) + g)) z, ?_, ?_⟩
        · unfold mX5_field
          simp only [cchk5 hp, Option.bind_some, eC_isNode hp hN5 hn, cF0 hp, cNod hp hn (by omega), cchk2 hp hn, eC_hasF hp hn hk hS hsz, h1, h2, h3, not_false_eq_true, and_self, if_true, eC_fieldSlot]
          rw [if_neg (by decide), if_neg (by decide), show 6 + k * 12 + g = 6 + 12 * k + g by omega]
          simp only [eC_tellA hp hN5 hn (show 6 + 12 * k + g < 294 by omega) hv hss.1 hss.2, Option.bind_some]
        · rw [swapCR hl]
          unfold mX6_field
          simp only [rchk, Option.bind_some, eR_isObj hA hN5 hn hk wT, h1, if_true]
          rw [if_neg (by decide), if_neg h2]
          simp (disch := omega) only [rR2, rl1, i24, nI_mul, nI_add, gl_nI, tR1, Option.bind_some]
          rw [if_neg h3]
          by_cases hz : z < 0 ∨ nI 2 ≤ z
          · have := z2n hz
            rw [show ansT n (A 5 (12 * (24 * n + k) + g)) (V 6 (12 * (24 * n + k) + g)) z = -1 by rw [ansT, if_neg this.1, if_neg this.2]]
            rcases hz with h | h
            · rw [if_pos h]
            · rw [if_neg (by intro q; exact absurd (Int32.lt_of_lt_of_le q (show (0 : Int32) ≤ nI 2 by decide)) (Int32.not_lt.mpr h)), if_neg (by intro q; exact absurd (Int32.le_trans h q) (by decide))]
          · have hz := z2 hz
            rw [if_neg (by rcases hz with rfl | rfl <;> decide), if_pos (by rcases hz with rfl | rfl <;> decide)]
            simp (disch := omega) only [rR6, rR7, rl5, rl6, i12, nI_mul, nI_add, gl_nI, tR5, tR6, Option.bind_some, eR_told hv hN5 (show n < 5 by omega) hz]
      · refine ⟨-1, ?_, ?_⟩
        · unfold mX5_field
          simp only [cchk5 hp, Option.bind_some, eC_isNode hp hN5 hn, cF0 hp, cNod hp hn (by omega), cchk2 hp hn, eC_hasF hp hn hk hS hsz, hc, if_false, if_true]
          rfl
        · rw [swapCR hl]
          unfold mX6_field
          simp only [rchk, Option.bind_some, eR_isObj hA hN5 hn hk wT]
          by_cases h1 : A 4 (24 * n + k) = 1
          · simp only [h1, if_true]
            rw [if_neg (by decide)]
            by_cases h2 : w < 0
            · rw [if_pos h2]
            · rw [if_neg h2]
              simp (disch := omega) only [rR2, rl1, i24, nI_mul, nI_add, gl_nI, tR1, Option.bind_some]
              rw [if_pos (by
                by_cases h3 : nI (A 1 (24 * n + k)) ≤ w
                · exact h3
                · exact absurd ⟨h1, h2, h3⟩ hc)]
          · simp only [h1, if_false, if_true]
    · refine ⟨-1, ?_, ?_⟩
      · unfold mX5_field
        simp only [cchk5 hp, Option.bind_some, eC_isNode hp hN5 hn, cF0 hp, cNod hp hn (by omega), cchk2 hp hn, eC_hasFX hp hn hy, if_true]
        rfl
      · rw [swapCR hl]
        unfold mX6_field
        simp only [rchk, Option.bind_some, eR_isObjX hA hN5 (Or.inr hy), if_true]
  · refine ⟨-1, ?_, ?_⟩
    · unfold mX5_field
      simp only [cchk5 hp, Option.bind_some, eC_isNodeX hp hx]
      rfl
    · rw [swapCR hl]
      unfold mX6_field
      simp only [rchk, Option.bind_some, eR_isObjX hA hN5 (Or.inl hx), if_true]
theorem q_weight {b p M N cl : Nat} {f0 f : jM} (hl : Lay b p M N) (hI : Inv b p M N cl f0 f) (x y z : Int32) : ∃ r, mX5_weight f b x y z = some (r, f) ∧ mX6_weight f M x y z = some (r, f) := by
  obtain ⟨A, V, gn, gp, pi, od, q, rfl, ⟨hSN, hSP, hSM⟩, ⟨⟨hA, hN1, hN5⟩, wR, wF, wT, wW, wE, wM, wTo, wI⟩, wL⟩ := hI
  have hp := hl.1
  have hr : ∀ r : Int32, mX5_weight (mkC b p N gn gp pi (mkR M (toR A V) f0)) b x y z = some (r, mkC b p N gn gp pi (mkR M (toR A V) f0)) ∧ mX6_weight (mkR M (toR A V) (mkC b p N gn gp pi f0)) M x y z = some (r, mkR M (toR A V) (mkC b p N gn gp pi f0)) → ∃ r, mX5_weight (mkC b p N gn gp pi (mkR M (toR A V) f0)) b x y z = some (r, mkC b p N gn gp pi (mkR M (toR A V) f0)) ∧ mX6_weight (mkC b p N gn gp pi (mkR M (toR A V) f0)) M x y z = some (r, mkC b p N gn gp pi (mkR M (toR A V) f0)) := fun r h => ⟨r, h.1, by rw [swapCR hl]; exact h.2⟩
  rcases idx x (n := N) (by omega) with ⟨n, hn, rfl⟩ | hx
  · rcases idx y (n := N) (by omega) with ⟨m, hm, rfl⟩ | hy
    · rcases idx z (n := 24) (by omega) with ⟨k, hk, rfl⟩ | hz
      · refine hr (nI (A 9 (120 * n + (m * 24 + k)))) ⟨?_, ?_⟩
        · unfold mX5_weight
          simp only [cchk5 hp, Option.bind_some, eC_isNode hp hN5 hn, eC_isNode hp hN5 hm]
          rw [if_neg (by decide), if_neg (by decide), if_neg (nI_pos (by omega)), i24, if_pos (nI_lt hk (by omega))]
          simp (disch := omega) only [cF0, cNod, eC_idOf, cchk2, eC_wOI, Option.bind_some, (hSN n hn).2.2.2.2.1]
        · unfold mX6_weight
          simp only [rchk, Option.bind_some, eR_isNd hA hN5 hn, eR_isNd hA hN5 hm]
          rw [if_neg (by decide), if_neg (by decide), if_neg (nI_pos (by omega)), i24, if_neg (nI_ge hk (by omega))]
          simp (disch := omega) only [rR10, rl9, i120, nI_mul, nI_add, gl_nI, tR9, Option.bind_some]
          rw [show 120 * n + 24 * m + k = 120 * n + (m * 24 + k) by omega]
      · refine hr 0 ⟨?_, ?_⟩
        · unfold mX5_weight
          simp only [cchk5 hp, Option.bind_some, eC_isNode hp hN5 hn, eC_isNode hp hN5 hm]
          rw [if_neg (by decide), if_neg (by decide)]
          by_cases h0 : z < 0
          · rw [if_pos h0]
          · rw [if_neg h0, i24, if_neg (Int32.not_lt.mpr (hz.resolve_left h0))]
        · unfold mX6_weight
          simp only [rchk, Option.bind_some, eR_isNd hA hN5 hn, eR_isNd hA hN5 hm]
          rw [if_neg (by decide), if_neg (by decide)]
          by_cases h0 : z < 0
          · rw [if_pos h0]
          · rw [if_neg h0, i24, if_pos (hz.resolve_left h0)]
    · refine hr 0 ⟨?_, ?_⟩
      · unfold mX5_weight
        simp only [cchk5 hp, Option.bind_some, eC_isNode hp hN5 hn, eC_isNodeX hp hy]
        rfl
      · unfold mX6_weight
        simp only [rchk, Option.bind_some, eR_isNd hA hN5 hn, eR_isNdX hA hy]
        rfl
  · refine hr 0 ⟨?_, ?_⟩
    · unfold mX5_weight
      simp only [cchk5 hp, Option.bind_some, eC_isNodeX hp hx]
      rfl
    · unfold mX6_weight
      simp only [rchk, Option.bind_some, eR_isNdX hA hx]
      rfl
