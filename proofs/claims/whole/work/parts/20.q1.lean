/-! register, field, weight -/
def ansT (n k : Nat) (v z : Int32) : Int32 := if z = 0 then ckd n k v else if z = 1 then (if k = 2 then nI (100 * (v.toNatClampNeg / 24) + v.toNatClampNeg % 24) else v) else -1
theorem nI_rem' {a : Nat} (ha : a < 2 ^ 31) : nI a - nI (a / 24) * nI 24 = nI (a % 24) := by
  rw [← nI_div ha (show 0 < 24 by decide) (by decide)]; exact nI_rem ha
theorem z2 {z : Int32} (h : ¬ (z < 0 ∨ nI 2 ≤ z)) : z = 0 ∨ z = 1 := by
  rcases idx z (n := 2) (by decide) with ⟨j, hj, rfl⟩ | h'
  · rcases (show j = 0 ∨ j = 1 by omega) with rfl | rfl
    · exact Or.inl (by decide)
    · exact Or.inr (by decide)
  · exact absurd h' h
theorem z2n {z : Int32} (h : z < 0 ∨ nI 2 ≤ z) : ¬ z = 0 ∧ ¬ z = 1 := by
  constructor <;> (rintro rfl; rcases h with h | h <;> revert h <;> decide)
theorem eR_told {f : jM} {A : tA} {N n k : Nat} {v z : Int32} (h : okv A N n k v) (hN : N ≤ 5) (hn : n < 5) (hz : z = 0 ∨ z = 1) : mX6_told f (nI n) (nI k) v z = some (ansT n k v z, f) := by
  unfold mX6_told ansT
  rcases h with ⟨rfl, rfl⟩ | rfl | ⟨rfl, o, ho, rfl, -⟩
  · rw [if_neg (show ¬ nI 0 = (2 : Int32) by decide), if_neg (show ¬ nI 0 = (2 : Int32) by decide), ckd0]
    rcases hz with rfl | rfl <;> rfl
  · rw [if_neg (show ¬ nI 1 = (2 : Int32) by decide), if_neg (show ¬ nI 1 = (2 : Int32) by decide), ckd1]
    rcases hz with rfl | rfl <;> rfl
  · rw [if_pos (show nI 2 = (2 : Int32) by decide), if_pos (show nI 2 = (2 : Int32) by decide)]
    have hlt : o < 2 ^ 31 := by omega
    rw [i24, nI_div hlt (by decide) (by decide), nI_rem' hlt, clI hlt]
    rcases hz with rfl | rfl
    · rw [if_pos rfl, if_pos rfl]
      by_cases hc : o / 24 = n
      · rw [if_pos (by rw [hc]), ckdL hlt hc]; rfl
      · rw [if_neg (fun e => hc ((nI_eq (by omega) (by omega)).mp e)), ckdF hlt hc]
    · rw [if_neg (by decide), if_neg (by decide), if_pos rfl, if_pos rfl, i100, nI_mul, nI_add]
theorem eC_tellA {b p N : Nat} {gn : tN} {gp : tV} {pi : Nat → Nat} {f0 : jM} {A : tA} {n s k : Nat} {v z : Int32} (hp : b + 2 + 8 * N ≤ p) (hN5 : N ≤ 5) (hn : n < N) (hs : s < 294) (hv : okv A N n k v) (h1 : gn n 1 s = ckd n k v) (h2 : gn n 2 s = v) : mX2_tell (mkC b p N gn gp pi f0) (b + 2 + 8 * n) (nI s) z = some (ansT n k v z, mkC b p N gn gp pi f0) := by
  rw [eC_tell hp hn hs]
  · rw [h1, h2]
    have := ckd_obj hv hN5
    unfold ansT
    simp only [this]
  · rw [h1, h2, ckd_obj hv hN5]
    intro h2
    rw [h2] at hv
    obtain ⟨o, h3, h4, -⟩ := okv_obj hv
    exact ⟨o, by omega, h4⟩
theorem q_register {b p M N cl : Nat} {f0 f : jM} (hl : Lay b p M N) (hI : Inv b p M N cl f0 f) (x y z : Int32) : ∃ r, mX5_register f b x y z = some (r, f) ∧ mX6_register f M x y z = some (r, f) := by
  obtain ⟨A, V, gn, gp, pi, od, q, rfl, ⟨hSN, hSP, hSM⟩, ⟨⟨hA, hN1, hN5⟩, wR, wF, wT, wW, wE, wM, wTo, wI⟩, wL⟩ := hI
  have hp := hl.1
  rcases idx x (n := N) (by omega) with ⟨n, hn, rfl⟩ | hx
  · rcases idx y (n := 6) (by omega) with ⟨a, ha, rfl⟩ | hy
    · have hv := wR n a hn ha
      have hs := (hSN n hn).1 a ha
      refine ⟨ansT n (A 7 (6 * n + a)) (V 8 (6 * n + a)) z, ?_, ?_⟩
      · unfold mX5_register
        simp only [cchk5 hp, Option.bind_some, eC_isNode hp hN5 hn, eC_isRegister ha, cF0 hp, cNod hp hn (by omega), cchk2 hp hn, eC_tellA hp hN5 hn (show a < 294 by omega) hv hs.1 hs.2]
        rw [if_neg (by decide), if_neg (by decide)]
      · rw [swapCR hl]
        unfold mX6_register
        simp only [rchk, Option.bind_some, eR_isReg hA hN5 hn ha]
        rw [if_neg (by decide)]
        by_cases hz : z < 0 ∨ nI 2 ≤ z
        · have := z2n hz
          rw [show ansT n (A 7 (6 * n + a)) (V 8 (6 * n + a)) z = -1 by rw [ansT, if_neg this.1, if_neg this.2]]
          rcases hz with h | h
          · rw [if_pos h]
          · rw [if_neg (by intro q; exact absurd (Int32.lt_of_lt_of_le q (show (0 : Int32) ≤ nI 2 by decide)) (Int32.not_lt.mpr h)), if_neg (by intro q; exact absurd (Int32.le_trans h q) (by decide))]
        · have hz := z2 hz
          rw [if_neg (by rcases hz with rfl | rfl <;> decide), if_pos (by rcases hz with rfl | rfl <;> decide)]
          simp (disch := omega) only [rR8, rR9, rl7, rl8, i6, nI_mul, nI_add, gl_nI, tR7, tR8, Option.bind_some, eR_told hv hN5 (show n < 5 by omega) hz]
    · refine ⟨-1, ?_, ?_⟩
      · unfold mX5_register
        simp only [cchk5 hp, Option.bind_some, eC_isNode hp hN5 hn, eC_isRegisterX hy]
        rfl
      · rw [swapCR hl]
        unfold mX6_register
        simp only [rchk, Option.bind_some, eR_isRegX hA hN5 (Or.inr hy)]
        rfl
  · refine ⟨-1, ?_, ?_⟩
    · unfold mX5_register
      simp only [cchk5 hp, Option.bind_some, eC_isNodeX hp hx]
      rfl
    · rw [swapCR hl]
      unfold mX6_register
      simp only [rchk, Option.bind_some, eR_isRegX hA hN5 (Or.inl hx)]
      rfl
