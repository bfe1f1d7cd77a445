/-! an index: within, or not -/
theorem idx (x : Int32) {n : Nat} (hn : n < 2 ^ 31) : (∃ j, j < n ∧ x = nI j) ∨ (x < 0 ∨ nI n ≤ x) := by
  rcases pk_ix x hn with h | h | h
  · exact Or.inr (Or.inl h)
  · exact Or.inr (Or.inr h)
  · exact Or.inl h
theorem nI_rem {a : Nat} (ha : a < 2 ^ 31) : nI a - nI a / nI 24 * nI 24 = nI (a % 24) := pk_rem ha (by decide) (by decide)
section CB
variable {b p N : Nat} {gn : tN} {gp : Nat → Nat → Int32} {pi : Nat → Nat} {f0 : jM}
theorem eC_isNode {n : Nat} (hp : b + 2 + 8 * N ≤ p) (hN : N ≤ 5) (hn : n < N) : mX5_isNode (mkC b p N gn gp pi f0) b (nI n) = some (1, mkC b p N gn gp pi f0) := by
  unfold mX5_isNode
  rw [if_neg (nI_pos (by omega)), cF0 hp, Option.bind_some, cLen hp, Option.bind_some, if_neg (nI_ge hn (by omega))]
theorem eC_isNodeX {x : Int32} (hp : b + 2 + 8 * N ≤ p) (h : x < 0 ∨ nI N ≤ x) : mX5_isNode (mkC b p N gn gp pi f0) b x = some (0, mkC b p N gn gp pi f0) := by
  unfold mX5_isNode
  by_cases h0 : x < 0
  · rw [if_pos h0]
  · rw [if_neg h0, cF0 hp, Option.bind_some, cLen hp, Option.bind_some, if_pos (h.resolve_left h0)]
theorem eC_isRegister {f : jM} {a : Nat} (ha : a < 6) : mX5_isRegister f (nI a) = some (1, f) := by
  unfold mX5_isRegister
  rw [if_neg (nI_pos (by omega)), i6, if_neg (nI_ge ha (by omega))]
theorem eC_isRegisterX {f : jM} {x : Int32} (h : x < 0 ∨ nI 6 ≤ x) : mX5_isRegister f x = some (0, f) := by
  unfold mX5_isRegister
  by_cases h0 : x < 0
  · rw [if_pos h0]
  · rw [if_neg h0, i6, if_pos (h.resolve_left h0)]
theorem eC_nodeOf {f : jM} {o : Nat} (h : o < 2 ^ 31) : mX5_nodeOf f (nI o) = some (nI (o / 24), f) := by
  unfold mX5_nodeOf
  rw [i24, nI_div h (by decide) (by decide)]
theorem eC_numberOf {f : jM} {o : Nat} (h : o < 2 ^ 31) : mX5_numberOf f (nI o) = some (nI (o % 24), f) := by
  unfold mX5_numberOf
  rw [i24, nI_rem h]
theorem eC_nameOf {f : jM} {o : Nat} (h : o < 2 ^ 31) : mX5_nameOf f (nI o) = some (nI (100 * (o / 24) + o % 24), f) := by
  unfold mX5_nameOf
  simp only [eC_nodeOf h, eC_numberOf h, Option.bind_some, i100, nI_mul, nI_add]
theorem eC_fieldSlot {f : jM} {k j : Nat} : mX5_fieldSlot f (nI k) (nI j) = some (nI (6 + k * 12 + j), f) := by
  unfold mX5_fieldSlot
  simp only [i6, i12, nI_mul, nI_add]
theorem eC_idOf {f : jM} {n k : Nat} : mX5_idOf f (nI n) (nI k) = some (nI (n * 24 + k), f) := by
  unfold mX5_idOf
  simp only [i24, nI_mul, nI_add]
theorem eC_fill {n s : Nat} {k x : Int32} (hp : b + 2 + 8 * N ≤ p) (hn : n < N) (hs : s < 294) : mX2_fill (mkC b p N gn gp pi f0) (b + 2 + 8 * n) (nI s) k x = some (mkC b p N (up3 (up3 gn n 1 s k) n 2 s x) gp pi f0) := by
  unfold mX2_fill
  rw [if_neg (nI_pos (by omega)), show (294 : Int32) = nI 294 by decide +kernel, if_neg (nI_ge hs (by omega))]
  simp (disch := omega) only [cNr1, cNr2, cNs1, cNs2, gs_nI, Option.bind_some]
theorem eC_isId {f : jM} {o : Nat} (ho : o < 120) : mX5_isId f (nI o) = some (1, f) := by
  unfold mX5_isId
  rw [if_neg (nI_pos (by omega)), i120, if_neg (nI_ge ho (by omega))]
theorem eC_wOI {n o : Nat} (hp : b + 2 + 8 * N ≤ p) (hn : n < N) (ho : o < 120) : mX2_weightOfImport (mkC b p N gn gp pi f0) (b + 2 + 8 * n) (nI o) = some (gn n 6 o, mkC b p N gn gp pi f0) := by
  unfold mX2_weightOfImport
  simp only [eC_isId ho, Option.bind_some]
  rw [if_neg (by decide)]
  simp (disch := omega) only [cNr6, cNl6, gl_nI, Option.bind_some]
theorem eC_empty {n s : Nat} (hp : b + 2 + 8 * N ≤ p) (hn : n < N) (hs : s < 294) : mX2_empty (mkC b p N gn gp pi f0) (b + 2 + 8 * n) (nI s) = some (mkC b p N (up3 (up3 gn n 1 s 0) n 2 s 0) gp pi f0) := by
  unfold mX2_empty
  simp only [cchk2 hp hn, eC_fill hp hn hs, Option.bind_some]
theorem eC_copy {n s t : Nat} (hp : b + 2 + 8 * N ≤ p) (hn : n < N) (hs : s < 294) (ht : t < 294) : mX2_copy (mkC b p N gn gp pi f0) (b + 2 + 8 * n) (nI s) (nI t) = some (mkC b p N (up3 (up3 gn n 1 t (gn n 1 s)) n 2 t (gn n 2 s)) gp pi f0) := by
  unfold mX2_copy
  simp (disch := omega) only [cNr1, cNr2, cNl1, cNl2, gl_nI, cchk2, Option.bind_some, eC_fill]
theorem eC_holdsObject {n s : Nat} (hp : b + 2 + 8 * N ≤ p) (hn : n < N) (hs : s < 294) : mX2_holdsObject (mkC b p N gn gp pi f0) (b + 2 + 8 * n) (nI s) = some (if gn n 1 s = 2 ∨ gn n 1 s = 3 then 1 else 0, mkC b p N gn gp pi f0) := by
  unfold mX2_holdsObject
  simp (disch := omega) only [cNr1, cNl1, gl_nI, Option.bind_some]
  by_cases h2 : gn n 1 s = 2
  · simp [h2]
  · by_cases h3 : gn n 1 s = 3
    · simp [h3]
    · simp [h2, h3]
theorem eC_hasObject {n k : Nat} (hp : b + 2 + 8 * N ≤ p) (hn : n < N) (hk : k < 24) : mX2_hasObject (mkC b p N gn gp pi f0) (b + 2 + 8 * n) (nI k) = some (if gn n 3 k = -1 then 0 else 1, mkC b p N gn gp pi f0) := by
  unfold mX2_hasObject
  rw [if_neg (nI_pos (by omega)), i24, if_neg (nI_ge hk (by omega))]
  simp (disch := omega) only [cNr3, cNl3, gl_nI, Option.bind_some]
  split <;> rfl
theorem eC_hasObjectX {n : Nat} {x : Int32} (h : x < 0 ∨ nI 24 ≤ x) : mX2_hasObject (mkC b p N gn gp pi f0) (b + 2 + 8 * n) x = some (0, mkC b p N gn gp pi f0) := by
  unfold mX2_hasObject
  by_cases h0 : x < 0
  · rw [if_pos h0]
  · rw [if_neg h0, i24, if_pos (h.resolve_left h0)]
theorem eC_tell {n s : Nat} {x : Int32} (hp : b + 2 + 8 * N ≤ p) (hn : n < N) (hs : s < 294) (ho : gn n 1 s = 2 ∨ gn n 1 s = 3 → ∃ o, o < 120 ∧ gn n 2 s = nI o) : mX2_tell (mkC b p N gn gp pi f0) (b + 2 + 8 * n) (nI s) x = some (if x = 0 then gn n 1 s else if x = 1 then (if gn n 1 s = 2 ∨ gn n 1 s = 3 then nI (100 * ((gn n 2 s).toNatClampNeg / 24) + (gn n 2 s).toNatClampNeg % 24) else gn n 2 s) else -1, mkC b p N gn gp pi f0) := by
  unfold mX2_tell
  by_cases h0 : x = 0
  · simp (disch := omega) only [h0, if_true, cNr1, cNl1, gl_nI, Option.bind_some]
  · simp only [h0, if_false]
    by_cases h1 : x = 1
    · simp only [h1, if_true, cchk2 hp hn, eC_holdsObject hp hn hs, Option.bind_some]
      by_cases hh : gn n 1 s = 2 ∨ gn n 1 s = 3
      · obtain ⟨o, ho1, ho2⟩ := ho hh
        simp only [hh, if_true]
        rw [if_neg (by decide)]
        simp (disch := omega) only [cNr2, cNl2, gl_nI, Option.bind_some, ho2, eC_nameOf, nI_clamp]
      · simp (disch := omega) only [hh, if_true, if_false, cNr2, cNl2, gl_nI, Option.bind_some]
    · simp only [h1, if_false]
end CB
