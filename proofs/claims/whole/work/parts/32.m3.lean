/-! make -/
theorem cnt_set {P Q : Nat → Bool} {k : Nat} : ∀ {n : Nat}, k < n → P k = false → Q k = true → (∀ i, i ≠ k → Q i = P i) → cnt Q n = cnt P n + 1 := by
  intro n
  induction n with
  | zero => intro h; omega
  | succ n ih =>
    intro h1 h2 h3 h4
    simp only [cnt]
    by_cases h : k = n
    · subst h
      rw [h2, h3, cnt_ext (P := Q) (Q := P) (fun i hi => h4 i (by omega))]
      simp
    · rw [ih (by omega) h2 h3 h4, h4 n (by omega)]
      omega
theorem okv_mono {A A' : tA} {N n k : Nat} {v : Int32} (h : okv A N n k v) (h4 : ∀ o, A 4 o = 1 → A' 4 o = 1) (h9 : ∀ o, o < 24 * N → 0 < A 9 (120 * n + o) → 0 < A' 9 (120 * n + o)) : okv A' N n k v := by
  rcases h with h | h | ⟨h, o, h1, h2, h3, h5⟩
  · exact Or.inl h
  · exact Or.inr (Or.inl h)
  · exact Or.inr (Or.inr ⟨h, o, h1, h2, h4 o h3, h5.imp id (h9 o h1)⟩)
def clA (A : tA) (o i : Nat) : tA := fun j x => if j = 5 ∧ 12 * o ≤ x ∧ x < 12 * o + i then 0 else A j x
def clV (V : tV) (o i : Nat) : tV := fun j x => if j = 6 ∧ 12 * o ≤ x ∧ x < 12 * o + i then 0 else V j x
theorem clA_s {A : tA} {o i : Nat} : upA (clA A o i) 5 (12 * o + i) 0 = clA A o (i + 1) := by
  funext j x
  by_cases h : j = 5 ∧ x = 12 * o + i
  · obtain ⟨rfl, rfl⟩ := h
    rw [upA_s]
    show 0 = if 5 = 5 ∧ 12 * o ≤ 12 * o + i ∧ 12 * o + i < 12 * o + (i + 1) then 0 else _
    rw [if_pos ⟨rfl, by omega, by omega⟩]
  · rw [upA_n _ _ (by omega)]
    simp only [clA]
    by_cases h2 : j = 5 ∧ 12 * o ≤ x ∧ x < 12 * o + i
    · rw [if_pos h2, if_pos (by omega)]
    · rw [if_neg h2, if_neg (by omega)]
theorem clV_s {V : tV} {o i : Nat} : up2 (clV V o i) 6 (12 * o + i) 0 = clV V o (i + 1) := by
  funext j x
  by_cases h : j = 6 ∧ x = 12 * o + i
  · obtain ⟨rfl, rfl⟩ := h
    rw [up2_s]
    show 0 = if 6 = 6 ∧ 12 * o ≤ 12 * o + i ∧ 12 * o + i < 12 * o + (i + 1) then 0 else _
    rw [if_pos ⟨rfl, by omega, by omega⟩]
  · rw [up2_n _ _ (by omega)]
    simp only [clV]
    by_cases h2 : j = 6 ∧ 12 * o ≤ x ∧ x < 12 * o + i
    · rw [if_pos h2, if_pos (by omega)]
    · rw [if_neg h2, if_neg (by omega)]
theorem clA_0 {A : tA} {o : Nat} : clA A o 0 = A := by
  funext j x
  simp only [clA]
  rw [if_neg (by omega)]
theorem clV_0 {V : tV} {o : Nat} : clV V o 0 = V := by
  funext j x
  simp only [clV]
  rw [if_neg (by omega)]
/-- what make does to the numbers -/
def mkA (A : tA) (n a k s : Nat) : tA := upA (clA (upA (upA (upA (upA A 4 (24 * n + k) 1) 1 (24 * n + k) s) 2 (24 * n + k) (A 10 n)) 10 n (A 10 n + (s + 1))) (24 * n + k) 12) 7 (6 * n + a) 2
def mkV (V : tV) (n a k : Nat) : tV := up2 (clV V (24 * n + k) 12) 8 (6 * n + a) (nI (24 * n + k))
theorem upA_id {A : tA} {j i x : Nat} (h : A j i = x) : upA A j i x = A := by
  funext j' i'
  by_cases e : j' = j ∧ i' = i
  · obtain ⟨rfl, rfl⟩ := e
    rw [upA_s, h]
  · rw [upA_n _ _ (by omega)]
theorem upA_comm {A : tA} {j i x j' i' x' : Nat} (h : j ≠ j') : upA (upA A j i x) j' i' x' = upA (upA A j' i' x') j i x := by
  funext a c
  by_cases h1 : a = j ∧ c = i
  · obtain ⟨rfl, rfl⟩ := h1
    rw [upA_n _ _ (by omega), upA_s, upA_s]
  · rw [upA_n (upA A j' i' x') _ (by omega)]
    by_cases h2 : a = j' ∧ c = i'
    · obtain ⟨rfl, rfl⟩ := h2
      rw [upA_s, upA_s]
    · rw [upA_n _ _ (by omega), upA_n _ _ (by omega), upA_n _ _ (by omega)]
theorem eR_make {M fu n a k s : Nat} {A : tA} {V : tV} {f0 : jM} (hfu : 2000 ≤ fu) (hn : n < 5) (ha : a < 6) (hk : k < 24) (hs : s ≤ 12) (ht : A 10 n ≤ 160) (h3 : A 3 (24 * n + k) = 0) (hroom : A 10 n + s + 1 ≤ 160) : mX6_make_B52 fu M (nI n) (nI a) (nI s) (nI k) (mkR M (toR A V) f0) = some (nI k, mkR M (toR (mkA A n a k s) (mkV V n a k)) f0) := by
  unfold mX6_make_B52
  rw [i24, if_neg (fun q => absurd ((nI_eq (by omega) (by omega)).mp q) (by omega))]
  simp (disch := omega) only [rR11, rl10, gl_nI, tR10, Option.bind_some, nI_add, i1, i160, nI_leq]
  rw [if_pos hroom]
  have hb1 : vp_nar .boolean (nI 1) = nI 1 := by decide +kernel
  simp (disch := omega) only [rR5, rR2, rR3, rR4, rR11, rs4, rs1, rs2, rs3, rs10, rl10, nI_mul, nI_add, gs_nI, gl_nI, hb1, uR4, uR1, uR2, uR3, uR10, tR10, Option.bind_some]
  have e0 := i0
  rw [e0]
  simp only [uR3]
  have hA1 : ∀ x, upA (upA (upA A 4 (24 * n + k) 1) 1 (24 * n + k) s) 2 (24 * n + k) x 3 (24 * n + k) = 0 := fun x => h3
  have e1 : upA (upA A 4 (24 * n + k) 1) 1 (24 * n + k) s 10 n = A 10 n := rfl
  rw [e1]
  rw [upA_id (hA1 _)]
  have e2 : upA (upA (upA A 4 (24 * n + k) 1) 1 (24 * n + k) s) 2 (24 * n + k) (A 10 n) 10 n = A 10 n := rfl
  simp (disch := omega) only [rl10, gl_nI, tR10, Option.bind_some, rs10, gs_nI, nI_add, uR10, e2]
  generalize hA' : upA (upA (upA (upA A 4 (24 * n + k) 1) 1 (24 * n + k) s) 2 (24 * n + k) (A 10 n)) 10 n (A 10 n + (s + 1)) = A'
  have key := lup0 (fun m i => mX6_make_L141 fu M (nI n) (nI a) (nI k) (nI (24 * n + k)) m (nI i) (mkR M (toR (clA A' (24 * n + k) i) (clV V (24 * n + k) i)) f0)) 12 (some (nI k, mkR M (toR (mkA A n a k s) (mkV V n a k)) f0)) fu (by omega)
    (by
      intro m
      rw [mX6_make_L141, i12, if_pos (nI_le (Nat.le_refl _) (by decide))]
      simp (disch := omega) only [rR8, rR9, rs7, rs8, i6, i2, nI_mul, nI_add, gs_nI, uR7, uR8, Option.bind_some]
      rw [mkA, mkV, hA'])
    (by
      intro m i hi
      rw [mX6_make_L141, i12, if_neg (nI_ge hi (by decide))]
      have hz : (0 : Int32) = nI 0 := i0
      simp (disch := omega) only [rR6, rR7, rs5, rs6, i6, i1, nI_mul, nI_add, gs_nI, uR6, Option.bind_some]
      rw [hz]
      simp only [uR5, uR6]
      rw [clA_s, ← hz, clV_s])
  rw [clA_0, clV_0] at key
  exact key
/-- the class's tables behind make -/
def mkG (gn : tN) (n a k s : Nat) : tN := up3 (up3 (up3 (up3 (up3 (up3 (up3 gn n 3 k (nI s)) n 4 k (gn n 0 2)) n 7 (gn n 0 0).toNatClampNeg (nI k)) n 0 0 (gn n 0 0 + 1)) n 0 2 (gn n 0 2 + (nI s + 1))) n 1 a 2) n 2 a (nI (24 * n + k))
theorem eC_make {b p N n a k s q t : Nat} {gn : tN} {gp : tV} {pi : Nat → Nat} {f0 : jM} (hp : b + 2 + 8 * N ≤ p) (hn : n < N) (ha : a < 6) (hk : k < 24) (h0 : gn n 0 0 = nI q) (hq : q < 24) (h2 : gn n 0 2 = nI t) : ((mX2_lay (mkC b p N gn gp pi f0) (b + 2 + 8 * n) (nI k) (nI s)).bind fun f17 => (mX5_idOf f17 (nI n) (nI k)).bind fun r18 => (chk 2 r18.2 (b + 2 + 8 * n)).bind fun _ => (mX2_fill r18.2 (b + 2 + 8 * n) (nI a) (2 : Int32) r18.1).bind fun f20 => some (nI k, f20)) = some (nI k, mkC b p N (mkG gn n a k s) gp pi f0) := by
  unfold mX2_lay
  have r0 : ∀ x y, up3 (up3 gn n 3 k x) n 4 k y n 0 0 = nI q := fun x y => by rw [up3_n _ _ (by omega), up3_n _ _ (by omega), h0]
  have r0' : ∀ x y z i, up3 (up3 (up3 gn n 3 k x) n 4 k y) n 7 i z n 0 0 = nI q := fun x y z i => by rw [up3_n _ _ (by omega), r0]
  have r2 : ∀ x, up3 gn n 3 k x n 0 2 = nI t := fun x => by rw [up3_n _ _ (by omega), h2]
  have r2' : ∀ x y z i w, up3 (up3 (up3 (up3 gn n 3 k x) n 4 k y) n 7 i z) n 0 0 w n 0 2 = nI t := fun x y z i w => by rw [up3_n _ _ (by omega), up3_n _ _ (by omega), up3_n _ _ (by omega), up3_n _ _ (by omega), h2]
  simp (disch := omega) only [cNr3, cNr4, cNr7, cNs3, cNs4, cNs7, cNg0, cNg2, cNw0, cNw2, gs_nI, Option.bind_some, r0, r0', r2, r2', eC_idOf, cchk2, eC_fill]
  unfold mkG
  rw [h0, h2, clI (by omega), show n * 24 + k = 24 * n + k by omega]
theorem SIM_make {A : tA} {V : tV} {N n a k s : Nat} {gn : tN} {gp : tV} {pi : Nat → Nat} {od : Nat → Nat → Nat} {q : Nat → Nat} (h : SIM A V N gn gp pi od q) (hn : n < N) (hN : N ≤ 5) (ha : a < 6) (hk : k < 24) (hs : s ≤ 12) (hq : q n < 24) (ht : A 4 (24 * n + k) ≠ 1) (h0 : ∀ m, m < N → gn m 0 0 = nI (q m) ∧ gn m 0 2 = nI (A 10 m)) : SIM (mkA A n a k s) (mkV V n a k) N (mkG gn n a k s) gp pi (fun m i => if m = n ∧ i = q n then k else od m i) (fun m => if m = n then q n + 1 else q m) := by
  obtain ⟨hN', hP, hM⟩ := h
  refine ⟨fun m hm => ?_, hP, hM⟩
  obtain ⟨h1, h2, h3, h4, h5, h6, h7⟩ := hN' m hm
  have hcl : (gn n 0 0).toNatClampNeg = q n := by rw [(h0 n hn).1, clI (by omega)]
  have a4 : ∀ o, mkA A n a k s 4 o = if o = 24 * n + k then 1 else A 4 o := by
    intro o
    by_cases e : o = 24 * n + k
    · subst e; rw [if_pos rfl]; exact upA_s A 4 _ 1
    · rw [if_neg e]; exact upA_n A 1 (Or.inr e)
  have a1 : ∀ o, mkA A n a k s 1 o = if o = 24 * n + k then s else A 1 o := by
    intro o
    by_cases e : o = 24 * n + k
    · subst e; rw [if_pos rfl]; exact upA_s (upA A 4 _ 1) 1 _ s
    · rw [if_neg e]; exact upA_n (upA A 4 _ 1) s (Or.inr e)
  have a2 : ∀ o, mkA A n a k s 2 o = if o = 24 * n + k then A 10 n else A 2 o := by
    intro o
    by_cases e : o = 24 * n + k
    · subst e; rw [if_pos rfl]; exact upA_s (upA (upA A 4 _ 1) 1 _ s) 2 _ _
    · rw [if_neg e]; exact upA_n (upA (upA A 4 _ 1) 1 _ s) _ (Or.inr e)
  have a10 : ∀ m, mkA A n a k s 10 m = if m = n then A 10 n + (s + 1) else A 10 m := by
    intro m
    by_cases e : m = n
    · subst e; rw [if_pos rfl]; exact upA_s (upA (upA (upA A 4 _ 1) 1 _ s) 2 _ _) 10 _ _
    · rw [if_neg e]; exact upA_n (upA (upA (upA A 4 _ 1) 1 _ s) 2 _ _) _ (Or.inr e)
  have a5 : ∀ i, mkA A n a k s 5 i = if 12 * (24 * n + k) ≤ i ∧ i < 12 * (24 * n + k) + 12 then 0 else A 5 i := by
    intro i
    show (if 5 = 5 ∧ 12 * (24 * n + k) ≤ i ∧ i < 12 * (24 * n + k) + 12 then 0 else A 5 i) = _
    by_cases e : 12 * (24 * n + k) ≤ i ∧ i < 12 * (24 * n + k) + 12
    · rw [if_pos e, if_pos ⟨rfl, e⟩]
    · rw [if_neg e, if_neg (fun q => e q.2)]
  have v6 : ∀ i, mkV V n a k 6 i = if 12 * (24 * n + k) ≤ i ∧ i < 12 * (24 * n + k) + 12 then 0 else V 6 i := by
    intro i
    show (if 6 = 6 ∧ 12 * (24 * n + k) ≤ i ∧ i < 12 * (24 * n + k) + 12 then 0 else V 6 i) = _
    by_cases e : 12 * (24 * n + k) ≤ i ∧ i < 12 * (24 * n + k) + 12
    · rw [if_pos e, if_pos ⟨rfl, e⟩]
    · rw [if_neg e, if_neg (fun q => e q.2)]
  have a7 : ∀ i, mkA A n a k s 7 i = if i = 6 * n + a then 2 else A 7 i := by
    intro i
    by_cases e : i = 6 * n + a
    · subst e; rw [if_pos rfl]; exact upA_s _ 7 _ 2
    · rw [if_neg e]; exact upA_n _ 2 (Or.inr e)
  have v8 : ∀ i, mkV V n a k 8 i = if i = 6 * n + a then nI (24 * n + k) else V 8 i := by
    intro i
    by_cases e : i = 6 * n + a
    · subst e; rw [if_pos rfl]; exact up2_s _ 8 _ _
    · rw [if_neg e]; exact up2_n _ _ (Or.inr e)
  have g12 : ∀ j i, j = 1 ∨ j = 2 → ¬ (m = n ∧ i = a) → mkG gn n a k s m j i = gn m j i := by
    intro j i hj hi
    unfold mkG
    rw [up3_n _ _ (by omega), up3_n _ _ (by omega), up3_n _ _ (by omega), up3_n _ _ (by omega), up3_n _ _ (by omega), up3_n _ _ (by omega), up3_n _ _ (by omega)]
  have g5 : ∀ j i, j = 5 ∨ j = 6 → mkG gn n a k s m j i = gn m j i := by
    intro j i hj
    unfold mkG
    rw [up3_n _ _ (by omega), up3_n _ _ (by omega), up3_n _ _ (by omega), up3_n _ _ (by omega), up3_n _ _ (by omega), up3_n _ _ (by omega), up3_n _ _ (by omega)]
  have g3 : ∀ i, mkG gn n a k s m 3 i = if m = n ∧ i = k then nI s else gn m 3 i := by
    intro i
    unfold mkG
    rw [up3_n _ _ (by omega), up3_n _ _ (by omega), up3_n _ _ (by omega), up3_n _ _ (by omega), up3_n _ _ (by omega), up3_n _ _ (by omega)]
    by_cases e : m = n ∧ i = k
    · rw [if_pos e, e.1, e.2, up3_s]
    · rw [if_neg e, up3_n _ _ (by omega)]
  have g4 : ∀ i, mkG gn n a k s m 4 i = if m = n ∧ i = k then gn n 0 2 else gn m 4 i := by
    intro i
    unfold mkG
    rw [up3_n _ _ (by omega), up3_n _ _ (by omega), up3_n _ _ (by omega), up3_n _ _ (by omega), up3_n _ _ (by omega)]
    by_cases e : m = n ∧ i = k
    · rw [if_pos e, e.1, e.2, up3_s]
    · rw [if_neg e, up3_n _ _ (by omega), up3_n _ _ (by omega)]
  have g7 : ∀ i, mkG gn n a k s m 7 i = if m = n ∧ i = q n then nI k else gn m 7 i := by
    intro i
    unfold mkG
    rw [hcl, up3_n _ _ (by omega), up3_n _ _ (by omega), up3_n _ _ (by omega), up3_n _ _ (by omega)]
    by_cases e : m = n ∧ i = q n
    · rw [if_pos e, e.1, e.2, up3_s]
    · rw [if_neg e, up3_n _ _ (by omega), up3_n _ _ (by omega), up3_n _ _ (by omega)]
  have g0 : ∀ i, mkG gn n a k s m 0 i = if m = n ∧ i = 0 then nI (q n + 1) else if m = n ∧ i = 2 then nI (A 10 n + (s + 1)) else gn m 0 i := by
    intro i
    unfold mkG
    rw [up3_n _ _ (by omega), up3_n _ _ (by omega)]
    by_cases e : m = n ∧ i = 0
    · rw [if_pos e, e.1, e.2, up3_n _ _ (by omega), up3_s, (h0 n hn).1, nI_1]
    · rw [if_neg e]
      by_cases e2 : m = n ∧ i = 2
      · rw [if_pos e2, e2.1, e2.2, up3_s, (h0 n hn).2, nI_1, nI_add]
      · rw [if_neg e2, up3_n _ _ (by omega), up3_n _ _ (by omega), up3_n _ _ (by omega), up3_n _ _ (by omega), up3_n _ _ (by omega)]
  refine ⟨fun c hc => ?_, fun k' f hk' hf ht' => ?_, fun k' f hk' hf ht' => ?_, fun k' hk' => ?_, fun o ho => ?_, fun i hi => ?_, ?_⟩
  · by_cases e : m = n ∧ c = a
    · obtain ⟨rfl, rfl⟩ := e
      rw [a7, v8, if_pos rfl, if_pos rfl, ckdL (by omega) (by omega)]
      unfold mkG
      rw [up3_n _ _ (by omega), up3_s, up3_s]
      exact ⟨rfl, rfl⟩
    · rw [g12 1 c (Or.inl rfl) e, g12 2 c (Or.inr rfl) e, a7, v8, if_neg (by omega), if_neg (by omega)]
      exact h1 c hc
  · rw [g12 1 _ (Or.inl rfl) (by omega), g12 2 _ (Or.inr rfl) (by omega), a5, v6]
    by_cases e : 24 * m + k' = 24 * n + k
    · rw [if_pos (by omega), if_pos (by omega), ckd0]
      exact h3 k' f hk' hf (by rw [e]; exact ht)
    · rw [a4, if_neg e] at ht'
      rw [if_neg (by omega), if_neg (by omega)]
      exact h2 k' f hk' hf ht'
  · rw [g12 1 _ (Or.inl rfl) (by omega), g12 2 _ (Or.inr rfl) (by omega)]
    rw [a4] at ht'
    by_cases e : 24 * m + k' = 24 * n + k
    · rw [if_pos e] at ht'; exact absurd rfl ht'
    · rw [if_neg e] at ht'
      exact h3 k' f hk' hf ht'
  · rw [a4, a1, a2, g3, g4, g5 5 k' (Or.inl rfl)]
    by_cases e : 24 * m + k' = 24 * n + k
    · have e1 : m = n ∧ k' = k := by omega
      rw [if_pos e, if_pos e, if_pos e, if_pos e1, if_pos e1, (h0 n hn).2]
      exact ⟨fun _ => ⟨rfl, rfl⟩, fun q => absurd rfl q, (h4 k' hk').2.2⟩
    · have e1 : ¬ (m = n ∧ k' = k) := by omega
      rw [if_neg e, if_neg e, if_neg e, if_neg e1, if_neg e1]
      exact h4 k' hk'
  · rw [g5 6 o (Or.inr rfl)]
    exact h5 o ho
  · rw [g7]
    dsimp only at hi ⊢
    by_cases e : m = n ∧ i = q n
    · rw [if_pos e, if_pos e]
    · rw [if_neg e, if_neg e]
      by_cases e2 : m = n
      · rw [if_pos e2] at hi
        exact h6 i (by rw [e2]; omega)
      · rw [if_neg e2] at hi
        exact h6 i hi
  · rw [g0, g0, g0, g0, a10]
    dsimp only
    obtain ⟨p1, p2, p3, p4⟩ := h7
    by_cases e : m = n
    · subst e
      refine ⟨?_, ?_, ?_, ?_⟩
      · rw [if_pos ⟨rfl, rfl⟩, if_pos rfl]
      · rw [if_neg (by omega), if_neg (by omega)]; exact p2
      · rw [if_neg (by omega), if_pos ⟨rfl, rfl⟩, if_pos rfl]
      · rw [if_neg (by omega), if_neg (by omega)]; exact p4
    · simp only [e, false_and, if_false]
      exact ⟨p1, p2, p3, p4⟩
theorem mkA_r {A : tA} {n a k s : Nat} : (∀ o, mkA A n a k s 4 o = if o = 24 * n + k then 1 else A 4 o) ∧ (∀ o, mkA A n a k s 1 o = if o = 24 * n + k then s else A 1 o) ∧ (∀ o, mkA A n a k s 2 o = if o = 24 * n + k then A 10 n else A 2 o) ∧ (∀ m, mkA A n a k s 10 m = if m = n then A 10 n + (s + 1) else A 10 m) ∧ (∀ i, mkA A n a k s 5 i = if 12 * (24 * n + k) ≤ i ∧ i < 12 * (24 * n + k) + 12 then 0 else A 5 i) ∧ (∀ i, mkA A n a k s 7 i = if i = 6 * n + a then 2 else A 7 i) := by
  refine ⟨fun o => ?_, fun o => ?_, fun o => ?_, fun m => ?_, fun i => ?_, fun i => ?_⟩
  · by_cases e : o = 24 * n + k
    · subst e; rw [if_pos rfl]; exact upA_s A 4 _ 1
    · rw [if_neg e]; exact upA_n A 1 (Or.inr e)
  · by_cases e : o = 24 * n + k
    · subst e; rw [if_pos rfl]; exact upA_s (upA A 4 _ 1) 1 _ s
    · rw [if_neg e]; exact upA_n (upA A 4 _ 1) s (Or.inr e)
  · by_cases e : o = 24 * n + k
    · subst e; rw [if_pos rfl]; exact upA_s (upA (upA A 4 _ 1) 1 _ s) 2 _ _
    · rw [if_neg e]; exact upA_n (upA (upA A 4 _ 1) 1 _ s) _ (Or.inr e)
  · by_cases e : m = n
    · subst e; rw [if_pos rfl]; exact upA_s (upA (upA (upA A 4 _ 1) 1 _ s) 2 _ _) 10 _ _
    · rw [if_neg e]; exact upA_n (upA (upA (upA A 4 _ 1) 1 _ s) 2 _ _) _ (Or.inr e)
  · show (if 5 = 5 ∧ 12 * (24 * n + k) ≤ i ∧ i < 12 * (24 * n + k) + 12 then 0 else A 5 i) = _
    by_cases e : 12 * (24 * n + k) ≤ i ∧ i < 12 * (24 * n + k) + 12
    · rw [if_pos e, if_pos ⟨rfl, e⟩]
    · rw [if_neg e, if_neg (fun q => e q.2)]
  · by_cases e : i = 6 * n + a
    · subst e; rw [if_pos rfl]; exact upA_s _ 7 _ 2
    · rw [if_neg e]; exact upA_n _ 2 (Or.inr e)
theorem WF_make {A : tA} {V : tV} {N cl n a k s : Nat} (h : WF A V N cl) (hn : n < N) (ha : a < 6) (hk : k < 24) (hs : s ≤ 12) (ht : A 4 (24 * n + k) ≠ 1) : WF (mkA A n a k s) (mkV V n a k) N cl := by
  obtain ⟨h1, wR, wF, wT, wW, wE, wM, wTo, wI⟩ := h
  obtain ⟨a4, a1, a2, a10, a5, a7⟩ := mkA_r (A := A) (n := n) (a := a) (k := k) (s := s)
  have v6 : ∀ i, mkV V n a k 6 i = if 12 * (24 * n + k) ≤ i ∧ i < 12 * (24 * n + k) + 12 then 0 else V 6 i := by
    intro i
    show (if 6 = 6 ∧ 12 * (24 * n + k) ≤ i ∧ i < 12 * (24 * n + k) + 12 then 0 else V 6 i) = _
    by_cases e : 12 * (24 * n + k) ≤ i ∧ i < 12 * (24 * n + k) + 12
    · rw [if_pos e, if_pos ⟨rfl, e⟩]
    · rw [if_neg e, if_neg (fun q => e q.2)]
  have v8 : ∀ i, mkV V n a k 8 i = if i = 6 * n + a then nI (24 * n + k) else V 8 i := by
    intro i
    by_cases e : i = 6 * n + a
    · subst e; rw [if_pos rfl]; exact up2_s _ 8 _ _
    · rw [if_neg e]; exact up2_n _ _ (Or.inr e)
  have m4 : ∀ o, A 4 o = 1 → mkA A n a k s 4 o = 1 := fun o ho => by
    rw [a4]; split
    · rfl
    · exact ho
  have hmono : ∀ {m kk : Nat} {v : Int32}, okv A N m kk v → okv (mkA A n a k s) N m kk v := fun h => okv_mono h m4 (fun o _ h => h)
  refine ⟨h1, ?_, ?_, ?_, wW, wE, wM, wTo, wI⟩
  · intro m c hm hc
    rw [a7, v8]
    by_cases e : 6 * m + c = 6 * n + a
    · rw [if_pos e, if_pos e]
      exact Or.inr (Or.inr ⟨rfl, 24 * n + k, by omega, rfl, by rw [a4, if_pos rfl], Or.inl (by omega)⟩)
    · rw [if_neg e, if_neg e]
      exact hmono (wR m c hm hc)
  · intro o ho hto
    by_cases e : o = 24 * n + k
    · rw [a1, if_pos e]
      refine ⟨hs, fun f hf => ?_, fun f hf1 hf2 => ?_⟩
      · rw [a5, v6, if_pos (by omega), if_pos (by omega)]
        exact Or.inl ⟨rfl, rfl⟩
      · rw [a5, v6, if_pos (by omega), if_pos (by omega)]
        exact ⟨rfl, rfl⟩
    · rw [a4, if_neg e] at hto
      obtain ⟨q1, q2, q3⟩ := wF o ho hto
      rw [a1, if_neg e]
      refine ⟨q1, fun f hf => ?_, fun f hf1 hf2 => ?_⟩
      · rw [a5, v6, if_neg (by omega), if_neg (by omega)]
        exact hmono (q2 f hf)
      · rw [a5, v6, if_neg (by omega), if_neg (by omega)]
        exact q3 f hf1 hf2
  · intro o ho
    rw [a4]
    by_cases e : o = 24 * n + k
    · rw [if_pos e]; exact Or.inl ⟨rfl, by omega⟩
    · rw [if_neg e]; exact wT o ho
theorem lay_make {A : tA} {N n a k s : Nat} {od : Nat → Nat → Nat} {q : Nat → Nat} (h : wLay A N od q) (hn : n < N) (hk : k < 24) (ht : A 4 (24 * n + k) ≠ 1) (hroom : A 10 n + s + 1 ≤ 160) : wLay (mkA A n a k s) N (fun m i => if m = n ∧ i = q n then k else od m i) (fun m => if m = n then q n + 1 else q m) := by
  intro m hm
  obtain ⟨a4, a1, a2, a10, a5, a7⟩ := mkA_r (A := A) (n := n) (a := a) (k := k) (s := s)
  obtain ⟨h1, h2, h3, h4, h5, h6, h7⟩ := h m hm
  dsimp only
  generalize hod : (fun i => if m = n ∧ i = q n then k else od m i) = od'
  have od1 : ∀ i, od' i = if m = n ∧ i = q n then k else od m i := fun i => by rw [← hod]
  clear hod
  by_cases e : m = n
  · subst e
    have hne : ∀ i, i < q m → 24 * m + od m i ≠ 24 * m + k := by
      intro i hi q
      have := (h2 i hi).2.1
      rw [q] at this
      exact ht this
    have oq : od' (q m) = k := by rw [od1, if_pos ⟨rfl, rfl⟩]
    have ol : ∀ i, i < q m → od' i = od m i := fun i hi => by rw [od1, if_neg (by omega)]
    have hsum : ∀ i, i ≤ q m → sm (fun j => mkA A m a k s 1 (24 * m + od' j) + 1) i = sm (fun j => A 1 (24 * m + od m j) + 1) i := by
      intro i hi
      refine sm_ext (fun j hj => ?_)
      rw [ol j (by omega), a1, if_neg (hne j (by omega))]
    have hcnt : cnt (fun k' => mkA A m a k s 4 (24 * m + k') == 1) 24 = cnt (fun k' => A 4 (24 * m + k') == 1) 24 + 1 := by
      refine cnt_set hk ?_ ?_ ?_
      · simpa using ht
      · rw [a4, if_pos rfl]; rfl
      · intro i hi
        rw [a4, if_neg (by omega)]
    have hq24 : q m + 1 ≤ 24 := by
      have := cnt_le (fun k' => mkA A m a k s 4 (24 * m + k') == 1) 24
      omega
    rw [if_pos rfl]
    refine ⟨hq24, fun i hi => ?_, fun i j hi hj hij => ?_, fun k' hk' ht' => ?_, ?_, ?_, ?_⟩
    · by_cases ei : i = q m
      · rw [ei, oq]
        refine ⟨hk, by rw [a4, if_pos rfl], ?_⟩
        rw [a2, if_pos rfl, hsum (q m) (Nat.le_refl _), h5]
      · rw [ol i (by omega)]
        obtain ⟨p1, p2, p3⟩ := h2 i (by omega)
        refine ⟨p1, by rw [a4, if_neg (hne i (by omega))]; exact p2, ?_⟩
        rw [a2, if_neg (hne i (by omega)), hsum i (by omega), p3]
    · by_cases ei : i = q m
      · by_cases ej : j = q m
        · omega
        · rw [ei, oq, ol j (by omega)] at hij
          exact absurd (by rw [hij]) (hne j (by omega))
      · by_cases ej : j = q m
        · rw [ej, oq, ol i (by omega)] at hij
          exact absurd (by rw [hij]) (hne i (by omega))
        · rw [ol i (by omega), ol j (by omega)] at hij
          exact h3 i j (by omega) (by omega) hij
    · by_cases ek : k' = k
      · exact ⟨q m, by omega, by rw [oq, ek]⟩
      · rw [a4, if_neg (by omega)] at ht'
        obtain ⟨i, hi, e2⟩ := h4 k' hk' ht'
        exact ⟨i, by omega, by rw [ol i hi]; exact e2⟩
    · rw [a10, if_pos rfl]
      show _ = sm _ (q m) + (mkA A m a k s 1 (24 * m + od' (q m)) + 1)
      rw [hsum (q m) (Nat.le_refl _), ← h5, oq, a1, if_pos rfl]
    · rw [a10, if_pos rfl]; omega
    · rw [hcnt, ← h7]
  · rw [if_neg e]
    have ho : ∀ i, i < 24 → 24 * m + i ≠ 24 * n + k := fun i hi => by omega
    have ol : ∀ i, od' i = od m i := fun i => by rw [od1, if_neg (by omega)]
    have hsum : ∀ i, i ≤ q m → sm (fun j => mkA A n a k s 1 (24 * m + od' j) + 1) i = sm (fun j => A 1 (24 * m + od m j) + 1) i := by
      intro i hi
      refine sm_ext (fun j hj => ?_)
      rw [ol, a1, if_neg (ho _ (h2 j (by omega)).1)]
    refine ⟨h1, fun i hi => ?_, fun i j hi hj hij => ?_, fun k' hk' ht' => ?_, ?_, ?_, ?_⟩
    · obtain ⟨p1, p2, p3⟩ := h2 i hi
      rw [ol]
      refine ⟨p1, by rw [a4, if_neg (ho _ p1)]; exact p2, ?_⟩
      rw [a2, if_neg (ho _ p1), hsum i (by omega), p3]
    · rw [ol, ol] at hij
      exact h3 i j hi hj hij
    · rw [a4, if_neg (ho _ hk')] at ht'
      obtain ⟨i, hi, e2⟩ := h4 k' hk' ht'
      exact ⟨i, hi, by rw [ol]; exact e2⟩
    · rw [a10, if_neg e, hsum (q m) (Nat.le_refl _)]; exact h5
    · rw [a10, if_neg e]; exact h6
    · rw [h7]
      refine cnt_ext (fun i hi => ?_)
      rw [a4, if_neg (ho _ hi)]
theorem o_make {b p M N cl fu : Nat} {f0 f : jM} (hfu : 2000 ≤ fu) (hl : Lay b p M N) (hI : Inv b p M N cl f0 f) (hc : cl < 512) (x y z : Int32) : ∃ r f1 f2, mX5_make fu f b x y z = some (r, f1) ∧ mX6_make fu f1 M x y z = some (r, f2) ∧ Inv b p M N (cl + 1) f0 f2 := by
  have hI0 := hI.more hc
  obtain ⟨A, V, gn, gp, pi, od, q, rfl, hS, hW, wL⟩ := hI
  obtain ⟨hA, hN1, hN5⟩ := hW.1
  have hp := hl.1
  have same : ∀ r : Int32, mX5_make fu (mkC b p N gn gp pi (mkR M (toR A V) f0)) b x y z = some (r, (mkC b p N gn gp pi (mkR M (toR A V) f0))) → mX6_make fu (mkR M (toR A V) (mkC b p N gn gp pi f0)) M x y z = some (r, (mkR M (toR A V) (mkC b p N gn gp pi f0))) → ∃ r f1 f2, mX5_make fu (mkC b p N gn gp pi (mkR M (toR A V) f0)) b x y z = some (r, f1) ∧ mX6_make fu f1 M x y z = some (r, f2) ∧ Inv b p M N (cl + 1) f0 f2 := fun r h h' => ⟨r, (mkC b p N gn gp pi (mkR M (toR A V) f0)), (mkC b p N gn gp pi (mkR M (toR A V) f0)), h, by rw [swapCR hl]; exact h', hI0⟩
  rcases idx x (n := N) (by omega) with ⟨n, hn, rfl⟩ | hx
  · rcases idx y (n := 6) (by omega) with ⟨a, ha, rfl⟩ | hy
    · rcases idx z (n := 13) (by omega) with ⟨s, hs, rfl⟩ | hz
      · have hz0 : ¬ nI s < 0 := nI_pos (by omega)
        have hz1 : nI s ≤ nI 12 := nI_le (by omega) (by omega)
        have hSn := hS.1 n hn
        have hL := wL n hn
        have wT := hW.2.2.2.1
        have hsz : ∀ k, k < 24 → A 4 (24 * n + k) = 1 → A 1 (24 * n + k) ≤ 12 := fun k hk h => (hW.2.2.1 _ (by omega) h).1
        have c5 : mX5_make fu (mkC b p N gn gp pi (mkR M (toR A V) f0)) b (nI n) (nI a) (nI s) = ((mX2_freeNumber fu (mkC b p N gn gp pi (mkR M (toR A V) f0)) (b + 2 + 8 * n)).bind fun r11 =>
            if r11.1 = (-1 : Int32) then some ((-1 : Int32), r11.2) else
            (chk 2 r11.2 (b + 2 + 8 * n)).bind fun _ => (mX2_hasRoom r11.2 (b + 2 + 8 * n) (nI s)).bind fun r14 =>
            if r14.1 = 0 then some ((-2 : Int32), r14.2) else
            (chk 2 r14.2 (b + 2 + 8 * n)).bind fun _ => (mX2_lay r14.2 (b + 2 + 8 * n) r11.1 (nI s)).bind fun f17 =>
            (mX5_idOf f17 (nI n) r11.1).bind fun r18 => (chk 2 r18.2 (b + 2 + 8 * n)).bind fun _ =>
            (mX2_fill r18.2 (b + 2 + 8 * n) (nI a) (2 : Int32) r18.1).bind fun f20 => some (r11.1, f20)) := by
          unfold mX5_make
          simp only [cchk5 hp, Option.bind_some, eC_isNode hp hN5 hn, eC_isRegister ha]
          rw [if_neg (by decide), if_neg (by decide), if_neg hz0, i12, if_pos hz1]
          simp only [cF0 hp, cNod hp hn (by omega), cchk2 hp hn, Option.bind_some]
        have c6 : ∀ g0, mX6_make fu (mkR M (toR A V) g0) M (nI n) (nI a) (nI s) = mX6_make_L24 fu M (nI n) (nI a) (nI s) fu 0 (mkR M (toR A V) g0) := by
          intro g0
          unfold mX6_make
          simp only [rchk, Option.bind_some, eR_isReg hA hN5 hn ha]
          rw [if_neg (by decide), if_neg hz0, i12, if_pos hz1]
        have hq24 : ∀ k, k < 24 → A 4 (24 * n + k) ≠ 1 → q n < 24 := by
          intro k hk hP
          have h1 := cnt_set (P := fun k' => A 4 (24 * n + k') == 1) (Q := fun k' => (A 4 (24 * n + k') == 1) || (k' == k)) (n := 24) hk (by simpa using hP) (by simp) (fun i hi => by simp [hi])
          have h2 := cnt_le (fun k' => (A 4 (24 * n + k') == 1) || (k' == k)) 24
          have h3 := hL.2.2.2.2.2.2
          omega
        have hqb : q n ≤ 24 := by
          have h2 := cnt_le (fun k' => A 4 (24 * n + k') == 1) 24
          have h3 := hL.2.2.2.2.2.2
          omega
        have hg0 := hSn.2.2.2.2.2.2.1
        have s5 : (∃ j, j < 24 ∧ A 4 (24 * n + j) ≠ 1 ∧ (∀ k, k < j → ¬ A 4 (24 * n + k) ≠ 1) ∧ mX2_freeNumber_L2 fu (b + 2 + 8 * n) fu (nI 0) (mkC b p N gn gp pi (mkR M (toR A V) f0)) = some (nI j, (mkC b p N gn gp pi (mkR M (toR A V) f0)))) ∨ ((∀ k, k < 24 → ¬ A 4 (24 * n + k) ≠ 1) ∧ mX2_freeNumber_L2 fu (b + 2 + 8 * n) fu (nI 0) (mkC b p N gn gp pi (mkR M (toR A V) f0)) = some (-1, (mkC b p N gn gp pi (mkR M (toR A V) f0)))) := by
          by_cases hfull : q n < 24
          · exact lsr0 (fun m i => mX2_freeNumber_L2 fu (b + 2 + 8 * n) m (nI i) (mkC b p N gn gp pi (mkR M (toR A V) f0))) 24 (fun k => A 4 (24 * n + k) ≠ 1) (fun k => some (nI k, (mkC b p N gn gp pi (mkR M (toR A V) f0)))) (some (-1, (mkC b p N gn gp pi (mkR M (toR A V) f0)))) fu (by omega)
              (by intro m _; rw [mX2_freeNumber_L2]; rfl)
              (by
                intro m i hi _ hP
                rw [mX2_freeNumber_L2, i24, if_neg (nI_ge hi (by omega))]
                simp only [cNg0 hp hn, Option.bind_some, hg0]
                rw [if_neg (nI_ge hfull (by omega))]
                simp (disch := omega) only [cNr3, cNl3, gl_nI, Option.bind_some, (hSn.2.2.2.1 i hi).2.1 hP]
                rfl)
              (by
                intro m i hi hP
                have hP : A 4 (24 * n + i) = 1 := Classical.not_not.mp (hP i (Nat.le_refl _))
                rw [mX2_freeNumber_L2, i24, if_neg (nI_ge hi (by omega))]
                simp only [cNg0 hp hn, Option.bind_some, hg0]
                rw [if_neg (nI_ge hfull (by omega))]
                simp (disch := omega) only [cNr3, cNl3, gl_nI, Option.bind_some, ((hSn.2.2.2.1 i hi).1 hP).1]
                rw [if_neg (nI_m1 (by have := hsz i hi hP; omega)), nI_1])
          · refine Or.inr ⟨fun k hk hP => hfull (hq24 k hk hP), ?_⟩
            obtain ⟨fu', hfu'⟩ : ∃ n, fu = n + 1 := ⟨fu - 1, by omega⟩
            have h1 : ∀ m, mX2_freeNumber_L2 fu (b + 2 + 8 * n) (m + 1) (nI 0) (mkC b p N gn gp pi (mkR M (toR A V) f0)) = some (-1, (mkC b p N gn gp pi (mkR M (toR A V) f0))) := by
              intro m
              rw [mX2_freeNumber_L2, i24, if_neg (nI_ge (show 0 < 24 by omega) (by omega))]
              simp only [cNg0 hp hn, Option.bind_some, hg0]
              rw [if_pos (nI_le (by omega) (by omega))]
            have h2 := h1 fu'
            rw [← hfu'] at h2
            exact h2
        have s6 : ∀ g0, (∃ j, j < 24 ∧ A 4 (24 * n + j) ≠ 1 ∧ (∀ k, k < j → ¬ A 4 (24 * n + k) ≠ 1) ∧ mX6_make_L24 fu M (nI n) (nI a) (nI s) fu (nI 0) (mkR M (toR A V) g0) = mX6_make_B52 fu M (nI n) (nI a) (nI s) (nI j) (mkR M (toR A V) g0)) ∨ ((∀ k, k < 24 → ¬ A 4 (24 * n + k) ≠ 1) ∧ mX6_make_L24 fu M (nI n) (nI a) (nI s) fu (nI 0) (mkR M (toR A V) g0) = some (-1, mkR M (toR A V) g0)) := fun g0 => lsr0 (fun m i => mX6_make_L24 fu M (nI n) (nI a) (nI s) m (nI i) (mkR M (toR A V) g0)) 24 (fun k => A 4 (24 * n + k) ≠ 1) (fun j => mX6_make_B52 fu M (nI n) (nI a) (nI s) (nI j) (mkR M (toR A V) g0)) (some (-1, mkR M (toR A V) g0)) fu (by omega)
          (by intro m _; rw [mX6_make_L24]; unfold mX6_make_B52; rfl)
          (by
            intro m i hi _ hP
            rw [mX6_make_L24, i24, if_neg (nI_ge hi (by omega))]
            simp (disch := omega) only [rR5, rl4, nI_mul, nI_add, gl_nI, tR4, Option.bind_some]
            rw [((wT (24 * n + i) (by omega)).resolve_left (fun q => hP q.1)).1, if_pos (by decide)])
          (by
            intro m i hi hP
            have hP : A 4 (24 * n + i) = 1 := Classical.not_not.mp (hP i (Nat.le_refl _))
            rw [mX6_make_L24, i24, if_neg (nI_ge hi (by omega))]
            simp (disch := omega) only [rR5, rl4, nI_mul, nI_add, gl_nI, tR4, Option.bind_some, hP, i1]
            rw [if_neg (by decide)])
        have e0 : (0 : Int32) = nI 0 := i0
        rcases s5 with ⟨k, hk, hP, hmin, h5⟩ | ⟨hno, h5⟩
        · have h6 : ∀ g0, mX6_make fu (mkR M (toR A V) g0) M (nI n) (nI a) (nI s) = mX6_make_B52 fu M (nI n) (nI a) (nI s) (nI k) (mkR M (toR A V) g0) := by
            intro g0
            rcases s6 g0 with ⟨j, hj, hP', hmin', h6⟩ | ⟨hno', -⟩
            · have : k = j := least_eq (P := fun k => A 4 (24 * n + k) ≠ 1) hP hmin hP' hmin'
              subst this
              rw [c6, e0, h6]
            · exact absurd hP (hno' k hk)
          have h5' : mX2_freeNumber fu (mkC b p N gn gp pi (mkR M (toR A V) f0)) (b + 2 + 8 * n) = some (nI k, (mkC b p N gn gp pi (mkR M (toR A V) f0))) := h5
          have t160 := hL.2.2.2.2.2.1
          by_cases hroom : A 10 n + s + 1 ≤ 160
          · have hq : q n < 24 := hq24 k hk hP
            have ht3 : A 3 (24 * n + k) = 0 := ((wT (24 * n + k) (by omega)).resolve_left (fun q => hP q.1)).2
            refine ⟨nI k, mkC b p N (mkG gn n a k s) gp pi (mkR M (toR A V) f0), mkC b p N (mkG gn n a k s) gp pi (mkR M (toR (mkA A n a k s) (mkV V n a k)) f0), ?_, ?_, ?_⟩
            · rw [c5, h5']
              simp only [Option.bind_some]
              rw [if_neg (nI_m1 (by omega))]
              simp only [cchk2 hp hn, Option.bind_some]
              unfold mX2_hasRoom
              simp only [cNg2 hp hn, Option.bind_some, hSn.2.2.2.2.2.2.2.2.1, nI_add, i1, i160]
              rw [if_neg (nI_nlt (by omega) (by omega))]
              simp only [Option.bind_some, cchk2 hp hn]
              rw [if_neg (by decide)]
              exact eC_make hp hn ha hk hSn.2.2.2.2.2.2.1 hq hSn.2.2.2.2.2.2.2.2.1
            · rw [swapCR hl, swapCR hl, h6]
              exact eR_make hfu (by omega) ha hk (by omega) t160 ht3 hroom
            · exact ⟨_, _, _, gp, pi, _, _, rfl, SIM_make hS hn hN5 ha hk (by omega) hq hP (fun m hm => ⟨(hS.1 m hm).2.2.2.2.2.2.1, (hS.1 m hm).2.2.2.2.2.2.2.2.1⟩), (WF_make hW hn ha hk (by omega) hP).more hc, lay_make wL hn hk hP hroom⟩
          · refine same (-2) ?_ ?_
            · rw [c5, h5']
              simp only [Option.bind_some]
              rw [if_neg (nI_m1 (by omega))]
              simp only [cchk2 hp hn, Option.bind_some]
              unfold mX2_hasRoom
              simp only [cNg2 hp hn, Option.bind_some, hSn.2.2.2.2.2.2.2.2.1, nI_add, i1, i160]
              rw [if_pos (nI_lt (by omega) (by omega))]
              rfl
            · rw [h6]
              unfold mX6_make_B52
              rw [i24, if_neg (fun q => absurd ((nI_eq (by omega) (by omega)).mp q) (by omega))]
              simp (disch := omega) only [rR11, rl10, gl_nI, tR10, Option.bind_some, nI_add, i1, i160, nI_leq]
              rw [if_neg hroom]
        · refine same (-1) ?_ ?_
          · have h5' : mX2_freeNumber fu (mkC b p N gn gp pi (mkR M (toR A V) f0)) (b + 2 + 8 * n) = some (-1, (mkC b p N gn gp pi (mkR M (toR A V) f0))) := h5
            rw [c5, h5']
            rfl
          · rcases s6 (mkC b p N gn gp pi f0) with ⟨j, hj, hP', -, -⟩ | ⟨-, h6⟩
            · exact absurd hP' (hno j hj)
            · rw [c6, e0, h6]
      · have hz' : z < 0 ∨ ¬ z ≤ 12 := hz.imp id (fun h q => absurd (Int32.le_trans h q) (by decide))
        refine same (-1) ?_ ?_
        · unfold mX5_make
          simp only [cchk5 hp, Option.bind_some, eC_isNode hp hN5 hn, eC_isRegister ha]
          rw [if_neg (by decide), if_neg (by decide)]
          by_cases h0 : z < 0
          · rw [if_pos h0]
          · rw [if_neg h0, if_neg (hz'.resolve_left h0)]
        · unfold mX6_make
          simp only [rchk, Option.bind_some, eR_isReg hA hN5 hn ha]
          rw [if_neg (by decide)]
          by_cases h0 : z < 0
          · rw [if_pos h0]
          · rw [if_neg h0, if_neg (hz'.resolve_left h0)]
    · refine same (-1) ?_ ?_
      · unfold mX5_make
        simp only [cchk5 hp, Option.bind_some, eC_isNode hp hN5 hn, eC_isRegisterX hy]
        rfl
      · unfold mX6_make
        simp only [rchk, Option.bind_some, eR_isRegX hA hN5 (Or.inr hy)]
        rfl
  · refine same (-1) ?_ ?_
    · unfold mX5_make
      simp only [cchk5 hp, Option.bind_some, eC_isNodeX hp hx]
      rfl
    · unfold mX6_make
      simp only [rchk, Option.bind_some, eR_isRegX hA hN5 (Or.inl hx)]
      rfl
