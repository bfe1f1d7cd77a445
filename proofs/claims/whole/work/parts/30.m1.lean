/-! number, drop, set, get: one value is written -/
theorem Inv.more {b p M N cl : Nat} {f0 f : jM} (h : Inv b p M N cl f0 f) (hc : cl < 512) : Inv b p M N (cl + 1) f0 f := by
  obtain ⟨A, V, gn, gp, pi, od, q, h1, h2, h3, h4⟩ := h
  exact ⟨A, V, gn, gp, pi, od, q, h1, h2, h3.more hc, h4⟩
theorem WF_reg {A : tA} {V : tV} {N cl n a k : Nat} {v : Int32} (h : WF A V N cl) (hn : n < N) (ha : a < 6) (hv : okv A N n k v) : WF (upA A 7 (6 * n + a) k) (up2 V 8 (6 * n + a) v) N cl := by
  obtain ⟨h1, wR, wF, wT, wW, wE, wM, wTo, wI⟩ := h
  refine ⟨h1, ?_, wF, wT, wW, wE, wM, wTo, wI⟩
  intro m c hm hc
  by_cases h : 6 * m + c = 6 * n + a
  · have hm' : m = n := by omega
    rw [h, upA_s, up2_s, hm']
    exact hv
  · rw [upA_n _ _ (Or.inr h), up2_n _ _ (Or.inr h)]
    exact wR m c hm hc
theorem SIM_reg {A : tA} {V : tV} {N n a k : Nat} {v : Int32} {gn : tN} {gp : tV} {pi : Nat → Nat} {od : Nat → Nat → Nat} {q : Nat → Nat} (h : SIM A V N gn gp pi od q) (hn : n < N) (ha : a < 6) : SIM (upA A 7 (6 * n + a) k) (up2 V 8 (6 * n + a) v) N (up3 (up3 gn n 1 a (ckd n k v)) n 2 a v) gp pi od q := by
  obtain ⟨hN, hP, hM⟩ := h
  refine ⟨fun m hm => ?_, hP, hM⟩
  obtain ⟨h1, h2, h3, h4, h5, h6, h7⟩ := hN m hm
  refine ⟨fun c hc => ?_, fun k' f hk hf ht => ?_, fun k' f hk hf ht => ?_, fun k' hk => ?_, fun o ho => ?_, fun i hi => ?_, ?_⟩
  · by_cases e : m = n ∧ c = a
    · obtain ⟨rfl, rfl⟩ := e
      rw [up3_n _ _ (by omega), up3_s, up3_s, upA_s, up2_s]
      exact ⟨rfl, rfl⟩
    · rw [up3_n _ _ (by omega), up3_n _ _ (by omega), up3_n _ _ (by omega), up3_n _ _ (by omega), upA_n _ _ (by omega), up2_n _ _ (by omega)]
      exact h1 c hc
  · rw [up3_n _ _ (by omega), up3_n _ _ (by omega), up3_n _ _ (by omega), up3_n _ _ (by omega)]
    exact h2 k' f hk hf ht
  · rw [up3_n _ _ (by omega), up3_n _ _ (by omega), up3_n _ _ (by omega), up3_n _ _ (by omega)]
    exact h3 k' f hk hf ht
  · rw [up3_n _ _ (by omega), up3_n _ _ (by omega), up3_n _ _ (by omega), up3_n _ _ (by omega), up3_n _ _ (by omega), up3_n _ _ (by omega)]
    exact h4 k' hk
  · rw [up3_n _ _ (by omega), up3_n _ _ (by omega)]
    exact h5 o ho
  · rw [up3_n _ _ (by omega), up3_n _ _ (by omega)]
    exact h6 i hi
  · rw [up3_n _ _ (by omega), up3_n _ _ (by omega), up3_n _ _ (by omega), up3_n _ _ (by omega), up3_n _ _ (by omega), up3_n _ _ (by omega), up3_n _ _ (by omega), up3_n _ _ (by omega)]
    exact h7
theorem WF_fld {A : tA} {V : tV} {N cl n j g k : Nat} {v : Int32} (h : WF A V N cl) (hn : n < N) (hj : j < 24) (hg : g < A 1 (24 * n + j)) (hg12 : g < 12) (hv : okv A N n k v) : WF (upA A 5 (12 * (24 * n + j) + g) k) (up2 V 6 (12 * (24 * n + j) + g) v) N cl := by
  obtain ⟨h1, wR, wF, wT, wW, wE, wM, wTo, wI⟩ := h
  refine ⟨h1, wR, ?_, wT, wW, wE, wM, wTo, wI⟩
  intro o ho ht
  obtain ⟨q1, q2, q3⟩ := wF o ho ht
  refine ⟨q1, fun f hf => ?_, fun f hf1 hf2 => ?_⟩
  · have hf' : f < A 1 o := hf
    by_cases h : 12 * o + f = 12 * (24 * n + j) + g
    · have ho' : o = 24 * n + j := by omega
      rw [h, upA_s, up2_s, show o / 24 = n by omega]
      exact hv
    · rw [upA_n _ _ (Or.inr h), up2_n _ _ (Or.inr h)]
      exact q2 f hf
  · have hf1' : A 1 o ≤ f := hf1
    have h : 12 * o + f ≠ 12 * (24 * n + j) + g := by
      intro h
      have ho' : o = 24 * n + j := by omega
      subst ho'
      omega
    rw [upA_n _ _ (Or.inr h), up2_n _ _ (Or.inr h)]
    exact q3 f hf1 hf2
theorem SIM_fld {A : tA} {V : tV} {N n j g k : Nat} {v : Int32} {gn : tN} {gp : tV} {pi : Nat → Nat} {od : Nat → Nat → Nat} {q : Nat → Nat} (h : SIM A V N gn gp pi od q) (hn : n < N) (hj : j < 24) (hg : g < 12) (ht : A 4 (24 * n + j) = 1) : SIM (upA A 5 (12 * (24 * n + j) + g) k) (up2 V 6 (12 * (24 * n + j) + g) v) N (up3 (up3 gn n 1 (6 + 12 * j + g) (ckd n k v)) n 2 (6 + 12 * j + g) v) gp pi od q := by
  obtain ⟨hN, hP, hM⟩ := h
  refine ⟨fun m hm => ?_, hP, hM⟩
  obtain ⟨h1, h2, h3, h4, h5, h6, h7⟩ := hN m hm
  refine ⟨fun c hc => ?_, fun k' f hk hf ht' => ?_, fun k' f hk hf ht' => ?_, fun k' hk => ?_, fun o ho => ?_, fun i hi => ?_, ?_⟩
  · rw [up3_n _ _ (by omega), up3_n _ _ (by omega), up3_n _ _ (by omega), up3_n _ _ (by omega)]
    exact h1 c hc
  · by_cases e : m = n ∧ k' = j ∧ f = g
    · obtain ⟨rfl, rfl, rfl⟩ := e
      rw [up3_n _ _ (by omega), up3_s, up3_s, upA_s, up2_s]
      exact ⟨rfl, rfl⟩
    · rw [up3_n _ _ (by omega), up3_n _ _ (by omega), up3_n _ _ (by omega), up3_n _ _ (by omega), upA_n _ _ (by omega), up2_n _ _ (by omega)]
      exact h2 k' f hk hf ht'
  · have ht2 : A 4 (24 * m + k') ≠ 1 := ht'
    have e : ¬ (m = n ∧ k' = j) := by
      rintro ⟨rfl, rfl⟩
      exact ht2 ht
    rw [up3_n _ _ (by omega), up3_n _ _ (by omega), up3_n _ _ (by omega), up3_n _ _ (by omega)]
    exact h3 k' f hk hf ht'
  · rw [up3_n _ _ (by omega), up3_n _ _ (by omega), up3_n _ _ (by omega), up3_n _ _ (by omega), up3_n _ _ (by omega), up3_n _ _ (by omega)]
    exact h4 k' hk
  · rw [up3_n _ _ (by omega), up3_n _ _ (by omega)]
    exact h5 o ho
  · rw [up3_n _ _ (by omega), up3_n _ _ (by omega)]
    exact h6 i hi
  · rw [up3_n _ _ (by omega), up3_n _ _ (by omega), up3_n _ _ (by omega), up3_n _ _ (by omega), up3_n _ _ (by omega), up3_n _ _ (by omega), up3_n _ _ (by omega), up3_n _ _ (by omega)]
    exact h7
theorem eR_holds {M n a k : Nat} {A : tA} {V : tV} {f0 : jM} {v : Int32} (hn : n < 5) (ha : a < 6) : mX6_holds (mkR M (toR A V) f0) M (nI n) (nI a) (nI k) v = some (mkR M (toR (upA A 7 (6 * n + a) k) (up2 V 8 (6 * n + a) v)) f0) := by
  unfold mX6_holds
  simp (disch := omega) only [rR8, rR9, rs7, rs8, i6, nI_mul, nI_add, gs_nI, uR7, uR8, Option.bind_some]
theorem o_number {b p M N cl : Nat} {f0 f : jM} (hl : Lay b p M N) (hI : Inv b p M N cl f0 f) (hc : cl < 512) (x y z : Int32) : ∃ r f1 f2, mX5_number f b x y z = some (r, f1) ∧ mX6_number f1 M x y z = some (r, f2) ∧ Inv b p M N (cl + 1) f0 f2 := by
  have hI0 := hI.more hc
  obtain ⟨A, V, gn, gp, pi, od, q, rfl, hS, hW, wL⟩ := hI
  obtain ⟨hA, hN1, hN5⟩ := hW.1
  have hp := hl.1
  rcases idx x (n := N) (by omega) with ⟨n, hn, rfl⟩ | hx
  · rcases idx y (n := 6) (by omega) with ⟨a, ha, rfl⟩ | hy
    · refine ⟨1, mkC b p N (up3 (up3 gn n 1 a 1) n 2 a z) gp pi (mkR M (toR A V) f0), mkC b p N (up3 (up3 gn n 1 a 1) n 2 a z) gp pi (mkR M (toR (upA A 7 (6 * n + a) 1) (up2 V 8 (6 * n + a) z)) f0), ?_, ?_, ?_⟩
      · unfold mX5_number
        simp only [cchk5 hp, Option.bind_some, eC_isNode hp hN5 hn, eC_isRegister ha, cF0 hp, cNod hp hn (by omega), cchk2 hp hn, eC_fill hp hn (show a < 294 by omega)]
        rw [if_neg (by decide), if_neg (by decide)]
      · rw [swapCR hl, swapCR hl]
        unfold mX6_number
        simp only [rchk, Option.bind_some, eR_isReg hA hN5 hn ha]
        rw [if_neg (by decide), i1, eR_holds (show n < 5 by omega) ha]
        rfl
      · have h1 := SIM_reg (k := 1) (v := z) hS hn ha
        rw [ckd1] at h1
        exact ⟨_, _, _, gp, pi, od, q, rfl, h1, (WF_reg hW hn ha (Or.inr (Or.inl rfl))).more hc, wL⟩
    · refine ⟨0, (mkC b p N gn gp pi (mkR M (toR A V) f0)), (mkC b p N gn gp pi (mkR M (toR A V) f0)), ?_, ?_, hI0⟩
      · unfold mX5_number
        simp only [cchk5 hp, Option.bind_some, eC_isNode hp hN5 hn, eC_isRegisterX hy]
        rfl
      · rw [swapCR hl]
        unfold mX6_number
        simp only [rchk, Option.bind_some, eR_isRegX hA hN5 (Or.inr hy)]
        rfl
  · refine ⟨0, (mkC b p N gn gp pi (mkR M (toR A V) f0)), (mkC b p N gn gp pi (mkR M (toR A V) f0)), ?_, ?_, hI0⟩
    · unfold mX5_number
      simp only [cchk5 hp, Option.bind_some, eC_isNodeX hp hx]
      rfl
    · rw [swapCR hl]
      unfold mX6_number
      simp only [rchk, Option.bind_some, eR_isRegX hA hN5 (Or.inl hx)]
      rfl
theorem o_drop {b p M N cl : Nat} {f0 f : jM} (hl : Lay b p M N) (hI : Inv b p M N cl f0 f) (hc : cl < 512) (x y : Int32) : ∃ r f1 f2, mX5_drop f b x y = some (r, f1) ∧ mX6_drop f1 M x y = some (r, f2) ∧ Inv b p M N (cl + 1) f0 f2 := by
  have hI0 := hI.more hc
  obtain ⟨A, V, gn, gp, pi, od, q, rfl, hS, hW, wL⟩ := hI
  obtain ⟨hA, hN1, hN5⟩ := hW.1
  have hp := hl.1
  rcases idx x (n := N) (by omega) with ⟨n, hn, rfl⟩ | hx
  · rcases idx y (n := 6) (by omega) with ⟨a, ha, rfl⟩ | hy
    · refine ⟨1, mkC b p N (up3 (up3 gn n 1 a 0) n 2 a 0) gp pi (mkR M (toR A V) f0), mkC b p N (up3 (up3 gn n 1 a 0) n 2 a 0) gp pi (mkR M (toR (upA A 7 (6 * n + a) 0) (up2 V 8 (6 * n + a) 0)) f0), ?_, ?_, ?_⟩
      · unfold mX5_drop
        simp only [cchk5 hp, Option.bind_some, eC_isNode hp hN5 hn, eC_isRegister ha, cF0 hp, cNod hp hn (by omega), cchk2 hp hn, eC_empty hp hn (show a < 294 by omega)]
        rw [if_neg (by decide), if_neg (by decide)]
      · rw [swapCR hl, swapCR hl]
        unfold mX6_drop
        simp only [rchk, Option.bind_some, eR_isReg hA hN5 hn ha]
        rw [if_neg (by decide)]
        have := eR_holds (M := M) (A := A) (V := V) (f0 := mkC b p N (up3 (up3 gn n 1 a 0) n 2 a 0) gp pi f0) (k := 0) (v := 0) (show n < 5 by omega) ha
        rw [← i0] at this
        rw [this]
        rfl
      · have h1 := SIM_reg (k := 0) (v := 0) hS hn ha
        rw [ckd0] at h1
        exact ⟨_, _, _, gp, pi, od, q, rfl, h1, (WF_reg hW hn ha (Or.inl ⟨rfl, rfl⟩)).more hc, wL⟩
    · refine ⟨0, (mkC b p N gn gp pi (mkR M (toR A V) f0)), (mkC b p N gn gp pi (mkR M (toR A V) f0)), ?_, ?_, hI0⟩
      · unfold mX5_drop
        simp only [cchk5 hp, Option.bind_some, eC_isNode hp hN5 hn, eC_isRegisterX hy]
        rfl
      · rw [swapCR hl]
        unfold mX6_drop
        simp only [rchk, Option.bind_some, eR_isRegX hA hN5 (Or.inr hy)]
        rfl
  · refine ⟨0, (mkC b p N gn gp pi (mkR M (toR A V) f0)), (mkC b p N gn gp pi (mkR M (toR A V) f0)), ?_, ?_, hI0⟩
    · unfold mX5_drop
      simp only [cchk5 hp, Option.bind_some, eC_isNodeX hp hx]
      rfl
    · rw [swapCR hl]
      unfold mX6_drop
      simp only [rchk, Option.bind_some, eR_isRegX hA hN5 (Or.inl hx)]
      rfl
