/-! set, get -/
theorem loc_cases {A : tA} {N n k : Nat} {v : Int32} (hv : okv A N n k v) (hN : N ≤ 5) (hn : n < N) : (∃ j, j < 24 ∧ k = 2 ∧ v = nI (24 * n + j) ∧ A 4 (24 * n + j) = 1 ∧ ckd n k v = 2) ∨ (ckd n k v ≠ 2 ∧ (k ≠ 2 ∨ ∃ o, o < 120 ∧ v = nI o ∧ o / 24 ≠ n)) := by
  rcases hv with ⟨rfl, rfl⟩ | rfl | ⟨rfl, o, ho, rfl, ht, -⟩
  · exact Or.inr ⟨by rw [ckd0]; decide, Or.inl (by decide)⟩
  · exact Or.inr ⟨by rw [ckd1]; decide, Or.inl (by decide)⟩
  · by_cases h : o / 24 = n
    · have e : o = 24 * n + o % 24 := by omega
      exact Or.inl ⟨o % 24, by omega, rfl, by rw [← e], by rw [← e]; exact ht, ckdL (by omega) h⟩
    · exact Or.inr ⟨by rw [ckdF (by omega) h]; decide, Or.inr ⟨o, by omega, rfl, h⟩⟩
theorem eR_local {M n a j : Nat} {A : tA} {V : tV} {f0 : jM} (hn : n < 5) (ha : a < 6) (hj : j < 24) (h1 : A 7 (6 * n + a) = 2) (h2 : V 8 (6 * n + a) = nI (24 * n + j)) : mX6_local (mkR M (toR A V) f0) M (nI n) (nI a) = some (nI (24 * n + j), mkR M (toR A V) f0) := by
  unfold mX6_local
  simp (disch := omega) only [rR8, rR9, rl7, rl8, i6, nI_mul, nI_add, gl_nI, tR7, tR8, Option.bind_some, h1, h2, i24, nI_div]
  rw [if_pos (by decide), if_pos (by rw [show (24 * n + j) / 24 = n by omega])]
theorem eR_localX {M n a : Nat} {A : tA} {V : tV} {f0 : jM} (hn : n < 5) (ha : a < 6) (hk : A 7 (6 * n + a) < 3) (h : A 7 (6 * n + a) ≠ 2 ∨ ∃ o, o < 120 ∧ V 8 (6 * n + a) = nI o ∧ o / 24 ≠ n) : mX6_local (mkR M (toR A V) f0) M (nI n) (nI a) = some (-1, mkR M (toR A V) f0) := by
  unfold mX6_local
  simp (disch := omega) only [rR8, rR9, rl7, rl8, i6, nI_mul, nI_add, gl_nI, tR7, tR8, Option.bind_some]
  by_cases h1 : A 7 (6 * n + a) = 2
  · obtain ⟨o, ho, e, hne⟩ := h.resolve_left (fun q => q h1)
    rw [if_pos (by rw [h1]; decide)]
    simp (disch := omega) only [e, i24, nI_div]
    rw [if_neg (fun q => hne ((nI_eq (by omega) (by omega)).mp q))]
  · rw [if_neg (by rw [i2]; exact fun q => h1 ((nI_eq (by omega) (by omega)).mp q))]
theorem okv_lt {A : tA} {N n k : Nat} {v : Int32} (h : okv A N n k v) : k < 3 := by
  rcases h with ⟨rfl, -⟩ | rfl | ⟨rfl, -⟩ <;> decide
/-- a field behind a register: both find it, or neither does -/
theorem behind {b p M N cl : Nat} {A : tA} {V : tV} {gn : tN} {gp : tV} {pi : Nat → Nat} {od : Nat → Nat → Nat} {q : Nat → Nat} {f1 f2 : jM} (hp : b + 2 + 8 * N ≤ p) (hS : SIM A V N gn gp pi od q) (hW : WF A V N cl) (x y w : Int32) :
    (∃ n a j g, n < N ∧ a < 6 ∧ j < 24 ∧ g < 12 ∧ g < A 1 (24 * n + j) ∧ x = nI n ∧ y = nI a ∧ w = nI g ∧ A 4 (24 * n + j) = 1 ∧ A 7 (6 * n + a) = 2 ∧ V 8 (6 * n + a) = nI (24 * n + j) ∧ mX5_slotBehind (mkC b p N gn gp pi f1) b x y w = some (nI (6 + 12 * j + g), mkC b p N gn gp pi f1) ∧ mX6_isField (mkR M (toR A V) f2) M x y w = some (1, mkR M (toR A V) f2)) ∨
    (mX5_slotBehind (mkC b p N gn gp pi f1) b x y w = some (-1, mkC b p N gn gp pi f1) ∧ ((x < 0 ∨ nI N ≤ x) ∨ (y < 0 ∨ nI 6 ≤ y) ∨ ∃ n a, n < N ∧ a < 6 ∧ x = nI n ∧ y = nI a ∧ mX6_isField (mkR M (toR A V) f2) M x y w = some (0, mkR M (toR A V) f2))) := by
  obtain ⟨⟨hA, hN1, hN5⟩, wR, wF, wT, wW, wE, wM, wTo, wI⟩ := hW
  rcases idx x (n := N) (by omega) with ⟨n, hn, rfl⟩ | hx
  · rcases idx y (n := 6) (by omega) with ⟨a, ha, rfl⟩ | hy
    · have hv := wR n a hn ha
      have hSn := hS.1 n hn
      have hs := hSn.1 a ha
      rcases loc_cases hv hN5 hn with ⟨j, hj, h1, h2, h3, h4⟩ | ⟨h1, h2⟩
      · have hsz : A 4 (24 * n + j) = 1 → A 1 (24 * n + j) ≤ 12 := fun h => (wF _ (by omega) h).1
        have hs12 := hsz h3
        have c5 : mX5_slotBehind (mkC b p N gn gp pi f1) b (nI n) (nI a) w = (if A 4 (24 * n + j) = 1 ∧ ¬ w < 0 ∧ ¬ nI (A 1 (24 * n + j)) ≤ w then some (nI 6 + nI j * nI 12 + w, mkC b p N gn gp pi f1) else some (-1, mkC b p N gn gp pi f1)) := by
          unfold mX5_slotBehind
          simp (disch := omega) only [cchk5, Option.bind_some, eC_isNode, eC_isRegister, cF0, cNod, cNr1, cNr2, cNl1, cNl2, gl_nI, hs.1, hs.2, h2, h4, eC_numberOf]
          rw [if_neg (by decide), if_neg (by decide), if_pos (by rw [← h2, h4])]
          rw [show (24 * n + j) % 24 = j by omega]
          simp (disch := omega) only [cchk2, Option.bind_some, eC_hasF hp hn hj hSn hsz]
          by_cases hc : A 4 (24 * n + j) = 1 ∧ ¬ w < 0 ∧ ¬ nI (A 1 (24 * n + j)) ≤ w
          · simp only [hc, not_false_eq_true, and_self, if_true]
            rw [if_neg (by decide)]
            unfold mX5_fieldSlot
            rfl
          · simp only [hc, if_false, if_true]
        have c6 : mX6_isField (mkR M (toR A V) f2) M (nI n) (nI a) w = some (if ¬ w < 0 ∧ ¬ nI (A 1 (24 * n + j)) ≤ w then 1 else 0, mkR M (toR A V) f2) := by
          unfold mX6_isField
          simp only [rchk, Option.bind_some, eR_local (M := M) (f0 := f2) (show n < 5 by omega) ha hj h1 h2]
          rw [if_neg (nI_m1 (by omega))]
          simp (disch := omega) only [rR2, rl1, gl_nI, tR1, Option.bind_some]
          by_cases hw : w < 0
          · simp [hw]
          · by_cases hw2 : nI (A 1 (24 * n + j)) ≤ w
            · simp [hw, hw2]
            · simp [hw, hw2]
        by_cases hc : ¬ w < 0 ∧ ¬ nI (A 1 (24 * n + j)) ≤ w
        · obtain ⟨g, hg1, rfl⟩ := nI_of hc.1
          have hg : g < A 1 (24 * n + j) := by
            rcases Nat.lt_or_ge g (A 1 (24 * n + j)) with h | h
            · exact h
            · exact absurd (nI_le h hg1) hc.2
          refine Or.inl ⟨n, a, j, g, hn, ha, hj, by omega, hg, rfl, rfl, rfl, h3, h1, h2, ?_, ?_⟩
          · rw [c5, if_pos ⟨h3, hc⟩, nI_mul, nI_add, nI_add, show 6 + j * 12 + g = 6 + 12 * j + g by omega]
          · rw [c6, if_pos hc]
        · refine Or.inr ⟨?_, Or.inr (Or.inr ⟨n, a, hn, ha, rfl, rfl, ?_⟩)⟩
          · rw [c5, if_neg (fun q => hc q.2)]
          · rw [c6, if_neg hc]
      · refine Or.inr ⟨?_, Or.inr (Or.inr ⟨n, a, hn, ha, rfl, rfl, ?_⟩)⟩
        · unfold mX5_slotBehind
          simp (disch := omega) only [cchk5, Option.bind_some, eC_isNode, eC_isRegister, cF0, cNod, cNr1, cNl1, gl_nI, hs.1]
          rw [if_neg (by decide), if_neg (by decide), if_neg h1]
        · unfold mX6_isField
          simp only [rchk, Option.bind_some, eR_localX (M := M) (f0 := f2) (show n < 5 by omega) ha (okv_lt hv) h2]
          rfl
    · refine Or.inr ⟨?_, Or.inr (Or.inl hy)⟩
      unfold mX5_slotBehind
      simp only [cchk5 hp, Option.bind_some, eC_isNode hp hN5 hn, eC_isRegisterX hy]
      rfl
  · refine Or.inr ⟨?_, Or.inl hx⟩
    unfold mX5_slotBehind
    simp only [cchk5 hp, Option.bind_some, eC_isNodeX hp hx]
    rfl
theorem o_set {b p M N cl : Nat} {f0 f : jM} (hl : Lay b p M N) (hI : Inv b p M N cl f0 f) (hc : cl < 512) (x y w z : Int32) : ∃ r f1 f2, mX5_set f b x y w z = some (r, f1) ∧ mX6_set f1 M x y w z = some (r, f2) ∧ Inv b p M N (cl + 1) f0 f2 := by
  have hI0 := hI.more hc
  obtain ⟨A, V, gn, gp, pi, od, q, rfl, hS, hW, wL⟩ := hI
  obtain ⟨hA, hN1, hN5⟩ := hW.1
  have hp := hl.1
  rcases behind (f1 := mkR M (toR A V) f0) (f2 := mkC b p N gn gp pi f0) (M := M) hp hS hW x y w with ⟨n, a, j, g, hn, ha, hj, hg12, hg, rfl, rfl, rfl, ht, h7, h8, e5, e6⟩ | ⟨e5, e6⟩
  · rcases idx z (n := 6) (by omega) with ⟨c, hc6, rfl⟩ | hz
    · have hs := (hS.1 n hn).1 c hc6
      have hv := hW.2.1 n c hn hc6
      refine ⟨1, mkC b p N (up3 (up3 gn n 1 (6 + 12 * j + g) (gn n 1 c)) n 2 (6 + 12 * j + g) (gn n 2 c)) gp pi (mkR M (toR A V) f0), mkC b p N (up3 (up3 gn n 1 (6 + 12 * j + g) (gn n 1 c)) n 2 (6 + 12 * j + g) (gn n 2 c)) gp pi (mkR M (toR (upA A 5 (12 * (24 * n + j) + g) (A 7 (6 * n + c))) (up2 V 6 (12 * (24 * n + j) + g) (V 8 (6 * n + c)))) f0), ?_, ?_, ?_⟩
      · unfold mX5_set
        simp only [cchk5 hp, Option.bind_some, e5]
        rw [if_neg (nI_m1 (by omega))]
        simp (disch := omega) only [eC_isRegister, Option.bind_some, cF0, cNod, cchk2, eC_copy]
        rw [if_neg (by decide)]
      · have e6' : ∀ f2, mX6_isField (mkR M (toR A V) f2) M (nI n) (nI a) (nI g) = some (1, mkR M (toR A V) f2) := by
          intro f2
          rcases behind (f1 := mkR M (toR A V) f0) (f2 := f2) (M := M) hp hS hW (nI n) (nI a) (nI g) with ⟨_, _, _, _, _, _, _, _, _, _, _, _, _, _, _, _, h⟩ | ⟨h, -⟩
          · exact h
          · rw [e5] at h
            exact absurd (Prod.mk.inj (Option.some.inj h)).1 (nI_m1 (by omega))
        rw [swapCR hl, swapCR hl]
        unfold mX6_set
        simp only [rchk, Option.bind_some, eR_isReg hA hN5 hn ha, eR_isReg hA hN5 hn hc6, e6', eR_local (show n < 5 by omega) ha hj h7 h8]
        rw [if_neg (by decide), if_neg (by decide), if_neg (by decide)]
        simp (disch := omega) only [rR6, rR7, rR8, rR9, rl7, rl8, rs5, rs6, i6, i12, nI_mul, nI_add, gl_nI, gs_nI, tR7, tR8, uR5, uR6, Option.bind_some]
      · have h1 := SIM_fld (k := A 7 (6 * n + c)) (v := V 8 (6 * n + c)) hS hn hj hg12 ht
        rw [← hs.1, ← hs.2] at h1
        refine ⟨_, _, _, gp, pi, od, q, rfl, ?_, (WF_fld hW hn hj hg hg12 hv).more hc, wL⟩
        rw [hs.2] at h1 ⊢
        exact h1
    · refine ⟨0, (mkC b p N gn gp pi (mkR M (toR A V) f0)), (mkC b p N gn gp pi (mkR M (toR A V) f0)), ?_, ?_, hI0⟩
      · unfold mX5_set
        simp only [cchk5 hp, Option.bind_some, e5]
        rw [if_neg (nI_m1 (by omega))]
        simp only [eC_isRegisterX hz, Option.bind_some, if_true]
      · rw [swapCR hl]
        unfold mX6_set
        simp only [rchk, Option.bind_some, eR_isReg hA hN5 hn ha, eR_isRegX hA hN5 (x := nI n) (Or.inr hz)]
        rw [if_neg (by decide)]
        rfl
  · refine ⟨0, (mkC b p N gn gp pi (mkR M (toR A V) f0)), (mkC b p N gn gp pi (mkR M (toR A V) f0)), ?_, ?_, hI0⟩
    · unfold mX5_set
      simp only [cchk5 hp, Option.bind_some, e5, if_true]
    · rw [swapCR hl]
      unfold mX6_set
      rcases e6 with hx | hy | ⟨n, a, hn, ha, rfl, rfl, e6⟩
      · simp only [rchk, Option.bind_some, eR_isRegX hA hN5 (Or.inl hx), if_true]
      · simp only [rchk, Option.bind_some, eR_isRegX hA hN5 (Or.inr hy), if_true]
      · simp only [rchk, Option.bind_some, eR_isReg hA hN5 hn ha]
        rw [if_neg (by decide)]
        rcases idx z (n := 6) (by omega) with ⟨c, hc6, rfl⟩ | hz
        · simp only [eR_isReg hA hN5 hn hc6, rchk, Option.bind_some, e6]
          rw [if_neg (by decide)]
          rfl
        · simp only [eR_isRegX hA hN5 (x := nI n) (Or.inr hz), Option.bind_some, if_true]
theorem o_get {b p M N cl : Nat} {f0 f : jM} (hl : Lay b p M N) (hI : Inv b p M N cl f0 f) (hc : cl < 512) (x y w z : Int32) : ∃ r f1 f2, mX5_get f b x y w z = some (r, f1) ∧ mX6_get f1 M x y w z = some (r, f2) ∧ Inv b p M N (cl + 1) f0 f2 := by
  have hI0 := hI.more hc
  obtain ⟨A, V, gn, gp, pi, od, q, rfl, hS, hW, wL⟩ := hI
  obtain ⟨hA, hN1, hN5⟩ := hW.1
  have hp := hl.1
  rcases behind (f1 := mkR M (toR A V) f0) (f2 := mkC b p N gn gp pi f0) (M := M) hp hS hW x y w with ⟨n, a, j, g, hn, ha, hj, hg12, hg, rfl, rfl, rfl, ht, h7, h8, e5, e6⟩ | ⟨e5, e6⟩
  · rcases idx z (n := 6) (by omega) with ⟨c, hc6, rfl⟩ | hz
    · have hs := (hS.1 n hn).2.1 j g hj hg12 ht
      have hv := (hW.2.2.1 _ (by omega) ht).2.1 g hg
      rw [show (24 * n + j) / 24 = n by omega] at hv
      refine ⟨1, mkC b p N (up3 (up3 gn n 1 c (gn n 1 (6 + 12 * j + g))) n 2 c (gn n 2 (6 + 12 * j + g))) gp pi (mkR M (toR A V) f0), mkC b p N (up3 (up3 gn n 1 c (gn n 1 (6 + 12 * j + g))) n 2 c (gn n 2 (6 + 12 * j + g))) gp pi (mkR M (toR (upA A 7 (6 * n + c) (A 5 (12 * (24 * n + j) + g))) (up2 V 8 (6 * n + c) (V 6 (12 * (24 * n + j) + g)))) f0), ?_, ?_, ?_⟩
      · unfold mX5_get
        simp only [cchk5 hp, Option.bind_some, e5]
        rw [if_neg (nI_m1 (by omega))]
        simp (disch := omega) only [eC_isRegister, Option.bind_some, cF0, cNod, cchk2, eC_copy]
        rw [if_neg (by decide)]
      · have e6' : ∀ f2, mX6_isField (mkR M (toR A V) f2) M (nI n) (nI a) (nI g) = some (1, mkR M (toR A V) f2) := by
          intro f2
          rcases behind (f1 := mkR M (toR A V) f0) (f2 := f2) (M := M) hp hS hW (nI n) (nI a) (nI g) with ⟨_, _, _, _, _, _, _, _, _, _, _, _, _, _, _, _, h⟩ | ⟨h, -⟩
          · exact h
          · rw [e5] at h
            exact absurd (Prod.mk.inj (Option.some.inj h)).1 (nI_m1 (by omega))
        rw [swapCR hl, swapCR hl]
        unfold mX6_get
        simp only [rchk, Option.bind_some, eR_isReg hA hN5 hn ha, eR_isReg hA hN5 hn hc6, e6', eR_local (show n < 5 by omega) ha hj h7 h8]
        rw [if_neg (by decide), if_neg (by decide), if_neg (by decide)]
        simp (disch := omega) only [rR6, rR7, rR8, rR9, rl5, rl6, rs7, rs8, i6, i12, nI_mul, nI_add, gl_nI, gs_nI, tR5, tR6, uR7, uR8, Option.bind_some]
      · have h1 := SIM_reg (k := A 5 (12 * (24 * n + j) + g)) (v := V 6 (12 * (24 * n + j) + g)) hS hn hc6
        rw [← hs.1] at h1
        refine ⟨_, _, _, gp, pi, od, q, rfl, ?_, (WF_reg hW hn hc6 hv).more hc, wL⟩
        rw [hs.2]
        exact h1
    · refine ⟨0, (mkC b p N gn gp pi (mkR M (toR A V) f0)), (mkC b p N gn gp pi (mkR M (toR A V) f0)), ?_, ?_, hI0⟩
      · unfold mX5_get
        simp only [cchk5 hp, Option.bind_some, e5]
        rw [if_neg (nI_m1 (by omega))]
        simp only [eC_isRegisterX hz, Option.bind_some, if_true]
      · rw [swapCR hl]
        unfold mX6_get
        simp only [rchk, Option.bind_some, eR_isReg hA hN5 hn ha, eR_isRegX hA hN5 (x := nI n) (Or.inr hz)]
        rw [if_neg (by decide)]
        rfl
  · refine ⟨0, (mkC b p N gn gp pi (mkR M (toR A V) f0)), (mkC b p N gn gp pi (mkR M (toR A V) f0)), ?_, ?_, hI0⟩
    · unfold mX5_get
      simp only [cchk5 hp, Option.bind_some, e5, if_true]
    · rw [swapCR hl]
      unfold mX6_get
      rcases e6 with hx | hy | ⟨n, a, hn, ha, rfl, rfl, e6⟩
      · simp only [rchk, Option.bind_some, eR_isRegX hA hN5 (Or.inl hx), if_true]
      · simp only [rchk, Option.bind_some, eR_isRegX hA hN5 (Or.inr hy), if_true]
      · simp only [rchk, Option.bind_some, eR_isReg hA hN5 hn ha]
        rw [if_neg (by decide)]
        rcases idx z (n := 6) (by omega) with ⟨c, hc6, rfl⟩ | hz
        · simp only [eR_isReg hA hN5 hn hc6, rchk, Option.bind_some, e6]
          rw [if_neg (by decide)]
          rfl
        · simp only [eR_isRegX hA hN5 (x := nI n) (Or.inr hz), Option.bind_some, if_true]
