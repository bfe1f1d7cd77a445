/-! trial as a call; pass -/
theorem bnd {α β : Type} (o : Option (α × β)) : (o.bind fun r => some (r.1, r.2)) = o := by cases o <;> rfl
theorem tot_bd {A : tA} {cl o : Nat} (h : wTot A cl) (ho : o < 120) : A 3 o ≤ 32768 := by
  have h1 := sm_le (f := A 3) (n := 120) ho
  have h2 := h.1
  have h3 := h.2
  omega
section CO
variable {b p N : Nat} {gn : tN} {gp : tV} {pi : Nat → Nat} {f0 : jM} {A : tA} {V : tV}
theorem eC_isObj {n k : Nat} {od : Nat → Nat} {q : Nat} (hp : b + 2 + 8 * N ≤ p) (hN5 : N ≤ 5) (hn : n < N) (hk : k < 24) (hS : SN A V n gn od q) (hsz : A 4 (24 * n + k) = 1 → A 1 (24 * n + k) ≤ 12) : mX5_isObject (mkC b p N gn gp pi f0) b (nI n) (nI k) = some (if A 4 (24 * n + k) = 1 then 1 else 0, mkC b p N gn gp pi f0) := by
  unfold mX5_isObject
  simp only [cchk5 hp, Option.bind_some, eC_isNode hp hN5 hn, cF0 hp, cNod hp hn (show N < 2 ^ 31 by omega), cchk2 hp hn, eC_hasO hp hn hk hS hsz]
  rw [if_neg (by decide)]
  by_cases h : A 4 (24 * n + k) = 1
  · simp only [h, if_true]
    rfl
  · simp only [h, if_false, if_true]
theorem eC_isObjX {x y : Int32} (hp : b + 2 + 8 * N ≤ p) (hN5 : N ≤ 5) (h : (x < 0 ∨ nI N ≤ x) ∨ (y < 0 ∨ nI 24 ≤ y)) : mX5_isObject (mkC b p N gn gp pi f0) b x y = some (0, mkC b p N gn gp pi f0) := by
  unfold mX5_isObject
  rcases idx x (n := N) (by omega) with ⟨n, hn, rfl⟩ | hx
  · have hy : y < 0 ∨ nI 24 ≤ y := by
      rcases h with h | h
      · rcases h with h | h
        · exact absurd h (nI_pos (by omega))
        · exact absurd h (nI_ge hn (by omega))
      · exact h
    simp only [cchk5 hp, Option.bind_some, eC_isNode hp hN5 hn, cF0 hp, cNod hp hn (show N < 2 ^ 31 by omega), cchk2 hp hn, eC_hasObjectX hy, if_true]
    rfl
  · simp only [cchk5 hp, Option.bind_some, eC_isNodeX hp hx, if_true]
end CO
theorem tr5 {b p N cl fu o : Nat} {s : sT} (hp : b + 2 + 8 * N ≤ p) (h : sOk N cl s) (ho : o < 24 * N) (f1 : jM) : mX5_trial fu (sC b p N s f1) b (nI (o / 24)) (nI (o % 24)) = if s.1 4 o = 1 ∧ 0 < s.1 3 o ∧ s.1 0 2 = 0 then mX4_run fu (sC b p N s f1) (p + 65) (b + 1) (nI o) p else some (-1, sC b p N s f1) := by
  obtain ⟨A, V, gn, gp, pi, od, q⟩ := s
  obtain ⟨hS, hW, wL⟩ := h
  dsimp only at *
  obtain ⟨⟨h11, hN1, hN5⟩, wR, wF, wT, wW, wE, wM, wTo, wI⟩ := hW
  have hms := wM.1
  have hn : o / 24 < N := by omega
  have hk : o % 24 < 24 := by omega
  have e1 : 24 * (o / 24) + o % 24 = o := by omega
  have e2 : o / 24 * 24 + o % 24 = o := by omega
  have hsz : A 4 (24 * (o / 24) + o % 24) = 1 → A 1 (24 * (o / 24) + o % 24) ≤ 12 := fun w => (wF _ (by omega) w).1
  have h5 := ((hS.1 _ hn).2.2.2.1 _ hk).2.2
  have htb := tot_bd wTo (show o < 120 by omega)
  have eo := eC_isObj (b := b) (p := p) (gp := gp) (pi := pi) (f0 := f1) hp hN5 hn hk (hS.1 _ hn) hsz
  rw [e1] at h5 eo
  unfold mX5_trial
  simp only [cchk5 hp, Option.bind_some, eo]
  by_cases c1 : A 4 o = 1
  · simp only [c1, if_true, cF0 hp, cNod hp hn (show N < 2 ^ 31 by omega), cNr5 hp hn, cNl5 hp hn, gl_nI hk (show 24 < 2 ^ 31 by omega), Option.bind_some, h5, cF1 hp, cP1, hS.2.1.1, cF3 hp, eC_idOf, e2, cTchk, true_and]
    rw [if_neg (by decide)]
    by_cases c2 : 0 < A 3 o
    · rw [if_neg (nI_ne0 c2 (by omega))]
      by_cases c3 : A 0 2 = 0
      · rw [if_pos (by rw [c3]; decide), bnd, if_pos ⟨c2, c3⟩]
      · rw [if_neg (nI_nle (by omega) (by omega)), if_neg (fun w => c3 w.2)]
    · rw [if_pos (by rw [show A 3 o = 0 by omega]; rfl), if_neg (fun w => c2 w.1)]
  · simp only [c1, if_false, if_true, false_and]
theorem tr6 {M N cl fu n k : Nat} {s : sT} (h : sOk N cl s) (hn : n < N) (hk : k < 24) (f2 : jM) : mX6_trial fu (sR M s f2) M (nI n) (nI k) = if s.1 4 (24 * n + k) = 1 ∧ 0 < s.1 3 (24 * n + k) ∧ s.1 0 2 = 0 then mX6_tries fu (sR M s f2) M (nI (24 * n + k)) else some (-1, sR M s f2) := by
  obtain ⟨A, V, gn, gp, pi, od, q⟩ := s
  obtain ⟨hS, hW, wL⟩ := h
  dsimp only at *
  obtain ⟨⟨h11, hN1, hN5⟩, wR, wF, wT, wW, wE, wM, wTo, wI⟩ := hW
  have hms := wM.1
  have htb := tot_bd wTo (show 24 * n + k < 120 by omega)
  unfold mX6_trial
  simp only [rchk, Option.bind_some, eR_isObj h11 hN5 hn hk wT]
  by_cases c1 : A 4 (24 * n + k) = 1
  · simp (disch := omega) only [c1, if_true, rR4, rl3, i24, nI_mul, nI_add, gl_nI, tR3, rI13, tR0, Option.bind_some, true_and]
    rw [if_neg (by decide)]
    by_cases c2 : 0 < A 3 (24 * n + k)
    · rw [if_neg (nI_ne0 c2 (by omega))]
      by_cases c3 : A 0 2 = 0
      · rw [if_pos (by rw [c3]; decide), bnd, if_pos ⟨c2, c3⟩]
      · rw [if_neg (nI_nle (by omega) (by omega)), if_neg (fun w => c3 w.2)]
    · rw [if_pos (by rw [show A 3 (24 * n + k) = 0 by omega]; rfl), if_neg (fun w => c2 w.1)]
  · simp only [c1, if_false, if_true, false_and]
theorem o_trial {b p M N cl fu : Nat} {f0 f : jM} (hfu : 2000 ≤ fu) (hl : Lay b p M N) (hI : Inv b p M N cl f0 f) (hc : cl < 512) (x y : Int32) : ∃ r f1 f2, mX5_trial fu f b x y = some (r, f1) ∧ mX6_trial fu f1 M x y = some (r, f2) ∧ Inv b p M N (cl + 1) f0 f2 := by
  obtain ⟨s, rfl, hs⟩ := Inv_to hI
  have hp := hl.1
  have h1 : s.1 0 1 = N := hs.2.1.1.1
  have hN5 : N ≤ 5 := hs.2.1.1.2.2
  have bad : ((x < 0 ∨ nI N ≤ x) ∨ (y < 0 ∨ nI 24 ≤ y)) → ∃ r f1 f2, mX5_trial fu (sC b p N s (sR M s f0)) b x y = some (r, f1) ∧ mX6_trial fu f1 M x y = some (r, f2) ∧ Inv b p M N (cl + 1) f0 f2 := by
    intro hx
    refine step (m5 := fun f => mX5_trial fu f b x y) (m6 := fun f => mX6_trial fu f M x y) (r := -1) hl (fun f1 => ?_) (fun f2 => ?_) (sOk_more hs hc)
    · unfold mX5_trial
      simp only [cchk5 hp, Option.bind_some, eC_isObjX hp hN5 hx, if_true]
    · unfold mX6_trial
      simp only [rchk, Option.bind_some, eR_isObjX h1 hN5 hx, if_true]
  rcases idx x (n := N) (by omega) with ⟨n, hn, rfl⟩ | hx
  · rcases idx y (n := 24) (by omega) with ⟨k, hk, rfl⟩ | hy
    · have t5 := fun f1 => tr5 (fu := fu) (f1 := f1) hp hs (show 24 * n + k < 24 * N by omega)
      rw [show (24 * n + k) / 24 = n by omega, show (24 * n + k) % 24 = k by omega] at t5
      have t6 := fun f2 => tr6 (M := M) (fu := fu) (f2 := f2) hs hn hk
      by_cases hg : s.1 4 (24 * n + k) = 1 ∧ 0 < s.1 3 (24 * n + k) ∧ s.1 0 2 = 0
      · obtain ⟨r, s1, a1, a2, a3, -, -⟩ := ev_tries (M := M) hfu hp hs hg.2.2 ⟨by omega, hg.1⟩ hg.2.1
        exact step (m5 := fun f => mX5_trial fu f b (nI n) (nI k)) (m6 := fun f => mX6_trial fu f M (nI n) (nI k)) hl (fun f1 => by rw [t5, if_pos hg]; exact a1 f1) (fun f2 => by rw [t6, if_pos hg]; exact a2 f2) (sOk_more a3 hc)
      · exact step (m5 := fun f => mX5_trial fu f b (nI n) (nI k)) (m6 := fun f => mX6_trial fu f M (nI n) (nI k)) hl (fun f1 => by rw [t5, if_neg hg]) (fun f2 => by rw [t6, if_neg hg]) (sOk_more hs hc)
    · exact bad (Or.inr hy)
  · exact bad (Or.inl hx)
/-! pass -/
theorem pc_end {b p N cl fu nn : Nat} {s : sT} {v1 : Int32} {v3 : Int32} {f1 : jM} (hp : b + 2 + 8 * N ≤ p) (h : sOk N cl s) : ∀ d o n5, 120 = o + d → 24 * N ≤ o → d < n5 → mX5_pass_L40 fu (mX5_pass_L6 fu b (nn + 1)) b v1 v3 n5 0 (nI o) (sC b p N s f1) = some (v1, sC b p N s f1) := by
  have hN5 : N ≤ 5 := h.2.1.1.2.2
  intro d
  induction d with
  | zero =>
    intro o n5 h1 h2 h3
    obtain ⟨n5, rfl⟩ : ∃ n, n5 = n + 1 := ⟨n5 - 1, by omega⟩
    rw [mX5_pass_L40, i120, if_pos (nI_le (by omega) (by omega)), mX5_pass_L6, if_pos rfl]
  | succ d ih =>
    intro o n5 h1 h2 h3
    obtain ⟨n5, rfl⟩ : ∃ n, n5 = n + 1 := ⟨n5 - 1, by omega⟩
    rw [mX5_pass_L40, i120, if_neg (nI_ge (by omega) (by omega)), if_pos rfl]
    have : mX5_trial fu (sC b p N s f1) b (nI (o / 24)) (nI (o % 24)) = some (-1, sC b p N s f1) := by
      unfold mX5_trial
      simp only [cchk5 hp, Option.bind_some, eC_isObjX hp hN5 (Or.inl (Or.inr (nI_le (show N ≤ o / 24 by omega) (by omega)))), if_true]
    simp only [eC_nodeOf (show o < 2 ^ 31 by omega), eC_numberOf (show o < 2 ^ 31 by omega), Option.bind_some, cchk5 hp, this, nI_1]
    rw [if_pos (by decide)]
    exact ih (o + 1) n5 (by omega) (by omega) (by omega)
theorem ev_pass_loop {b p M N cl fu : Nat} (hfu : 2000 ≤ fu) (hfu' : 100000 ≤ fu) (hp : b + 2 + 8 * N ≤ p) : ∀ P d o (s : sT) n5 n6 nn t (v1 : Int32), Phi s.1 = P → sOk N cl s → s.1 0 2 = 0 → 24 * N = o + d → d + 120 < n5 → 130 * P + d < n6 → P < nn → t + P < 900000 →
    ∃ r s', (∀ f1, mX5_pass_L40 fu (mX5_pass_L6 fu b nn) b v1 (nI t) n5 0 (nI o) (sC b p N s f1) = some (r, sC b p N s' f1)) ∧ (∀ f2, mX6_pass_L14 fu M n6 v1 (nI o) (sR M s f2) = some (r, sR M s' f2)) ∧ sOk N cl s' := by
  intro P
  induction P using Nat.strongRecOn with
  | _ P ihP =>
    intro d
    induction d with
    | zero =>
      intro o s n5 n6 nn t v1 h1 h h0 hd h5 h6 hnn ht
      have hN5 : N ≤ 5 := h.2.1.1.2.2
      obtain ⟨n6, rfl⟩ : ∃ n, n6 = n + 1 := ⟨n6 - 1, by omega⟩
      obtain ⟨nn, rfl⟩ : ∃ n, nn = n + 1 := ⟨nn - 1, by omega⟩
      refine ⟨v1, s, fun f1 => pc_end hp h (120 - o) o n5 (by omega) (by omega) (by omega), fun f2 => ?_, h⟩
      rw [mX6_pass_L14]
      simp only [rNo h, Option.bind_some, i24, nI_mul]
      rw [if_pos (nI_le (by omega) (by omega))]
    | succ d ihd =>
      intro o s n5 n6 nn t v1 h1 h h0 hd h5 h6 hnn ht
      have hN5 : N ≤ 5 := h.2.1.1.2.2
      obtain ⟨n5, rfl⟩ : ∃ n, n5 = n + 1 := ⟨n5 - 1, by omega⟩
      obtain ⟨n6, rfl⟩ : ∃ n, n6 = n + 1 := ⟨n6 - 1, by omega⟩
      obtain ⟨nn, rfl⟩ : ∃ n, nn = n + 1 := ⟨nn - 1, by omega⟩
      have ho : o < 24 * N := by omega
      have htb := tot_bd h.2.1.2.2.2.2.2.2.2.1 (show o < 120 by omega)
      have t5 := fun f1 => tr5 (fu := fu) (f1 := f1) hp h ho
      by_cases hg : s.1 4 o = 1 ∧ 0 < s.1 3 o
      · obtain ⟨r, s1, a1, a2, a3, a4, a5⟩ := ev_tries (M := M) hfu hp h h0 ⟨ho, hg.1⟩ hg.2
        have c5 : ∀ f1, mX5_pass_L40 fu (mX5_pass_L6 fu b (nn + 1)) b v1 (nI t) (n5 + 1) 0 (nI o) (sC b p N s f1) = if nI r ≤ 0 then mX5_pass_L40 fu (mX5_pass_L6 fu b (nn + 1)) b v1 (nI t) n5 0 (nI (o + 1)) (sC b p N s1 f1) else mX5_pass_L40 fu (mX5_pass_L6 fu b (nn + 1)) b v1 (nI t) n5 1 (nI (o + 1)) (sC b p N s1 f1) := by
          intro f1
          rw [mX5_pass_L40, i120, if_neg (nI_ge (by omega) (by omega)), if_pos rfl]
          simp only [eC_nodeOf (show o < 2 ^ 31 by omega), eC_numberOf (show o < 2 ^ 31 by omega), Option.bind_some, cchk5 hp, t5, nI_1]
          rw [if_pos ⟨hg.1, hg.2, h0⟩, a1]
          simp only [Option.bind_some]
        have c6 : ∀ f2, mX6_pass_L14 fu M (n6 + 1) v1 (nI o) (sR M s f2) = if nI r ≤ 0 then mX6_pass_B55 fu (mX6_pass_L14 fu M n6) M v1 (nI o) (sR M s1 f2) else mX6_pass_B56 fu (mX6_pass_L14 fu M n6) M v1 (nI o) 1 (sR M s1 f2) := by
          intro f2
          rw [mX6_pass_L14]
          simp only [rNo h, Option.bind_some, i24, nI_mul]
          rw [if_neg (nI_ge (by omega) (by omega))]
          simp (disch := omega) only [rR5, rl4, rR4, rl3, gl_nI, tR4, tR3, rchk, Option.bind_some, a2]
          rw [hg.1, if_neg (by decide), if_neg (nI_nle hg.2 (by omega))]
        rcases a5 with ⟨r0, hsc⟩ | ⟨r1, hPhi⟩
        · subst r0
          obtain ⟨r', s', q1, q2, q3⟩ := ihd (o + 1) s1 n5 n6 (nn + 1) t v1 (by rw [scr_Phi hsc]; exact h1) a3 (by rw [hsc 0 2 (by omega) (by omega)]; exact h0) (by omega) (by omega) (by omega) (by omega) (by omega)
          refine ⟨r', s', fun f1 => ?_, fun f2 => ?_, q3⟩
          · rw [c5, if_pos (by decide)]
            exact q1 f1
          · rw [c6, if_pos (by decide)]
            unfold mX6_pass_B55 mX6_pass_B56
            rw [if_pos rfl, nI_1]
            exact q2 f2
        · obtain ⟨rs, s2, e1, e2, e3, e4, e5⟩ := ev_settle (M := M) hfu hp a3
          have hb2 := Phi_bd e3.2.1
          obtain ⟨n5, rfl⟩ : ∃ n, n5 = n + 1 := ⟨n5 - 1, by omega⟩
          have d5 : ∀ f1, mX5_pass_L40 fu (mX5_pass_L6 fu b (nn + 1)) b v1 (nI t) (n5 + 1) 1 (nI (o + 1)) (sC b p N s1 f1) = if 0 ≤ rs then mX5_pass_L40 fu (mX5_pass_L6 fu b nn) b (v1 + rs) (nI (t + 1)) fu 0 (nI 0) (sC b p N s2 f1) else some (-2, sC b p N s2 f1) := by
            intro f1
            have e : mX5_pass_L40 fu (mX5_pass_L6 fu b (nn + 1)) b v1 (nI t) (n5 + 1) 1 (nI (o + 1)) (sC b p N s1 f1) = mX5_pass_L6 fu b (nn + 1) v1 1 (nI (t + 1)) (sC b p N s1 f1) := by
              rw [mX5_pass_L40, nI_1]
              by_cases c : (120 : Int32) ≤ nI (o + 1)
              · rw [if_pos c]
              · rw [if_neg c, if_neg (by decide)]
            rw [e, mX5_pass_L6, if_neg (by decide), i1000000, if_neg (nI_ge (by omega) (by omega))]
            simp only [cchk5 hp, Option.bind_some, e1]
            rw [← i0]
          have d6 : ∀ f2, mX6_pass_B56 fu (mX6_pass_L14 fu M n6) M v1 (nI o) 1 (sR M s1 f2) = if 0 ≤ rs then mX6_pass_L14 fu M n6 (v1 + rs) (nI 0) (sR M s2 f2) else some (-2, sR M s2 f2) := by
            intro f2
            unfold mX6_pass_B56
            rw [if_neg (by decide)]
            simp only [rchk, Option.bind_some, e2]
            rw [← i0]
          have hr1 : ¬ nI r ≤ 0 := nI_nle r1 (by omega)
          rcases e5 with rfl | ⟨k, rfl, k1, k2⟩
          · refine ⟨-2, s2, fun f1 => ?_, fun f2 => ?_, e3⟩
            · rw [c5, if_neg hr1, d5, if_neg (by decide)]
            · rw [c6, if_neg hr1, d6, if_neg (by decide)]
          · obtain ⟨r', s', q1, q2, q3⟩ := ihP (Phi s2.1) (by omega) (24 * N) 0 s2 fu n6 nn (t + 1) (v1 + nI k) rfl e3 k2 (by omega) (by omega) (by omega) (by omega) (by omega)
            refine ⟨r', s', fun f1 => ?_, fun f2 => ?_, q3⟩
            · rw [c5, if_neg hr1, d5, if_pos (nI_0le (by omega))]
              exact q1 f1
            · rw [c6, if_neg hr1, d6, if_pos (nI_0le (by omega))]
              exact q2 f2
      · have hng : ¬ (s.1 4 o = 1 ∧ 0 < s.1 3 o ∧ s.1 0 2 = 0) := fun w => hg ⟨w.1, w.2.1⟩
        obtain ⟨r', s', q1, q2, q3⟩ := ihd (o + 1) s n5 n6 (nn + 1) t v1 h1 h h0 (by omega) (by omega) (by omega) (by omega) (by omega)
        refine ⟨r', s', fun f1 => ?_, fun f2 => ?_, q3⟩
        · rw [mX5_pass_L40, i120, if_neg (nI_ge (by omega) (by omega)), if_pos rfl]
          simp only [eC_nodeOf (show o < 2 ^ 31 by omega), eC_numberOf (show o < 2 ^ 31 by omega), Option.bind_some, cchk5 hp, t5, nI_1]
          rw [if_neg hng]
          simp only [Option.bind_some]
          rw [if_pos (by decide)]
          exact q1 f1
        · rw [mX6_pass_L14]
          simp only [rNo h, Option.bind_some, i24, nI_mul]
          rw [if_neg (nI_ge (by omega) (by omega))]
          simp (disch := omega) only [rR5, rl4, rR4, rl3, gl_nI, tR4, tR3, Option.bind_some]
          have e55 : mX6_pass_B55 fu (mX6_pass_L14 fu M n6) M v1 (nI o) (sR M s f2) = some (r', sR M s' f2) := by
            unfold mX6_pass_B55 mX6_pass_B56
            rw [if_pos rfl, nI_1]
            exact q2 f2
          rw [e55]
          rcases h.2.1.2.2.2.1 o (by omega) with w | w
          · have : s.1 3 o = 0 := by
              rcases Nat.eq_zero_or_pos (s.1 3 o) with u | u
              · exact u
              · exact absurd ⟨w.1, u⟩ hg
            rw [w.1, if_neg (by decide), this, if_pos (by decide)]
          · rw [w.1, if_pos (by decide)]
theorem o_pass {b p M N cl fu : Nat} {f0 f : jM} (hfu' : 100000 ≤ fu) (hl : Lay b p M N) (hI : Inv b p M N cl f0 f) (hc : cl < 512) : ∃ r f1 f2, mX5_pass fu f b = some (r, f1) ∧ mX6_pass fu f1 M = some (r, f2) ∧ Inv b p M N (cl + 1) f0 f2 := by
  obtain ⟨s, rfl, hs⟩ := Inv_to hI
  have hp := hl.1
  have hfu : 2000 ≤ fu := by omega
  have hN5 : N ≤ 5 := hs.2.1.1.2.2
  obtain ⟨rs, s2, e1, e2, e3, e4, e5⟩ := ev_settle (M := M) hfu hp hs
  have hb2 := Phi_bd e3.2.1
  obtain ⟨nn, rfl⟩ : ∃ n, fu = n + 1 := ⟨fu - 1, by omega⟩
  have d5 : ∀ f1, mX5_pass (nn + 1) (sC b p N s f1) b = if 0 ≤ rs then mX5_pass_L40 (nn + 1) (mX5_pass_L6 (nn + 1) b nn) b rs (nI 0) (nn + 1) 0 (nI 0) (sC b p N s2 f1) else some (-2, sC b p N s2 f1) := by
    intro f1
    unfold mX5_pass
    rw [mX5_pass_L6, if_neg (by decide), if_neg (by decide)]
    simp only [cchk5 hp, Option.bind_some, e1, Int32.zero_add]
    rw [← i0]
  have d6 : ∀ f2, mX6_pass (nn + 1) (sR M s f2) M = if 0 ≤ rs then mX6_pass_L14 (nn + 1) M (nn + 1) rs (nI 0) (sR M s2 f2) else some (-2, sR M s2 f2) := by
    intro f2
    unfold mX6_pass
    simp only [rchk, Option.bind_some, e2]
    rw [← i0]
  rcases e5 with rfl | ⟨k, rfl, k1, k2⟩
  · refine step (m5 := fun f => mX5_pass (nn + 1) f b) (m6 := fun f => mX6_pass (nn + 1) f M) (r := -2) hl (fun f1 => ?_) (fun f2 => ?_) (sOk_more e3 hc)
    · rw [d5, if_neg (by decide)]
    · rw [d6, if_neg (by decide)]
  · obtain ⟨r', s', q1, q2, q3⟩ := ev_pass_loop (M := M) hfu hfu' hp (Phi s2.1) (24 * N) 0 s2 (nn + 1) (nn + 1) nn 0 (nI k) rfl e3 k2 (by omega) (by omega) (by omega) (by omega) (by omega)
    refine step (m5 := fun f => mX5_pass (nn + 1) f b) (m6 := fun f => mX6_pass (nn + 1) f M) (r := r') hl (fun f1 => ?_) (fun f2 => ?_) (sOk_more q3 hc)
    · rw [d5, if_pos (nI_0le (by omega))]
      exact q1 f1
    · rw [d6, if_pos (nI_0le (by omega))]
      exact q2 f2
