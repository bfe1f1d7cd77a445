/-! collect as a call; settle -/
theorem nI_0le {n : Nat} (h : n < 2 ^ 31) : (0 : Int32) ≤ nI n := Int32.not_lt.mp (nI_pos h)
theorem o_collect {b p M N cl fu : Nat} {f0 f : jM} (hfu : 2000 ≤ fu) (hl : Lay b p M N) (hI : Inv b p M N cl f0 f) (hc : cl < 512) (x : Int32) : ∃ r f1 f2, mX5_collect fu f b x = some (r, f1) ∧ mX6_collect fu f1 M x = some (r, f2) ∧ Inv b p M N (cl + 1) f0 f2 := by
  obtain ⟨s, rfl, hs⟩ := Inv_to hI
  have hp := hl.1
  have h1 : s.1 0 1 = N := hs.2.1.1.1
  have hN5 : N ≤ 5 := hs.2.1.1.2.2
  rcases idx x (n := N) (by omega) with ⟨n, hn, rfl⟩ | hx
  · have h6 : ∀ (r : Int32) s', (∀ f2, mX6_collects fu (sR M s f2) M (nI n) = some (r, sR M s' f2)) → ∀ f2, mX6_collect fu (sR M s f2) M (nI n) = some (r, sR M s' f2) := by
      intro r s' h f2
      unfold mX6_collect
      simp only [rchk, Option.bind_some, eR_isNd h1 hN5 hn, h]
      rw [if_neg (by decide)]
    rcases ev_collect (M := M) hfu hp hs hn with ⟨s', a, b', c, -⟩ | ⟨s', w, g, a, b', c, -⟩
    · exact step (m5 := fun f => mX5_collect fu f b (nI n)) (m6 := fun f => mX6_collect fu f M (nI n)) hl a (h6 _ _ b') (sOk_more c hc)
    · exact step (m5 := fun f => mX5_collect fu f b (nI n)) (m6 := fun f => mX6_collect fu f M (nI n)) hl a (h6 _ _ b') (sOk_more c hc)
  · refine step (m5 := fun f => mX5_collect fu f b x) (m6 := fun f => mX6_collect fu f M x) (r := -1) hl (fun f1 => ?_) (fun f2 => ?_) (sOk_more hs hc)
    · unfold mX5_collect
      simp only [cchk5 hp, Option.bind_some, eC_isNodeX hp hx]
      rw [if_pos trivial]
    · unfold mX6_collect
      simp only [rchk, Option.bind_some, eR_isNdX h1 hx]
      rw [if_pos trivial]
theorem cMs {b p N cl : Nat} {s : sT} {f1 : jM} (h : sOk N cl s) : rdI 3 (sC b p N s f1) p 1 = some (nI (s.1 0 2)) := by
  rw [cP1, h.1.2.1.1]
theorem ev_cols {b p M N cl fu : Nat} {k5 k6 : Int32 → Int32 → jM → Option (Int32 × jM)} {v1 v2 v3 v4 u1 u3 u5 : Int32} (hfu : 2000 ≤ fu) (hp : b + 2 + 8 * N ≤ p) : ∀ d j n5 n6 (s : sT) c, N = j + d → d < n5 → d < n6 → sOk N cl s →
    (∃ s', (∀ f1, mX5_settle_L33 fu k5 b v1 v2 v3 v4 n5 (nI c) (nI j) (sC b p N s f1) = some (-2, sC b p N s' f1)) ∧ (∀ f2, mX6_settles_L28 fu k6 M u1 u3 u5 n6 (nI c) (nI j) (sR M s f2) = some (-2, sR M s' f2)) ∧ sOk N cl s' ∧ Phi s'.1 ≤ Phi s.1) ∨
    (∃ s' w g, (∀ f1, mX5_settle_L33 fu k5 b v1 v2 v3 v4 n5 (nI c) (nI j) (sC b p N s f1) = mX5_settle_L33 fu k5 b v1 v2 v3 v4 1 (nI (c + w)) (nI N) (sC b p N s' f1)) ∧ (∀ f2, mX6_settles_L28 fu k6 M u1 u3 u5 n6 (nI c) (nI j) (sR M s f2) = mX6_settles_L28 fu k6 M u1 u3 u5 1 (nI (c + w)) (nI N) (sR M s' f2)) ∧ sOk N cl s' ∧ s'.1 0 2 = s.1 0 2 + g ∧ Phi s'.1 + g + w = Phi s.1) := by
  intro d
  induction d with
  | zero =>
    intro j n5 n6 s c h1 h2 h3 h
    have hN5 : N ≤ 5 := h.2.1.1.2.2
    obtain ⟨n5, rfl⟩ : ∃ n, n5 = n + 1 := ⟨n5 - 1, by omega⟩
    obtain ⟨n6, rfl⟩ : ∃ n, n6 = n + 1 := ⟨n6 - 1, by omega⟩
    have hj : j = N := by omega
    subst hj
    refine Or.inr ⟨s, 0, 0, fun f1 => ?_, fun f2 => ?_, h, rfl, rfl⟩
    · rw [mX5_settle_L33, mX5_settle_L33]
      simp only [cF0 hp, cLen hp, Option.bind_some]
      rw [if_pos (nI_le (Nat.le_refl _) (by omega)), if_pos (nI_le (Nat.le_refl _) (by omega))]
      rfl
    · rw [mX6_settles_L28, mX6_settles_L28]
      simp only [rNo h, Option.bind_some]
      rw [if_pos (nI_le (Nat.le_refl _) (by omega)), if_pos (nI_le (Nat.le_refl _) (by omega))]
      rfl
  | succ d ih =>
    intro j n5 n6 s c h1 h2 h3 h
    have hN5 : N ≤ 5 := h.2.1.1.2.2
    obtain ⟨n5, rfl⟩ : ∃ n, n5 = n + 1 := ⟨n5 - 1, by omega⟩
    obtain ⟨n6, rfl⟩ : ∃ n, n6 = n + 1 := ⟨n6 - 1, by omega⟩
    rcases ev_collect (M := M) hfu hp h (show j < N by omega) with ⟨s', a, b', c', e0⟩ | ⟨s', w, g, a, b', c', e1, e2, e3⟩
    · refine Or.inl ⟨s', fun f1 => ?_, fun f2 => ?_, c', by omega⟩
      · rw [mX5_settle_L33]
        simp only [cF0 hp, cLen hp, Option.bind_some, cchk5 hp, a]
        rw [if_neg (nI_ge (by omega) (by omega)), if_neg (by decide)]
      · rw [mX6_settles_L28]
        simp only [rNo h, Option.bind_some, rchk, b']
        rw [if_neg (nI_ge (by omega) (by omega)), if_neg (by decide)]
    · have e5 : ∀ f1, mX5_settle_L33 fu k5 b v1 v2 v3 v4 (n5 + 1) (nI c) (nI j) (sC b p N s f1) = mX5_settle_L33 fu k5 b v1 v2 v3 v4 n5 (nI (c + w)) (nI (j + 1)) (sC b p N s' f1) := by
        intro f1
        rw [mX5_settle_L33]
        simp only [cF0 hp, cLen hp, Option.bind_some, cchk5 hp, a, nI_add, nI_1]
        rw [if_neg (nI_ge (by omega) (by omega)), if_pos (nI_0le (by omega))]
      have e6 : ∀ f2, mX6_settles_L28 fu k6 M u1 u3 u5 (n6 + 1) (nI c) (nI j) (sR M s f2) = mX6_settles_L28 fu k6 M u1 u3 u5 n6 (nI (c + w)) (nI (j + 1)) (sR M s' f2) := by
        intro f2
        rw [mX6_settles_L28]
        simp only [rNo h, Option.bind_some, rchk, b', nI_add, nI_1]
        rw [if_neg (nI_ge (by omega) (by omega)), if_pos (nI_0le (by omega))]
      rcases ih (j + 1) n5 n6 s' (c + w) (by omega) (by omega) (by omega) c' with ⟨s2, q1, q2, q3, q4⟩ | ⟨s2, w2, g2, q1, q2, q3, q4, q5⟩
      · exact Or.inl ⟨s2, fun f1 => (e5 f1).trans (q1 f1), fun f2 => (e6 f2).trans (q2 f2), q3, by omega⟩
      · exact Or.inr ⟨s2, w + w2, g + g2, fun f1 => by rw [e5, q1, Nat.add_assoc], fun f2 => by rw [e6, q2, Nat.add_assoc], q3, by omega, by omega⟩
theorem ev_settle_loop {b p M N cl fu : Nat} (hfu : 2000 ≤ fu) (hp : b + 2 + 8 * N ≤ p) : ∀ P (s : sT) g t n5 n6, Phi s.1 = P → sOk N cl s → P < n5 → P + 1 < n6 → t + P < 900000 →
    ∃ r s', (∀ f1, mX5_settle_L4 fu b n5 (nI g) (nI t) (sC b p N s f1) = some (r, sC b p N s' f1)) ∧ (∀ f2, mX6_settles_L4 fu M n6 (nI g) 1 (sR M s f2) = some (r, sR M s' f2)) ∧ sOk N cl s' ∧ Phi s'.1 ≤ Phi s.1 ∧ (r = -2 ∨ ∃ k, r = nI k ∧ k ≤ g + Phi s.1 ∧ s'.1 0 2 = 0) := by
  intro P
  induction P using Nat.strongRecOn with
  | _ P ih =>
    intro s g t n5 n6 h1 h h2 h3 h4
    have hN5 : N ≤ 5 := h.2.1.1.2.2
    obtain ⟨n5, rfl⟩ : ∃ n, n5 = n + 1 := ⟨n5 - 1, by omega⟩
    obtain ⟨n6, rfl⟩ : ∃ n, n6 = n + 2 := ⟨n6 - 2, by omega⟩
    obtain ⟨r0, s1, d1, d2, d3, d4, d5, d6, d7⟩ := ev_drain (M := M) (k := 1000) hfu hp (by omega) h
    have c5 : ∀ f1, mX5_settle_L4 fu b (n5 + 1) (nI g) (nI t) (sC b p N s f1) = mX5_settle_L33 fu (mX5_settle_L4 fu b n5) b (nI g) (nI t) (nI r0) (nI (s1.1 0 2)) fu (nI 0) (nI 0) (sC b p N s1 f1) := by
      intro f1
      rw [mX5_settle_L4, i1000000, if_neg (nI_ge (by omega) (by omega)), i1000]
      simp only [cchk5 hp, Option.bind_some, d2, cF1 hp, cMs d4]
      rw [i0]
    have c6 : ∀ f2, mX6_settles_L4 fu M (n6 + 2) (nI g) 1 (sR M s f2) = mX6_settles_L28 fu (mX6_settles_L4 fu M (n6 + 1)) M (nI g) (nI r0) (nI (s1.1 0 2)) fu (nI 0) (nI 0) (sR M s1 f2) := by
      intro f2
      rw [mX6_settles_L4, if_neg (by decide), i1000]
      simp only [rchk, Option.bind_some, d3, rI13, tR0]
      rw [i0]
    have hm1 := d4.2.1.2.2.2.2.2.2.1.1
    rcases ev_cols (M := M) (k5 := mX5_settle_L4 fu b n5) (k6 := mX6_settles_L4 fu M (n6 + 1)) (v1 := nI g) (v2 := nI t) (v3 := nI r0) (v4 := nI (s1.1 0 2)) (u1 := nI g) (u3 := nI r0) (u5 := nI (s1.1 0 2)) hfu hp N 0 fu fu s1 0 (by omega) (by omega) (by omega) d4 with ⟨s2, q1, q2, q3, q4⟩ | ⟨s2, w, gv, q1, q2, q3, q4, q5⟩
    · exact ⟨-2, s2, fun f1 => (c5 f1).trans (q1 f1), fun f2 => (c6 f2).trans (q2 f2), q3, by omega, Or.inl rfl⟩
    · have hm2 := q3.2.1.2.2.2.2.2.2.1.1
      have hPb := Phi_bd h.2.1
      rw [Nat.zero_add] at q1 q2
      have e5 : ∀ f1, mX5_settle_L33 fu (mX5_settle_L4 fu b n5) b (nI g) (nI t) (nI r0) (nI (s1.1 0 2)) 1 (nI w) (nI N) (sC b p N s2 f1) = if r0 = 0 ∧ gv = 0 ∧ w = 0 then mX5_settle_B107 fu b (nI (g + w)) (sC b p N s2 f1) else mX5_settle_L4 fu b n5 (nI (g + w)) (nI (t + 1)) (sC b p N s2 f1) := by
        intro f1
        rw [mX5_settle_L33]
        simp only [cF0 hp, cLen hp, Option.bind_some, cF1 hp, cMs q3, nI_add, nI_1]
        rw [if_pos (nI_le (Nat.le_refl _) (by omega)), i0]
        by_cases a1 : r0 = 0
        · rw [if_pos (by rw [a1])]
          by_cases a2 : gv = 0
          · rw [if_pos (by rw [q4, a2, Nat.add_zero])]
            by_cases a3 : w = 0
            · rw [if_pos (by rw [a3]), if_pos ⟨a1, a2, a3⟩]
            · rw [if_neg (fun e => a3 ((nI_eq (by omega) (by omega)).mp e)), if_neg (fun e => a3 e.2.2)]
          · rw [if_neg (fun e => a2 (by have := (nI_eq (by omega) (by omega)).mp e; omega)), if_neg (fun e => a2 e.2.1)]
        · rw [if_neg (fun e => a1 ((nI_eq (by omega) (by omega)).mp e)), if_neg (fun e => a1 e.1)]
      have e6 : ∀ f2, mX6_settles_L28 fu (mX6_settles_L4 fu M (n6 + 1)) M (nI g) (nI r0) (nI (s1.1 0 2)) 1 (nI w) (nI N) (sR M s2 f2) = if r0 = 0 ∧ gv = 0 ∧ w = 0 then mX6_settles_L4 fu M (n6 + 1) (nI (g + w)) 0 (sR M s2 f2) else mX6_settles_L4 fu M (n6 + 1) (nI (g + w)) 1 (sR M s2 f2) := by
        intro f2
        rw [mX6_settles_L28]
        simp only [rNo q3, Option.bind_some, rI13, tR0, nI_add]
        rw [if_pos (nI_le (Nat.le_refl _) (by omega))]
        by_cases a1 : r0 = 0
        · rw [a1, if_neg (by decide)]
          by_cases a3 : w = 0
          · rw [a3, if_neg (by decide)]
            by_cases a2 : gv = 0
            · rw [if_pos (nI_le (by omega) (by omega)), if_pos ⟨rfl, a2, rfl⟩]
            · rw [if_neg (nI_ge (by omega) (by omega)), if_neg (fun e => a2 e.2.1)]
          · have : (0 : Int32) < nI w := by rw [i0]; exact nI_lt (by omega) (by omega)
            rw [if_pos this, if_neg (fun e => a3 e.2.2)]
        · have : (0 : Int32) < nI r0 := by rw [i0]; exact nI_lt (by omega) (by omega)
          rw [if_pos this, if_neg (fun e => a1 e.1)]
      by_cases hend : r0 = 0 ∧ gv = 0 ∧ w = 0
      · by_cases hz : s2.1 0 2 = 0
        · refine ⟨nI (g + w), s2, fun f1 => ?_, fun f2 => ?_, q3, by omega, Or.inr ⟨g + w, rfl, by omega, hz⟩⟩
          · rw [c5, q1, e5, if_pos hend]
            unfold mX5_settle_B107
            simp only [cF1 hp, Option.bind_some, cMs q3, hz]
            rw [if_pos (by decide)]
          · rw [c6, q2, e6, if_pos hend, mX6_settles_L4, if_pos rfl]
            simp only [rI13, tR0, Option.bind_some, hz]
            rw [if_pos (by decide)]
        · refine ⟨-2, s2, fun f1 => ?_, fun f2 => ?_, q3, by omega, Or.inl rfl⟩
          · rw [c5, q1, e5, if_pos hend]
            unfold mX5_settle_B107
            simp only [cF1 hp, Option.bind_some, cMs q3]
            rw [if_neg (nI_nle (by omega) (by omega))]
          · rw [c6, q2, e6, if_pos hend, mX6_settles_L4, if_pos rfl]
            simp only [rI13, tR0, Option.bind_some]
            rw [if_neg (nI_nle (by omega) (by omega))]
      · obtain ⟨r, s3, p1, p2, p3, p4, p5⟩ := ih (Phi s2.1) (by omega) s2 (g + w) (t + 1) n5 (n6 + 1) rfl q3 (by omega) (by omega) (by omega)
        refine ⟨r, s3, fun f1 => ?_, fun f2 => ?_, p3, by omega, ?_⟩
        · rw [c5, q1, e5, if_neg hend]
          exact p1 f1
        · rw [c6, q2, e6, if_neg hend]
          exact p2 f2
        · rcases p5 with p5 | ⟨k, k1, k2, k3⟩
          · exact Or.inl p5
          · exact Or.inr ⟨k, k1, by omega, k3⟩
theorem ev_settle {b p M N cl fu : Nat} {s : sT} (hfu : 2000 ≤ fu) (hp : b + 2 + 8 * N ≤ p) (h : sOk N cl s) : ∃ r s', (∀ f1, mX5_settle fu (sC b p N s f1) b = some (r, sC b p N s' f1)) ∧ (∀ f2, mX6_settles fu (sR M s f2) M = some (r, sR M s' f2)) ∧ sOk N cl s' ∧ Phi s'.1 ≤ Phi s.1 ∧ (r = -2 ∨ ∃ k, r = nI k ∧ k ≤ 600 ∧ s'.1 0 2 = 0) := by
  have hb := Phi_bd h.2.1
  obtain ⟨r, s', h5, h6, h7, h8, h9⟩ := ev_settle_loop (M := M) hfu hp (Phi s.1) s 0 0 fu fu rfl h (by omega) (by omega) (by omega)
  refine ⟨r, s', fun f1 => ?_, fun f2 => ?_, h7, h8, ?_⟩
  · unfold mX5_settle
    rw [i0]
    exact h5 f1
  · unfold mX6_settles
    rw [i0]
    exact h6 f2
  · rcases h9 with h9 | ⟨k, k1, k2, k3⟩
    · exact Or.inl h9
    · exact Or.inr ⟨k, k1, by omega, k3⟩
theorem o_settle {b p M N cl fu : Nat} {f0 f : jM} (hfu : 2000 ≤ fu) (hl : Lay b p M N) (hI : Inv b p M N cl f0 f) (hc : cl < 512) : ∃ r f1 f2, mX5_settle fu f b = some (r, f1) ∧ mX6_settle fu f1 M = some (r, f2) ∧ Inv b p M N (cl + 1) f0 f2 := by
  obtain ⟨s, rfl, hs⟩ := Inv_to hI
  obtain ⟨r, s', h5, h6, h7, -⟩ := ev_settle (M := M) hfu hl.1 hs
  refine step (m5 := fun f => mX5_settle fu f b) (m6 := fun f => mX6_settle fu f M) hl h5 (fun f2 => ?_) (sOk_more h7 hc)
  unfold mX6_settle
  simp only [rchk, Option.bind_some, h6]
