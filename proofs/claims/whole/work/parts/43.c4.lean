/-! come, drain -/
theorem jc0 {β : Type} {A : Option β} {B : Nat → Option β} : jcase none A B = A := rfl
theorem jc1 {β : Type} {A : Option β} {B : Nat → Option β} {x : Nat} : jcase (some x) A B = B x := rfl
theorem ev_pair {b p M N cl fu m n : Nat} {s : sT} (hfu : 2000 ≤ fu) (hp : b + 2 + 8 * N ≤ p) (h : sOk N cl s) (hm : m < N) (hn : n < N) :
    (∃ r : Int32, r ≤ 0 ∧ (∀ f1, mX5_come fu (sC b p N s f1) b (nI m) (nI n) = some (r, sC b p N s f1)) ∧ (∀ f2, mX6_come fu (sR M s f2) M (nI m) (nI n) = some (r, sR M s f2)) ∧ ((∀ f2, mX6_firstOf fu (sR M s f2) M (nI m) (nI n) = some (-1, sR M s f2)) ∨ ∃ i, i < 60 ∧ (∀ f2, mX6_firstOf fu (sR M s f2) M (nI m) (nI n) = some (nI i, sR M s f2)) ∧ ∀ f2, mX6_stays fu (sR M s f2) M (nI i) = some (1, sR M s f2))) ∨
    (∃ i k s', 0 < k ∧ k < 5 ∧ i < 60 ∧ (∀ f1, mX5_come fu (sC b p N s f1) b (nI m) (nI n) = some (nI k, sC b p N s' f1)) ∧ (∀ f2, mX6_come fu (sR M s f2) M (nI m) (nI n) = some (nI k, sR M s' f2)) ∧ (∀ f2, mX6_firstOf fu (sR M s f2) M (nI m) (nI n) = some (nI i, sR M s f2)) ∧ (∀ f2, mX6_stays fu (sR M s f2) M (nI i) = some (0, sR M s f2)) ∧ (∀ f2, mX6_comes fu (sR M s f2) M (nI i) = some (sR M s' f2)) ∧ sOk N cl s' ∧ s'.1 4 = s.1 4 ∧ Phi s'.1 < Phi s.1) := by
  have h0 := h
  obtain ⟨A, V, gn, gp, pi, od, q⟩ := s
  obtain ⟨hS, hW, wL⟩ := h
  dsimp only at *
  obtain ⟨⟨h11, hN1, hN5⟩, wR, wF, wT, wW, wE, wM, wTo, wI⟩ := hW
  have hms := wM.1
  have hP := hS.2.1
  have hF := first (b := b) (p := p) (M := M) (N := N) (fu := fu) (gn := gn) (m := m) (n := n) hfu hP hms (fun i hi => by have := wM.2 i hi; exact ⟨by have := this.1; omega, by have := this.2.1; omega⟩) (by omega) (by omega)
  by_cases hmn : m = n
  · subst hmn
    rcases hF with ⟨i, hi, e1, e2, -⟩ | ⟨-, hc, hr⟩
    · exact absurd (e1.trans e2.symm) (wM.2 i hi).2.2.1
    · refine Or.inl ⟨-1, by decide, fun f1 => ?_, fun f2 => ?_, Or.inl hr⟩
      · unfold mX5_come
        simp only [cchk5 hp, Option.bind_some, eC_isNode hp hN5 hm]
        rw [if_neg (by decide), if_neg (by decide), if_pos trivial]
      · unfold mX6_come
        simp only [rchk, Option.bind_some, eR_isNd h11 hN5 hm]
        rw [if_neg (by decide), if_neg (by decide), if_pos trivial]
  · have hne : ¬ nI m = nI n := fun q => hmn ((nI_eq (by omega) (by omega)).mp q)
    rcases hF with ⟨i, hi, e1, e2, hf, hc, hr⟩ | ⟨-, hc, hr⟩
    · have hok := wM.2 i hi
      obtain ⟨m1, m2, m3, ho, m5⟩ := hok
      have hk5 : A 14 i < 5 ∧ 0 < A 14 i := by rcases m5 with m5 | m5 | m5 | m5 <;> omega
      have hst : ∀ f2, mX6_stays fu (mkR M (toR A V) f2) M (nI i) = _ := fun f2 => eR_stays (M := M) (V := V) (f0 := f2) hfu (show i < 60 by omega) hk5.1 (by omega) (by omega) (fun o ho => by have := bndW (n := A 13 i) wE wTo (by omega) ho; have := bndT wTo ho; omega)
      have hpi := hP.2.1 i (by omega)
      obtain ⟨l0, l1, l2, l3, l4, l5⟩ := hP.2.2.2 i hi
      have hSn := hS.1 n hn
      have hcan : ∀ f1, mX2_canTake (mkC b p N gn gp pi f1) (b + 2 + 8 * n) (nI (A 15 i)) = _ := fun f1 => eC_canTake (gp := gp) (pi := pi) (f0 := f1) (w := A 9 (120 * n + A 15 i)) (c := imp A n) hp hn hN5 (show A 15 i < 120 by omega) (hSn.2.2.2.2.1 (A 15 i) (by omega)) hSn.2.2.2.2.2.2.2.1 (by have := bndW (n := n) wE wTo (by omega) (show A 15 i < 120 by omega); have := bndT wTo (show A 15 i < 120 by omega); omega) (wI n hn)
      have c5 : ∀ f1, mX5_come fu (mkC b p N gn gp pi f1) b (nI m) (nI n) = if A 14 i = 1 ∧ A 15 i / 24 ≠ n ∧ A 9 (120 * n + A 15 i) = 0 ∧ imp A n = 30 then some (-2, mkC b p N gn gp pi f1) else mX5_come_B67 fu b (nI m) (nI n) (p + 2 + pi i) (mkC b p N gn gp pi f1) := by
        intro f1
        unfold mX5_come
        simp only [cchk5 hp, Option.bind_some, eC_isNode hp hN5 hm, eC_isNode hp hN5 hn, cF1 hp, cPchk, hc, jc1, cLg0 hpi, cLg3 hpi, l0, l3]
        rw [if_neg (by decide), if_neg (by decide), if_neg hne]
        by_cases k1 : A 14 i = 1
        · rw [if_pos (by rw [k1]; decide)]
          simp only [cF0 hp, cNod hp hn (show N < 2 ^ 31 by omega), cchk2 hp hn, Option.bind_some, hcan]
          by_cases k2 : A 15 i / 24 ≠ n ∧ A 9 (120 * n + A 15 i) = 0 ∧ imp A n = 30
          · rw [if_pos k2, if_pos rfl, if_pos ⟨k1, k2⟩]
          · rw [if_neg k2, if_neg (by decide), if_neg (fun q => k2 q.2)]
        · rw [if_neg (by rw [i1]; exact fun q => k1 ((nI_eq (by omega) (by omega)).mp q)), if_neg (fun q => k1 q.1)]
      have c6 : ∀ f2, mX6_come fu (mkR M (toR A V) f2) M (nI m) (nI n) = if A 14 i = 1 ∧ A 15 i / 24 ≠ A 13 i ∧ A 9 (120 * A 13 i + A 15 i) = 0 ∧ imp A (A 13 i) = 30 then some (-2, mkR M (toR A V) f2) else (mX6_comes fu (mkR M (toR A V) f2) M (nI i)).bind fun f17 => some (nI (A 14 i), f17) := by
        intro f2
        unfold mX6_come
        simp only [rchk, Option.bind_some, eR_isNd h11 hN5 hm, eR_isNd h11 hN5 hn, hr, hst]
        rw [if_neg (by decide), if_neg (by decide), if_neg hne, if_neg (nI_m1 (by omega))]
        by_cases k2 : A 14 i = 1 ∧ A 15 i / 24 ≠ A 13 i ∧ A 9 (120 * A 13 i + A 15 i) = 0 ∧ imp A (A 13 i) = 30
        · rw [if_pos k2, if_neg (by decide), if_pos k2]
        · rw [if_neg k2, if_pos rfl, if_neg k2]
          simp (disch := omega) only [rR16, rl14, gl_nI, tR14, Option.bind_some]
      by_cases k2 : A 14 i = 1 ∧ A 15 i / 24 ≠ A 13 i ∧ A 9 (120 * A 13 i + A 15 i) = 0 ∧ imp A (A 13 i) = 30
      · refine Or.inl ⟨-2, by decide, fun f1 => ?_, fun f2 => ?_, Or.inr ⟨i, by omega, hr, fun f2 => ?_⟩⟩
        · rw [c5, if_pos (by rw [← e2]; exact k2)]
        · rw [c6, if_pos k2]
        · rw [hst, if_pos k2]
      · obtain ⟨s', g5, g6, g7, g8, g9⟩ := ev_come (b := b) (p := p) (M := M) hfu hp h0 hi (by dsimp only; rw [e1, e2]; exact hf) k2
        dsimp only at g5 g6 g7 g8 g9
        refine Or.inr ⟨i, A 14 i, s', hk5.2, hk5.1, by omega, fun f1 => ?_, fun f2 => ?_, hr, fun f2 => ?_, g6, g7, g8, g9⟩
        · rw [c5, if_neg (by rw [← e2]; exact k2), ← g5, e1, e2]
        · rw [c6, if_neg k2, g6]
          rfl
        · rw [hst, if_neg k2]
    · refine Or.inl ⟨0, by decide, fun f1 => ?_, fun f2 => ?_, Or.inl hr⟩
      · unfold mX5_come
        simp only [cchk5 hp, Option.bind_some, eC_isNode hp hN5 hm, eC_isNode hp hN5 hn, cF1 hp, cPchk, hc, jc0]
        rw [if_neg (by decide), if_neg (by decide), if_neg hne]
      · unfold mX6_come
        simp only [rchk, Option.bind_some, eR_isNd h11 hN5 hm, eR_isNd h11 hN5 hn, hr]
        rw [if_neg (by decide), if_neg (by decide), if_neg hne, if_pos trivial]
theorem sOk_more {N cl : Nat} {s : sT} (h : sOk N cl s) (hc : cl < 512) : sOk N (cl + 1) s := ⟨h.1, h.2.1.more hc, h.2.2⟩
theorem Inv_of {b p M N cl : Nat} {s : sT} {f0 : jM} (h : sOk N cl s) : Inv b p M N cl f0 (sC b p N s (sR M s f0)) := ⟨s.1, s.2.1, s.2.2.1, s.2.2.2.1, s.2.2.2.2.1, s.2.2.2.2.2.1, s.2.2.2.2.2.2, rfl, h.1, h.2.1, h.2.2⟩
theorem Inv_to {b p M N cl : Nat} {f f0 : jM} (h : Inv b p M N cl f0 f) : ∃ s, f = sC b p N s (sR M s f0) ∧ sOk N cl s := by
  obtain ⟨A, V, gn, gp, pi, od, q, h1, h2, h3, h4⟩ := h
  exact ⟨(A, V, gn, gp, pi, od, q), h1, h2, h3, h4⟩
theorem sSw {b p M N : Nat} {s s' : sT} {f0 : jM} (hl : Lay b p M N) : sC b p N s (sR M s' f0) = sR M s' (sC b p N s f0) := swapCR hl
/-- both sides step to one state: the call's answer -/
theorem step {b p M N cl : Nat} {f0 : jM} {m5 m6 : jM → Option (Int32 × jM)} {s s' : sT} {r : Int32} (hl : Lay b p M N) (h5 : ∀ f1, m5 (sC b p N s f1) = some (r, sC b p N s' f1)) (h6 : ∀ f2, m6 (sR M s f2) = some (r, sR M s' f2)) (h : sOk N cl s') : ∃ r f1 f2, m5 (sC b p N s (sR M s f0)) = some (r, f1) ∧ m6 f1 = some (r, f2) ∧ Inv b p M N cl f0 f2 := by
  refine ⟨r, _, _, h5 _, ?_, Inv_of h⟩
  rw [sSw hl, h6, sSw hl]
theorem o_come {b p M N cl fu : Nat} {f0 f : jM} (hfu : 2000 ≤ fu) (hl : Lay b p M N) (hI : Inv b p M N cl f0 f) (hc : cl < 512) (x y : Int32) : ∃ r f1 f2, mX5_come fu f b x y = some (r, f1) ∧ mX6_come fu f1 M x y = some (r, f2) ∧ Inv b p M N (cl + 1) f0 f2 := by
  obtain ⟨s, rfl, hs⟩ := Inv_to hI
  have hp := hl.1
  have h1 : s.1 0 1 = N := hs.2.1.1.1
  have hN5 : N ≤ 5 := hs.2.1.1.2.2
  rcases idx x (n := N) (by omega) with ⟨m, hm, rfl⟩ | hx
  · rcases idx y (n := N) (by omega) with ⟨n, hn, rfl⟩ | hy
    · rcases ev_pair (M := M) hfu hp hs hm hn with ⟨r, -, h5, h6, -⟩ | ⟨i, k, s', -, -, -, h5, h6, -, -, -, hs', -⟩
      · exact step (m5 := fun f => mX5_come fu f b (nI m) (nI n)) (m6 := fun f => mX6_come fu f M (nI m) (nI n)) hl h5 h6 (sOk_more hs hc)
      · exact step (m5 := fun f => mX5_come fu f b (nI m) (nI n)) (m6 := fun f => mX6_come fu f M (nI m) (nI n)) hl h5 h6 (sOk_more hs' hc)
    · refine step (m5 := fun f => mX5_come fu f b (nI m) y) (m6 := fun f => mX6_come fu f M (nI m) y) (r := -1) hl (fun f1 => ?_) (fun f2 => ?_) (sOk_more hs hc)
      · unfold mX5_come
        simp only [cchk5 hp, Option.bind_some, eC_isNode hp hN5 hm, eC_isNodeX hp hy]
        rw [if_neg (by decide), if_pos trivial]
      · unfold mX6_come
        simp only [rchk, Option.bind_some, eR_isNd h1 hN5 hm, eR_isNdX h1 hy]
        rw [if_neg (by decide), if_pos trivial]
  · refine step (m5 := fun f => mX5_come fu f b x y) (m6 := fun f => mX6_come fu f M x y) (r := -1) hl (fun f1 => ?_) (fun f2 => ?_) (sOk_more hs hc)
    · unfold mX5_come
      simp only [cchk5 hp, Option.bind_some, eC_isNodeX hp hx]
      rw [if_pos trivial]
    · unfold mX6_come
      simp only [rchk, Option.bind_some, eR_isNdX h1 hx]
      rw [if_pos trivial]
/-! drain -/
theorem rNo {M N cl : Nat} {s : sT} {f2 : jM} (h : sOk N cl s) : rdI 6 (sR M s f2) M 1 = some (nI N) := by
  rw [rI1, tR0]
  rw [h.2.1.1.1]
theorem dr_end {M N cl fu q n j : Nat} {s : sT} {f2 : jM} {k4 : Int32 → Int32 → jM → Option (Int32 × jM)} {v1 v2 v4 : Int32} (h : sOk N cl s) : mX6_drains_L34 fu k4 (mX6_drains_L18 fu k4 M v1 (q + 1)) M v1 v4 (n + 1) v2 1 (nI j) (sR M s f2) = k4 v2 1 (sR M s f2) := by
  have e : ∀ w, mX6_drains_L18 fu k4 M v1 (q + 1) v2 1 w (sR M s f2) = k4 v2 1 (sR M s f2) := by
    intro w
    rw [mX6_drains_L18]
    simp only [rNo h, Option.bind_some]
    split
    · rfl
    · rw [if_neg (by decide)]
  rw [mX6_drains_L34]
  simp only [rNo h, Option.bind_some]
  split
  · exact e _
  · rw [if_neg (by decide)]
    exact e _
/-- a row of pairs: nothing comes, or the first that can -/
theorem dr_row {b p M N cl fu m q : Nat} {s : sT} {k2 : Int32 → jM → Option (Int32 × jM)} {k4 : Int32 → Int32 → jM → Option (Int32 × jM)} {v1 : Int32} (hfu : 2000 ≤ fu) (hp : b + 2 + 8 * N ≤ p) (h : sOk N cl s) (hm : m < N) : ∀ d j n5 n6, N = j + d → d < n5 → d + 1 < n6 →
    ((∀ f1, mX5_bringNext_L13 fu k2 b (nI m) n5 (nI j) (sC b p N s f1) = k2 (nI (m + 1)) (sC b p N s f1)) ∧ ∀ f2 v2, mX6_drains_L34 fu k4 (mX6_drains_L18 fu k4 M v1 (q + 1)) M v1 (nI m) n6 v2 0 (nI j) (sR M s f2) = mX6_drains_L18 fu k4 M v1 (q + 1) v2 0 (nI (m + 1)) (sR M s f2)) ∨
    ∃ s', (∀ f1, mX5_bringNext_L13 fu k2 b (nI m) n5 (nI j) (sC b p N s f1) = some (1, sC b p N s' f1)) ∧ (∀ f2 v2, mX6_drains_L34 fu k4 (mX6_drains_L18 fu k4 M v1 (q + 1)) M v1 (nI m) n6 v2 0 (nI j) (sR M s f2) = k4 (v2 + 1) 1 (sR M s' f2)) ∧ sOk N cl s' ∧ s'.1 4 = s.1 4 ∧ Phi s'.1 < Phi s.1 := by
  have hN5 : N ≤ 5 := h.2.1.1.2.2
  intro d
  induction d with
  | zero =>
    intro j n5 n6 h1 h2 h3
    obtain ⟨n5, rfl⟩ : ∃ n, n5 = n + 1 := ⟨n5 - 1, by omega⟩
    obtain ⟨n6, rfl⟩ : ∃ n, n6 = n + 1 := ⟨n6 - 1, by omega⟩
    refine Or.inl ⟨fun f1 => ?_, fun f2 v2 => ?_⟩
    · rw [mX5_bringNext_L13]
      simp only [cF0 hp, cLen hp, Option.bind_some]
      rw [if_pos (nI_le (by omega) (by omega)), nI_1]
    · rw [mX6_drains_L34]
      simp only [rNo h, Option.bind_some]
      rw [if_pos (nI_le (by omega) (by omega)), nI_1]
  | succ d ih =>
    intro j n5 n6 h1 h2 h3
    obtain ⟨n5, rfl⟩ : ∃ n, n5 = n + 1 := ⟨n5 - 1, by omega⟩
    obtain ⟨n6, rfl⟩ : ∃ n, n6 = n + 1 := ⟨n6 - 1, by omega⟩
    rcases ev_pair (M := M) hfu hp h hm (show j < N by omega) with ⟨r, hr, h5, -, h6⟩ | ⟨i, k, s', hk0, hk5, hi, h5, -, g1, g2, g3, hs', g4, g5⟩
    · have e5 : ∀ f1, mX5_bringNext_L13 fu k2 b (nI m) (n5 + 1) (nI j) (sC b p N s f1) = mX5_bringNext_L13 fu k2 b (nI m) n5 (nI (j + 1)) (sC b p N s f1) := by
        intro f1
        rw [mX5_bringNext_L13]
        simp only [cF0 hp, cLen hp, Option.bind_some, cchk5 hp, h5]
        rw [if_neg (nI_ge (by omega) (by omega)), if_pos hr, nI_1]
      have e6 : ∀ f2 v2, mX6_drains_L34 fu k4 (mX6_drains_L18 fu k4 M v1 (q + 1)) M v1 (nI m) (n6 + 1) v2 0 (nI j) (sR M s f2) = mX6_drains_L34 fu k4 (mX6_drains_L18 fu k4 M v1 (q + 1)) M v1 (nI m) n6 v2 0 (nI (j + 1)) (sR M s f2) := by
        intro f2 v2
        rw [mX6_drains_L34]
        simp only [rNo h, Option.bind_some, rchk]
        rw [if_neg (nI_ge (by omega) (by omega)), if_pos trivial]
        rcases h6 with h6 | ⟨i, hi, h6, h7⟩
        · simp only [h6, Option.bind_some]
          rw [if_pos trivial, nI_1]
        · simp only [h6, Option.bind_some, h7, rchk]
          rw [if_neg (nI_m1 (by omega)), if_neg (by decide), nI_1]
      rcases ih (j + 1) n5 n6 (by omega) (by omega) (by omega) with ⟨q5, q6⟩ | ⟨s', q5, q6, q7⟩
      · exact Or.inl ⟨fun f1 => (e5 f1).trans (q5 f1), fun f2 v2 => (e6 f2 v2).trans (q6 f2 v2)⟩
      · exact Or.inr ⟨s', fun f1 => (e5 f1).trans (q5 f1), fun f2 v2 => (e6 f2 v2).trans (q6 f2 v2), q7⟩
    · refine Or.inr ⟨s', fun f1 => ?_, fun f2 v2 => ?_, hs', g4, g5⟩
      · rw [mX5_bringNext_L13]
        simp only [cF0 hp, cLen hp, Option.bind_some, cchk5 hp, h5]
        rw [if_neg (nI_ge (by omega) (by omega)), if_neg (nI_nle (by omega) (by omega))]
      · obtain ⟨n6, rfl⟩ : ∃ n, n6 = n + 1 := ⟨n6 - 1, by omega⟩
        rw [mX6_drains_L34]
        simp only [rNo h, Option.bind_some, rchk, g1, g2, g3]
        rw [if_neg (nI_ge (by omega) (by omega)), if_pos trivial, if_neg (nI_m1 (by omega)), if_pos trivial, nI_1, dr_end hs']
theorem dr_all {b p M N cl fu : Nat} {s : sT} {k4 : Int32 → Int32 → jM → Option (Int32 × jM)} {v1 : Int32} (hfu : 2000 ≤ fu) (hp : b + 2 + 8 * N ≤ p) (h : sOk N cl s) : ∀ d m n5 n6, N = m + d → d < n5 → d + 1 < n6 →
    ((∀ f1, mX5_bringNext_L2 fu b n5 (nI m) (sC b p N s f1) = some (0, sC b p N s f1)) ∧ ∀ f2 v2, mX6_drains_L18 fu k4 M v1 n6 v2 0 (nI m) (sR M s f2) = k4 v2 0 (sR M s f2)) ∨
    ∃ s', (∀ f1, mX5_bringNext_L2 fu b n5 (nI m) (sC b p N s f1) = some (1, sC b p N s' f1)) ∧ (∀ f2 v2, mX6_drains_L18 fu k4 M v1 n6 v2 0 (nI m) (sR M s f2) = k4 (v2 + 1) 1 (sR M s' f2)) ∧ sOk N cl s' ∧ s'.1 4 = s.1 4 ∧ Phi s'.1 < Phi s.1 := by
  have hN5 : N ≤ 5 := h.2.1.1.2.2
  intro d
  induction d with
  | zero =>
    intro m n5 n6 h1 h2 h3
    obtain ⟨n5, rfl⟩ : ∃ n, n5 = n + 1 := ⟨n5 - 1, by omega⟩
    obtain ⟨n6, rfl⟩ : ∃ n, n6 = n + 1 := ⟨n6 - 1, by omega⟩
    refine Or.inl ⟨fun f1 => ?_, fun f2 v2 => ?_⟩
    · rw [mX5_bringNext_L2]
      simp only [cF0 hp, cLen hp, Option.bind_some]
      rw [if_pos (nI_le (by omega) (by omega))]
    · rw [mX6_drains_L18]
      simp only [rNo h, Option.bind_some]
      rw [if_pos (nI_le (by omega) (by omega))]
  | succ d ih =>
    intro m n5 n6 h1 h2 h3
    obtain ⟨n5, rfl⟩ : ∃ n, n5 = n + 1 := ⟨n5 - 1, by omega⟩
    obtain ⟨n6, rfl⟩ : ∃ n, n6 = n + 2 := ⟨n6 - 2, by omega⟩
    have e5 : ∀ f1, mX5_bringNext_L2 fu b (n5 + 1) (nI m) (sC b p N s f1) = mX5_bringNext_L13 fu (mX5_bringNext_L2 fu b n5) b (nI m) fu (nI 0) (sC b p N s f1) := by
      intro f1
      rw [mX5_bringNext_L2]
      simp only [cF0 hp, cLen hp, Option.bind_some]
      rw [if_neg (nI_ge (by omega) (by omega)), i0]
    have e6 : ∀ f2 v2, mX6_drains_L18 fu k4 M v1 (n6 + 2) v2 0 (nI m) (sR M s f2) = mX6_drains_L34 fu k4 (mX6_drains_L18 fu k4 M v1 (n6 + 1)) M v1 (nI m) fu v2 0 (nI 0) (sR M s f2) := by
      intro f2 v2
      rw [mX6_drains_L18]
      simp only [rNo h, Option.bind_some]
      rw [if_neg (nI_ge (by omega) (by omega)), if_pos trivial, ← i0]
    rcases dr_row (k2 := mX5_bringNext_L2 fu b n5) (k4 := k4) (v1 := v1) (q := n6) (M := M) hfu hp h (show m < N by omega) N 0 fu fu (by omega) (by omega) (by omega) with ⟨q5, q6⟩ | ⟨s', q5, q6, q7⟩
    · rcases ih (m + 1) n5 (n6 + 1) (by omega) (by omega) (by omega) with ⟨p5, p6⟩ | ⟨s', p5, p6, p7⟩
      · exact Or.inl ⟨fun f1 => ((e5 f1).trans (q5 f1)).trans (p5 f1), fun f2 v2 => ((e6 f2 v2).trans (q6 f2 v2)).trans (p6 f2 v2)⟩
      · exact Or.inr ⟨s', fun f1 => ((e5 f1).trans (q5 f1)).trans (p5 f1), fun f2 v2 => ((e6 f2 v2).trans (q6 f2 v2)).trans (p6 f2 v2), p7⟩
    · exact Or.inr ⟨s', fun f1 => (e5 f1).trans (q5 f1), fun f2 v2 => (e6 f2 v2).trans (q6 f2 v2), q7⟩
theorem dr_loop {b p M N cl fu k : Nat} (hfu : 2000 ≤ fu) (hp : b + 2 + 8 * N ≤ p) (hk : k ≤ 1000) : ∀ d c n5 n6 (s : sT), k = c + d → d < n5 → d < n6 → sOk N cl s →
    ∃ r s', c ≤ r ∧ r ≤ k ∧ (∀ f1, mX5_drain_L15 fu b (nI k) n5 (nI c) (sC b p N s f1) = some (nI r, sC b p N s' f1)) ∧ (∀ f2, mX6_drains_L4 fu M (nI k) (n6 + 1) (nI c) 1 (sR M s f2) = some (nI r, sR M s' f2)) ∧ sOk N cl s' ∧ s'.1 4 = s.1 4 ∧ (r = c → s' = s) ∧ Phi s'.1 + (r - c) ≤ Phi s.1 := by
  intro d
  induction d with
  | zero =>
    intro c n5 n6 s h1 h2 h3 h
    obtain ⟨n5, rfl⟩ : ∃ n, n5 = n + 1 := ⟨n5 - 1, by omega⟩
    refine ⟨c, s, by omega, by omega, fun f1 => ?_, fun f2 => ?_, h, rfl, fun _ => rfl, by omega⟩
    · rw [mX5_drain_L15, if_pos (nI_le (by omega) (by omega))]
    · rw [mX6_drains_L4, if_neg (by decide), if_pos (nI_le (by omega) (by omega))]
  | succ d ih =>
    intro c n5 n6 s h1 h2 h3 h
    have hN5 : N ≤ 5 := h.2.1.1.2.2
    obtain ⟨n5, rfl⟩ : ∃ n, n5 = n + 1 := ⟨n5 - 1, by omega⟩
    obtain ⟨n6, rfl⟩ : ∃ n, n6 = n + 1 := ⟨n6 - 1, by omega⟩
    rcases dr_all (k4 := mX6_drains_L4 fu M (nI k) (n6 + 1)) (v1 := nI k) (M := M) hfu hp h N 0 fu fu (by omega) (by omega) (by omega) with ⟨q5, q6⟩ | ⟨s', q5, q6, q7, q8, q9⟩
    · refine ⟨c, s, by omega, by omega, fun f1 => ?_, fun f2 => ?_, h, rfl, fun _ => rfl, by omega⟩
      · rw [mX5_drain_L15, if_neg (nI_ge (by omega) (by omega))]
        unfold mX5_bringNext
        rw [i0]
        simp only [cchk5 hp, Option.bind_some, q5]
        rw [if_pos (by decide)]
      · rw [mX6_drains_L4, if_neg (by decide), if_neg (nI_ge (by omega) (by omega))]
        have := q6 f2 (nI c)
        rw [← i0] at this
        rw [this, mX6_drains_L4, if_pos rfl]
    · obtain ⟨r, s2, r1, r2, r5, r6, r7, r8, r9, r10⟩ := ih (c + 1) n5 n6 s' (by omega) (by omega) (by omega) q7
      refine ⟨r, s2, by omega, r2, fun f1 => ?_, fun f2 => ?_, r7, r8.trans q8, fun e => absurd e (by omega), by omega⟩
      · rw [mX5_drain_L15, if_neg (nI_ge (by omega) (by omega))]
        unfold mX5_bringNext
        rw [i0]
        simp only [cchk5 hp, Option.bind_some, q5]
        rw [if_neg (by decide), nI_1]
        exact r5 f1
      · rw [mX6_drains_L4, if_neg (by decide), if_neg (nI_ge (by omega) (by omega))]
        have := q6 f2 (nI c)
        rw [← i0] at this
        rw [this, nI_1]
        exact r6 f2
theorem ev_drain {b p M N cl fu k : Nat} {s : sT} (hfu : 2000 ≤ fu) (hp : b + 2 + 8 * N ≤ p) (hk : k ≤ 1000) (h : sOk N cl s) : ∃ r s', r ≤ 1000 ∧ (∀ f1, mX5_drain fu (sC b p N s f1) b (nI k) = some (nI r, sC b p N s' f1)) ∧ (∀ f2, mX6_drains fu (sR M s f2) M (nI k) = some (nI r, sR M s' f2)) ∧ sOk N cl s' ∧ s'.1 4 = s.1 4 ∧ (r = 0 → s' = s) ∧ Phi s'.1 + r ≤ Phi s.1 := by
  obtain ⟨fu', rfl⟩ : ∃ n, fu = n + 1 := ⟨fu - 1, by omega⟩
  obtain ⟨r, s', r1, r2, r5, r6, r7, r8, r9, r10⟩ := dr_loop (M := M) (k := k) hfu hp hk k 0 (fu' + 1) fu' s (by omega) (by omega) (by omega) h
  refine ⟨r, s', by omega, fun f1 => ?_, fun f2 => ?_, r7, r8, r9, by omega⟩
  · unfold mX5_drain
    rw [if_neg (nI_pos (by omega)), i1000, if_pos (nI_le hk (by omega)), i0]
    exact r5 f1
  · unfold mX6_drains
    rw [i0]
    exact r6 f2
theorem o_drain {b p M N cl fu : Nat} {f0 f : jM} (hfu : 2000 ≤ fu) (hl : Lay b p M N) (hI : Inv b p M N cl f0 f) (hc : cl < 512) (x : Int32) : ∃ r f1 f2, mX5_drain fu f b x = some (r, f1) ∧ mX6_drain fu f1 M x = some (r, f2) ∧ Inv b p M N (cl + 1) f0 f2 := by
  obtain ⟨s, rfl, hs⟩ := Inv_to hI
  have hp := hl.1
  rcases idx x (n := 1001) (by omega) with ⟨k, hk, rfl⟩ | hx
  · obtain ⟨r, s', -, h5, h6, h7, -⟩ := ev_drain (M := M) hfu hp (show k ≤ 1000 by omega) hs
    refine step (m5 := fun f => mX5_drain fu f b (nI k)) (m6 := fun f => mX6_drain fu f M (nI k)) hl h5 (fun f2 => ?_) (sOk_more h7 hc)
    unfold mX6_drain
    rw [if_neg (nI_pos (by omega)), i1000, if_pos (nI_le (by omega) (by omega))]
    simp only [rchk, Option.bind_some, h6]
  · have e : ¬ x < 0 → ¬ x ≤ 1000 := by
      intro h0 h1
      have h2 := hx.resolve_left h0
      have h3 : nI 1001 ≤ 1000 := Int32.le_trans h2 h1
      exact absurd h3 (by decide)
    refine step (m5 := fun f => mX5_drain fu f b x) (m6 := fun f => mX6_drain fu f M x) (r := -1) hl (fun f1 => ?_) (fun f2 => ?_) (sOk_more hs hc)
    · unfold mX5_drain
      by_cases h0 : x < 0
      · rw [if_pos h0]
      · rw [if_neg h0, if_neg (e h0)]
    · unfold mX6_drain
      by_cases h0 : x < 0
      · rw [if_pos h0]
      · rw [if_neg h0, if_neg (e h0)]
