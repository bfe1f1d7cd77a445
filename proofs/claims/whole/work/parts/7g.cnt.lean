/-! count: both sides -/
section CN
variable {b p N fu n : Nat} {gn : tN} {gp : tV} {pi : Nat → Nat} {f1 : jM} {A : tA} {V : tV} {od : Nat → Nat} {q : Nat}
theorem eC_exp (hfu : 2000 ≤ fu) (hp : b + 2 + 8 * N ≤ p) (hN : N ≤ 5) (hn : n < N) (hS : SN A V n gn od q) (h3 : ∀ o, o < 120 → A 3 o < 2 ^ 31) : mX2_countExports fu (mkC b p N gn gp pi f1) (b + 2 + 8 * n) = some (nI (cnt (fun k => decide (0 < A 3 (24 * n + k))) 24), mkC b p N gn gp pi f1) := by
  unfold mX2_countExports
  refine lup0 (fun k i => mX2_countExports_L4 fu (b + 2 + 8 * n) k (nI (cnt (fun k => decide (0 < A 3 (24 * n + k))) i)) (nI i) (mkC b p N gn gp pi f1)) 24 _ fu (by omega) ?_ ?_
  · intro k
    rw [mX2_countExports_L4, i24, if_pos (nI_le (Nat.le_refl _) (by omega))]
  · intro k i hi
    have h5 := (hS.2.2.2.1 i hi).2.2
    have h3 := h3 (24 * n + i) (by omega)
    rw [mX2_countExports_L4, i24, if_neg (nI_ge hi (by omega))]
    simp only [cNr5 hp hn, cNl5 hp hn, gl_nI hi (show 24 < 2 ^ 31 by omega), h5, Option.bind_some, nI_1]
    by_cases c : 0 < A 3 (24 * n + i)
    · rw [if_neg (nI_nle c h3)]
      simp only [cnt, c, decide_true, if_true]
    · rw [if_pos (by rw [show A 3 (24 * n + i) = 0 by omega]; decide)]
      simp only [cnt, c, decide_false, if_false, Nat.add_zero]
      rfl
theorem eC_unm {m : Nat} {e : Nat → Nat} {P : Nat → Bool} (hfu : 2000 ≤ fu) (hp : b + 2 + 8 * N ≤ p) (hN : N ≤ 5) (hn : n < N) (hS : SN A V n gn od q) (hsz : ∀ k, k < 24 → A 4 (24 * n + k) = 1 → A 1 (24 * n + k) ≤ 12) (hm : MK gp 62 m e) (hP : ∀ x, x < 120 → (P x = true ↔ A 4 x = 1 ∧ ¬ inM gp 62 x)) : mX2_countUnmarkedObjects fu (mkC b p N gn gp pi f1) (b + 2 + 8 * n) (p + 62) = some (nI (cnt (fun k => P (24 * n + k)) 24), mkC b p N gn gp pi f1) := by
  unfold mX2_countUnmarkedObjects
  refine lup0 (fun k i => mX2_countUnmarkedObjects_L4 fu (b + 2 + 8 * n) (p + 62) k (nI (cnt (fun k => P (24 * n + k)) i)) (nI i) (mkC b p N gn gp pi f1)) 24 _ fu (by omega) ?_ ?_
  · intro k
    rw [mX2_countUnmarkedObjects_L4, i24, if_pos (nI_le (Nat.le_refl _) (by omega))]
  · intro k i hi
    have hx : 24 * n + i < 120 := by omega
    have hP := hP _ hx
    rw [mX2_countUnmarkedObjects_L4, i24, if_neg (nI_ge hi (by omega))]
    simp only [cchk2 hp hn, Option.bind_some, eC_hasO hp hn hi hS (hsz i hi), nI_1]
    by_cases c : A 4 (24 * n + i) = 1
    · simp only [c, if_true]
      rw [if_neg (by decide)]
      simp only [cNi hp hn, eC_idOf, Option.bind_some, cMchk (show isM 62 from Or.inl rfl)]
      rw [show n * 24 + i = 24 * n + i by omega, eC_has (Or.inl rfl) hm hx, Option.bind_some]
      rcases MK_01 hm hx with u | u
      · have hn : ¬ P (24 * n + i) = true := fun w => (hP.mp w).2 u
        simp only [u, cnt, hn, if_false, Nat.add_zero]
        rfl
      · have hy : P (24 * n + i) = true := hP.mpr ⟨c, fun w => by
          have w' : gp (62 + 1) (24 * n + i) = 1 := w
          rw [u] at w'
          exact absurd w' (by decide)⟩
        simp only [u, cnt, hy, if_true]
    · have hn : ¬ P (24 * n + i) = true := fun w => c (hP.mp w).1
      simp only [c, if_false, if_true, cnt, hn, Nat.add_zero]
      rfl
theorem eC_cto (hfu : 2000 ≤ fu) (hP : SP A V gp pi) (hms : A 0 2 ≤ 60) (hn : n < 5) (h13 : ∀ i, i < A 0 2 → A 13 i < 5) : mX3_countTo fu (mkC b p N gn gp pi f1) p (nI n) = some (nI (cnt (fun i => A 13 i == n) (A 0 2)), mkC b p N gn gp pi f1) := by
  obtain ⟨p1, p2, p3, p4⟩ := hP
  unfold mX3_countTo
  refine lup0 (fun k i => mX3_countTo_L4 fu p (nI n) k (nI (cnt (fun i => A 13 i == n) i)) (nI i) (mkC b p N gn gp pi f1)) (A 0 2) _ fu (by omega) ?_ ?_
  · intro k
    rw [mX3_countTo_L4]
    simp only [cP1, Option.bind_some, p1]
    rw [if_pos (nI_le (Nat.le_refl _) (by omega))]
  · intro k i hi
    have h13 := h13 i hi
    rw [mX3_countTo_L4]
    simp (disch := omega) only [cP1, cP0, cLat, Option.bind_some, p1]
    rw [if_neg (nI_ge hi (by omega))]
    have hpi := p2 i (by omega)
    simp only [cLg2 hpi, Option.bind_some, (p4 i hi).2.2.1, nI_1]
    by_cases e : A 13 i = n
    · rw [if_pos (by rw [e])]
      simp only [cnt, e, beq_self_eq_true, if_true]
    · rw [if_neg (fun w => e ((nI_eq (by omega) (by omega)).mp w))]
      have : ¬ (A 13 i == n) = true := fun w => e (beq_iff_eq.mp w)
      simp only [cnt, this, if_false, Nat.add_zero]
      rfl
end CN
theorem rc111 {M fu n : Nat} {A : tA} {V : tV} {f2 : jM} {k39 : Int32 → Int32 → jM → Option (Int32 × jM)} {v w v3 : Int32} (hfu : 2000 ≤ fu) (hms : A 0 2 ≤ 60) (hn : n < 5) (h13 : ∀ i, i < A 0 2 → A 13 i < 5) : mX6_count_L111 fu k39 M v w (nI n) fu v3 0 (mkR M (toR A V) f2) = k39 (v3 + nI (cnt (fun i => A 13 i == n) (A 0 2))) (nI n + 1) (mkR M (toR A V) f2) := by
  have h := lup0 (fun k i => mX6_count_L111 fu k39 M v w (nI n) k (v3 + nI (cnt (fun i => A 13 i == n) i)) (nI i) (mkR M (toR A V) f2)) (A 0 2) (k39 (v3 + nI (cnt (fun i => A 13 i == n) (A 0 2))) (nI n + 1) (mkR M (toR A V) f2)) fu (by omega)
    (by
      intro k
      rw [mX6_count_L111, rI13, Option.bind_some, tR0, if_pos (nI_le (Nat.le_refl _) (by omega))])
    (by
      intro k i hi
      have h13 := h13 i hi
      rw [mX6_count_L111, rI13, Option.bind_some, tR0, if_neg (nI_ge hi (by omega)), rR15, Option.bind_some, rl13, gl_nI (show i < 64 by omega) (by omega), Option.bind_some, tR13, nI_1]
      by_cases e : A 13 i = n
      · rw [if_pos (by rw [e])]
        simp only [cnt, e, beq_self_eq_true, if_true]
        rw [Int32.add_assoc, nI_1]
      · rw [if_neg (fun w => e ((nI_eq (by omega) (by omega)).mp w))]
        have : ¬ (A 13 i == n) = true := fun w => e (beq_iff_eq.mp w)
        simp only [cnt, this, if_false, Nat.add_zero]
        rfl)
  rw [show cnt (fun i => A 13 i == n) 0 = 0 from rfl, nI_0, Int32.add_zero] at h
  exact h
theorem v_neg {v : Int32} (h1 : ¬ v < -1) (h2 : ¬ v = -1) : ¬ v < 0 := by
  intro h
  rw [Int32.lt_iff_toInt_lt] at h1 h
  have h3 : ¬ v.toInt = (-1 : Int32).toInt := fun e => h2 (Int32.toInt_inj.mp e)
  have h4 : (-1 : Int32).toInt = -1 := by decide
  have h5 : (0 : Int32).toInt = 0 := by decide
  omega
set_option maxHeartbeats 1000000 in
theorem o_count {b p M N cl fu : Nat} {f0 f : jM} (hfu : 2000 ≤ fu) (hl : Lay b p M N) (hI : Inv b p M N cl f0 f) (hc : cl < 512) (v w : Int32) : ∃ r f1 f2, mX5_count fu f b v w = some (r, f1) ∧ mX6_count fu f1 M v w = some (r, f2) ∧ Inv b p M N (cl + 1) f0 f2 := by
  obtain ⟨s, rfl, hs⟩ := Inv_to hI
  have hp := hl.1
  have hN5 : N ≤ 5 := hs.2.1.1.2.2
  have hs1 := sOk_more hs hc
  obtain ⟨A, V, gn, gp, pi, od, q⟩ := s
  obtain ⟨hS, hW, wL⟩ := id hs
  dsimp only at hS hW wL
  have hW0 := hW
  obtain ⟨⟨h11, hN1, -⟩, wR, wF, wT, wW, wE, wM, wTo, wI⟩ := hW
  have hms := wM.1
  have h3b : ∀ o, o < 120 → A 3 o < 2 ^ 31 := fun o ho => by
    have := tot_bd wTo ho
    omega
  have h13 : ∀ i, i < A 0 2 → A 13 i < 5 := fun i hi => by
    have := (wM.2 i hi).2.1
    omega
  have h01 : ∀ o, o < 120 → A 4 o = 0 ∨ A 4 o = 1 := fun o ho => (wT o ho).elim (fun u => Or.inr u.1) (fun u => Or.inl u.1)
  have hsz : ∀ n, n < N → ∀ k, k < 24 → A 4 (24 * n + k) = 1 → A 1 (24 * n + k) ≤ 12 := fun n hn k hk w => (wF _ (by omega) w).1
  have h9b : ∀ n o, n < 5 → o < 120 → A 9 (120 * n + o) < 2 ^ 31 := fun n o hn ho => by
    have h1 := wE o ho
    have h2 := tot_bd wTo ho
    have h3 := sm_le (f := fun m => A 9 (120 * m + o)) (n := 5) hn
    omega
  have both : ∀ (r : Int32), (∀ f1, mX5_count fu (mkC b p N gn gp pi f1) b v w = some (r, mkC b p N gn gp pi f1)) → (∀ f2, mX6_count fu (mkR M (toR A V) f2) M v w = some (r, mkR M (toR A V) f2)) → ∃ r f1 f2, mX5_count fu (sC b p N (A, V, gn, gp, pi, od, q) (sR M (A, V, gn, gp, pi, od, q) f0)) b v w = some (r, f1) ∧ mX6_count fu f1 M v w = some (r, f2) ∧ Inv b p M N (cl + 1) f0 f2 := fun r h5 h6 => step (m5 := fun f => mX5_count fu f b v w) (m6 := fun f => mX6_count fu f M v w) (s := (A, V, gn, gp, pi, od, q)) (s' := (A, V, gn, gp, pi, od, q)) (r := r) hl h5 h6 hs1
  by_cases hv : v = -1 ∨ ∃ n, n < N ∧ v = nI n
  · have e5 : ∀ f1, mX5_count fu (mkC b p N gn gp pi f1) b v w = mX5_count_B13 fu b v w (mkC b p N gn gp pi f1) := by
      intro f1
      unfold mX5_count
      rcases hv with rfl | ⟨n, hn, rfl⟩
      · rw [if_pos rfl]
      · rw [if_neg (nI_m1 (by omega))]
        simp only [cchk5 hp, Option.bind_some, eC_isNode hp hN5 hn]
        rw [if_neg (by decide)]
    have e6 : ∀ f2, mX6_count fu (mkR M (toR A V) f2) M v w = if w < 0 then some (-1, mkR M (toR A V) f2) else if w ≤ 6 then (if w = 3 then (mX6_hold fu (mkR M (toR A V) f2) M).bind (fun f => mX6_count_B36 fu M v w 0 f) else mX6_count_B36 fu M v w 0 (mkR M (toR A V) f2)) else some (-1, mkR M (toR A V) f2) := by
      intro f2
      unfold mX6_count
      simp only [rI1, tR0, h11, Option.bind_some, rchk]
      rcases hv with rfl | ⟨n, hn, rfl⟩
      · rw [if_neg (by decide), if_neg (fun u => absurd (Int32.le_trans (nI_pos' (show N < 2 ^ 31 by omega)) u) (by decide))]
      · rw [if_neg (fun u => nI_pos (show n < 2 ^ 31 by omega) (Int32.lt_trans u (by decide))), if_neg (nI_ge hn (by omega))]
    rcases idx w (n := 7) (by decide) with ⟨j, hj, hw⟩ | hw
    · have hw0 : ¬ w < 0 := by rw [hw]; exact nI_pos (by omega)
      have hw6 : w ≤ 6 := by rw [hw, i6]; exact nI_le (by omega) (by omega)
      have g5 : w ≠ 3 → ∀ f1, mX5_count fu (mkC b p N gn gp pi f1) b v w = mX5_count_B34 fu b v w (mkC b p N gn gp pi f1) := by
        intro h f1
        rw [e5]
        unfold mX5_count_B13
        rw [if_neg hw0, if_pos hw6, if_neg h]
      have g6 : w ≠ 3 → ∀ f2, mX6_count fu (mkR M (toR A V) f2) M v w = mX6_count_B36 fu M v w 0 (mkR M (toR A V) f2) := by
        intro h f2
        rw [e6, if_neg hw0, if_pos hw6, if_neg h]
      have fin : w ≠ 3 → ∀ c : Nat → Int32, (∀ n f1, n < N → mX5_countOf fu (mkC b p N gn gp pi f1) b (b + 2 + 8 * n) w = some (c n, mkC b p N gn gp pi f1)) → (∀ f2 n k39 v3, n < N → mX6_count_B62 fu k39 M v w v3 (nI n) (mkR M (toR A V) f2) = k39 (v3 + c n) (nI n + 1) (mkR M (toR A V) f2)) → ∃ r f1 f2, mX5_count fu (sC b p N (A, V, gn, gp, pi, od, q) (sR M (A, V, gn, gp, pi, od, q) f0)) b v w = some (r, f1) ∧ mX6_count fu f1 M v w = some (r, f2) ∧ Inv b p M N (cl + 1) f0 f2 := by
        intro h c k5 k6
        exact both (ctot c v N) (fun f1 => by rw [g5 h]; exact ct5 hfu hp hN5 (fun n hn => k5 n f1 hn)) (fun f2 => by rw [g6 h]; exact ct6 hfu h11 hN5 (k6 f2))
      rcases (show j = 0 ∨ j = 1 ∨ j = 2 ∨ j = 3 ∨ j = 4 ∨ j = 5 ∨ j = 6 by omega) with rfl | rfl | rfl | rfl | rfl | rfl | rfl
      · have hw : w = 0 := hw
        refine fin (by rw [hw]; decide) (fun n => nI (cnt (fun k => A 4 (24 * n + k) == 1) 24)) (fun n f1 hn => ?_) (fun f2 n k39 v3 hn => ?_)
        · unfold mX5_countOf
          rw [if_pos hw]
          have h00 := (hS.1 n hn).2.2.2.2.2.2.1
          have hq := (wL n hn).2.2.2.2.2.2
          simp only [cNg0 hp hn, Option.bind_some, h00, hq]
        · unfold mX6_count_B62
          rw [hw, if_neg (by decide), if_neg (by decide), if_neg (by decide), if_neg (by decide), if_neg (by decide)]
          refine rc177 (P := fun o => A 4 o == 1) hfu (by omega) ?_
          intro kk v3 o h1 h2
          have ho : o < 120 := by omega
          rw [mX6_count_L177, i24, nI_mul, nI_add, if_neg (nI_ge (by omega) (by omega)), rR5, Option.bind_some, rl4, gl_nI ho (by omega), Option.bind_some, tR4, nI_1]
          rcases h01 o ho with u | u
          · rw [u, if_pos (by decide), if_neg (by decide)]
          · rw [u, if_neg (by decide), if_pos rfl, if_pos (by decide)]
      · have hw : w = 1 := hw
        refine fin (by rw [hw]; decide) (fun n => nI (cnt (fun k => decide (0 < A 3 (24 * n + k))) 24)) (fun n f1 hn => ?_) (fun f2 n k39 v3 hn => ?_)
        · unfold mX5_countOf
          rw [hw, if_neg (by decide), if_pos rfl]
          simp only [cchk2 hp hn, Option.bind_some, eC_exp hfu hp hN5 hn (hS.1 n hn) h3b]
        · unfold mX6_count_B62
          rw [hw, if_neg (by decide), if_neg (by decide), if_neg (by decide), if_neg (by decide), if_neg (by decide)]
          refine rc177 (P := fun o => decide (0 < A 3 o)) hfu (by omega) ?_
          intro kk v3 o h1 h2
          have ho : o < 120 := by omega
          have h3b := h3b o ho
          rw [mX6_count_L177, i24, nI_mul, nI_add, if_neg (nI_ge (by omega) (by omega)), rR5, Option.bind_some, rl4, gl_nI ho (by omega), Option.bind_some, tR4, nI_1, if_neg (show ¬ (1 : Int32) = 0 by decide), if_pos rfl, rR4, Option.bind_some, rl3, gl_nI ho (by omega), Option.bind_some, tR3]
          unfold mX6_count_B219
          rw [if_neg (show ¬ (1 : Int32) = 3 by decide), nI_1]
          rcases wT o ho with u | u
          · rw [u.1, if_neg (by decide)]
            by_cases c : 0 < A 3 o
            · rw [if_pos (by rw [i0]; exact nI_lt c h3b), if_pos (decide_eq_true c)]
            · rw [if_neg (by rw [i0]; exact nI_nlt (by omega) (by omega)), if_neg (fun z => c (of_decide_eq_true z))]
          · rw [u.1, if_pos (by decide), u.2, if_neg (by decide)]
      · have hw : w = 2 := hw
        refine fin (by rw [hw]; decide) (fun n => nI (imp A n)) (fun n f1 hn => ?_) (fun f2 n k39 v3 hn => ?_)
        · unfold mX5_countOf
          rw [hw, if_neg (by decide), if_neg (by decide), if_pos rfl]
          have h01' := (hS.1 n hn).2.2.2.2.2.2.2.1
          simp only [cNg1 hp hn, Option.bind_some, h01']
        · unfold mX6_count_B62
          have himp := eR_importsOf (b := M) (g := toR A V) (f0 := f2) (n := n) (by omega) (show 120 < fu by omega)
          have hcnt : cnt (fun o => decide (0 < toR A V 9 (120 * n + o))) 120 = imp A n := cnt_ext (fun o ho => by
            rw [tR9, i0]
            exact decide_eq_decide.mpr (nI_ltI (by omega) (h9b n o (by omega) ho)))
          rw [hcnt] at himp
          rw [if_pos hw]
          simp only [rchk, Option.bind_some, himp]
      · have hw : w = 3 := hw
        obtain ⟨gp', m, e, a1, a2, a3, a4, a5⟩ := eC_held (b := b) (p := p) hfu hp hS hW0
        obtain ⟨A', b1, b2, b3, b4⟩ := eR_hold (M := M) hfu hW0
        have row : ∀ j i, 0 < j → j < 18 → A' j i = A j i := fun j i j1 j2 => b2 j i j2 (by omega)
        have hW' : WF A' V N cl := scr_WF b2 hW0
        obtain ⟨P, hP⟩ : ∃ P : Nat → Bool, ∀ o, P o = true ↔ A' 4 o = 1 ∧ A' 24 o = 0 := ⟨fun o => decide (A' 4 o = 1 ∧ A' 24 o = 0), fun o => by simp⟩
        refine step (m5 := fun f => mX5_count fu f b v w) (m6 := fun f => mX6_count fu f M v w) (s := (A, V, gn, gp, pi, od, q)) (s' := (A', V, gn, gp', pi, od, q)) (r := ctot (fun n => nI (cnt (fun k => P (24 * n + k)) 24)) v N) hl (fun f1 => ?_) (fun f2 => ?_) (scr_sOk b2 a3 a4 hs1)
        · show mX5_count fu (mkC b p N gn gp pi f1) b v w = some (_, mkC b p N gn gp' pi f1)
          rw [e5]
          unfold mX5_count_B13
          rw [if_neg hw0, if_pos hw6, if_pos hw]
          simp only [cchk5 hp, Option.bind_some, a1]
          refine ct5 hfu hp hN5 (fun n hn => ?_)
          unfold mX5_countOf
          rw [hw, if_neg (by decide), if_neg (by decide), if_neg (by decide), if_pos rfl]
          simp only [cF2 hp, cchk2 hp hn, Option.bind_some]
          rw [eC_unm (P := P) hfu hp hN5 hn (hS.1 n hn) (hsz n hn) a2 (fun x hx => by
            have := b3 x hx
            rw [hP x, row 4 x (by omega) (by omega), a5 x hx, ← b4 x hx]
            constructor
            · intro u; exact ⟨u.1, by omega⟩
            · intro u; exact ⟨u.1, by omega⟩), Option.bind_some]
        · show mX6_count fu (mkR M (toR A V) f2) M v w = some (_, mkR M (toR A' V) f2)
          rw [e6, if_neg hw0, if_pos hw6, if_pos hw, b1, Option.bind_some]
          refine ct6 hfu hW'.1.1 hN5 (fun n k39 v3 hn => ?_)
          unfold mX6_count_B62
          rw [if_neg (by rw [hw]; decide), if_pos hw]
          refine rc177 (P := P) hfu (by omega) (rc_step (by omega) (fun o ho => by rw [row 4 o (by omega) (by omega)]; exact h01 o ho) b3 (fun o ho => by rw [row 3 o (by omega) (by omega)]; exact h3b o ho) (fun o ho => ?_))
          rw [hP o, hw]
          constructor
          · intro u; exact ⟨u.1, Or.inr (Or.inr ⟨rfl, u.2⟩)⟩
          · intro u
            rcases u.2 with z | z | z
            · exact absurd z (by decide)
            · exact absurd z.1 (by decide)
            · exact ⟨u.1, z.2⟩
      · have hw : w = 4 := hw
        refine fin (by rw [hw]; decide) (fun n => nI (cnt (fun i => A 13 i == n) (A 0 2))) (fun n f1 hn => ?_) (fun f2 n k39 v3 hn => ?_)
        · unfold mX5_countOf
          rw [hw, if_neg (by decide), if_neg (by decide), if_neg (by decide), if_neg (by decide), if_pos rfl]
          simp only [cF1 hp, cNi hp hn, cPchk, Option.bind_some, eC_cto hfu hS.2.1 hms (show n < 5 by omega) h13]
        · unfold mX6_count_B62
          rw [if_neg (by rw [hw]; decide), if_neg (by rw [hw]; decide), if_pos hw]
          exact rc111 hfu hms (by omega) h13
      · have hw : w = 5 := hw
        refine fin (by rw [hw]; decide) (fun n => nI (A 10 n)) (fun n f1 hn => ?_) (fun f2 n k39 v3 hn => ?_)
        · unfold mX5_countOf
          rw [hw, if_neg (by decide), if_neg (by decide), if_neg (by decide), if_neg (by decide), if_neg (by decide), if_pos rfl]
          have h02 := (hS.1 n hn).2.2.2.2.2.2.2.2.1
          simp only [cNg2 hp hn, Option.bind_some, h02]
        · unfold mX6_count_B62
          rw [if_neg (by rw [hw]; decide), if_neg (by rw [hw]; decide), if_neg (by rw [hw]; decide), if_pos hw]
          simp (disch := omega) only [rR11, rl10, gl_nI, tR10, Option.bind_some]
      · have hw : w = 6 := hw
        refine fin (by rw [hw]; decide) (fun n => V 11 n) (fun n f1 hn => ?_) (fun f2 n k39 v3 hn => ?_)
        · unfold mX5_countOf
          rw [hw, if_neg (by decide), if_neg (by decide), if_neg (by decide), if_neg (by decide), if_neg (by decide), if_neg (by decide)]
          have h03 := (hS.1 n hn).2.2.2.2.2.2.2.2.2
          simp only [cNg3 hp hn, Option.bind_some, h03]
        · unfold mX6_count_B62
          rw [if_neg (by rw [hw]; decide), if_neg (by rw [hw]; decide), if_neg (by rw [hw]; decide), if_neg (by rw [hw]; decide), if_pos hw]
          simp (disch := omega) only [rR12, rl11, gl_nI, tR11, Option.bind_some]
    · refine both (-1) (fun f1 => ?_) (fun f2 => ?_)
      · rw [e5]
        unfold mX5_count_B13
        by_cases c : w < 0
        · rw [if_pos c]
        · rw [if_neg c, if_neg (fun u => absurd (Int32.le_trans (hw.resolve_left c) u) (by decide))]
      · rw [e6]
        by_cases c : w < 0
        · rw [if_pos c]
        · rw [if_neg c, if_neg (fun u => absurd (Int32.le_trans (hw.resolve_left c) u) (by decide))]
  · have hv1 : ¬ v = -1 := fun u => hv (Or.inl u)
    have hvx : v < 0 ∨ nI N ≤ v := (idx v (n := N) (by omega)).resolve_left (fun ⟨n, hn, u⟩ => hv (Or.inr ⟨n, hn, u⟩))
    refine both (-1) (fun f1 => ?_) (fun f2 => ?_)
    · unfold mX5_count
      rw [if_neg hv1]
      simp only [cchk5 hp, Option.bind_some, eC_isNodeX hp hvx, if_true]
    · unfold mX6_count
      simp only [rI1, tR0, h11, Option.bind_some]
      by_cases c : v < -1
      · rw [if_pos c]
      · rw [if_neg c, if_pos (hvx.resolve_left (v_neg c hv1))]
