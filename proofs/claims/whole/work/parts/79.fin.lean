/-! the reference: the trial's end -/
section RF
variable {M N : Nat} {V : tV} {A : tA}
theorem nI_rem120 {a : Nat} (ha : a < 2 ^ 31) : nI a - nI a / nI 120 * nI 120 = nI (a % 120) := pk_rem ha (by decide) (by decide)
theorem eR_cntI {fu : Nat} {f2 : jM} {U : Nat → Bool} (hfu : 2000 ≤ fu) (hU : ∀ i, i < 600 → A 22 i ≤ 1 ∧ (U i = true ↔ A 22 i = 1)) : mX6_tries_L174 fu M fu (nI 0) (nI 0) (mkR M (toR A V) f2) = if cnt U 600 ≤ 60 then mX6_tries_L215 fu M fu (nI 0) (nI 0) (mkR M (toR A V) f2) else some (0, mkR M (toR A V) f2) := by
  refine lup0 (fun n i => mX6_tries_L174 fu M n (nI (cnt U i)) (nI i) (mkR M (toR A V) f2)) 600 _ fu (by omega) ?_ ?_
  · intro n
    have hc := cnt_le U 600
    rw [mX6_tries_L174, i600, if_pos (nI_le (Nat.le_refl _) (by omega)), i60]
    by_cases c : cnt U 600 ≤ 60
    · rw [if_pos (nI_le c (by omega)), if_pos c, i0]
    · rw [if_neg (nI_ge (by omega) (by omega)), if_neg c]
  · intro n i hi
    obtain ⟨u1, u2⟩ := hU i hi
    rw [mX6_tries_L174, i600, if_neg (nI_ge hi (by omega))]
    simp (disch := omega) only [rR25, rl22, gl_nI, tR22, Option.bind_some, nI_1]
    by_cases c : A 22 i = 1
    · rw [c, if_neg (by decide)]
      have : cnt U (i + 1) = cnt U i + 1 := by simp only [cnt, u2.mpr c, if_true]
      rw [this]
    · have c0 : A 22 i = 0 := by omega
      have hUf : U i = false := by
        cases h : U i with
        | false => rfl
        | true => exact absurd (u2.mp h) c
      rw [c0, if_pos (by decide)]
      have : cnt U (i + 1) = cnt U i := by simp only [cnt, hUf]; rfl
      rw [this]
theorem eR_empt {fu cl : Nat} {f2 : jM} {L : Nat → Bool} (hfu : 2000 ≤ fu) (hWf : WF A V N cl) (h21 : bl A 21) (h23 : bl A 23) (hL : ∀ o, o < 120 → (L o = true ↔ A 4 o = 1 ∧ A 21 o = 1 ∧ ¬ A 23 o = 1)) : mX6_tries_L215 fu M fu (nI 0) (nI 0) (mkR M (toR A V) f2) = mX6_tries_L316 fu M (nI (cnt L 120)) fu (nI 0) (mkR M (toR (emq L 5 120 0 0 A) (emw L 6 120 0 0 V)) f2) := by
  obtain ⟨⟨h11, hN1, hN5⟩, wR, wF, wT, wW, wE, wM, wTo, wI⟩ := hWf
  have e0 : emq L 5 0 0 0 A = A := by
    funext j i
    unfold emq
    rw [if_neg (by omega)]
  have w0 : emw L 6 0 0 0 V = V := by
    funext j i
    unfold emw
    rw [if_neg (by omega)]
  have key := lup0 (fun n o => mX6_tries_L215 fu M n (nI (cnt L o)) (nI o) (mkR M (toR (emq L 5 o 0 0 A) (emw L 6 o 0 0 V)) f2)) 120 (mX6_tries_L316 fu M (nI (cnt L 120)) fu (nI 0) (mkR M (toR (emq L 5 120 0 0 A) (emw L 6 120 0 0 V)) f2)) fu (by omega)
    (by
      intro n
      rw [mX6_tries_L215, i120, if_pos (nI_le (Nat.le_refl _) (by omega)), i0])
    (by
      intro n o ho
      show mX6_tries_L215 fu M (n + 1) (nI (cnt L o)) (nI o) (mkR M (toR (emq L 5 o 0 0 A) (emw L 6 o 0 0 V)) f2) = _
      have b21 := h21 o ho
      have b23 := h23 o ho
      have hl := hL o ho
      have ev : mX6_tries_L215 fu M (n + 1) (nI (cnt L o)) (nI o) (mkR M (toR (emq L 5 o 0 0 A) (emw L 6 o 0 0 V)) f2) = if A 4 o = 1 ∧ A 21 o = 1 ∧ ¬ A 23 o = 1 then mX6_tries_L261 fu (mX6_tries_L215 fu M n) M (nI (cnt L o + 1)) (nI o) fu (nI 0) (mkR M (toR (emq L 5 o 0 0 A) (emw L 6 o 0 0 V)) f2) else mX6_tries_L215 fu M n (nI (cnt L o)) (nI (o + 1)) (mkR M (toR (emq L 5 o 0 0 A) (emw L 6 o 0 0 V)) f2) := by
        rw [mX6_tries_L215, i120, if_neg (nI_ge ho (by omega))]
        simp (disch := omega) only [rR5, rl4, gl_nI, tR4, Option.bind_some, emq_o, rR24, rl21, tR21, rR26, rl23, tR23, nI_1]
        have b4 : A 4 o ≤ 1 := by rcases wT o ho with w | w <;> omega
        by_cases c : A 4 o = 1
        · rw [c, if_neg (by decide)]
          by_cases d : A 21 o = 1
          · rw [d, if_neg (by decide)]
            by_cases e : A 23 o = 1
            · rw [e, if_neg (by decide), if_neg (fun w => w.2.2 rfl)]
            · rw [show A 23 o = 0 by omega, if_pos (by decide), if_pos ⟨rfl, rfl, by decide⟩, i0]
          · rw [show A 21 o = 0 by omega, if_pos (by decide), if_neg (fun w => absurd w.2.1 (by decide))]
        · rw [show A 4 o = 0 by omega, if_pos (by decide), if_neg (fun w => absurd w.1 (by decide))]
      rw [ev]
      by_cases c : A 4 o = 1 ∧ A 21 o = 1 ∧ ¬ A 23 o = 1
      · have hLo := hl.mpr c
        have ho24 : o < 24 * N := by
          rcases wT o ho with w | w
          · exact w.2
          · omega
        obtain ⟨z1, z2, z3⟩ := wF o ho24 c.1
        rw [if_pos c]
        have hc : cnt L (o + 1) = cnt L o + 1 := by simp only [cnt, hLo, if_true]
        rw [← hc, emq_f0 (o := o), emw_f0 (o := o), ← emq_n (f := A 1 o) hLo (fun g g1 g2 => (z3 g g1 g2).1), ← emw_n (f := A 1 o) hLo (fun g g1 g2 => (z3 g g1 g2).2)]
        refine lup0 (fun n2 f => mX6_tries_L261 fu (mX6_tries_L215 fu M n) M (nI (cnt L (o + 1))) (nI o) n2 (nI f) (mkR M (toR (emq L 5 o o f A) (emw L 6 o o f V)) f2)) (A 1 o) _ fu (by omega) ?_ ?_
        · intro n2
          rw [mX6_tries_L261]
          simp (disch := omega) only [rR2, rl1, gl_nI, tR1, Option.bind_some, emq_o, nI_1]
          rw [if_pos (nI_le (Nat.le_refl _) (by omega))]
        · intro n2 f hf
          show mX6_tries_L261 fu (mX6_tries_L215 fu M n) M (nI (cnt L (o + 1))) (nI o) (n2 + 1) (nI f) (mkR M (toR (emq L 5 o o f A) (emw L 6 o o f V)) f2) = _
          rw [mX6_tries_L261]
          simp (disch := omega) only [rR2, rl1, gl_nI, tR1, Option.bind_some, emq_o, i12, nI_mul, nI_add, rR6, rs5, gs_nI, nI_1]
          rw [if_neg (nI_ge hf (by omega)), i0, uR5, emq_s (show f < 12 by omega)]
          simp (disch := omega) only [rR7, rs6, gs_nI, Option.bind_some]
          rw [← i0, uR6, emw_s (show f < 12 by omega)]
      · rw [if_neg c]
        have hLf : L o = false := by
          cases h : L o with
          | false => rfl
          | true => exact absurd (hl.mp h) c
        have hc : cnt L (o + 1) = cnt L o := by simp only [cnt, hLf]; rfl
        rw [hc, ← emq_k hLf, ← emw_k hLf])
  rw [e0, w0] at key
  exact key
theorem eR_gvI {fu : Nat} {f2 : jM} {U : Nat → Bool} {v : Int32} {W : tV} {B : tA} (hfu : 2000 ≤ fu) (hU : ∀ i, i < 600 → B 22 i ≤ 1 ∧ (U i = true ↔ B 22 i = 1)) (h60 : B 0 2 + cnt U 600 ≤ 60) : mX6_tries_L316 fu M v fu (nI 0) (mkR M (toR B W) f2) = some (v, mkR M (toR (gvp U 0 600 (B, W)).1 (gvp U 0 600 (B, W)).2) f2) := by
  refine lup0 (fun k i => mX6_tries_L316 fu M v k (nI i) (mkR M (toR (gvp U 0 i (B, W)).1 (gvp U 0 i (B, W)).2) f2)) 600 _ fu (by omega) ?_ ?_
  · intro k
    rw [mX6_tries_L316, i600, if_pos (nI_le (Nat.le_refl _) (by omega))]
  · intro k i hi
    obtain ⟨u1, u2⟩ := hU i hi
    have e22 : (gvp U 0 i (B, W)).1 22 = B 22 := gvp_o (by omega) (by omega) (by omega) i
    have e0 : (gvp U 0 i (B, W)).1 0 2 = B 0 2 + cnt (fun x => U (0 + x)) i := gvp_0 i
    have ec : cnt (fun x => U (0 + x)) i = cnt U i := cnt_ext (fun x _ => by rw [Nat.zero_add])
    have hle : cnt U i ≤ cnt U 600 := by rw [cnt_sm, cnt_sm]; exact sm_mono (by omega)
    rw [mX6_tries_L316, i600, if_neg (nI_ge hi (by omega))]
    simp (disch := omega) only [rR25, rl22, gl_nI, tR22, Option.bind_some, e22, rchk, nI_1]
    by_cases c : B 22 i = 1
    · have hUi := u2.mpr c
      rw [c, if_neg (by decide), i120, nI_div (by omega) (by omega) (by omega)]
      have hrem : nI i - nI (i / 120) * nI 120 = nI (i % 120) := by
        have := nI_rem120 (a := i) (by omega)
        rw [nI_div (by omega) (by omega) (by omega)] at this
        exact this
      rw [hrem, eR_gives (by omega) (by omega) (by omega)]
      have hU' : U (0 + i) = true := by rw [Nat.zero_add]; exact hUi
      simp only [gvp, hU', hUi, if_true, Option.bind_some, Nat.zero_add]
    · have c0 : B 22 i = 0 := by omega
      have hUf : U (0 + i) = false := by
        rw [Nat.zero_add]
        cases h : U i with
        | false => rfl
        | true => exact absurd (u2.mp h) c
      rw [c0, if_pos (by decide)]
      simp only [gvp, hUf]
      rfl
end RF
