/-! collect: the reference's counting, freeing, giving back -/
section R3
variable {M N : Nat} {V : tV} {mkd : Nat → Bool}
theorem eR_cntU {fu n : Nat} {A : tA} {f2 : jM} (hfu : 2000 ≤ fu) (hn : n < 5) (hb : bl A 19) (hk : ∀ x, x < 120 → x / 24 ≠ n → (A 19 x = 1 ↔ mkd x = true)) (hw : ∀ x, x < 120 → A 9 (120 * n + x) < 2 ^ 31 ∧ (0 < A 9 (120 * n + x) → x / 24 ≠ n)) (hms : A 0 2 ≤ 60) : mX6_collects_L207 fu M (nI n) fu (nI 0) (nI 0) (mkR M (toR A V) f2) = if A 0 2 + cnt (fun x => um A n mkd (120 * n + x)) 120 ≤ 60 then mX6_collects_L264 fu M (nI n) fu (nI 0) (nI 0) (mkR M (toR A V) f2) else some (-2, mkR M (toR A V) f2) := by
  refine lup0 (fun k i => mX6_collects_L207 fu M (nI n) k (nI (cnt (fun x => um A n mkd (120 * n + x)) i)) (nI i) (mkR M (toR A V) f2)) 120 _ fu (by omega) ?_ ?_
  · intro k
    have hc := cnt_le (fun x => um A n mkd (120 * n + x)) 120
    rw [mX6_collects_L207, i120, if_pos (nI_le (Nat.le_refl _) (by omega))]
    simp only [rI13, tR0, Option.bind_some, nI_add, i60]
    by_cases c : A 0 2 + cnt (fun x => um A n mkd (120 * n + x)) 120 ≤ 60
    · rw [if_pos (nI_le c (by omega)), if_pos c, i0]
    · rw [if_neg (nI_ge (by omega) (by omega)), if_neg c]
  · intro k i hi
    obtain ⟨w1, w2⟩ := hw i hi
    rw [mX6_collects_L207, i120, if_neg (nI_ge hi (by omega))]
    simp (disch := omega) only [rR10, rl9, nI_mul, nI_add, gl_nI, tR9, Option.bind_some, rR21, rl19, tR19, nI_1]
    have hu := um_i (A := A) (n := n) (mkd := mkd) hi
    by_cases c : 0 < A 9 (120 * n + i)
    · rw [if_neg (nI_nle c w1)]
      by_cases d : mkd i = true
      · rw [(hk i hi (w2 c)).mpr d, if_neg (by decide)]
        simp only [cnt, hu, d, Bool.not_true, Bool.and_false]
        rfl
      · have : A 19 i = 0 := by
          have h1 := hb i hi
          have h2 : A 19 i ≠ 1 := fun w => d ((hk i hi (w2 c)).mp w)
          omega
        rw [this, if_pos (by decide)]
        simp only [cnt, hu, c, d, decide_true, Bool.not_false, Bool.and_self, if_true]
    · rw [show A 9 (120 * n + i) = 0 by omega, if_pos (by decide)]
      simp only [cnt, hu, c, decide_false, Bool.false_and]
      rfl
theorem eR_free {fu n : Nat} {A : tA} {f2 : jM} (hfu : 2000 ≤ fu) (hn : n < 5) (hb : bl A 18) (hk : ∀ x, x < 120 → x / 24 = n → (A 18 x = 1 ↔ mkd x = true)) (h4 : ∀ k, k < 24 → A 4 (24 * n + k) ≤ 1) : mX6_collects_L264 fu M (nI n) fu (nI 0) (nI 0) (mkR M (toR A V) f2) = (mX6_slides fu (mkR M (toR (frA A n mkd 24) V) f2) M (nI n)).bind fun f50 => mX6_collects_L328 fu M (nI n) (nI (cnt (fun k => (A 4 (24 * n + k) == 1) && !(mkd (24 * n + k))) 24)) fu (nI 0) f50 := by
  have h0 : frA A n mkd 0 = A := by
    funext j x
    unfold frA
    rw [if_neg (by omega)]
  have key := lup0 (fun k i => mX6_collects_L264 fu M (nI n) k (nI (cnt (fun k => (A 4 (24 * n + k) == 1) && !(mkd (24 * n + k))) i)) (nI i) (mkR M (toR (frA A n mkd i) V) f2)) 24 ((mX6_slides fu (mkR M (toR (frA A n mkd 24) V) f2) M (nI n)).bind fun f50 => mX6_collects_L328 fu M (nI n) (nI (cnt (fun k => (A 4 (24 * n + k) == 1) && !(mkd (24 * n + k))) 24)) fu (nI 0) f50) fu (by omega)
    (by
      intro k
      rw [mX6_collects_L264, i24, if_pos (nI_le (Nat.le_refl _) (by omega))]
      simp only [rchk, Option.bind_some]
      rfl)
    (by
      intro k i hi
      show mX6_collects_L264 fu M (nI n) (k + 1) (nI (cnt (fun k => (A 4 (24 * n + k) == 1) && !(mkd (24 * n + k))) i)) (nI i) (mkR M (toR (frA A n mkd i) V) f2) = _
      have e4 : frA A n mkd i 4 (24 * n + i) = A 4 (24 * n + i) := by
        unfold frA
        rw [if_neg (by omega)]
      have e18 : frA A n mkd i 18 (24 * n + i) = A 18 (24 * n + i) := by
        unfold frA
        rw [if_neg (by omega)]
      rw [mX6_collects_L264, i24, if_neg (nI_ge hi (by omega))]
      simp (disch := omega) only [rR5, rl4, nI_mul, nI_add, gl_nI, tR4, Option.bind_some, e4, rR20, rl18, tR18, e18, rs4, gs_nI, nI_1]
      have hn1 : nar0 = nar0 := rfl
      have hx : 24 * n + i < 120 := by omega
      have h4i := h4 i hi
      by_cases c : A 4 (24 * n + i) = 1
      · rw [c, if_neg (by decide)]
        by_cases d : mkd (24 * n + i) = true
        · rw [(hk _ hx (by omega)).mpr d, if_neg (by decide)]
          have e : frA A n mkd (i + 1) = frA A n mkd i := by
            funext j x
            unfold frA
            by_cases w : j = 4 ∧ x / 24 = n ∧ x % 24 < i ∧ mkd x = false
            · rw [if_pos w, if_pos ⟨w.1, w.2.1, by omega, w.2.2.2⟩]
            · rw [if_neg w, if_neg]
              intro w'
              by_cases g : x % 24 = i
              · have : x = 24 * n + i := by omega
                rw [this, d] at w'
                exact absurd w'.2.2.2 (by decide)
              · exact w ⟨w'.1, w'.2.1, by omega, w'.2.2.2⟩
          rw [e]
          simp only [cnt, c, d]
          rfl
        · have d' : mkd (24 * n + i) = false := by simpa using d
          have : A 18 (24 * n + i) = 0 := by
            have h1 := hb _ hx
            have h2 : A 18 (24 * n + i) ≠ 1 := fun w => d ((hk _ hx (by omega)).mp w)
            omega
          rw [this, if_pos (by decide), nar0]
          have e : upA (frA A n mkd i) 4 (24 * n + i) 0 = frA A n mkd (i + 1) := by
            funext j x
            by_cases w : j = 4 ∧ x = 24 * n + i
            · rw [w.1, w.2, upA_s]
              unfold frA
              rw [if_pos ⟨rfl, by omega, by omega, d'⟩]
            · rw [upA_n _ _ (by omega)]
              unfold frA
              by_cases g : j = 4 ∧ x / 24 = n ∧ x % 24 < i ∧ mkd x = false
              · rw [if_pos g, if_pos ⟨g.1, g.2.1, by omega, g.2.2.2⟩]
              · rw [if_neg g, if_neg]
                intro w'
                exact g ⟨w'.1, w'.2.1, by omega, w'.2.2.2⟩
          rw [i0, uR4, e]
          simp only [cnt, c, d']
          rfl
      · have c0 : A 4 (24 * n + i) = 0 := by omega
        rw [c0, if_pos (by decide)]
        have e : frA A n mkd (i + 1) = frA A n mkd i := by
          funext j x
          unfold frA
          by_cases w : j = 4 ∧ x / 24 = n ∧ x % 24 < i ∧ mkd x = false
          · rw [if_pos w, if_pos ⟨w.1, w.2.1, by omega, w.2.2.2⟩]
          · rw [if_neg w]
            by_cases g : j = 4 ∧ x = 24 * n + i
            · rw [g.1, g.2, c0]; simp
            · rw [if_neg]
              intro w'
              exact w ⟨w'.1, w'.2.1, by omega, w'.2.2.2⟩
        rw [e]
        simp only [cnt, c0]
        rfl)
  rw [h0] at key
  exact key
theorem eR_gvU {fu n : Nat} {A A0 : tA} {f2 : jM} {v : Int32} (hfu : 2000 ≤ fu) (hn : n < 5) (hb : bl A 19) (hk : ∀ x, x < 120 → x / 24 ≠ n → (A 19 x = 1 ↔ mkd x = true)) (hw : ∀ x, x < 120 → A 9 (120 * n + x) < 2 ^ 31 ∧ (0 < A 9 (120 * n + x) → x / 24 ≠ n)) (h9 : A0 9 = A 9) (h60 : A 0 2 + cnt (fun x => um A0 n mkd (120 * n + x)) 120 ≤ 60) : mX6_collects_L328 fu M (nI n) v fu (nI 0) (mkR M (toR A V) f2) = some (v, mkR M (toR (gvp (um A0 n mkd) (120 * n) 120 (A, V)).1 (gvp (um A0 n mkd) (120 * n) 120 (A, V)).2) f2) := by
  refine lup0 (fun k i => mX6_collects_L328 fu M (nI n) v k (nI i) (mkR M (toR (gvp (um A0 n mkd) (120 * n) i (A, V)).1 (gvp (um A0 n mkd) (120 * n) i (A, V)).2) f2)) 120 _ fu (by omega) ?_ ?_
  · intro k
    rw [mX6_collects_L328, i120, if_pos (nI_le (Nat.le_refl _) (by omega))]
  · intro k i hi
    obtain ⟨w1, w2⟩ := hw i hi
    have e9 : (gvp (um A0 n mkd) (120 * n) i (A, V)).1 9 (120 * n + i) = A 9 (120 * n + i) := by rw [gvp_9, if_neg (by omega)]
    have e19 : (gvp (um A0 n mkd) (120 * n) i (A, V)).1 19 = A 19 := gvp_o (by omega) (by omega) (by omega) i
    have e0 : (gvp (um A0 n mkd) (120 * n) i (A, V)).1 0 2 = A 0 2 + cnt (fun x => um A0 n mkd (120 * n + x)) i := gvp_0 i
    rw [mX6_collects_L328, i120, if_neg (nI_ge hi (by omega))]
    simp (disch := omega) only [rR10, rl9, nI_mul, nI_add, gl_nI, tR9, Option.bind_some, rR21, rl19, tR19, e9, e19, rchk, nI_1]
    have hu := um_i (A := A0) (n := n) (mkd := mkd) hi
    rw [h9] at hu
    have hle : cnt (fun x => um A0 n mkd (120 * n + x)) i ≤ cnt (fun x => um A0 n mkd (120 * n + x)) 120 := by
      rw [cnt_sm, cnt_sm]; exact sm_mono (by omega)
    by_cases c : 0 < A 9 (120 * n + i)
    · rw [if_neg (nI_nle c w1)]
      by_cases d : mkd i = true
      · rw [(hk i hi (w2 c)).mpr d, if_neg (by decide)]
        have : um A0 n mkd (120 * n + i) = false := by rw [hu, d]; simp
        simp only [gvp, this]
        rfl
      · have d' : mkd i = false := by simpa using d
        have : A 19 i = 0 := by
          have h1 := hb i hi
          have h2 : A 19 i ≠ 1 := fun w => d ((hk i hi (w2 c)).mp w)
          omega
        have hU : um A0 n mkd (120 * n + i) = true := by rw [hu, d']; simp [c]
        rw [this, if_pos (by decide), eR_gives (by omega) hn hi]
        simp only [gvp, hU, if_true, Option.bind_some]
        rw [show (120 * n + i) / 120 = n by omega, show (120 * n + i) % 120 = i by omega]
    · rw [show A 9 (120 * n + i) = 0 by omega, if_pos (by decide)]
      have : um A0 n mkd (120 * n + i) = false := by rw [hu]; simp [c]
      simp only [gvp, this]
      rfl
end R3
/-! both runs of giving back touch the same -/
theorem gvA_r {A : tA} {n x : Nat} : (∀ i, gvA A n x 12 i = if i = A 0 2 then n else A 12 i) ∧ (∀ i, gvA A n x 13 i = if i = A 0 2 then x / 24 else A 13 i) ∧ (∀ i, gvA A n x 14 i = if i = A 0 2 then 2 else A 14 i) ∧ (∀ i, gvA A n x 15 i = if i = A 0 2 then x else A 15 i) ∧ ∀ i, gvA A n x 16 i = if i = A 0 2 then A 9 (120 * n + x) else A 16 i :=
  ⟨fun i => ap12 (A := upA A 9 (120 * n + x) 0) i, fun i => ap13 (A := upA A 9 (120 * n + x) 0) i, fun i => ap14 (A := upA A 9 (120 * n + x) 0) i, fun i => ap15 (A := upA A 9 (120 * n + x) 0) i, fun i => ap16 (A := upA A 9 (120 * n + x) 0) i⟩
def msE (s s' : tA × tV) : Prop := s'.1 0 2 = s.1 0 2 ∧ s'.1 9 = s.1 9 ∧ s'.1 12 = s.1 12 ∧ s'.1 13 = s.1 13 ∧ s'.1 14 = s.1 14 ∧ s'.1 15 = s.1 15 ∧ s'.1 16 = s.1 16 ∧ s'.2 17 = s.2 17
theorem gvp_msE {U : Nat → Bool} {c : Nat} {s s' : tA × tV} (h : msE s s') : ∀ k, msE (gvp U c k s) (gvp U c k s') := by
  intro k
  induction k with
  | zero => exact h
  | succ k ih =>
    cases hU : U (c + k) with
    | false => simp only [gvp, hU]; exact ih
    | true =>
      simp only [gvp, hU, if_true]
      obtain ⟨a0, a9, a12, a13, a14, a15, a16, a17⟩ := ih
      have r := gvA_r (A := (gvp U c k s).1) (n := (c + k) / 120) (x := (c + k) % 120)
      have r' := gvA_r (A := (gvp U c k s').1) (n := (c + k) / 120) (x := (c + k) % 120)
      refine ⟨?_, ?_, ?_, ?_, ?_, ?_, ?_, ?_⟩
      · show gvA _ _ _ 0 2 = gvA _ _ _ 0 2
        rw [gvA_0, gvA_0, a0]
      · funext i
        show gvA _ _ _ 9 i = gvA _ _ _ 9 i
        rw [gvA_9, gvA_9, a9]
      · funext i
        show gvA _ _ _ 12 i = gvA _ _ _ 12 i
        rw [r.1, r'.1, a0, a12]
      · funext i
        show gvA _ _ _ 13 i = gvA _ _ _ 13 i
        rw [r.2.1, r'.2.1, a0, a13]
      · funext i
        show gvA _ _ _ 14 i = gvA _ _ _ 14 i
        rw [r.2.2.1, r'.2.2.1, a0, a14]
      · funext i
        show gvA _ _ _ 15 i = gvA _ _ _ 15 i
        rw [r.2.2.2.1, r'.2.2.2.1, a0, a15]
      · funext i
        show gvA _ _ _ 16 i = gvA _ _ _ 16 i
        rw [r.2.2.2.2, r'.2.2.2.2, a0, a16, a9]
      · funext i
        show up2 _ 17 _ _ 17 i = up2 _ 17 _ _ 17 i
        rw [up2_if, up2_if, a0, a17]
/-! what hangs on which rows -/
theorem lay1_ext {A A' : tA} {n q : Nat} {od : Nat → Nat} (h : lay1 A n od q) (h1 : ∀ k, k < 24 → A' 1 (24 * n + k) = A 1 (24 * n + k)) (h2 : ∀ k, k < 24 → A' 2 (24 * n + k) = A 2 (24 * n + k)) (h4 : ∀ k, k < 24 → A' 4 (24 * n + k) = A 4 (24 * n + k)) (h10 : A' 10 n = A 10 n) : lay1 A' n od q := by
  obtain ⟨q1, q2, q3, q4, q5, q6, q7⟩ := h
  have hs : ∀ i, i ≤ q → sm (fun j => A' 1 (24 * n + od j) + 1) i = sm (fun j => A 1 (24 * n + od j) + 1) i := fun i hi => sm_ext (fun j hj => by rw [h1 _ (q2 j (by omega)).1])
  refine ⟨q1, fun i hi => ?_, q3, fun k hk ht => q4 k hk (by rw [← h4 k hk]; exact ht), ?_, by rw [h10]; exact q6, ?_⟩
  · have := q2 i hi
    rw [h4 _ this.1, h2 _ this.1, hs i (by omega)]
    exact this
  · rw [h10, hs q (Nat.le_refl _)]; exact q5
  · rw [q7]
    exact cnt_ext (fun k hk => by rw [h4 k hk])
theorem SN_ext {A A' : tA} {V V' : tV} {n q : Nat} {gn gn' : tN} {od : Nat → Nat} (h : SN A V n gn od q) (hg : gn' n = gn n) (h1 : ∀ k, k < 24 → A' 1 (24 * n + k) = A 1 (24 * n + k)) (h2 : ∀ k, k < 24 → A' 2 (24 * n + k) = A 2 (24 * n + k)) (h3 : A' 3 = A 3) (h4 : ∀ k, k < 24 → A' 4 (24 * n + k) = A 4 (24 * n + k)) (h5 : ∀ k f, k < 24 → f < 12 → A 4 (24 * n + k) = 1 → A' 5 (12 * (24 * n + k) + f) = A 5 (12 * (24 * n + k) + f) ∧ V' 6 (12 * (24 * n + k) + f) = V 6 (12 * (24 * n + k) + f)) (h7 : A' 7 = A 7) (h9 : A' 9 = A 9) (h10 : A' 10 n = A 10 n) (v8 : V' 8 = V 8) (v11 : V' 11 n = V 11 n) : SN A' V' n gn' od q := by
  obtain ⟨s1, s2, s3, s4, s5, s6, s7⟩ := h
  unfold SN
  rw [hg, h7, v8, h9, h3, h10, v11]
  refine ⟨s1, fun k f hk hf ht => ?_, fun k f hk hf ht => ?_, fun k hk => ?_, s5, s6, ?_⟩
  · rw [h4 k hk] at ht
    rw [(h5 k f hk hf ht).1, (h5 k f hk hf ht).2]
    exact s2 k f hk hf ht
  · rw [h4 k hk] at ht
    exact s3 k f hk hf ht
  · rw [h4 k hk, h1 k hk, h2 k hk]
    exact s4 k hk
  · have : imp A' n = imp A n := by unfold imp; rw [h9]
    rw [this]
    exact s7
theorem SP_ext {A A' : tA} {V V' : tV} {gp : tV} {pi : Nat → Nat} (h : SP A V gp pi) (hm : msE (A, V) (A', V')) : SP A' V' gp pi := by
  obtain ⟨a0, a9, a12, a13, a14, a15, a16, a17⟩ := hm
  dsimp only at a0 a9 a12 a13 a14 a15 a16 a17
  unfold SP
  rw [a0, a12, a13, a14, a15, a16, a17]
  exact h
def ov (A : tA) (r4 r2 r10 : Nat → Nat) : tA := fun j i => if j = 4 then r4 i else if j = 2 then r2 i else if j = 10 then r10 i else A j i
theorem ov_eq {A A' : tA} (h : ∀ j, j ≠ 4 → j ≠ 2 → j ≠ 10 → A' j = A j) : A' = ov A (A' 4) (A' 2) (A' 10) := by
  funext j i
  unfold ov
  by_cases c4 : j = 4
  · rw [if_pos c4, c4]
  · by_cases c2 : j = 2
    · rw [if_neg c4, if_pos c2, c2]
    · by_cases c10 : j = 10
      · rw [if_neg c4, if_neg c2, if_pos c10, c10]
      · rw [if_neg c4, if_neg c2, if_neg c10, h j c4 c2 c10]
theorem WF_free {A : tA} {V V' : tV} {N cl n : Nat} {mkd : Nat → Bool} {r4 r2 r10 : Nat → Nat} (h : WF A V N cl) (hn : n < N) (hroot : ∀ x, lRt A V n x → mkd x = true) (hcl : ∀ x y, gd A N x → mkd x = true → lE A V n x y → mkd y = true) (h4 : ∀ x, x < 120 → r4 x = if x / 24 = n ∧ mkd x = false then 0 else A 4 x) (v6 : V' 6 = V 6) (v8 : V' 8 = V 8) (v17 : V' 17 = V 17) : WF (ov A r4 r2 r10) V' N cl := by
  obtain ⟨⟨h11, hN1, hN5⟩, wR, wF, wT, wW, wE, wM, wTo, wI⟩ := h
  have hlive : ∀ m y, y < 24 * N → A 4 y = 1 → 0 < A 9 (120 * m + y) → m < 5 → mkd y = true ∨ y / 24 ≠ n := fun m y hy ht hp hm => by
    by_cases c : y / 24 = n
    · left
      have := bndW (n := m) wE wTo hm (show y < 120 by omega)
      exact hroot y (Or.inr ⟨by omega, c, by omega⟩)
    · exact Or.inr c
  have hok : ∀ m k v, m < N → okv A N m k v → (∀ y, y < 120 → m = n → k = 2 → v = nI y → y / 24 = n → mkd y = true) → okv (ov A r4 r2 r10) N m k v := by
    intro m k v hm hv hl
    rcases hv with q | q | ⟨q1, o, q2, q3, q4, q5⟩
    · exact Or.inl q
    · exact Or.inr (Or.inl q)
    · refine Or.inr (Or.inr ⟨q1, o, q2, q3, ?_, q5⟩)
      show r4 o = 1
      rw [h4 o (by omega), if_neg]
      · exact q4
      · rintro ⟨w1, w2⟩
        have : mkd o = true := by
          by_cases c : m = n
          · exact hl o (by omega) c q1 q3 w1
          · rcases q5 with q5 | q5
            · omega
            · exact (hlive m o q2 q4 q5 (by omega)).resolve_right (fun w => w w1)
        rw [this] at w2
        exact absurd w2 (by decide)
  refine ⟨⟨h11, hN1, hN5⟩, fun m a hm ha => ?_, fun o ho ht => ?_, fun o ho => ?_, wW, wE, ?_, wTo, wI⟩
  · rw [v8]
    exact hok m _ _ hm (wR m a hm ha) (fun y hy e k v hyn => hroot y (Or.inl (by rw [← e]; exact ⟨hy, a, ha, k, v⟩)))
  · have ht1 : r4 o = 1 := ht
    rw [h4 o (by omega)] at ht1
    have ht2 : A 4 o = 1 ∧ (o / 24 = n → mkd o = true) := by
      by_cases c : o / 24 = n ∧ mkd o = false
      · rw [if_pos c] at ht1; omega
      · rw [if_neg c] at ht1
        refine ⟨ht1, fun w => ?_⟩
        cases hm : mkd o with
        | true => rfl
        | false => exact absurd ⟨w, hm⟩ c
    obtain ⟨q1, q2, q3⟩ := wF o ho ht2.1
    rw [v6]
    refine ⟨q1, fun f hf => ?_, q3⟩
    exact hok _ _ _ (by omega) (q2 f hf) (fun y hy e k v hyn => hcl o y ⟨ho, ht2.1⟩ (ht2.2 e) ⟨e, hy, f, hf, k, v⟩)
  · show (r4 o = 1 ∧ _) ∨ (r4 o = 0 ∧ A 3 o = 0)
    rw [h4 o ho]
    by_cases c : o / 24 = n ∧ mkd o = false
    · rw [if_pos c]
      refine Or.inr ⟨rfl, ?_⟩
      rcases Nat.eq_zero_or_pos (A 3 o) with w | w
      · exact w
      · have := hroot o (Or.inr ⟨ho, c.1, w⟩)
        rw [c.2] at this
        exact absurd this (by decide)
    · rw [if_neg c]
      exact wT o ho
  · refine ⟨wM.1, fun i hi => ?_⟩
    have := wM.2 i hi
    unfold okm at this ⊢
    rw [v17]
    exact this
