/-! collect: the class -/
def um (A : tA) (n : Nat) (mkd : Nat → Bool) : Nat → Bool := fun i => decide (i / 120 = n) && decide (0 < A 9 i) && !(mkd (i % 120))
theorem um_i {A : tA} {n x : Nat} {mkd : Nat → Bool} (hx : x < 120) : um A n mkd (120 * n + x) = (decide (0 < A 9 (120 * n + x)) && !(mkd x)) := by
  unfold um
  rw [show (120 * n + x) / 120 = n by omega, show (120 * n + x) % 120 = x by omega]
  simp
section SC
variable {b p N : Nat} {gn : tN} {gp : tV} {pi : Nat → Nat} {A : tA} {V : tV} {od : Nat → Nat → Nat} {q : Nat → Nat} {mkd : Nat → Bool}
theorem eC_cntU {fu n m : Nat} {e : Nat → Nat} {f1 : jM} (hfu : 2000 ≤ fu) (hp : b + 2 + 8 * N ≤ p) (hn : n < N) (h6 : ∀ x, x < 120 → gn n 6 x = nI (A 9 (120 * n + x)) ∧ A 9 (120 * n + x) < 2 ^ 31) (hM : MK gp 62 m e) (hk : ∀ x, x < 120 → (inM gp 62 x ↔ mkd x = true)) : mX2_countUnmarkedImports fu (mkC b p N gn gp pi f1) (b + 2 + 8 * n) (p + 62) = some (nI (cnt (fun x => um A n mkd (120 * n + x)) 120), mkC b p N gn gp pi f1) := by
  have hr : isM 62 := Or.inl rfl
  unfold mX2_countUnmarkedImports
  rw [i0]
  refine lup0 (fun k i => mX2_countUnmarkedImports_L4 fu (b + 2 + 8 * n) (p + 62) k (nI (cnt (fun x => um A n mkd (120 * n + x)) i)) (nI i) (mkC b p N gn gp pi f1)) 120 _ fu (by omega) ?_ ?_
  · intro k
    rw [mX2_countUnmarkedImports_L4, i120, if_pos (nI_le (Nat.le_refl _) (by omega))]
  · intro k i hi
    rw [mX2_countUnmarkedImports_L4, i120, if_neg (nI_ge hi (by omega))]
    obtain ⟨g1, g2⟩ := h6 i hi
    simp (disch := omega) only [cNr6, cNl6, gl_nI, Option.bind_some, g1, cMchk hr, eC_has hr hM hi, nI_1]
    have hu := um_i (A := A) (n := n) (mkd := mkd) hi
    by_cases c : 0 < A 9 (120 * n + i)
    · rw [if_neg (nI_nle c g2)]
      by_cases d : mkd i = true
      · have : gp (62 + 1) i = 1 := (hk i hi).mpr d
        rw [this, if_neg (by decide)]
        simp only [cnt, hu, d, Bool.not_true, Bool.and_false]
        rfl
      · have : gp (62 + 1) i = 0 := (MK_01 hM hi).resolve_left (fun w => d ((hk i hi).mp w))
        rw [this, if_pos rfl]
        simp only [cnt, hu, c, d, decide_true, Bool.not_false, Bool.and_self, if_true]
    · rw [show A 9 (120 * n + i) = 0 by omega, if_pos (by decide)]
      simp only [cnt, hu, c, decide_false, Bool.false_and]
      rfl
theorem eC_gvU {fu n m cl : Nat} {e : Nat → Nat} (hfu : 2000 ≤ fu) (hp : b + 2 + 8 * N ≤ p) (hn : n < N) (hS : SIM A V N gn gp pi od q) (hW : WF A V N cl) (hM : MK gp 62 m e) (hk : ∀ x, x < 120 → (inM gp 62 x ↔ mkd x = true)) (h60 : A 0 2 + cnt (fun x => um A n mkd (120 * n + x)) 120 ≤ 60) :
    ∃ gn' gp', (∀ f1, mX2_giveBackUnmarked fu (mkC b p N gn gp pi f1) (b + 2 + 8 * n) (p + 62) p = some (mkC b p N gn' gp' pi f1)) ∧ SIM (gvp (um A n mkd) (120 * n) 120 (A, V)).1 (gvp (um A n mkd) (120 * n) 120 (A, V)).2 N gn' gp' pi od q ∧ ∀ j, 62 ≤ j → gp' j = gp j := by
  have hr : isM 62 := Or.inl rfl
  obtain ⟨⟨h11, hN1, hN5⟩, wR, wF, wT, wW, wE, wM, wTo, wI⟩ := hW
  obtain ⟨⟨gn', gp'⟩, h6, h7⟩ := lupI (S := tN × tV) (T := jM → Option jM) (fun n' i s f1 => mX2_giveBackUnmarked_L2 fu (b + 2 + 8 * n) (p + 62) p n' (nI i) (mkC b p N s.1 s.2 pi f1)) (fun s f1 => some (mkC b p N s.1 s.2 pi f1)) 120 (fun i s => SIM (gvp (um A n mkd) (120 * n) i (A, V)).1 (gvp (um A n mkd) (120 * n) i (A, V)).2 N s.1 s.2 pi od q ∧ ∀ j, 62 ≤ j → s.2 j = gp j)
    (by
      intro n' s _
      funext f1
      rw [mX2_giveBackUnmarked_L2, i120, if_pos (nI_le (Nat.le_refl _) (by omega))])
    (by
      intro n' i s hi ⟨s1, s2⟩
      obtain ⟨g, gq⟩ := s
      dsimp only at s1 s2
      have hb := bndW (n := n) wE wTo (by omega) hi
      have hb2 := bndT wTo hi
      have e9 : (gvp (um A n mkd) (120 * n) i (A, V)).1 9 (120 * n + i) = A 9 (120 * n + i) := by
        rw [gvp_9, if_neg (by omega)]
      have g6 := (s1.1 n hn).2.2.2.2.1 i hi
      rw [e9] at g6
      have hu := um_i (A := A) (n := n) (mkd := mkd) hi
      have hMg : MK gq 62 m e := MK_ext hM (s2 _ (by omega)) (s2 _ (by omega)) (s2 _ (by omega))
      have e0 := gvp_0 (U := um A n mkd) (c := 120 * n) (s := (A, V)) i
      have ev : ∀ f1, mX2_giveBackUnmarked_L2 fu (b + 2 + 8 * n) (p + 62) p (n' + 1) (nI i) (mkC b p N g gq pi f1) = if um A n mkd (120 * n + i) = true then (mX2_giveBack (mkC b p N g gq pi f1) (b + 2 + 8 * n) (nI i) p).bind fun f9 => mX2_giveBackUnmarked_L2 fu (b + 2 + 8 * n) (p + 62) p n' (nI (i + 1)) f9 else mX2_giveBackUnmarked_L2 fu (b + 2 + 8 * n) (p + 62) p n' (nI (i + 1)) (mkC b p N g gq pi f1) := by
        intro f1
        rw [mX2_giveBackUnmarked_L2, i120, if_neg (nI_ge hi (by omega))]
        simp (disch := omega) only [cNr6, cNl6, gl_nI, Option.bind_some, g6, cMchk hr, eC_has hr hMg hi, cchk2, nI_1]
        rw [s2 (62 + 1) (by omega), hu]
        by_cases c : 0 < A 9 (120 * n + i)
        · rw [if_neg (nI_nle c (by omega))]
          by_cases d : mkd i = true
          · have : gp (62 + 1) i = 1 := (hk i hi).mpr d
            rw [this, if_neg (by decide), d]
            simp
          · have : gp (62 + 1) i = 0 := (MK_01 hM hi).resolve_left (fun w => d ((hk i hi).mp w))
            rw [this, if_pos rfl]
            simp [c, d]
        · rw [show A 9 (120 * n + i) = 0 by omega, if_pos (by decide)]
          simp
      cases hUi : um A n mkd (120 * n + i) with
      | true =>
        have h9 : 0 < A 9 (120 * n + i) := by
          rw [hu] at hUi
          simp at hUi
          exact hUi.1
        have hle : cnt (fun x => um A n mkd (120 * n + x)) (i + 1) ≤ cnt (fun x => um A n mkd (120 * n + x)) 120 := by
          rw [cnt_sm, cnt_sm]; exact sm_mono (by omega)
        have hci : cnt (fun x => um A n mkd (120 * n + x)) (i + 1) = cnt (fun x => um A n mkd (120 * n + x)) i + 1 := by simp only [cnt, hUi, if_true]
        have e0' : (gvp (um A n mkd) (120 * n) i (A, V)).1 0 2 = A 0 2 + cnt (fun x => um A n mkd (120 * n + x)) i := e0
        obtain ⟨g', gq', t1, t2, t3⟩ := eC_gives (cl := cl) hp hN5 s1 (by omega) hn hi (by rw [e9]; exact h9) (by rw [e9]; omega)
        refine ⟨(g', gq'), ⟨?_, fun j hj => (t3 j hj).trans (s2 j hj)⟩, ?_⟩
        · simp only [gvp, hUi, if_true]
          rw [show (120 * n + i) / 120 = n by omega, show (120 * n + i) % 120 = i by omega]
          exact t2
        · funext f1
          show mX2_giveBackUnmarked_L2 fu (b + 2 + 8 * n) (p + 62) p (n' + 1) (nI i) (mkC b p N g gq pi f1) = _
          rw [ev, if_pos hUi, t1]
          rfl
      | false =>
        refine ⟨(g, gq), ⟨?_, s2⟩, ?_⟩
        · simp only [gvp, hUi]
          exact s1
        · funext f1
          show mX2_giveBackUnmarked_L2 fu (b + 2 + 8 * n) (p + 62) p (n' + 1) (nI i) (mkC b p N g gq pi f1) = _
          rw [ev, hUi, if_neg (by decide)])
    fu (gn, gp) (by omega) ⟨hS, fun _ _ => rfl⟩
  refine ⟨gn', gp', fun f1 => ?_, h6.1, h6.2⟩
  unfold mX2_giveBackUnmarked
  rw [i0]
  exact congrFun h7 f1
/-- the fields of one object are emptied -/
theorem eC_emptyFields {fu n k s : Nat} (hfu : 2000 ≤ fu) (hp : b + 2 + 8 * N ≤ p) (hn : n < N) (hk : k < 24) (hs : s ≤ 12) (h3 : gn n 3 k = nI s) : ∃ gn', (∀ f1, mX2_emptyFields fu (mkC b p N gn gp pi f1) (b + 2 + 8 * n) (nI k) = some (mkC b p N gn' gp pi f1)) ∧ (∀ m j i, ¬ (m = n ∧ (j = 1 ∨ j = 2) ∧ 6 + 12 * k ≤ i ∧ i < 6 + 12 * k + s) → gn' m j i = gn m j i) ∧ ∀ f, f < s → gn' n 1 (6 + 12 * k + f) = 0 ∧ gn' n 2 (6 + 12 * k + f) = 0 := by
  obtain ⟨gn', h6, h7⟩ := lupI (S := tN) (T := jM → Option jM) (fun n' i g f1 => mX2_emptyFields_L2 fu (b + 2 + 8 * n) (nI k) n' (nI i) (mkC b p N g gp pi f1)) (fun g f1 => some (mkC b p N g gp pi f1)) s (fun i g => (∀ m j i', ¬ (m = n ∧ (j = 1 ∨ j = 2) ∧ 6 + 12 * k ≤ i' ∧ i' < 6 + 12 * k + i) → g m j i' = gn m j i') ∧ ∀ f, f < i → g n 1 (6 + 12 * k + f) = 0 ∧ g n 2 (6 + 12 * k + f) = 0)
    (by
      intro n' g ⟨g1, g2⟩
      funext f1
      have e3 : g n 3 k = nI s := by rw [g1 n 3 k (by omega)]; exact h3
      rw [mX2_emptyFields_L2]
      simp (disch := omega) only [cNr3, cNl3, gl_nI, Option.bind_some, e3]
      rw [if_pos (nI_le (Nat.le_refl _) (by omega))])
    (by
      intro n' i g hi ⟨g1, g2⟩
      have e3 : g n 3 k = nI s := by rw [g1 n 3 k (by omega)]; exact h3
      refine ⟨up3 (up3 g n 1 (6 + 12 * k + i) 0) n 2 (6 + 12 * k + i) 0, ⟨fun m j i' hne => ?_, fun f hf => ?_⟩, ?_⟩
      · rw [up3_n _ _ (by omega), up3_n _ _ (by omega)]
        exact g1 m j i' (by omega)
      · by_cases c : f = i
        · subst c
          rw [up3_n _ _ (by omega), up3_s, up3_s]
          exact ⟨rfl, rfl⟩
        · rw [up3_n _ _ (by omega), up3_n _ _ (by omega), up3_n _ _ (by omega), up3_n _ _ (by omega)]
          exact g2 f (by omega)
      · funext f1
        show mX2_emptyFields_L2 fu (b + 2 + 8 * n) (nI k) (n' + 1) (nI i) (mkC b p N g gp pi f1) = _
        rw [mX2_emptyFields_L2]
        simp (disch := omega) only [cNr3, cNl3, gl_nI, Option.bind_some, e3, eC_fieldSlot, cchk2, eC_empty, nI_1]
        rw [if_neg (nI_ge hi (by omega)), show 6 + k * 12 + i = 6 + 12 * k + i by omega])
    fu gn (by omega) ⟨fun _ _ _ _ => rfl, fun f hf => absurd hf (by omega)⟩
  refine ⟨gn', fun f1 => ?_, h6.1, h6.2⟩
  unfold mX2_emptyFields
  rw [i0]
  exact congrFun h7 f1
end SC
