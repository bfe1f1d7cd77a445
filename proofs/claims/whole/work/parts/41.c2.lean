/-! the state behind a removal -/
def tau (ms i x : Nat) : Nat := if x < ms - 1 then sk i x else if x = ms - 1 then i else x
theorem piR {pi : Nat → Nat} {i ms x : Nat} (hi : i < ms) : upP (rmP pi i (ms - 1)) (ms - 1) (pi i) x = pi (tau ms i x) := by
  simp only [upP, rmP, tau, sk]
  by_cases e : x = ms - 1
  · rw [if_pos e, if_neg (by omega), if_pos e]
  · rw [if_neg e]
    by_cases c : x < ms - 1
    · rw [if_pos c]
      by_cases d : x < i
      · rw [if_neg (by omega), if_pos d]
      · rw [if_pos (by omega), if_neg d]
    · rw [if_neg c, if_neg e, if_neg (by omega)]
theorem tau_inj {ms i x y : Nat} (hi : i < ms) (h : tau ms i x = tau ms i y) : x = y := by
  simp only [tau, sk] at h
  split at h <;> split at h <;> (try split at h) <;> (try split at h) <;> (try split at h) <;> omega
theorem tau_lt {ms i x : Nat} (hms : ms ≤ 60) (hi : i < ms) (hx : x < 60) : tau ms i x < 60 := by
  simp only [tau, sk]
  split
  · split <;> omega
  · split <;> omega
theorem rmA_r {A : tA} {i j x : Nat} (hj : 12 ≤ j ∧ j ≤ 16) (hx : x < A 0 2 - 1) : rmA A i j x = A j (sk i x) := by
  simp only [sk]
  by_cases c : x < i
  · rw [if_pos c]; exact rmN_no hj (by omega)
  · rw [if_neg c]; exact rmN_lo hj (by omega)
theorem rmV_r {A : tA} {V : tV} {i x : Nat} (hx : x < A 0 2 - 1) : rmV A V i 17 x = V 17 (sk i x) := by
  simp only [sk]
  show (if 17 = 17 ∧ i ≤ x ∧ x < A 0 2 - 1 then V 17 (x + 1) else V 17 x) = _
  by_cases c : x < i
  · rw [if_pos c, if_neg (by omega)]
  · rw [if_neg c, if_pos ⟨rfl, by omega, hx⟩]
theorem rmA_0 {A : tA} {i : Nat} : rmA A i 0 2 = A 0 2 - 1 := rfl
theorem SIM_rm {A : tA} {V : tV} {N i : Nat} {gn : tN} {gp : tV} {pi : Nat → Nat} {od : Nat → Nat → Nat} {q : Nat → Nat} (h : SIM A V N gn gp pi od q) (hms : A 0 2 ≤ 60) (hi : i < A 0 2) : SIM (rmA A i) (rmV A V i) N gn (up2 gp 0 0 (nI (A 0 2 - 1))) (upP (rmP pi i (A 0 2 - 1)) (A 0 2 - 1) (pi i)) od q := by
  obtain ⟨hN, ⟨p1, p2, p3, p4⟩, hM⟩ := h
  refine ⟨hN, ⟨up2_s _ 0 0 _, fun x hx => ?_, fun x y hx hy hxy => ?_, fun x hx => ?_⟩, SM_ext hM (fun r h1 h2 => up2_other _ _ _ (by omega))⟩
  · rw [piR hi]; exact p2 _ (tau_lt hms hi hx)
  · rw [piR hi, piR hi] at hxy
    exact tau_inj hi (p3 _ _ (tau_lt hms hi hx) (tau_lt hms hi hy) hxy)
  · rw [rmA_0] at hx
    have hsk : sk i x < A 0 2 := by simp only [sk]; split <;> omega
    have ht : tau (A 0 2) i x = sk i x := by simp only [tau]; rw [if_pos hx]
    rw [piR hi, ht, rmA_r (by omega) hx, rmA_r (by omega) hx, rmA_r (by omega) hx, rmA_r (by omega) hx, rmA_r (by omega) hx, rmV_r hx, up2_other _ _ _ (show 2 + pi (sk i x) ≠ 0 by omega)]
    exact p4 _ hsk
theorem rm_sum {A : tA} {i : Nat} (hi : i < A 0 2) (o : Nat) : sm (msW (rmA A i) o) (A 0 2 - 1) + msW A o i = sm (msW A o) (A 0 2) := by
  have h1 : sm (msW (rmA A i) o) (A 0 2 - 1) = sm (fun x => msW A o (sk i x)) (A 0 2 - 1) := sm_ext (fun x hx => by
    simp only [msW]
    rw [rmA_r (by omega) hx, rmA_r (by omega) hx])
  rw [h1, sm_sk (by omega), show A 0 2 - 1 + 1 = A 0 2 by omega]
theorem rm_cnt {A : tA} {i : Nat} (hi : i < A 0 2) : cnt (fun x => rmA A i 14 x == 3) (A 0 2 - 1) + (if A 14 i = 3 then 1 else 0) = cnt (fun x => A 14 x == 3) (A 0 2) := by
  have h1 : cnt (fun x => rmA A i 14 x == 3) (A 0 2 - 1) = cnt (fun x => (fun y => A 14 y == 3) (sk i x)) (A 0 2 - 1) := cnt_ext (fun x hx => by
    rw [rmA_r (by omega) hx])
  have h2 := cnt_sk (P := fun y => A 14 y == 3) (i := i) (n := A 0 2 - 1) (by omega)
  rw [show A 0 2 - 1 + 1 = A 0 2 by omega] at h2
  rw [h1, ← h2]
  by_cases e : A 14 i = 3 <;> simp [e]
/-- the messages that stay are as they should be, if the one taken was the first of its pair -/
theorem rm_okm {A : tA} {V : tV} {N i : Nat} (h : wMsg A V N) (hi : i < A 0 2) (hf : ∀ y, y < i → ¬ (A 12 y = A 12 i ∧ A 13 y = A 13 i)) : ∀ x, x < A 0 2 - 1 → okm (rmA A i) (rmV A V i) N x := by
  intro x hx
  have hsk : sk i x < A 0 2 := by simp only [sk]; split <;> omega
  obtain ⟨n1, n2, n3, n4, n5⟩ := h.2 _ hsk
  unfold okm
  rw [rmA_r (j := 12) (by omega) hx, rmA_r (j := 13) (by omega) hx, rmA_r (j := 14) (by omega) hx, rmA_r (j := 15) (by omega) hx, rmA_r (j := 16) (by omega) hx, rmV_r hx]
  refine ⟨n1, n2, n3, n4, ?_⟩
  rcases n5 with n5 | n5 | ⟨q1, q2, q3, q4, q5⟩ | n5
  · exact Or.inl n5
  · exact Or.inr (Or.inl n5)
  · refine Or.inr (Or.inr (Or.inl ⟨q1, q2, q3, q4, ?_⟩))
    rcases q5 with q5 | ⟨j, j1, j2, j3, j4, j5⟩
    · exact Or.inl q5
    · refine Or.inr ?_
      have hji : j ≠ i := by
        intro e
        subst e
        refine hf (sk j x) j1 ⟨j4.symm, ?_⟩
        obtain ⟨-, -, -, -, m5⟩ := h.2 j j2
        rcases m5 with m5 | m5 | m5 | m5
        · omega
        · rw [m5.2.2.1, j5, q3]
        · omega
        · omega
      refine ⟨if j < i then j else j - 1, ?_, ?_, ?_⟩
      · simp only [sk] at j1
        split at j1 <;> split <;> omega
      · rw [rmA_0]
        split <;> omega
      · have hb : (if j < i then j else j - 1) < A 0 2 - 1 := by split <;> omega
        have hs : sk i (if j < i then j else j - 1) = j := by
          simp only [sk]
          by_cases c : j < i
          · rw [if_pos c, if_pos c]
          · rw [if_neg c, if_neg (by omega)]; omega
        rw [rmA_r (j := 14) (by omega) hb, rmA_r (j := 12) (by omega) hb, rmA_r (j := 15) (by omega) hb, hs]
        exact ⟨j3, j4, j5⟩
  · exact Or.inr (Or.inr (Or.inr n5))
theorem tot_there {A : tA} {N o : Nat} (h : wThe A N) (ho : o < 120) (hp : 0 < A 3 o) : A 4 o = 1 := by
  rcases h o ho with h | h
  · exact h.1
  · omega
/-- what WF asks but for sums, of a removal: the other rows are as before -/
theorem WF_dec {A : tA} {V : tV} {N cl i : Nat} (h : WF A V N cl) (hi : i < A 0 2) (hf : ∀ y, y < i → ¬ (A 12 y = A 12 i ∧ A 13 y = A 13 i)) (hk : A 14 i ≠ 3) : WF (upA (rmA A i) 3 (A 15 i) (A 3 (A 15 i) - A 16 i)) (rmV A V i) N cl := by
  have hbm := bndM h.1.2.2 h.2.2.2.2.2.2.1 h.2.2.2.2.2.1 h.2.2.2.2.2.2.2.1 hi
  obtain ⟨h1, wR, wF, wT, wW, wE, wM, wTo, wI⟩ := h
  have ho := (wM.2 i hi).2.2.2.1
  refine ⟨h1, wR, wF, ?_, wW, ?_, ⟨?_, ?_⟩, ?_, wI⟩
  · intro o' ho'
    show (A 4 o' = 1 ∧ o' < 24 * N) ∨ (A 4 o' = 0 ∧ upA (rmA A i) 3 (A 15 i) (A 3 (A 15 i) - A 16 i) 3 o' = 0)
    rcases wT o' ho' with q | q
    · exact Or.inl q
    · refine Or.inr ⟨q.1, ?_⟩
      rw [upA_if]
      split
      · next e => rw [← e]; omega
      · exact q.2
  · intro o' ho'
    show upA (rmA A i) 3 (A 15 i) (A 3 (A 15 i) - A 16 i) 3 o' = sm (fun m => A 9 (120 * m + o')) 5 + sm (msW (rmA A i) o') (A 0 2 - 1)
    have hE := wE o' ho'
    have hs := rm_sum hi o'
    have hmi : msW A o' i = if A 15 i = o' then A 16 i else 0 := rfl
    rw [hmi] at hs
    rw [upA_if]
    by_cases e : o' = A 15 i
    · rw [if_pos e, ← e]
      rw [if_pos e.symm] at hs
      omega
    · rw [if_neg e]
      rw [if_neg (fun q => e q.symm)] at hs
      show A 3 o' = _
      omega
  · show A 0 2 - 1 ≤ 60
    have := wM.1
    omega
  · intro x hx
    have := rm_okm wM hi hf x hx
    exact okm_mono this rfl (fun j h1 h2 => by funext y; exact upA_n _ _ (Or.inl (by omega))) (fun _ _ h => h)
  · refine ⟨?_, wTo.2⟩
    show sm (upA (rmA A i) 3 (A 15 i) (A 3 (A 15 i) - A 16 i) 3) 120 + 64 * cnt (fun x => rmA A i 14 x == 3) (A 0 2 - 1) ≤ 64 * cl
    have hc := rm_cnt hi
    rw [if_neg hk] at hc
    have e2 := sm_set (f := A 3) (g := upA (rmA A i) 3 (A 15 i) (A 3 (A 15 i) - A 16 i) 3) (k := A 15 i) (n := 120) (by omega) (fun y hy => upA_n _ _ (Or.inr hy))
    rw [upA_s] at e2
    have := wTo.1
    omega
theorem imp_new {A : tA} {n o x : Nat} (ho : o < 120) (h0 : A 9 (120 * n + o) = 0) (hx : 0 < x) : imp (upA A 9 (120 * n + o) x) n = imp A n + 1 := by
  refine cnt_set ho ?_ ?_ ?_
  · simp [h0]
  · rw [upA_s]; simp [hx]
  · intro i hi
    rw [upA_n _ _ (Or.inr (by omega))]
theorem imp_other {A : tA} {n o x m : Nat} (hm : m ≠ n) (ho : o < 120) : imp (upA A 9 (120 * n + o) x) m = imp A m := by
  refine cnt_ext (fun i hi => ?_)
  rw [upA_n _ _ (Or.inr (by omega))]
/-- a weight comes to an entry: a REF of a far one, a GRANT -/
theorem WF_inc {A : tA} {V : tV} {N cl i : Nat} (h : WF A V N cl) (hi : i < A 0 2) (hf : ∀ y, y < i → ¬ (A 12 y = A 12 i ∧ A 13 y = A 13 i)) (hk : A 14 i = 1 ∨ A 14 i = 4) (hon : A 15 i / 24 ≠ A 13 i) (hcan : 0 < A 9 (120 * A 13 i + A 15 i) ∨ imp A (A 13 i) < 30) : WF (upA (rmA A i) 9 (120 * A 13 i + A 15 i) (A 9 (120 * A 13 i + A 15 i) + A 16 i)) (rmV A V i) N cl := by
  obtain ⟨⟨h11, hN1, hN5⟩, wR, wF, wT, wW, wE, wM, wTo, wI⟩ := h
  obtain ⟨m1, m2, m3, ho, m5⟩ := wM.2 i hi
  have hw : 0 < A 16 i := by
    rcases m5 with m5 | m5 | m5 | m5
    · exact m5.2.1
    · exact m5.2.1
    · omega
    · exact m5.2.1
  generalize hn : A 13 i = n at *
  generalize hoo : A 15 i = o at *
  have h9 : ∀ y, 0 < A 9 y → 0 < upA (rmA A i) 9 (120 * n + o) (A 9 (120 * n + o) + A 16 i) 9 y := by
    intro y hy
    rw [upA_if]
    split
    · omega
    · exact hy
  refine ⟨⟨h11, hN1, hN5⟩, fun x c hx hc => okv_mono (wR x c hx hc) (fun _ h => h) (fun o _ h => h9 _ h), fun o' ho' ht' => ?_, wT, fun x o' hx ho' hp => ?_, ?_, ⟨?_, ?_⟩, ?_, fun x hx => ?_⟩
  · obtain ⟨q1, q2, q3⟩ := wF o' ho' ht'
    exact ⟨q1, fun f hf => okv_mono (q2 f hf) (fun _ h => h) (fun o _ h => h9 _ h), q3⟩
  · have hp' : 0 < upA (rmA A i) 9 (120 * n + o) (A 9 (120 * n + o) + A 16 i) 9 (120 * x + o') := hp
    rw [upA_if] at hp'
    by_cases e : 120 * x + o' = 120 * n + o
    · have e1 : x = n := by omega
      have e2 : o' = o := by omega
      rw [e1, e2]
      exact ⟨m2, ho, hon⟩
    · rw [if_neg e] at hp'
      exact wW x o' hx ho' hp'
  · intro o' ho'
    show A 3 o' = sm (fun m => upA (rmA A i) 9 (120 * n + o) (A 9 (120 * n + o) + A 16 i) 9 (120 * m + o')) 5 + sm (msW (rmA A i) o') (A 0 2 - 1)
    have hE := wE o' ho'
    have hs := rm_sum hi o'
    have hmi : msW A o' i = if o = o' then A 16 i else 0 := by
      show (if A 15 i = o' then A 16 i else 0) = _
      rw [hoo]
    rw [hmi] at hs
    by_cases e : o = o'
    · subst e
      rw [if_pos rfl] at hs
      have e2 := sm_set (f := fun x => A 9 (120 * x + o)) (g := fun x => upA (rmA A i) 9 (120 * n + o) (A 9 (120 * n + o) + A 16 i) 9 (120 * x + o)) (k := n) (n := 5) (by omega) (fun y hy => upA_n _ _ (Or.inr (by omega)))
      rw [upA_s] at e2
      omega
    · rw [if_neg e] at hs
      have e2 : sm (fun x => upA (rmA A i) 9 (120 * n + o) (A 9 (120 * n + o) + A 16 i) 9 (120 * x + o')) 5 = sm (fun x => A 9 (120 * x + o')) 5 := sm_ext (fun y hy => upA_n _ _ (Or.inr (by omega)))
      rw [e2]
      omega
  · show A 0 2 - 1 ≤ 60
    have := wM.1
    omega
  · intro x hx
    have := rm_okm wM hi (by rw [hn]; exact hf) x hx
    exact okm_mono this rfl (fun j h1 h2 => by funext y; exact upA_n _ _ (Or.inl (by omega))) (fun _ _ h => h9 _ h)
  · refine ⟨?_, wTo.2⟩
    show sm (A 3) 120 + 64 * cnt (fun x => rmA A i 14 x == 3) (A 0 2 - 1) ≤ 64 * cl
    have hc := rm_cnt hi
    rw [if_neg (by omega)] at hc
    have := wTo.1
    omega
  · show imp (upA (rmA A i) 9 (120 * n + o) (A 9 (120 * n + o) + A 16 i)) x ≤ 30
    have hr : imp (rmA A i) = imp A := rfl
    by_cases e : x = n
    · subst e
      by_cases hz : A 9 (120 * x + o) = 0
      · rw [imp_new (by omega) (show rmA A i 9 (120 * x + o) = 0 from hz) (by omega), hr]
        have := hcan.resolve_left (by omega)
        omega
      · rw [imp_keep (by omega) (show 0 < A 9 (120 * x + o) + A 16 i ↔ 0 < rmA A i 9 (120 * x + o) from ⟨fun _ => Nat.pos_of_ne_zero hz, fun _ => by omega⟩), hr]
        exact wI x hx
    · rw [imp_other e (by omega), hr]
      exact wI x hx
/-- an ASK comes: the total grows, a GRANT goes -/
theorem WF_asked {A : tA} {V : tV} {N cl i : Nat} (h : WF A V N cl) (hi : i < A 0 2) (hf : ∀ y, y < i → ¬ (A 12 y = A 12 i ∧ A 13 y = A 13 i)) (hk : A 14 i = 3) : WF (apA (upA (rmA A i) 3 (A 15 i) (A 3 (A 15 i) + 64)) (A 13 i) (A 12 i) 4 (A 15 i) 64) (up2 (rmV A V i) 17 (A 0 2 - 1) (-1)) N cl := by
  obtain ⟨⟨h11, hN1, hN5⟩, wR, wF, wT, wW, wE, wM, wTo, wI⟩ := h
  obtain ⟨m1, m2, m3, ho, m5⟩ := wM.2 i hi
  have hms := wM.1
  have hpos : 0 < A 3 (A 15 i) ∧ A 13 i = A 15 i / 24 ∧ A 16 i = 0 := by
    rcases m5 with m5 | m5 | m5 | m5
    · omega
    · omega
    · refine ⟨?_, m5.2.2.1, m5.2.1⟩
      rcases m5.2.2.2.2 with q | ⟨j, j1, j2, j3, j4, j5⟩
      · have := bndW (cl := cl) (n := A 12 i) wE wTo (by omega) (show A 15 i < 120 by omega)
        omega
      · have := bndM hN5 wM wE wTo j2
        rw [j5] at this
        obtain ⟨-, -, -, -, n5⟩ := wM.2 j j2
        rcases n5 with n5 | n5 | n5 | n5 <;> omega
    · omega
  have ht := tot_there wT (show A 15 i < 120 by omega) hpos.1
  refine ⟨⟨h11, hN1, hN5⟩, wR, wF, ?_, wW, ?_, ?_, ?_, wI⟩
  · intro o' ho'
    show (A 4 o' = 1 ∧ o' < 24 * N) ∨ (A 4 o' = 0 ∧ upA (rmA A i) 3 (A 15 i) (A 3 (A 15 i) + 64) 3 o' = 0)
    rw [upA_if]
    by_cases e : o' = A 15 i
    · rw [e]; exact Or.inl ⟨ht, ho⟩
    · rw [if_neg e]; exact wT o' ho'
  · intro o' ho'
    rw [ap0]
    have e1 := ap_sum (A := upA (rmA A i) 3 (A 15 i) (A 3 (A 15 i) + 64)) (fr := A 13 i) (to := A 12 i) (k := 4) (o := A 15 i) (w := 64) o'
    rw [e1]
    show upA (rmA A i) 3 (A 15 i) (A 3 (A 15 i) + 64) 3 o' = sm (fun m => A 9 (120 * m + o')) 5 + (sm (msW (rmA A i) o') (A 0 2 - 1) + _)
    have hE := wE o' ho'
    have hs := rm_sum hi o'
    have hmi : msW A o' i = 0 := by
      show (if A 15 i = o' then A 16 i else 0) = 0
      rw [hpos.2.2]
      split <;> rfl
    rw [upA_if]
    by_cases e : o' = A 15 i
    · rw [if_pos e, if_pos e.symm, ← e]; omega
    · rw [if_neg e, if_neg (fun q => e q.symm)]
      show A 3 o' = _
      omega
  · have hwm : wMsg (upA (rmA A i) 3 (A 15 i) (A 3 (A 15 i) + 64)) (rmV A V i) N := by
      refine ⟨show A 0 2 - 1 ≤ 60 by omega, fun x hx => ?_⟩
      have := rm_okm wM hi hf x hx
      exact okm_mono this rfl (fun j h1 h2 => by funext y; exact upA_n _ _ (Or.inl (by omega))) (fun _ _ h => h)
    exact wMsg_ap hwm (show A 0 2 - 1 < 60 by omega) ⟨m2, m1, fun q => m3 q.symm, ho, Or.inr (Or.inr (Or.inr ⟨rfl, by decide, hpos.2.1, rfl⟩))⟩
  · refine ⟨?_, wTo.2⟩
    rw [ap0]
    have e1 := ap_cnt (A := upA (rmA A i) 3 (A 15 i) (A 3 (A 15 i) + 64)) (fr := A 13 i) (to := A 12 i) (k := 4) (o := A 15 i) (w := 64)
    rw [e1, if_neg (by decide)]
    show sm (upA (rmA A i) 3 (A 15 i) (A 3 (A 15 i) + 64) 3) 120 + 64 * (cnt (fun x => rmA A i 14 x == 3) (A 0 2 - 1) + 0) ≤ 64 * cl
    have hc := rm_cnt hi
    rw [if_pos hk] at hc
    have e2 := sm_set (f := A 3) (g := upA (rmA A i) 3 (A 15 i) (A 3 (A 15 i) + 64) 3) (k := A 15 i) (n := 120) (by omega) (fun y hy => upA_n _ _ (Or.inr hy))
    rw [upA_s] at e2
    have := wTo.1
    omega
/-- a GRANT comes to nothing: its weight goes back -/
theorem WF_back {A : tA} {V : tV} {N cl i : Nat} (h : WF A V N cl) (hi : i < A 0 2) (hf : ∀ y, y < i → ¬ (A 12 y = A 12 i ∧ A 13 y = A 13 i)) (hk : A 14 i = 4) : WF (apA (rmA A i) (A 13 i) (A 15 i / 24) 2 (A 15 i) (A 16 i)) (up2 (rmV A V i) 17 (A 0 2 - 1) (-1)) N cl := by
  obtain ⟨⟨h11, hN1, hN5⟩, wR, wF, wT, wW, wE, wM, wTo, wI⟩ := h
  obtain ⟨m1, m2, m3, ho, m5⟩ := wM.2 i hi
  have hms := wM.1
  have hg : 0 < A 16 i ∧ A 12 i = A 15 i / 24 := by
    rcases m5 with m5 | m5 | m5 | m5
    · omega
    · omega
    · omega
    · exact ⟨m5.2.1, m5.2.2.1⟩
  refine ⟨⟨h11, hN1, hN5⟩, wR, wF, wT, wW, ?_, ?_, ?_, wI⟩
  · intro o' ho'
    rw [ap0]
    have e1 := ap_sum (A := rmA A i) (fr := A 13 i) (to := A 15 i / 24) (k := 2) (o := A 15 i) (w := A 16 i) o'
    rw [e1]
    show A 3 o' = sm (fun m => A 9 (120 * m + o')) 5 + (sm (msW (rmA A i) o') (A 0 2 - 1) + _)
    have hE := wE o' ho'
    have hs := rm_sum hi o'
    have hmi : msW A o' i = if A 15 i = o' then A 16 i else 0 := rfl
    rw [← hmi]
    omega
  · have hwm : wMsg (rmA A i) (rmV A V i) N := ⟨show A 0 2 - 1 ≤ 60 by omega, fun x hx => rm_okm wM hi hf x hx⟩
    exact wMsg_ap hwm (show A 0 2 - 1 < 60 by omega) ⟨m2, by omega, by omega, ho, Or.inr (Or.inl ⟨rfl, hg.1, rfl, rfl⟩)⟩
  · refine ⟨?_, wTo.2⟩
    rw [ap0]
    have e1 := ap_cnt (A := rmA A i) (fr := A 13 i) (to := A 15 i / 24) (k := 2) (o := A 15 i) (w := A 16 i)
    rw [e1, if_neg (by decide)]
    show sm (A 3) 120 + 64 * (cnt (fun x => rmA A i 14 x == 3) (A 0 2 - 1) + 0) ≤ 64 * cl
    have hc := rm_cnt hi
    rw [if_neg (by omega)] at hc
    have := wTo.1
    omega
