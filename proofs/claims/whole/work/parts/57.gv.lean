/-! an IMPORT is given back -/
def gvA (A : tA) (n x : Nat) : tA := apA (upA A 9 (120 * n + x) 0) n (x / 24) 2 x (A 9 (120 * n + x))
def gvV (A : tA) (V : tV) : tV := up2 V 17 (A 0 2) (-1)
theorem gvA_0 {A : tA} {n x : Nat} : gvA A n x 0 2 = A 0 2 + 1 := ap0 (A := upA A 9 (120 * n + x) 0)
theorem gvA_9 {A : tA} {n x i : Nat} : gvA A n x 9 i = if i = 120 * n + x then 0 else A 9 i := upA_if (A := A)
theorem gvA_o {A : tA} {n x j : Nat} (h : ¬ (12 ≤ j ∧ j ≤ 16)) (h0 : j ≠ 0) (h9 : j ≠ 9) : gvA A n x j = A j := by
  funext i
  unfold gvA apA
  rw [upA_n _ _ (by omega), upA_n _ _ (by omega), upA_n _ _ (by omega), upA_n _ _ (by omega), upA_n _ _ (by omega), upA_n _ _ (by omega), upA_n _ _ (by omega)]
theorem gvA_01 {A : tA} {n x : Nat} : gvA A n x 0 1 = A 0 1 := rfl
theorem gv_Phi {A : tA} {n x : Nat} (hn : n < 5) (hx : x < 120) (h0 : 0 < A 9 (120 * n + x)) : Phi (gvA A n x) + 1 = Phi A := by
  have h1 := Phi_ap (A := upA A 9 (120 * n + x) 0) (fr := n) (to := x / 24) (k := 2) (o := x) (w := A 9 (120 * n + x))
  have h2 := Phi_9z hn hx h0
  rw [pk_2] at h1
  unfold gvA
  omega
theorem WF_gv {A : tA} {V : tV} {N cl n x : Nat} (h : WF A V N cl) (hms : A 0 2 < 60) (hn : n < N) (hx : x < 120) (h0 : 0 < A 9 (120 * n + x)) (hr : ¬ rH A V n x) (hf : ∀ o, gd A N o → o / 24 = n → ¬ fH A V o x) : WF (gvA A n x) (gvV A V) N cl := by
  obtain ⟨⟨h11, hN1, hN5⟩, wR, wF, wT, wW, wE, wM, wTo, wI⟩ := h
  obtain ⟨-, hxN, hxn⟩ := wW n x (by omega) hx h0
  have h9 : ∀ i, gvA A n x 9 i = if i = 120 * n + x then 0 else A 9 i := fun i => gvA_9
  have h9' : ∀ i, 0 < gvA A n x 9 i → 0 < A 9 i := fun i hi => by
    rw [h9] at hi
    split at hi
    · omega
    · exact hi
  have hok : ∀ m k v, okv A N m k v → (m = n → k = 2 → v ≠ nI x) → okv (gvA A n x) N m k v := by
    intro m k v hv hne
    rcases hv with q | q | ⟨q1, o, q2, q3, q4, q5⟩
    · exact Or.inl q
    · exact Or.inr (Or.inl q)
    · refine Or.inr (Or.inr ⟨q1, o, q2, q3, q4, ?_⟩)
      rcases q5 with q5 | q5
      · exact Or.inl q5
      · right
        rw [h9, if_neg]
        · exact q5
        · intro e
          have hmn : m = n := by omega
          have hox : o = x := by omega
          exact hne hmn q1 (by rw [q3, hox])
  refine ⟨⟨h11, hN1, hN5⟩, fun m a hm ha => ?_, fun o ho ht => ?_, wT, fun m o hm ho hp => wW m o hm ho (h9' _ hp), ?_, ?_, ?_, fun m hm => ?_⟩
  · refine hok m _ _ (wR m a hm ha) (fun e k v => hr ?_)
    subst e
    exact ⟨hx, a, ha, k, v⟩
  · obtain ⟨q1, q2, q3⟩ := wF o ho ht
    refine ⟨q1, fun f hf' => ?_, q3⟩
    refine hok _ _ _ (q2 f hf') (fun e k v => hf o ⟨ho, ht⟩ e ⟨hx, f, hf', k, v⟩)
  · intro o' ho'
    rw [gvA_0]
    have e1 := ap_sum (A := upA A 9 (120 * n + x) 0) (fr := n) (to := x / 24) (k := 2) (o := x) (w := A 9 (120 * n + x)) o'
    show A 3 o' = sm (fun m => gvA A n x 9 (120 * m + o')) 5 + sm (msW (apA (upA A 9 (120 * n + x) 0) n (x / 24) 2 x (A 9 (120 * n + x))) o') (A 0 2 + 1)
    have e1' : sm (msW (apA (upA A 9 (120 * n + x) 0) n (x / 24) 2 x (A 9 (120 * n + x))) o') (A 0 2 + 1) = sm (msW A o') (A 0 2) + (if x = o' then A 9 (120 * n + x) else 0) := e1
    rw [e1']
    have hE := wE o' ho'
    by_cases e : x = o'
    · subst e
      have e2 := sm_set (f := fun m => A 9 (120 * m + x)) (g := fun m => gvA A n x 9 (120 * m + x)) (k := n) (n := 5) (by omega) (fun i hi => by rw [gvA_9, if_neg (by omega)])
      rw [gvA_9, if_pos rfl] at e2
      rw [if_pos rfl]
      omega
    · have e2 : sm (fun m => gvA A n x 9 (120 * m + o')) 5 = sm (fun m => A 9 (120 * m + o')) 5 := sm_ext (fun i hi => by rw [gvA_9, if_neg (by omega)])
      rw [e2, if_neg e]; omega
  · refine ⟨by rw [gvA_0]; omega, fun i hi => ?_⟩
    rw [gvA_0] at hi
    have r12 : ∀ i, gvA A n x 12 i = if i = A 0 2 then n else A 12 i := fun i => ap12 (A := upA A 9 (120 * n + x) 0) i
    have r13 : ∀ i, gvA A n x 13 i = if i = A 0 2 then x / 24 else A 13 i := fun i => ap13 (A := upA A 9 (120 * n + x) 0) i
    have r14 : ∀ i, gvA A n x 14 i = if i = A 0 2 then 2 else A 14 i := fun i => ap14 (A := upA A 9 (120 * n + x) 0) i
    have r15 : ∀ i, gvA A n x 15 i = if i = A 0 2 then x else A 15 i := fun i => ap15 (A := upA A 9 (120 * n + x) 0) i
    have r16 : ∀ i, gvA A n x 16 i = if i = A 0 2 then A 9 (120 * n + x) else A 16 i := fun i => ap16 (A := upA A 9 (120 * n + x) 0) i
    unfold okm gvV
    rw [r12, r13, r14, r15, r16, up2_if]
    by_cases e : i = A 0 2
    · simp only [if_pos e]
      exact ⟨hn, by omega, by omega, hxN, Or.inr (Or.inl ⟨by trivial, h0, by trivial, by trivial⟩)⟩
    · simp only [if_neg e]
      obtain ⟨n1, n2, n3, n4, n5⟩ := wM.2 i (by omega)
      refine ⟨n1, n2, n3, n4, ?_⟩
      rcases n5 with n5 | n5 | ⟨q1, q2, q3, q4, q5⟩ | n5
      · exact Or.inl n5
      · exact Or.inr (Or.inl n5)
      · refine Or.inr (Or.inr (Or.inl ⟨q1, q2, q3, q4, ?_⟩))
        rcases q5 with q5 | ⟨j, j1, j2, j3, j4, j5⟩
        · by_cases d : 120 * A 12 i + A 15 i = 120 * n + x
          · right
            have a1 : A 12 i = n := by omega
            have a2 : A 15 i = x := by omega
            refine ⟨A 0 2, by omega, by rw [gvA_0]; omega, ?_⟩
            rw [r14, r12, r15, if_pos rfl, if_pos rfl, if_pos rfl]
            exact ⟨rfl, a1.symm, a2.symm⟩
          · left
            rw [gvA_9, if_neg d]; exact q5
        · refine Or.inr ⟨j, j1, by rw [gvA_0]; omega, ?_⟩
          rw [r14, r12, r15, if_neg (by omega), if_neg (by omega), if_neg (by omega)]
          exact ⟨j3, j4, j5⟩
      · exact Or.inr (Or.inr (Or.inr n5))
  · refine ⟨?_, wTo.2⟩
    rw [gvA_0]
    have e1 := ap_cnt (A := upA A 9 (120 * n + x) 0) (fr := n) (to := x / 24) (k := 2) (o := x) (w := A 9 (120 * n + x))
    rw [if_neg (by decide)] at e1
    have e1' : cnt (fun i => gvA A n x 14 i == 3) (A 0 2 + 1) = cnt (fun i => A 14 i == 3) (A 0 2) + 0 := e1
    rw [e1']
    have := wTo.1
    show sm (A 3) 120 + _ ≤ _
    omega
  · show imp (upA A 9 (120 * n + x) 0) m ≤ 30
    have := wI m hm
    by_cases e : m = n
    · subst e
      have := imp_gone hx h0
      omega
    · rw [imp_other e hx]; exact this
theorem eR_gives {M n x : Nat} {A : tA} {V : tV} {f2 : jM} (hms : A 0 2 < 64) (hn : n < 5) (hx : x < 120) : mX6_givesBack (mkR M (toR A V) f2) M (nI n) (nI x) = some (mkR M (toR (gvA A n x) (gvV A V)) f2) := by
  unfold mX6_givesBack
  simp (disch := omega) only [rR10, rl9, i120, i24, nI_mul, nI_add, nI_div, gl_nI, tR9, Option.bind_some, rchk, i2]
  have := eR_sends (A := A) (V := V) (M := M) (f0 := f2) (fr := n) (to := x / 24) (k := 2) (o := x) (w := A 9 (120 * n + x)) (r := -1) hms
  rw [this]
  simp (disch := omega) only [Option.bind_some, rR10, rs9, gs_nI]
  rw [i0, uR9]
  have e : upA (apA A n (x / 24) 2 x (A 9 (120 * n + x))) 9 (120 * n + x) 0 = gvA A n x := by
    unfold gvA apA
    rw [upA_comm (j := 0) (j' := 9) (by decide), upA_comm (j := 16) (j' := 9) (by decide), upA_comm (j := 15) (j' := 9) (by decide), upA_comm (j := 14) (j' := 9) (by decide), upA_comm (j := 13) (j' := 9) (by decide), upA_comm (j := 12) (j' := 9) (by decide)]
    rfl
  rw [e]
  rfl
theorem eC_gives {b p N n x cl : Nat} {A : tA} {V : tV} {gn : tN} {gp : tV} {pi : Nat → Nat} {od : Nat → Nat → Nat} {q : Nat → Nat} (hp : b + 2 + 8 * N ≤ p) (hN : N ≤ 5) (hS : SIM A V N gn gp pi od q) (hms : A 0 2 < 60) (hn : n < N) (hx : x < 120) (h0 : 0 < A 9 (120 * n + x)) (hb : A 9 (120 * n + x) < 2 ^ 31) : ∃ gn' gp', (∀ f1, mX2_giveBack (mkC b p N gn gp pi f1) (b + 2 + 8 * n) (nI x) p = some (mkC b p N gn' gp' pi f1)) ∧ SIM (gvA A n x) (gvV A V) N gn' gp' pi od q ∧ (∀ j, 62 ≤ j → gp' j = gp j) := by
  have hP := hS.2.1
  have hpi := hP.2.1 (A 0 2) (by omega)
  have hSn := hS.1 n hn
  have h6 := hSn.2.2.2.2.1 x hx
  have h7 := hSn.2.2.2.2.2.2.2.1
  have hg := imp_gone (A := A) (n := n) (o := x) hx h0
  refine ⟨up3 (up3 gn n 6 x (nI 0)) n 0 1 (nI (imp (upA A 9 (120 * n + x) 0) n)), gput gp (2 + pi (A 0 2)) (nI 2) (nI n) (nI (x / 24)) (nI x) (nI (A 9 (120 * n + x))) (-1) (nI (A 0 2 + 1)), fun f1 => ?_, ?_, fun j hj => gput_r (by omega) (by omega)⟩
  · unfold mX2_giveBack
    simp (disch := omega) only [cNi, Option.bind_some, eC_nodeOf, eC_wOI, h6, cPchk, i2, eC_put hP.1 hms hpi, cchk2]
    unfold mX2_changeWeight mX2_changeWeight_B45
    simp only [eC_isId hx, Option.bind_some]
    rw [if_neg (by decide)]
    simp (disch := omega) only [cNr6, cNl6, cNs6, gl_nI, gs_nI, Option.bind_some, h6]
    rw [nI_addneg (Nat.le_refl _), Nat.sub_self, if_neg (nI_ne0 h0 hb), if_neg (nI_ne0 h0 hb), if_pos (by decide)]
    have hg1 : up3 gn n 6 x (nI 0) n 0 1 = nI (imp A n) := by rw [up3_n _ _ (by omega)]; exact h7
    simp (disch := omega) only [cNg1, cNw1, Option.bind_some, hg1, i1, nI_sub]
    rw [show imp A n - 1 = imp (upA A 9 (120 * n + x) 0) n by omega]
  · have h1 := SIM_w (x := 0) hS hn hx (nI (imp (upA A 9 (120 * n + x) 0) n)) (fun m hm => by
      by_cases e : m = n
      · rw [if_pos e, e]
      · rw [if_neg e, imp_other e hx]
        exact (hS.1 m hm).2.2.2.2.2.2.2.1)
    exact SIM_put (fr := n) (to := x / 24) (k := 2) (o := x) (w := A 9 (120 * n + x)) (rg := -1) h1 hms
/-! a run of them -/
def gvp (U : Nat → Bool) (c : Nat) : Nat → tA × tV → tA × tV
  | 0, s => s
  | k + 1, s => if U (c + k) then (gvA (gvp U c k s).1 ((c + k) / 120) ((c + k) % 120), gvV (gvp U c k s).1 (gvp U c k s).2) else gvp U c k s
theorem gvp_9 {U : Nat → Bool} {c : Nat} {s : tA × tV} : ∀ k i, (gvp U c k s).1 9 i = if c ≤ i ∧ i < c + k ∧ U i = true then 0 else s.1 9 i := by
  intro k
  induction k with
  | zero => intro i; rw [if_neg (by omega)]; rfl
  | succ k ih =>
    intro i
    cases hU : U (c + k) with
    | true =>
      simp only [gvp, hU, if_true]
      rw [gvA_9, show 120 * ((c + k) / 120) + (c + k) % 120 = c + k by omega]
      by_cases e : i = c + k
      · rw [if_pos e, if_pos ⟨by omega, by omega, by rw [e]; exact hU⟩]
      · rw [if_neg e, ih]
        by_cases d : c ≤ i ∧ i < c + k ∧ U i = true
        · rw [if_pos d, if_pos ⟨d.1, by omega, d.2.2⟩]
        · rw [if_neg d, if_neg (fun w => d ⟨w.1, by omega, w.2.2⟩)]
    | false =>
      simp only [gvp, hU]
      show (gvp U c k s).1 9 i = _
      rw [ih]
      by_cases e : i = c + k
      · rw [if_neg (by omega), if_neg (fun w => by rw [e, hU] at w; exact absurd w.2.2 (by decide))]
      · by_cases d : c ≤ i ∧ i < c + k ∧ U i = true
        · rw [if_pos d, if_pos ⟨d.1, by omega, d.2.2⟩]
        · rw [if_neg d, if_neg (fun w => d ⟨w.1, by omega, w.2.2⟩)]
theorem gvp_0 {U : Nat → Bool} {c : Nat} {s : tA × tV} : ∀ k, (gvp U c k s).1 0 2 = s.1 0 2 + cnt (fun i => U (c + i)) k := by
  intro k
  induction k with
  | zero => rfl
  | succ k ih =>
    cases hU : U (c + k) with
    | true =>
      simp only [gvp, hU, if_true, cnt]
      rw [gvA_0, ih]
      omega
    | false =>
      simp only [gvp, hU, cnt]
      exact ih
theorem gvp_o {U : Nat → Bool} {c : Nat} {s : tA × tV} {j : Nat} (h : ¬ (12 ≤ j ∧ j ≤ 16)) (h0 : j ≠ 0) (h9 : j ≠ 9) : ∀ k, (gvp U c k s).1 j = s.1 j := by
  intro k
  induction k with
  | zero => rfl
  | succ k ih =>
    cases hU : U (c + k) with
    | true =>
      simp only [gvp, hU, if_true]
      rw [gvA_o h h0 h9, ih]
    | false =>
      simp only [gvp, hU]
      exact ih
theorem gvp_01 {U : Nat → Bool} {c : Nat} {s : tA × tV} : ∀ k, (gvp U c k s).1 0 1 = s.1 0 1 := by
  intro k
  induction k with
  | zero => rfl
  | succ k ih =>
    cases hU : U (c + k) with
    | true =>
      simp only [gvp, hU, if_true]
      exact ih
    | false =>
      simp only [gvp, hU]
      exact ih
theorem gvp_V {U : Nat → Bool} {c : Nat} {s : tA × tV} {j : Nat} (h : j ≠ 17) : ∀ k, (gvp U c k s).2 j = s.2 j := by
  intro k
  induction k with
  | zero => rfl
  | succ k ih =>
    cases hU : U (c + k) with
    | true =>
      simp only [gvp, hU, if_true]
      unfold gvV
      rw [up2_other _ _ _ h, ih]
    | false =>
      simp only [gvp, hU]
      exact ih
theorem gvp_add {U : Nat → Bool} {c k : Nat} {s : tA × tV} : ∀ k', gvp U c (k + k') s = gvp U (c + k) k' (gvp U c k s) := by
  intro k'
  induction k' with
  | zero => rfl
  | succ k' ih =>
    show gvp U c (k + k' + 1) s = _
    simp only [gvp]
    rw [ih, show c + (k + k') = c + k + k' by omega]
theorem gvp_WF {U : Nat → Bool} {c N cl : Nat} {s : tA × tV} (hW : WF s.1 s.2 N cl) (hU : ∀ i, i < 600 → U i = true → i / 120 < N ∧ 0 < s.1 9 i ∧ ¬ rH s.1 s.2 (i / 120) (i % 120) ∧ ∀ o, gd s.1 N o → o / 24 = i / 120 → ¬ fH s.1 s.2 o (i % 120)) : ∀ k, c + k ≤ 600 → s.1 0 2 + cnt (fun i => U (c + i)) k ≤ 60 → WF (gvp U c k s).1 (gvp U c k s).2 N cl ∧ Phi (gvp U c k s).1 + cnt (fun i => U (c + i)) k = Phi s.1 := by
  have hN5 := hW.1.2.2
  intro k
  induction k with
  | zero => intro _ _; exact ⟨hW, rfl⟩
  | succ k ih =>
    intro h1 h2
    cases hUk : U (c + k) with
    | false =>
      simp only [gvp, hUk, cnt]
      have h3 : cnt (fun i => U (c + i)) (k + 1) = cnt (fun i => U (c + i)) k := by simp only [cnt, hUk]; rfl
      exact ih (by omega) (by omega)
    | true =>
      have h3 : cnt (fun i => U (c + i)) (k + 1) = cnt (fun i => U (c + i)) k + 1 := by simp only [cnt, hUk, if_true]
      obtain ⟨i1, i2⟩ := ih (by omega) (by omega)
      obtain ⟨u1, u2, u3, u4⟩ := hU (c + k) (by omega) hUk
      have e9 : (gvp U c k s).1 9 (120 * ((c + k) / 120) + (c + k) % 120) = s.1 9 (c + k) := by
        rw [gvp_9, show 120 * ((c + k) / 120) + (c + k) % 120 = c + k by omega, if_neg (by omega)]
      have e0 := gvp_0 (U := U) (c := c) (s := s) k
      have r7 := gvp_o (U := U) (c := c) (s := s) (j := 7) (by omega) (by omega) (by omega) k
      have r1 := gvp_o (U := U) (c := c) (s := s) (j := 1) (by omega) (by omega) (by omega) k
      have r4 := gvp_o (U := U) (c := c) (s := s) (j := 4) (by omega) (by omega) (by omega) k
      have r5 := gvp_o (U := U) (c := c) (s := s) (j := 5) (by omega) (by omega) (by omega) k
      have v8 := gvp_V (U := U) (c := c) (s := s) (j := 8) (by omega) k
      have v6 := gvp_V (U := U) (c := c) (s := s) (j := 6) (by omega) k
      simp only [gvp, hUk, if_true]
      refine ⟨WF_gv i1 (by omega) u1 (by omega) (by rw [e9]; exact u2) (fun w => u3 ?_) (fun o w1 w2 w3 => u4 o ?_ w2 ?_), ?_⟩
      · unfold rH at w ⊢
        rw [r7, v8] at w
        exact w
      · unfold gd at w1 ⊢
        rw [r4] at w1
        exact w1
      · unfold fH at w3 ⊢
        rw [r1, r5, v6] at w3
        exact w3
      · have := gv_Phi (A := (gvp U c k s).1) (n := (c + k) / 120) (x := (c + k) % 120) (by omega) (by omega) (by rw [e9]; exact u2)
        omega
