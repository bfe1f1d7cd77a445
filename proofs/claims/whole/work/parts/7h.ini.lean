/-! the constructors -/
theorem mapE {α : Type} {o : Option (α × Nat × Nat × Nat)} {c s : Nat} {Q : α × Nat × Nat × Nat → Prop} (h : ∃ r, o = some r ∧ Q (jcnt c s r)) : ∃ r, o.map (jcnt c s) = some r ∧ Q r := by
  obtain ⟨r, rfl, h⟩ := h
  exact ⟨_, rfl, h⟩
theorem bindE {α β : Type} {o : Option β} {K : β → Option α} {x : β} {Q : α → Prop} (h : o = some x) (h2 : ∃ r, K x = some r ∧ Q r) : ∃ r, o.bind K = some r ∧ Q r := by
  subst h
  exact h2
def rwr (f : jM) (a : Nat) (kl : Nat → Nat × Nat) : Nat → jM
  | 0 => f
  | j + 1 => va_up (rwr f a kl j) (a + (j + 1)) (some (.inl ((kl (j + 1)).1, (kl (j + 1)).2, .inl (fun _ => 0))))
theorem rwr_at {f : jM} {a : Nat} {kl : Nat → Nat × Nat} : ∀ {J x : Nat}, rwr f a kl J x = if a < x ∧ x ≤ a + J then some (.inl ((kl (x - a)).1, (kl (x - a)).2, .inl (fun _ => 0))) else f x := by
  intro J
  induction J with
  | zero =>
    intro x
    rw [if_neg (by omega)]
    rfl
  | succ J ih =>
    intro x
    rw [rwr]
    by_cases h : x = a + (J + 1)
    · subst h
      rw [va_up_self, if_pos (by omega), show a + (J + 1) - a = J + 1 by omega]
    · rw [va_up_ne _ _ h, ih]
      by_cases h2 : a < x ∧ x ≤ a + J
      · rw [if_pos h2, if_pos (by omega)]
      · rw [if_neg h2, if_neg (by omega)]
theorem col {f : jM} {a s : Nat} {O R O' : Option jC} (h : s ≠ a) : va_up (va_up (va_up f a O) s R) a O' = va_up (va_up f s R) a O' := by
  funext x
  by_cases h1 : x = a
  · subst h1; rw [va_up_self, va_up_self]
  · rw [va_up_ne _ _ h1, va_up_ne _ _ h1]
    by_cases h2 : x = s
    · subst h2; rw [va_up_self, va_up_self]
    · rw [va_up_ne _ _ h2, va_up_ne _ _ h2, va_up_ne _ _ h1]
theorem mstep {α : Type} {ci : Nat} {f : jM} {a k kd c s m : Nat} {n : Int32} {fs : List Value} {K : jM → Option (α × Nat × Nat × Nat)} {Q : α × Nat × Nat × Nat → Prop} (j : Nat) (kl : Nat → Nat × Nat) (h1 : kl (j + 1) = (kd, n.toNatClampNeg)) (h2 : ¬ (n < 0 ∨ 100000 < n.toNatClampNeg)) (hl : fs.length = m) (hk : k < m) (h : ∀ fs', fs' = fs.set k (.ref (a + (j + 1))) → fs'.length = m → ∃ r, K (va_up (rwr f a kl (j + 1)) a (some (.inr (ci, fs')))) = some r ∧ Q (jcnt c s r)) : ∃ r, ((nwI kd (va_up (rwr f a kl j) a (some (.inr (ci, fs)))) (a + (j + 1)) n).bind fun f1 => (wrV ci f1 a k (.ref (a + (j + 1)))).bind K).map (jcnt c s) = some r ∧ Q r := by
  refine mapE ?_
  refine bindE (x := va_up (va_up (rwr f a kl j) a (some (.inr (ci, fs)))) (a + (j + 1)) (some (.inl (kd, n.toNatClampNeg, .inl (fun _ => 0))))) (by unfold nwI; rw [if_neg h2]) ?_
  refine bindE (wrV_of (fs := fs) (by rw [va_up_ne _ _ (by omega), va_up_self]) (by omega)) ?_
  rw [col (by omega)]
  have e : va_up (rwr f a kl j) (a + (j + 1)) (some (.inl (kd, n.toNatClampNeg, .inl (fun _ => 0)))) = rwr f a kl (j + 1) := by
    rw [rwr, h1]
  rw [e]
  exact h _ rfl (by rw [List.length_set]; exact hl)
/-! the reference's -/
def A0 (N : Nat) : tA := fun j i => if j = 0 ∧ i = 1 then N else 0
def V0 : tV := fun _ _ => 0
def b28 : List Value := [.int 0, .int 0, .null, .null, .null, .null, .null, .null, .null, .null, .null, .null, .null, .int 0, .null, .null, .null, .null, .null, .null, .null, .null, .int 0, .null, .null, .null, .null, .null]
def clN (v : Int32) (N : Nat) : Prop := 1 ≤ N ∧ N ≤ 5 ∧ ((1 ≤ v ∧ v ≤ 5 ∧ v = nI N) ∨ (1 ≤ v ∧ ¬ v ≤ 5 ∧ N = 5) ∨ (¬ 1 ≤ v ∧ N = 1))
theorem clN_ex (v : Int32) : ∃ N, clN v N := by
  by_cases h1 : (1 : Int32) ≤ v
  · by_cases h5 : v ≤ 5
    · rcases idx v (n := 6) (by decide) with ⟨j, hj, rfl⟩ | h
      · refine ⟨j, ?_, by omega, Or.inl ⟨h1, h5, rfl⟩⟩
        rcases Nat.eq_zero_or_pos j with u | u
        · subst u; exact absurd h1 (by decide)
        · exact u
      · exfalso
        rcases h with h | h
        · exact absurd (Int32.lt_of_le_of_lt h1 h) (by decide)
        · exact absurd (Int32.le_trans h h5) (by decide)
    · exact ⟨5, by omega, by omega, Or.inr (Or.inl ⟨h1, h5, rfl⟩)⟩
  · exact ⟨1, by omega, by omega, Or.inr (Or.inr ⟨h1, rfl⟩)⟩
theorem ini_R {f0 : jM} {M N : Nat} : va_up (rwr f0 M (fun j => (kdR j, lenR j)) 24) M (some (.inr (6, objR M (toR (A0 N) V0)))) = mkR M (toR (A0 N) V0) f0 := by
  funext x
  by_cases h : x = M
  · subst h
    rw [va_up_self, mkR_b]
  · rw [va_up_ne _ _ h, rwr_at]
    by_cases h2 : M < x ∧ x ≤ M + 24
    · obtain ⟨j, rfl⟩ : ∃ j, x = M + j := ⟨x - M, by omega⟩
      rw [if_pos h2, mkR_j (by omega) (by omega), show M + j - M = j by omega]
      have : toR (A0 N) V0 j = fun _ => 0 := by
        funext i
        unfold toR A0 V0
        rw [if_neg (show ¬ (j = 0 ∧ i = 1) by omega)]
        by_cases c : isV j = true
        · rw [if_pos c]
        · rw [if_neg c]; rfl
      rw [this]
    · rw [if_neg h2, mkR_o (by omega)]
theorem init6 {f0 : jM} {M N : Nat} {v : Int32} (hv : clN v N) : ∃ r, mX6_init (va_up f0 M (some (.inr (6, b28)))) (M + 1) M v = some r ∧ r.1 = mkR M (toR (A0 N) V0) f0 ∧ r.2.2.1 ≤ 100 ∧ r.2.2.2 ≤ 100000 := by
  unfold mX6_init
  simp only [Nat.add_assoc, Nat.reduceAdd]
  obtain ⟨fs0, e0, l0⟩ : ∃ fs0, fs0 = b28 ∧ fs0.length = 28 := ⟨b28, rfl, rfl⟩
  rw [← e0]
  refine mstep 0 (fun j => (kdR j, lenR j)) (by decide) (by decide) l0 (by decide) ?_
  intro fs1 e1 l1
  refine mstep 1 (fun j => (kdR j, lenR j)) (by decide) (by decide) l1 (by decide) ?_
  intro fs2 e2 l2
  refine mstep 2 (fun j => (kdR j, lenR j)) (by decide) (by decide) l2 (by decide) ?_
  intro fs3 e3 l3
  refine mstep 3 (fun j => (kdR j, lenR j)) (by decide) (by decide) l3 (by decide) ?_
  intro fs4 e4 l4
  refine mstep 4 (fun j => (kdR j, lenR j)) (by decide) (by decide) l4 (by decide) ?_
  intro fs5 e5 l5
  refine mstep 5 (fun j => (kdR j, lenR j)) (by decide) (by decide) l5 (by decide) ?_
  intro fs6 e6 l6
  refine mstep 6 (fun j => (kdR j, lenR j)) (by decide) (by decide) l6 (by decide) ?_
  intro fs7 e7 l7
  refine mstep 7 (fun j => (kdR j, lenR j)) (by decide) (by decide) l7 (by decide) ?_
  intro fs8 e8 l8
  refine mstep 8 (fun j => (kdR j, lenR j)) (by decide) (by decide) l8 (by decide) ?_
  intro fs9 e9 l9
  refine mstep 9 (fun j => (kdR j, lenR j)) (by decide) (by decide) l9 (by decide) ?_
  intro fs10 e10 l10
  refine mstep 10 (fun j => (kdR j, lenR j)) (by decide) (by decide) l10 (by decide) ?_
  intro fs11 e11 l11
  refine mstep 11 (fun j => (kdR j, lenR j)) (by decide) (by decide) l11 (by decide) ?_
  intro fs12 e12 l12
  refine mstep 12 (fun j => (kdR j, lenR j)) (by decide) (by decide) l12 (by decide) ?_
  intro fs13 e13 l13
  refine mstep 13 (fun j => (kdR j, lenR j)) (by decide) (by decide) l13 (by decide) ?_
  intro fs14 e14 l14
  refine mstep 14 (fun j => (kdR j, lenR j)) (by decide) (by decide) l14 (by decide) ?_
  intro fs15 e15 l15
  refine mstep 15 (fun j => (kdR j, lenR j)) (by decide) (by decide) l15 (by decide) ?_
  intro fs16 e16 l16
  refine mstep 16 (fun j => (kdR j, lenR j)) (by decide) (by decide) l16 (by decide) ?_
  intro fs17 e17 l17
  refine mstep 17 (fun j => (kdR j, lenR j)) (by decide) (by decide) l17 (by decide) ?_
  intro fs18 e18 l18
  refine mstep 18 (fun j => (kdR j, lenR j)) (by decide) (by decide) l18 (by decide) ?_
  intro fs19 e19 l19
  refine mstep 19 (fun j => (kdR j, lenR j)) (by decide) (by decide) l19 (by decide) ?_
  intro fs20 e20 l20
  refine mstep 20 (fun j => (kdR j, lenR j)) (by decide) (by decide) l20 (by decide) ?_
  intro fs21 e21 l21
  refine mstep 21 (fun j => (kdR j, lenR j)) (by decide) (by decide) l21 (by decide) ?_
  intro fs22 e22 l22
  refine mstep 22 (fun j => (kdR j, lenR j)) (by decide) (by decide) l22 (by decide) ?_
  intro fs23 e23 l23
  refine mstep 23 (fun j => (kdR j, lenR j)) (by decide) (by decide) l23 (by decide) ?_
  intro fs24 e24 l24
  have eq : fs24 = objR M (toR (A0 0) V0) := by
    rw [e24, e23, e22, e21, e20, e19, e18, e17, e16, e15, e14, e13, e12, e11, e10, e9, e8, e7, e6, e5, e4, e3, e2, e1, e0]
    simp only [b28, List.set_cons_succ, List.set_cons_zero, objR]
    rfl
  rw [eq]
  have fin : ∀ x : Int32, x = nI N → (wrV 6 (va_up (rwr f0 M (fun j => (kdR j, lenR j)) 24) M (some (.inr (6, objR M (toR (A0 0) V0))))) M 1 (.int x)) = some (mkR M (toR (A0 N) V0) f0) := by
    intro x hx
    rw [wrV_of (va_up_self _ _ _) (Nat.le_of_ble_eq_true rfl), ← ini_R]
    congr 1
    funext y
    by_cases h : y = M
    · subst h
      rw [va_up_self, va_up_self, hx]
      rfl
    · rw [va_up_ne _ _ h, va_up_ne _ _ h, va_up_ne _ _ h]
  obtain ⟨h1, h5, hv⟩ := hv
  rcases hv with ⟨u1, u2, u3⟩ | ⟨u1, u2, u3⟩ | ⟨u1, u3⟩
  · rw [if_pos u1, if_pos u2]
    refine bindE (fin v u3) ?_
    exact ⟨_, rfl, rfl, by simp only [jcnt]; decide +kernel, by simp only [jcnt]; decide +kernel⟩
  · rw [if_pos u1, if_neg u2]
    refine bindE (fin 5 (by rw [u3]; rfl)) ?_
    exact ⟨_, rfl, rfl, by simp only [jcnt]; decide +kernel, by simp only [jcnt]; decide +kernel⟩
  · rw [if_neg u1]
    refine bindE (fin 1 (by rw [u3]; rfl)) ?_
    exact ⟨_, rfl, rfl, by simp only [jcnt]; decide +kernel, by simp only [jcnt]; decide +kernel⟩
