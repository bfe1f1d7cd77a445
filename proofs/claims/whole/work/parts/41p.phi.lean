/-! a measure that every event lowers -/
def pk (k : Nat) : Nat := if k = 1 ∨ k = 3 then 3 else if k = 4 then 2 else 1
def Phi (A : tA) : Nat := sm (fun i => pk (A 14 i)) (A 0 2) + 2 * sm (imp A) 5 + cnt (fun o => A 4 o == 1) 120
theorem Phi_rm {A : tA} {i : Nat} (hi : i < A 0 2) : Phi (rmA A i) + pk (A 14 i) = Phi A := by
  have h1 : sm (fun x => pk (rmA A i 14 x)) (A 0 2 - 1) = sm (fun x => pk (A 14 (sk i x))) (A 0 2 - 1) := sm_ext (fun x hx => by
    rw [rmA_r (by omega) hx])
  have h2 := sm_sk (f := fun x => pk (A 14 x)) (i := i) (n := A 0 2 - 1) (by omega)
  rw [show A 0 2 - 1 + 1 = A 0 2 by omega] at h2
  have h3 : imp (rmA A i) = imp A := rfl
  have h4 : rmA A i 4 = A 4 := rfl
  unfold Phi
  rw [rmA_0, h1, h3, h4]
  omega
theorem Phi_ap {A : tA} {fr to k o w : Nat} : Phi (apA A fr to k o w) = Phi A + pk k := by
  have h1 : sm (fun x => pk (apA A fr to k o w 14 x)) (A 0 2 + 1) = sm (fun x => pk (A 14 x)) (A 0 2) + pk k := by
    show sm _ (A 0 2) + _ = _
    rw [sm_ext (g := fun x => pk (A 14 x)) (fun x hx => by rw [ap14, if_neg (by omega)])]
    dsimp only
    rw [ap14, if_pos rfl]
  have h3 : imp (apA A fr to k o w) = imp A := rfl
  have h4 : apA A fr to k o w 4 = A 4 := rfl
  unfold Phi
  rw [ap0, h1, h3, h4]
  omega
theorem Phi_9k {A : tA} {n o x : Nat} (ho : o < 120) (h : 0 < x ↔ 0 < A 9 (120 * n + o)) : Phi (upA A 9 (120 * n + o) x) = Phi A := by
  have h3 : imp (upA A 9 (120 * n + o) x) = imp A := funext (fun m => imp_keep ho h)
  unfold Phi
  rw [h3]
  rfl
theorem Phi_9n {A : tA} {n o x : Nat} (hn : n < 5) (ho : o < 120) (h0 : A 9 (120 * n + o) = 0) (hx : 0 < x) : Phi (upA A 9 (120 * n + o) x) = Phi A + 2 := by
  have h3 := sm_set (f := imp A) (g := imp (upA A 9 (120 * n + o) x)) (k := n) (n := 5) hn (fun m hm => imp_other hm ho)
  rw [imp_new ho h0 hx] at h3
  have e1 : (fun i => pk (upA A 9 (120 * n + o) x 14 i)) = fun i => pk (A 14 i) := rfl
  have e2 : upA A 9 (120 * n + o) x 0 2 = A 0 2 := rfl
  have e3 : upA A 9 (120 * n + o) x 4 = A 4 := rfl
  unfold Phi
  rw [e1, e2, e3]
  omega
theorem imp_gone {A : tA} {n o : Nat} (ho : o < 120) (h0 : 0 < A 9 (120 * n + o)) : imp (upA A 9 (120 * n + o) 0) n + 1 = imp A n := by
  have := imp_new (A := upA A 9 (120 * n + o) 0) (n := n) (o := o) (x := A 9 (120 * n + o)) ho (upA_s _ _ _ _) h0
  rw [← this]
  congr 1
  funext j i
  by_cases e : j = 9 ∧ i = 120 * n + o
  · rw [e.1, e.2, upA_s]
  · rw [upA_n _ _ (by omega), upA_n _ _ (by omega)]
theorem Phi_9z {A : tA} {n o : Nat} (hn : n < 5) (ho : o < 120) (h0 : 0 < A 9 (120 * n + o)) : Phi (upA A 9 (120 * n + o) 0) + 2 = Phi A := by
  have h3 := sm_set (f := imp A) (g := imp (upA A 9 (120 * n + o) 0)) (k := n) (n := 5) hn (fun m hm => imp_other hm ho)
  have := imp_gone ho h0
  have e1 : (fun i => pk (upA A 9 (120 * n + o) 0 14 i)) = fun i => pk (A 14 i) := rfl
  have e2 : upA A 9 (120 * n + o) 0 0 2 = A 0 2 := rfl
  have e3 : upA A 9 (120 * n + o) 0 4 = A 4 := rfl
  unfold Phi
  rw [e1, e2, e3]
  omega
theorem pk_1 : pk 1 = 3 := rfl
theorem pk_2 : pk 2 = 1 := rfl
theorem pk_3 : pk 3 = 3 := rfl
theorem pk_4 : pk 4 = 2 := rfl
theorem pk3 {k : Nat} : pk k ≤ 3 := by
  unfold pk
  split
  · omega
  · split <;> omega
theorem sm_bd {f : Nat → Nat} {c : Nat} : ∀ {n : Nat}, (∀ i, i < n → f i ≤ c) → sm f n ≤ c * n := by
  intro n
  induction n with
  | zero => intro _; exact Nat.zero_le _
  | succ n ih =>
    intro h
    have h1 := ih (fun i hi => h i (by omega))
    have h2 := h n (by omega)
    show sm f n + f n ≤ c * (n + 1)
    rw [Nat.mul_add]
    omega
theorem imp0 {A : tA} {N n : Nat} (h : wWgt A N) (hn : n < 5) (hN : N ≤ n) : imp A n = 0 := by
  have : cnt (fun o => decide (0 < A 9 (120 * n + o))) 120 = cnt (fun _ => false) 120 := cnt_ext (fun o ho => by
    have : ¬ 0 < A 9 (120 * n + o) := fun q => by
      have := (h n o hn ho q).1
      omega
    simp [this])
  have h2 : ∀ k, cnt (fun _ => false) k = 0 := by
    intro k
    induction k with
    | zero => rfl
    | succ k ih => simp [cnt, ih]
  unfold imp
  rw [this, h2]
theorem Phi_bd {A : tA} {V : tV} {N cl : Nat} (h : WF A V N cl) : Phi A ≤ 600 := by
  obtain ⟨⟨h11, hN1, hN5⟩, wR, wF, wT, wW, wE, wM, wTo, wI⟩ := h
  have h1 := sm_bd (f := fun i => pk (A 14 i)) (c := 3) (n := A 0 2) (fun i _ => pk3)
  have h2 := sm_bd (f := imp A) (c := 30) (n := 5) (fun i hi => by
    by_cases e : i < N
    · exact wI i e
    · rw [imp0 wW hi (by omega)]; omega)
  have h3 := cnt_le (fun o => A 4 o == 1) 120
  have h4 := wM.1
  unfold Phi
  omega
