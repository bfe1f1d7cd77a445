/-! THE STATE: numbers A and values V, as the reference's table has them; what always holds of them; how the class's tables hang on them -/
abbrev tA : Type := Nat → Nat → Nat
abbrev tV : Type := Nat → Nat → Int32
def sm (f : Nat → Nat) : Nat → Nat
  | 0 => 0
  | n + 1 => sm f n + f n
theorem sm_ext {f g : Nat → Nat} {n : Nat} (h : ∀ i, i < n → f i = g i) : sm f n = sm g n := by
  induction n with
  | zero => rfl
  | succ n ih => simp only [sm]; rw [ih (fun i hi => h i (by omega)), h n (by omega)]
theorem sm_le {f : Nat → Nat} {n i : Nat} (h : i < n) : f i ≤ sm f n := by
  induction n with
  | zero => omega
  | succ n ih =>
    simp only [sm]
    by_cases hi : i = n
    · subst hi; omega
    · have := ih (by omega); omega
def okv (A : tA) (N n k : Nat) (v : Int32) : Prop := (k = 0 ∧ v = 0) ∨ k = 1 ∨ (k = 2 ∧ ∃ o, o < 24 * N ∧ v = nI o ∧ A 4 o = 1 ∧ (o / 24 = n ∨ 0 < A 9 (120 * n + o)))
def wReg (A : tA) (V : tV) (N : Nat) : Prop := ∀ n a, n < N → a < 6 → okv A N n (A 7 (6 * n + a)) (V 8 (6 * n + a))
def wFld (A : tA) (V : tV) (N : Nat) : Prop := ∀ o, o < 24 * N → A 4 o = 1 → A 1 o ≤ 12 ∧ (∀ f, f < A 1 o → okv A N (o / 24) (A 5 (12 * o + f)) (V 6 (12 * o + f))) ∧ ∀ f, A 1 o ≤ f → f < 12 → A 5 (12 * o + f) = 0 ∧ V 6 (12 * o + f) = 0
def wThe (A : tA) (N : Nat) : Prop := ∀ o, o < 120 → (A 4 o = 1 ∧ o < 24 * N) ∨ (A 4 o = 0 ∧ A 3 o = 0)
def wWgt (A : tA) (N : Nat) : Prop := ∀ n o, n < 5 → o < 120 → 0 < A 9 (120 * n + o) → n < N ∧ o < 24 * N ∧ o / 24 ≠ n
def msW (A : tA) (o : Nat) : Nat → Nat := fun i => if A 15 i = o then A 16 i else 0
def wEve (A : tA) : Prop := ∀ o, o < 120 → A 3 o = sm (fun m => A 9 (120 * m + o)) 5 + sm (msW A o) (A 0 2)
def okm (A : tA) (V : tV) (N i : Nat) : Prop := A 12 i < N ∧ A 13 i < N ∧ A 12 i ≠ A 13 i ∧ A 15 i < 24 * N ∧ ((A 14 i = 1 ∧ 0 < A 16 i ∧ ∃ r, r < 6 ∧ V 17 i = nI r) ∨ (A 14 i = 2 ∧ 0 < A 16 i ∧ A 13 i = A 15 i / 24 ∧ V 17 i = -1) ∨ (A 14 i = 3 ∧ A 16 i = 0 ∧ A 13 i = A 15 i / 24 ∧ V 17 i = -1 ∧ (0 < A 9 (120 * A 12 i + A 15 i) ∨ ∃ j, i < j ∧ j < A 0 2 ∧ A 14 j = 2 ∧ A 12 j = A 12 i ∧ A 15 j = A 15 i)) ∨ (A 14 i = 4 ∧ 0 < A 16 i ∧ A 12 i = A 15 i / 24 ∧ V 17 i = -1))
def wMsg (A : tA) (V : tV) (N : Nat) : Prop := A 0 2 ≤ 60 ∧ ∀ i, i < A 0 2 → okm A V N i
def wTot (A : tA) (cl : Nat) : Prop := sm (A 3) 120 + 64 * cnt (fun i => A 14 i == 3) (A 0 2) ≤ 64 * cl ∧ cl ≤ 512
def imp (A : tA) (n : Nat) : Nat := cnt (fun o => decide (0 < A 9 (120 * n + o))) 120
def wImp (A : tA) (N : Nat) : Prop := ∀ n, n < N → imp A n ≤ 30
def lay1 (A : tA) (n : Nat) (od : Nat → Nat) (q : Nat) : Prop := q ≤ 24 ∧ (∀ i, i < q → od i < 24 ∧ A 4 (24 * n + od i) = 1 ∧ A 2 (24 * n + od i) = sm (fun j => A 1 (24 * n + od j) + 1) i) ∧ (∀ i j, i < q → j < q → od i = od j → i = j) ∧ (∀ k, k < 24 → A 4 (24 * n + k) = 1 → ∃ i, i < q ∧ od i = k) ∧ A 10 n = sm (fun j => A 1 (24 * n + od j) + 1) q ∧ A 10 n ≤ 160 ∧ q = cnt (fun k => A 4 (24 * n + k) == 1) 24
def wLay (A : tA) (N : Nat) (od : Nat → Nat → Nat) (q : Nat → Nat) : Prop := ∀ n, n < N → lay1 A n (od n) (q n)
def WF (A : tA) (V : tV) (N cl : Nat) : Prop := (A 0 1 = N ∧ 1 ≤ N ∧ N ≤ 5) ∧ wReg A V N ∧ wFld A V N ∧ wThe A N ∧ wWgt A N ∧ wEve A ∧ wMsg A V N ∧ wTot A cl ∧ wImp A N
theorem WF.more {A : tA} {V : tV} {N cl : Nat} (h : WF A V N cl) (hc : cl < 512) : WF A V N (cl + 1) := by
  obtain ⟨h1, h2, h3, h4, h5, h6, h7, h8, h9⟩ := h
  exact ⟨h1, h2, h3, h4, h5, h6, h7, ⟨by have := h8.1; omega, by omega⟩, h9⟩
/-- the kind as the class has it -/
def ckd (n k : Nat) (v : Int32) : Int32 := if k = 2 ∧ v.toNatClampNeg / 24 ≠ n then 3 else nI k
def SN (A : tA) (V : tV) (n : Nat) (gn : tN) (od : Nat → Nat) (q : Nat) : Prop :=
  (∀ a, a < 6 → gn n 1 a = ckd n (A 7 (6 * n + a)) (V 8 (6 * n + a)) ∧ gn n 2 a = V 8 (6 * n + a)) ∧
  (∀ k f, k < 24 → f < 12 → A 4 (24 * n + k) = 1 → gn n 1 (6 + 12 * k + f) = ckd n (A 5 (12 * (24 * n + k) + f)) (V 6 (12 * (24 * n + k) + f)) ∧ gn n 2 (6 + 12 * k + f) = V 6 (12 * (24 * n + k) + f)) ∧
  (∀ k f, k < 24 → f < 12 → A 4 (24 * n + k) ≠ 1 → gn n 1 (6 + 12 * k + f) = 0 ∧ gn n 2 (6 + 12 * k + f) = 0) ∧
  (∀ k, k < 24 → (A 4 (24 * n + k) = 1 → gn n 3 k = nI (A 1 (24 * n + k)) ∧ gn n 4 k = nI (A 2 (24 * n + k))) ∧ (A 4 (24 * n + k) ≠ 1 → gn n 3 k = -1) ∧ gn n 5 k = nI (A 3 (24 * n + k))) ∧
  (∀ o, o < 120 → gn n 6 o = nI (A 9 (120 * n + o))) ∧
  (∀ i, i < q → gn n 7 i = nI (od i)) ∧
  (gn n 0 0 = nI q ∧ gn n 0 1 = nI (imp A n) ∧ gn n 0 2 = nI (A 10 n) ∧ gn n 0 3 = V 11 n)
def SP (A : tA) (V : tV) (gp : tV) (pi : Nat → Nat) : Prop := gp 0 0 = nI (A 0 2) ∧ (∀ i, i < 60 → pi i < 60) ∧ (∀ i j, i < 60 → j < 60 → pi i = pi j → i = j) ∧ ∀ i, i < A 0 2 → gp (2 + pi i) 0 = nI (A 14 i) ∧ gp (2 + pi i) 1 = nI (A 12 i) ∧ gp (2 + pi i) 2 = nI (A 13 i) ∧ gp (2 + pi i) 3 = nI (A 15 i) ∧ gp (2 + pi i) 4 = nI (A 16 i) ∧ gp (2 + pi i) 5 = V 17 i
def MK (gp : tV) (r : Nat) (m : Nat) (e : Nat → Nat) : Prop := m ≤ 120 ∧ gp r 0 = nI m ∧ (∀ i, i < m → e i < 120 ∧ gp (r + 2) i = nI (e i)) ∧ (∀ i j, i < m → j < m → e i = e j → i = j) ∧ ∀ x, x < 120 → (gp (r + 1) x = 1 ∧ ∃ i, i < m ∧ e i = x) ∨ (gp (r + 1) x = 0 ∧ ∀ i, i < m → e i ≠ x)
def SM (gp : tV) : Prop := ∀ r, isM r → ∃ m e, MK gp r m e
def SIM (A : tA) (V : tV) (N : Nat) (gn : tN) (gp : tV) (pi : Nat → Nat) (od : Nat → Nat → Nat) (q : Nat → Nat) : Prop := (∀ n, n < N → SN A V n gn (od n) (q n)) ∧ SP A V gp pi ∧ SM gp
def Lay (b p M N : Nat) : Prop := b + 2 + 8 * N ≤ p ∧ p + 74 ≤ M ∧ 1 ≤ N ∧ N ≤ 5
def Inv (b p M N cl : Nat) (f0 : jM) (f : jM) : Prop := ∃ A V gn gp pi od q, f = mkC b p N gn gp pi (mkR M (toR A V) f0) ∧ SIM A V N gn gp pi od q ∧ WF A V N cl ∧ wLay A N od q
theorem swapCR {b p M N : Nat} {gn : tN} {gp : tV} {pi : Nat → Nat} {g : tV} {f0 : jM} (h : Lay b p M N) : mkC b p N gn gp pi (mkR M g f0) = mkR M g (mkC b p N gn gp pi f0) := by
  obtain ⟨h1, h2, -, -⟩ := h
  funext a
  by_cases ha : M ≤ a ∧ a < M + 25
  · rw [mkC_o (by omega) h1]
    by_cases hb : a = M
    · subst hb; rw [mkR_b, mkR_b]
    · obtain ⟨j, rfl⟩ : ∃ j, a = M + j := ⟨a - M, by omega⟩
      rw [mkR_j (by omega) (by omega), mkR_j (by omega) (by omega)]
  · rw [mkR_o (by omega)]
    unfold mkC
    by_cases q1 : p ≤ a ∧ a < p + 74
    · simp only [q1, and_self, if_true]
    · by_cases q2 : b + 2 ≤ a ∧ a < b + 2 + 8 * N
      · simp only [q1, q2, and_self, if_true, if_false]
      · simp only [q1, q2, if_false]
        rw [mkR_o (by omega)]
/-! a value as both tell it -/
theorem clI {o : Nat} (h : o < 2 ^ 31) : (nI o).toNatClampNeg = o := nI_clamp h
theorem ckd0 {n : Nat} {v : Int32} : ckd n 0 v = 0 := by
  unfold ckd; rw [if_neg (by omega)]; rfl
theorem ckd1 {n : Nat} {v : Int32} : ckd n 1 v = 1 := by
  unfold ckd; rw [if_neg (by omega)]; rfl
theorem ckdL {n o : Nat} (ho : o < 2 ^ 31) (h : o / 24 = n) : ckd n 2 (nI o) = 2 := by
  unfold ckd; rw [clI ho, if_neg (by omega)]; rfl
theorem ckdF {n o : Nat} (ho : o < 2 ^ 31) (h : o / 24 ≠ n) : ckd n 2 (nI o) = 3 := by
  unfold ckd; rw [clI ho, if_pos ⟨rfl, h⟩]
theorem ckd_obj {A : tA} {N n k : Nat} {v : Int32} (h : okv A N n k v) (hN : N ≤ 5) : (ckd n k v = 2 ∨ ckd n k v = 3) ↔ k = 2 := by
  rcases h with ⟨rfl, rfl⟩ | rfl | ⟨rfl, o, ho, rfl, -⟩
  · rw [ckd0]; decide
  · rw [ckd1]; decide
  · by_cases hc : o / 24 = n
    · rw [ckdL (by omega) hc]; decide
    · rw [ckdF (by omega) hc]; decide
theorem okv_obj {A : tA} {N n : Nat} {v : Int32} (h : okv A N n 2 v) : ∃ o, o < 24 * N ∧ v = nI o ∧ A 4 o = 1 ∧ (o / 24 = n ∨ 0 < A 9 (120 * n + o)) := by
  rcases h with ⟨h, -⟩ | h | ⟨-, h⟩
  · omega
  · omega
  · exact h
/-! the reference's small ones -/
section RB
variable {M : Nat} {A : tA} {V : tV} {f0 : jM}
theorem eR_isNd {n N : Nat} (hN : A 0 1 = N) (hN5 : N ≤ 5) (hn : n < N) : mX6_isNode (mkR M (toR A V) f0) M (nI n) = some (1, mkR M (toR A V) f0) := by
  unfold mX6_isNode
  simp only [rI0, rI1, rR2, rR3, rR4, rR5, rR6, rR7, rR8, rR9, rR10, rR11, rR12, rI13, rR14, rR15, rR16, rR17, rR18, rR19, rR20, rR21, rI22, rR23, rR24, rR25, rR26, rR27, rW0, rW13, rW22, rchk, Option.bind_some, rl1, rl2, rl3, rl4, rl5, rl6, rl7, rl8, rl9, rl10, rl11, rl12, rl13, rl14, rl15, rl16, rl17, rl18, rl19, rl20, rl21, rl22, rl23, rl24, rs1, rs2, rs3, rs4, rs5, rs6, rs7, rs8, rs9, rs10, rs11, rs12, rs13, rs14, rs15, rs16, rs17, rs18, rs19, rs20, rs21, rs22, rs23, rs24, tR0, tR1, tR2, tR3, tR4, tR5, tR6, tR7, tR8, tR9, tR10, tR11, tR12, tR13, tR14, tR15, tR16, tR17, tR18, tR19, tR20, tR21, tR22, tR23, tR24, uR0, uR1, uR2, uR3, uR4, uR5, uR6, uR7, uR8, uR9, uR10, uR11, uR12, uR13, uR14, uR15, uR16, uR17, uR18, uR19, uR20, uR21, uR22, uR23, uR24, nI_add, nI_mul, gl_nI, gs_nI, nI_leq, nI_ltq, nI_eqq, nar0, nar1, hN]
  rw [if_neg (nI_pos (by omega)), if_neg (nI_ge hn (by omega))]
theorem eR_isNdX {N : Nat} {x : Int32} (hN : A 0 1 = N) (h : x < 0 ∨ nI N ≤ x) : mX6_isNode (mkR M (toR A V) f0) M x = some (0, mkR M (toR A V) f0) := by
  unfold mX6_isNode
  simp only [rI1, tR0, Option.bind_some, hN]
  by_cases h0 : x < 0
  · rw [if_pos h0]
  · rw [if_neg h0, if_pos (h.resolve_left h0)]
theorem eR_isReg {n a N : Nat} (hN : A 0 1 = N) (hN5 : N ≤ 5) (hn : n < N) (ha : a < 6) : mX6_isRegister (mkR M (toR A V) f0) M (nI n) (nI a) = some (1, mkR M (toR A V) f0) := by
  unfold mX6_isRegister
  simp only [rchk, Option.bind_some, eR_isNd hN hN5 hn]
  rw [if_neg (by decide), if_neg (nI_pos (by omega)), i6, if_neg (nI_ge ha (by omega))]
theorem eR_isRegX {N : Nat} {x y : Int32} (hN : A 0 1 = N) (hN5 : N ≤ 5) (h : (x < 0 ∨ nI N ≤ x) ∨ (y < 0 ∨ nI 6 ≤ y)) : mX6_isRegister (mkR M (toR A V) f0) M x y = some (0, mkR M (toR A V) f0) := by
  unfold mX6_isRegister
  simp only [rchk, Option.bind_some]
  rcases idx x (n := N) (by omega) with ⟨n, hn, rfl⟩ | hx
  · have hy : y < 0 ∨ nI 6 ≤ y := by
      rcases h with h | h
      · rcases h with h | h
        · exact absurd h (nI_pos (by omega))
        · exact absurd h (nI_ge hn (by omega))
      · exact h
    simp only [eR_isNd hN hN5 hn, Option.bind_some]
    rw [if_neg (by decide)]
    by_cases h0 : y < 0
    · rw [if_pos h0]
    · rw [if_neg h0, i6, if_pos (hy.resolve_left h0)]
  · simp only [eR_isNdX hN hx, Option.bind_some]
    rfl
end RB
