/-! the memory of the class: the object at b, its row of nodes at b + 1, node n at b + 2 + 8 * n and its seven rows behind it, the rest from p on -/
abbrev tN : Type := Nat → Nat → Nat → Int32
def up3 (g : tN) (n j i : Nat) (x : Int32) : tN := fun n' j' i' => if n' = n ∧ j' = j ∧ i' = i then x else g n' j' i'
theorem up3_row (g : tN) (n j i : Nat) (x : Int32) : up3 g n j i x n j = upd (g n j) i x := by
  funext i'; by_cases h : i' = i <;> simp [up3, upd, h]
theorem up3_other (g : tN) {n j n' j' : Nat} (i : Nat) (x : Int32) (h : n' ≠ n ∨ j' ≠ j) : up3 g n j i x n' j' = g n' j' := by
  have : ∀ i', ¬ (n' = n ∧ j' = j ∧ i' = i) := by intro i'; omega
  funext i'; simp [up3, this]
theorem up3_s (g : tN) (n j i : Nat) (x : Int32) : up3 g n j i x n j i = x := by simp [up3]
theorem up3_n (g : tN) {n j i n' j' i' : Nat} (x : Int32) (h : n' ≠ n ∨ j' ≠ j ∨ i' ≠ i) : up3 g n j i x n' j' i' = g n' j' i' := by
  have : ¬ (n' = n ∧ j' = j ∧ i' = i) := by omega
  simp [up3, this]
def upP (pi : Nat → Nat) (i q : Nat) : Nat → Nat := fun j => if j = i then q else pi j
def lenN (j : Nat) : Nat := if j = 1 ∨ j = 2 then 294 else if j = 6 then 120 else 24
def rfsN (b N : Nat) : Nat → Option Nat := fun i => if i < N then some (b + 2 + 8 * i) else none
def rfsL (p : Nat) (pi : Nat → Nat) : Nat → Option Nat := fun i => if i < 60 then some (p + 2 + pi i) else none
def nodeC (b : Nat) (gn : tN) (n j : Nat) : jC := if j = 0 then .inr (2, [.int (nI n), .ref (b + 2 + 8 * n + 1), .ref (b + 2 + 8 * n + 2), .ref (b + 2 + 8 * n + 3), .ref (b + 2 + 8 * n + 4), .ref (b + 2 + 8 * n + 5), .ref (b + 2 + 8 * n + 6), .ref (b + 2 + 8 * n + 7), .int (gn n 0 0), .int (gn n 0 1), .int (gn n 0 2), .int (gn n 0 3)]) else .inl (0, lenN j, .inl (gn n j))
def miscC (p : Nat) (gp : Nat → Nat → Int32) (pi : Nat → Nat) (r : Nat) : jC :=
  if r = 0 then .inr (3, [.ref (p + 1), .int (gp 0 0)])
  else if r = 1 then .inl (3, 60, .inr (.inr (.inr (.inr (rfsL p pi)))))
  else if r < 62 then .inr (0, [.int (gp r 0), .int (gp r 1), .int (gp r 2), .int (gp r 3), .int (gp r 4), .int (gp r 5)])
  else if r = 62 ∨ r = 66 ∨ r = 69 then .inr (1, [.ref (p + r + 1), .ref (p + r + 2), .int (gp r 0), .int (gp r 1)])
  else if r = 63 ∨ r = 67 ∨ r = 70 then .inl (1, 120, .inl (gp r))
  else if r = 65 then .inr (4, [.ref (p + 66), .ref (p + 69), .ref (p + 72), .ref (p + 73)])
  else .inl (0, 120, .inl (gp r))
def mkC (b p N : Nat) (gn : tN) (gp : Nat → Nat → Int32) (pi : Nat → Nat) (f0 : jM) : jM := fun a =>
  if p ≤ a ∧ a < p + 74 then some (miscC p gp pi (a - p))
  else if b + 2 ≤ a ∧ a < b + 2 + 8 * N then some (nodeC b gn ((a - (b + 2)) / 8) ((a - (b + 2)) % 8))
  else if a = b then some (.inr (5, [.ref (b + 1), .ref p, .ref (p + 62), .ref (p + 65)]))
  else if a = b + 1 then some (.inl (2, N, .inr (.inr (.inr (.inr (rfsN b N))))))
  else f0 a
section MC
variable {b p N : Nat} {gn : tN} {gp : Nat → Nat → Int32} {pi : Nat → Nat} {f0 : jM}
theorem mkC_m {r : Nat} (h : r < 74) : mkC b p N gn gp pi f0 (p + r) = some (miscC p gp pi r) := by
  have h1 : p ≤ p + r ∧ p + r < p + 74 := by omega
  have h2 : p + r - p = r := by omega
  simp only [mkC, h1, h2, and_self, if_true]
theorem mkC_n {n j : Nat} (hp : b + 2 + 8 * N ≤ p) (hn : n < N) (hj : j < 8) : mkC b p N gn gp pi f0 (b + 2 + 8 * n + j) = some (nodeC b gn n j) := by
  have h1 : ¬ (p ≤ b + 2 + 8 * n + j ∧ b + 2 + 8 * n + j < p + 74) := by omega
  have h2 : b + 2 ≤ b + 2 + 8 * n + j ∧ b + 2 + 8 * n + j < b + 2 + 8 * N := by omega
  have h3 : (b + 2 + 8 * n + j - (b + 2)) / 8 = n := by omega
  have h4 : (b + 2 + 8 * n + j - (b + 2)) % 8 = j := by omega
  simp only [mkC, h1, h2, h3, h4, and_self, if_true, if_false]
theorem mkC_b (hp : b + 2 + 8 * N ≤ p) : mkC b p N gn gp pi f0 b = some (.inr (5, [.ref (b + 1), .ref p, .ref (p + 62), .ref (p + 65)])) := by
  have h1 : ¬ (p ≤ b ∧ b < p + 74) := by omega
  have h2 : ¬ (b + 2 ≤ b ∧ b < b + 2 + 8 * N) := by omega
  simp only [mkC, h1, h2, if_true, if_false]
theorem mkC_b1 (hp : b + 2 + 8 * N ≤ p) : mkC b p N gn gp pi f0 (b + 1) = some (.inl (2, N, .inr (.inr (.inr (.inr (rfsN b N)))))) := by
  have h1 : ¬ (p ≤ b + 1 ∧ b + 1 < p + 74) := by omega
  have h2 : ¬ (b + 2 ≤ b + 1 ∧ b + 1 < b + 2 + 8 * N) := by omega
  have h3 : ¬ (b + 1 = b) := by omega
  simp only [mkC, h1, h2, h3, if_true, if_false]
theorem mkC_o {a : Nat} (h : a < b ∨ (b + 2 + 8 * N ≤ a ∧ a < p) ∨ p + 74 ≤ a) (hp : b + 2 + 8 * N ≤ p) : mkC b p N gn gp pi f0 a = f0 a := by
  have h1 : ¬ (p ≤ a ∧ a < p + 74) := by omega
  have h2 : ¬ (b + 2 ≤ a ∧ a < b + 2 + 8 * N) := by omega
  have h3 : ¬ (a = b) := by omega
  have h4 : ¬ (a = b + 1) := by omega
  simp only [mkC, h1, h2, h3, h4, if_false]
theorem mkC_upn {gn' : tN} {n j : Nat} {e : jC} (hp : b + 2 + 8 * N ≤ p) (hn : n < N) (hj : j < 8) (he : e = nodeC b gn' n j) (ho : ∀ n' j', n' ≠ n ∨ j' ≠ j → gn' n' j' = gn n' j') : va_up (mkC b p N gn gp pi f0) (b + 2 + 8 * n + j) (some e) = mkC b p N gn' gp pi f0 := by
  subst he
  funext a
  by_cases ha : a = b + 2 + 8 * n + j
  · subst ha
    rw [va_up_self, mkC_n hp hn hj]
  · rw [va_up_ne _ _ ha]
    unfold mkC
    by_cases h1 : p ≤ a ∧ a < p + 74
    · simp only [h1, and_self, if_true]
    · by_cases h2 : b + 2 ≤ a ∧ a < b + 2 + 8 * N
      · simp only [h1, h2, and_self, if_true, if_false]
        have h3 : (a - (b + 2)) / 8 ≠ n ∨ (a - (b + 2)) % 8 ≠ j := by omega
        unfold nodeC
        split
        · next h0 => rw [ho _ 0 (by rw [h0] at h3; exact h3)]
        · rw [ho _ _ h3]
      · simp only [h1, h2, if_false]
theorem mkC_upm {gp' : Nat → Nat → Int32} {pi' : Nat → Nat} {r : Nat} {e : jC} (h : r < 74) (he : e = miscC p gp' pi' r) (ho : ∀ r', r' ≠ r → miscC p gp' pi' r' = miscC p gp pi r') : va_up (mkC b p N gn gp pi f0) (p + r) (some e) = mkC b p N gn gp' pi' f0 := by
  subst he
  funext a
  by_cases ha : a = p + r
  · subst ha
    rw [va_up_self, mkC_m h]
  · rw [va_up_ne _ _ ha]
    unfold mkC
    by_cases h1 : p ≤ a ∧ a < p + 74
    · simp only [h1, and_self, if_true]
      rw [ho _ (by omega)]
    · simp only [h1, if_false]
theorem miscC_o {gp' : Nat → Nat → Int32} {r r' : Nat} (h : r' ≠ r) (hg : ∀ q, q ≠ r → gp' q = gp q) : miscC p gp' pi r' = miscC p gp pi r' := by
  have h1 := hg r' h
  unfold miscC
  split
  · next h0 => subst h0; rw [h1]
  · rw [h1]
theorem rdR_of {f : jM} {a ci k x : Nat} {fs : List Value} (h : f a = some (.inr (ci, fs))) (hk : fs[k]? = some (.ref x)) : rdR ci f a k = some x := by
  simp [rdR, rdV, h, hk]
theorem rdI_of {f : jM} {a ci k : Nat} {x : Int32} {fs : List Value} (h : f a = some (.inr (ci, fs))) (hk : fs[k]? = some (.int x)) : rdI ci f a k = some x := by
  simp [rdI, rdV, h, hk]
theorem chk_of {f : jM} {a ci : Nat} {fs : List Value} (h : f a = some (.inr (ci, fs))) : chk ci f a = some () := by
  simp [chk, h]
theorem ldI_of {f : jM} {a kd n : Nat} {g : Nat → Int32} {i : Int32} (h : f a = some (.inl (kd, n, .inl g))) : ldI kd f a i = gl n g i := by
  unfold ldI gl
  rw [h]
  by_cases hc : i < 0 ∨ n ≤ i.toNatClampNeg <;> simp [hc]
theorem stI_of {f : jM} {a kd n : Nat} {g : Nat → Int32} {i x : Int32} (h : f a = some (.inl (kd, n, .inl g))) : stI kd f a i x = gs n i (fun k => va_up f a (some (.inl (kd, n, .inl (upd g k x))))) := by
  unfold stI gs
  rw [h]
  by_cases hc : i < 0 ∨ n ≤ i.toNatClampNeg <;> simp [hc]
theorem ldR_of {f : jM} {a kd n i : Nat} {g : Nat → Option Nat} (h : f a = some (.inl (kd, n, .inr (.inr (.inr (.inr g)))))) (hi : i < n) (hn : n < 2 ^ 31) : ldR kd f a (nI i) = g i := by
  unfold ldR
  rw [h]
  show (if kd = kd ∧ ¬ (nI i < 0 ∨ n ≤ (nI i).toNatClampNeg) then g (nI i).toNatClampNeg else none) = _
  rw [if_pos ⟨rfl, nI_in hi hn⟩, nI_clamp (by omega)]
theorem stR_of {f : jM} {a b ci kd n i : Nat} {g : Nat → Option Nat} (h : f a = some (.inl (kd, n, .inr (.inr (.inr (.inr g)))))) (hi : i < n) (hn : n < 2 ^ 31) (hc : chk ci f b = some ()) : stR kd ci f a (nI i) b = some (va_up f a (some (.inl (kd, n, .inr (.inr (.inr (.inr (va_up g i (some b))))))))) := by
  unfold stR
  rw [h]
  show (if kd = kd ∧ ¬ (nI i < 0 ∨ n ≤ (nI i).toNatClampNeg) then _ else none) = _
  rw [if_pos ⟨rfl, nI_in hi hn⟩, nI_clamp (by omega), hc]
  rfl
theorem nodeC_0 {n : Nat} : nodeC b gn n 0 = .inr (2, [.int (nI n), .ref (b + 2 + 8 * n + 1), .ref (b + 2 + 8 * n + 2), .ref (b + 2 + 8 * n + 3), .ref (b + 2 + 8 * n + 4), .ref (b + 2 + 8 * n + 5), .ref (b + 2 + 8 * n + 6), .ref (b + 2 + 8 * n + 7), .int (gn n 0 0), .int (gn n 0 1), .int (gn n 0 2), .int (gn n 0 3)]) := rfl
theorem cchk5 (hp : b + 2 + 8 * N ≤ p) : chk 5 (mkC b p N gn gp pi f0) b = some () := chk_of (mkC_b hp)
theorem cF0 (hp : b + 2 + 8 * N ≤ p) : rdR 5 (mkC b p N gn gp pi f0) b 0 = some (b + 1) := rdR_of (mkC_b hp) rfl
theorem cF1 (hp : b + 2 + 8 * N ≤ p) : rdR 5 (mkC b p N gn gp pi f0) b 1 = some p := rdR_of (mkC_b hp) rfl
theorem cF2 (hp : b + 2 + 8 * N ≤ p) : rdR 5 (mkC b p N gn gp pi f0) b 2 = some (p + 62) := rdR_of (mkC_b hp) rfl
theorem cF3 (hp : b + 2 + 8 * N ≤ p) : rdR 5 (mkC b p N gn gp pi f0) b 3 = some (p + 65) := rdR_of (mkC_b hp) rfl
theorem cLen (hp : b + 2 + 8 * N ≤ p) : alen (mkC b p N gn gp pi f0) (b + 1) = some (nI N) := by
  unfold alen
  rw [mkC_b1 hp]
  rfl
theorem cNod {n : Nat} (hp : b + 2 + 8 * N ≤ p) (hn : n < N) (hN : N < 2 ^ 31) : ldR 2 (mkC b p N gn gp pi f0) (b + 1) (nI n) = some (b + 2 + 8 * n) := by
  rw [ldR_of (mkC_b1 hp) hn hN]
  simp only [rfsN, hn, if_true]
theorem mkC_n0 {n : Nat} (hp : b + 2 + 8 * N ≤ p) (hn : n < N) : mkC b p N gn gp pi f0 (b + 2 + 8 * n) = some (nodeC b gn n 0) := mkC_n (j := 0) hp hn (by omega)
theorem cchk2 {n : Nat} (hp : b + 2 + 8 * N ≤ p) (hn : n < N) : chk 2 (mkC b p N gn gp pi f0) (b + 2 + 8 * n) = some () := chk_of (mkC_n0 hp hn)
theorem cNi {n : Nat} (hp : b + 2 + 8 * N ≤ p) (hn : n < N) : rdI 2 (mkC b p N gn gp pi f0) (b + 2 + 8 * n) 0 = some (nI n) := rdI_of (mkC_n0 hp hn) rfl
theorem cNr1 {n : Nat} (hp : b + 2 + 8 * N ≤ p) (hn : n < N) : rdR 2 (mkC b p N gn gp pi f0) (b + 2 + 8 * n) 1 = some (b + 2 + 8 * n + 1) := rdR_of (mkC_n0 hp hn) rfl
theorem cNl1 {n : Nat} {i : Int32} (hp : b + 2 + 8 * N ≤ p) (hn : n < N) : ldI 0 (mkC b p N gn gp pi f0) (b + 2 + 8 * n + 1) i = gl 294 (gn n 1) i := ldI_of (mkC_n (j := 1) hp hn (by decide))
theorem cNs1 {n : Nat} {i x : Int32} (hp : b + 2 + 8 * N ≤ p) (hn : n < N) : stI 0 (mkC b p N gn gp pi f0) (b + 2 + 8 * n + 1) i x = gs 294 i (fun k => mkC b p N (up3 gn n 1 k x) gp pi f0) := by
  rw [stI_of (mkC_n (j := 1) hp hn (by decide))]
  congr 1
  funext q
  exact mkC_upn hp hn (by decide) (by show _ = Sum.inl (0, 294, Sum.inl (up3 gn n 1 q x n 1)); rw [up3_row] <;> rfl) (fun n' j' h => up3_other gn q x h)
theorem cNr2 {n : Nat} (hp : b + 2 + 8 * N ≤ p) (hn : n < N) : rdR 2 (mkC b p N gn gp pi f0) (b + 2 + 8 * n) 2 = some (b + 2 + 8 * n + 2) := rdR_of (mkC_n0 hp hn) rfl
theorem cNl2 {n : Nat} {i : Int32} (hp : b + 2 + 8 * N ≤ p) (hn : n < N) : ldI 0 (mkC b p N gn gp pi f0) (b + 2 + 8 * n + 2) i = gl 294 (gn n 2) i := ldI_of (mkC_n (j := 2) hp hn (by decide))
theorem cNs2 {n : Nat} {i x : Int32} (hp : b + 2 + 8 * N ≤ p) (hn : n < N) : stI 0 (mkC b p N gn gp pi f0) (b + 2 + 8 * n + 2) i x = gs 294 i (fun k => mkC b p N (up3 gn n 2 k x) gp pi f0) := by
  rw [stI_of (mkC_n (j := 2) hp hn (by decide))]
  congr 1
  funext q
  exact mkC_upn hp hn (by decide) (by show _ = Sum.inl (0, 294, Sum.inl (up3 gn n 2 q x n 2)); rw [up3_row] <;> rfl) (fun n' j' h => up3_other gn q x h)
theorem cNr3 {n : Nat} (hp : b + 2 + 8 * N ≤ p) (hn : n < N) : rdR 2 (mkC b p N gn gp pi f0) (b + 2 + 8 * n) 3 = some (b + 2 + 8 * n + 3) := rdR_of (mkC_n0 hp hn) rfl
theorem cNl3 {n : Nat} {i : Int32} (hp : b + 2 + 8 * N ≤ p) (hn : n < N) : ldI 0 (mkC b p N gn gp pi f0) (b + 2 + 8 * n + 3) i = gl 24 (gn n 3) i := ldI_of (mkC_n (j := 3) hp hn (by decide))
theorem cNs3 {n : Nat} {i x : Int32} (hp : b + 2 + 8 * N ≤ p) (hn : n < N) : stI 0 (mkC b p N gn gp pi f0) (b + 2 + 8 * n + 3) i x = gs 24 i (fun k => mkC b p N (up3 gn n 3 k x) gp pi f0) := by
  rw [stI_of (mkC_n (j := 3) hp hn (by decide))]
  congr 1
  funext q
  exact mkC_upn hp hn (by decide) (by show _ = Sum.inl (0, 24, Sum.inl (up3 gn n 3 q x n 3)); rw [up3_row] <;> rfl) (fun n' j' h => up3_other gn q x h)
theorem cNr4 {n : Nat} (hp : b + 2 + 8 * N ≤ p) (hn : n < N) : rdR 2 (mkC b p N gn gp pi f0) (b + 2 + 8 * n) 4 = some (b + 2 + 8 * n + 4) := rdR_of (mkC_n0 hp hn) rfl
theorem cNl4 {n : Nat} {i : Int32} (hp : b + 2 + 8 * N ≤ p) (hn : n < N) : ldI 0 (mkC b p N gn gp pi f0) (b + 2 + 8 * n + 4) i = gl 24 (gn n 4) i := ldI_of (mkC_n (j := 4) hp hn (by decide))
theorem cNs4 {n : Nat} {i x : Int32} (hp : b + 2 + 8 * N ≤ p) (hn : n < N) : stI 0 (mkC b p N gn gp pi f0) (b + 2 + 8 * n + 4) i x = gs 24 i (fun k => mkC b p N (up3 gn n 4 k x) gp pi f0) := by
  rw [stI_of (mkC_n (j := 4) hp hn (by decide))]
  congr 1
  funext q
  exact mkC_upn hp hn (by decide) (by show _ = Sum.inl (0, 24, Sum.inl (up3 gn n 4 q x n 4)); rw [up3_row] <;> rfl) (fun n' j' h => up3_other gn q x h)
theorem cNr5 {n : Nat} (hp : b + 2 + 8 * N ≤ p) (hn : n < N) : rdR 2 (mkC b p N gn gp pi f0) (b + 2 + 8 * n) 5 = some (b + 2 + 8 * n + 5) := rdR_of (mkC_n0 hp hn) rfl
theorem cNl5 {n : Nat} {i : Int32} (hp : b + 2 + 8 * N ≤ p) (hn : n < N) : ldI 0 (mkC b p N gn gp pi f0) (b + 2 + 8 * n + 5) i = gl 24 (gn n 5) i := ldI_of (mkC_n (j := 5) hp hn (by decide))
theorem cNs5 {n : Nat} {i x : Int32} (hp : b + 2 + 8 * N ≤ p) (hn : n < N) : stI 0 (mkC b p N gn gp pi f0) (b + 2 + 8 * n + 5) i x = gs 24 i (fun k => mkC b p N (up3 gn n 5 k x) gp pi f0) := by
  rw [stI_of (mkC_n (j := 5) hp hn (by decide))]
  congr 1
  funext q
  exact mkC_upn hp hn (by decide) (by show _ = Sum.inl (0, 24, Sum.inl (up3 gn n 5 q x n 5)); rw [up3_row] <;> rfl) (fun n' j' h => up3_other gn q x h)
theorem cNr6 {n : Nat} (hp : b + 2 + 8 * N ≤ p) (hn : n < N) : rdR 2 (mkC b p N gn gp pi f0) (b + 2 + 8 * n) 6 = some (b + 2 + 8 * n + 6) := rdR_of (mkC_n0 hp hn) rfl
theorem cNl6 {n : Nat} {i : Int32} (hp : b + 2 + 8 * N ≤ p) (hn : n < N) : ldI 0 (mkC b p N gn gp pi f0) (b + 2 + 8 * n + 6) i = gl 120 (gn n 6) i := ldI_of (mkC_n (j := 6) hp hn (by decide))
theorem cNs6 {n : Nat} {i x : Int32} (hp : b + 2 + 8 * N ≤ p) (hn : n < N) : stI 0 (mkC b p N gn gp pi f0) (b + 2 + 8 * n + 6) i x = gs 120 i (fun k => mkC b p N (up3 gn n 6 k x) gp pi f0) := by
  rw [stI_of (mkC_n (j := 6) hp hn (by decide))]
  congr 1
  funext q
  exact mkC_upn hp hn (by decide) (by show _ = Sum.inl (0, 120, Sum.inl (up3 gn n 6 q x n 6)); rw [up3_row] <;> rfl) (fun n' j' h => up3_other gn q x h)
theorem cNr7 {n : Nat} (hp : b + 2 + 8 * N ≤ p) (hn : n < N) : rdR 2 (mkC b p N gn gp pi f0) (b + 2 + 8 * n) 7 = some (b + 2 + 8 * n + 7) := rdR_of (mkC_n0 hp hn) rfl
theorem cNl7 {n : Nat} {i : Int32} (hp : b + 2 + 8 * N ≤ p) (hn : n < N) : ldI 0 (mkC b p N gn gp pi f0) (b + 2 + 8 * n + 7) i = gl 24 (gn n 7) i := ldI_of (mkC_n (j := 7) hp hn (by decide))
theorem cNs7 {n : Nat} {i x : Int32} (hp : b + 2 + 8 * N ≤ p) (hn : n < N) : stI 0 (mkC b p N gn gp pi f0) (b + 2 + 8 * n + 7) i x = gs 24 i (fun k => mkC b p N (up3 gn n 7 k x) gp pi f0) := by
  rw [stI_of (mkC_n (j := 7) hp hn (by decide))]
  congr 1
  funext q
  exact mkC_upn hp hn (by decide) (by show _ = Sum.inl (0, 24, Sum.inl (up3 gn n 7 q x n 7)); rw [up3_row] <;> rfl) (fun n' j' h => up3_other gn q x h)
theorem cNg0 {n : Nat} (hp : b + 2 + 8 * N ≤ p) (hn : n < N) : rdI 2 (mkC b p N gn gp pi f0) (b + 2 + 8 * n) 8 = some (gn n 0 0) := rdI_of (mkC_n0 hp hn) rfl
theorem cNw0 {n : Nat} {x : Int32} (hp : b + 2 + 8 * N ≤ p) (hn : n < N) : wrV 2 (mkC b p N gn gp pi f0) (b + 2 + 8 * n) 8 (.int x) = some (mkC b p N (up3 gn n 0 0 x) gp pi f0) := by
  rw [wrV_of (mkC_n0 hp hn) (by simp)]
  congr 1
  exact mkC_upn (j := 0) hp hn (by decide) (by simp [nodeC, up3]) (fun n' j' h => up3_other gn 0 x h)
theorem cNg1 {n : Nat} (hp : b + 2 + 8 * N ≤ p) (hn : n < N) : rdI 2 (mkC b p N gn gp pi f0) (b + 2 + 8 * n) 9 = some (gn n 0 1) := rdI_of (mkC_n0 hp hn) rfl
theorem cNw1 {n : Nat} {x : Int32} (hp : b + 2 + 8 * N ≤ p) (hn : n < N) : wrV 2 (mkC b p N gn gp pi f0) (b + 2 + 8 * n) 9 (.int x) = some (mkC b p N (up3 gn n 0 1 x) gp pi f0) := by
  rw [wrV_of (mkC_n0 hp hn) (by simp)]
  congr 1
  exact mkC_upn (j := 0) hp hn (by decide) (by simp [nodeC, up3]) (fun n' j' h => up3_other gn 1 x h)
theorem cNg2 {n : Nat} (hp : b + 2 + 8 * N ≤ p) (hn : n < N) : rdI 2 (mkC b p N gn gp pi f0) (b + 2 + 8 * n) 10 = some (gn n 0 2) := rdI_of (mkC_n0 hp hn) rfl
theorem cNw2 {n : Nat} {x : Int32} (hp : b + 2 + 8 * N ≤ p) (hn : n < N) : wrV 2 (mkC b p N gn gp pi f0) (b + 2 + 8 * n) 10 (.int x) = some (mkC b p N (up3 gn n 0 2 x) gp pi f0) := by
  rw [wrV_of (mkC_n0 hp hn) (by simp)]
  congr 1
  exact mkC_upn (j := 0) hp hn (by decide) (by simp [nodeC, up3]) (fun n' j' h => up3_other gn 2 x h)
theorem cNg3 {n : Nat} (hp : b + 2 + 8 * N ≤ p) (hn : n < N) : rdI 2 (mkC b p N gn gp pi f0) (b + 2 + 8 * n) 11 = some (gn n 0 3) := rdI_of (mkC_n0 hp hn) rfl
theorem cNw3 {n : Nat} {x : Int32} (hp : b + 2 + 8 * N ≤ p) (hn : n < N) : wrV 2 (mkC b p N gn gp pi f0) (b + 2 + 8 * n) 11 (.int x) = some (mkC b p N (up3 gn n 0 3 x) gp pi f0) := by
  rw [wrV_of (mkC_n0 hp hn) (by simp)]
  congr 1
  exact mkC_upn (j := 0) hp hn (by decide) (by simp [nodeC, up3]) (fun n' j' h => up3_other gn 3 x h)
theorem cPchk : chk 3 (mkC b p N gn gp pi f0) p = some () := chk_of (mkC_m (r := 0) (by decide))
theorem cP0 : rdR 3 (mkC b p N gn gp pi f0) p 0 = some (p + 1) := rdR_of (mkC_m (r := 0) (by decide)) rfl
theorem cP1 : rdI 3 (mkC b p N gn gp pi f0) p 1 = some (gp 0 0) := rdI_of (mkC_m (r := 0) (by decide)) rfl
theorem cPw {x : Int32} : wrV 3 (mkC b p N gn gp pi f0) p 1 (.int x) = some (mkC b p N gn (up2 gp 0 0 x) pi f0) := by
  rw [wrV_of (f := mkC b p N gn gp pi f0) (a := p) (fs := [.ref (p + 1), .int (gp 0 0)]) (mkC_m (r := 0) (by decide)) (by simp)]
  congr 1
  exact mkC_upm (r := 0) (by decide) (by simp [miscC, up2]) (fun r' h => miscC_o h (fun q hq => up2_other gp 0 x hq))
theorem mkC_l {q : Nat} (hq : q < 60) : mkC b p N gn gp pi f0 (p + 2 + q) = some (.inr (0, [.int (gp (2 + q) 0), .int (gp (2 + q) 1), .int (gp (2 + q) 2), .int (gp (2 + q) 3), .int (gp (2 + q) 4), .int (gp (2 + q) 5)])) := by
  rw [show p + 2 + q = p + (2 + q) by omega, mkC_m (by omega)]
  have h0 : ¬ 2 + q = 0 := by omega
  have h1 : ¬ 2 + q = 1 := by omega
  have h2 : 2 + q < 62 := by omega
  simp only [miscC, h0, h1, h2, if_false, if_true]
theorem cLchk {q : Nat} (hq : q < 60) : chk 0 (mkC b p N gn gp pi f0) (p + 2 + q) = some () := chk_of (mkC_l hq)
theorem cLat {i : Nat} (hi : i < 60) : ldR 3 (mkC b p N gn gp pi f0) (p + 1) (nI i) = some (p + 2 + pi i) := by
  rw [ldR_of (g := rfsL p pi) (n := 60) (mkC_m (r := 1) (by decide)) hi (by decide)]
  simp only [rfsL, hi, if_true]
theorem cLst {i q : Nat} (hi : i < 60) (hq : q < 60) : stR 3 0 (mkC b p N gn gp pi f0) (p + 1) (nI i) (p + 2 + q) = some (mkC b p N gn gp (upP pi i q) f0) := by
  rw [stR_of (g := rfsL p pi) (n := 60) (mkC_m (r := 1) (by decide)) hi (by decide) (cLchk hq)]
  congr 1
  refine mkC_upm (r := 1) (by decide) ?_ (fun r' h => ?_)
  · show _ = Sum.inl (3, 60, Sum.inr (Sum.inr (Sum.inr (Sum.inr (rfsL p (upP pi i q))))))
    have : va_up (rfsL p pi) i (some (p + 2 + q)) = rfsL p (upP pi i q) := by
      funext j
      by_cases hj : j = i
      · subst hj; simp [va_up, rfsL, upP, hi]
      · simp [va_up, rfsL, upP, hj]
    rw [this]
  · unfold miscC
    rw [if_neg h, if_neg h]
theorem cLg0 {q : Nat} (hq : q < 60) : rdI 0 (mkC b p N gn gp pi f0) (p + 2 + q) 0 = some (gp (2 + q) 0) := rdI_of (mkC_l hq) rfl
theorem cLw0 {q : Nat} {x : Int32} (hq : q < 60) : wrV 0 (mkC b p N gn gp pi f0) (p + 2 + q) 0 (.int x) = some (mkC b p N gn (up2 gp (2 + q) 0 x) pi f0) := by
  rw [wrV_of (mkC_l hq) (by simp)]
  congr 1
  rw [show p + 2 + q = p + (2 + q) by omega]
  have h0 : ¬ 2 + q = 0 := by omega
  have h1 : ¬ 2 + q = 1 := by omega
  have h2 : 2 + q < 62 := by omega
  exact mkC_upm (r := 2 + q) (by omega) (by simp [miscC, up2, h0, h1, h2]) (fun r' h => miscC_o h (fun q' hq' => up2_other gp 0 x hq'))
theorem cLg1 {q : Nat} (hq : q < 60) : rdI 0 (mkC b p N gn gp pi f0) (p + 2 + q) 1 = some (gp (2 + q) 1) := rdI_of (mkC_l hq) rfl
theorem cLw1 {q : Nat} {x : Int32} (hq : q < 60) : wrV 0 (mkC b p N gn gp pi f0) (p + 2 + q) 1 (.int x) = some (mkC b p N gn (up2 gp (2 + q) 1 x) pi f0) := by
  rw [wrV_of (mkC_l hq) (by simp)]
  congr 1
  rw [show p + 2 + q = p + (2 + q) by omega]
  have h0 : ¬ 2 + q = 0 := by omega
  have h1 : ¬ 2 + q = 1 := by omega
  have h2 : 2 + q < 62 := by omega
  exact mkC_upm (r := 2 + q) (by omega) (by simp [miscC, up2, h0, h1, h2]) (fun r' h => miscC_o h (fun q' hq' => up2_other gp 1 x hq'))
theorem cLg2 {q : Nat} (hq : q < 60) : rdI 0 (mkC b p N gn gp pi f0) (p + 2 + q) 2 = some (gp (2 + q) 2) := rdI_of (mkC_l hq) rfl
theorem cLw2 {q : Nat} {x : Int32} (hq : q < 60) : wrV 0 (mkC b p N gn gp pi f0) (p + 2 + q) 2 (.int x) = some (mkC b p N gn (up2 gp (2 + q) 2 x) pi f0) := by
  rw [wrV_of (mkC_l hq) (by simp)]
  congr 1
  rw [show p + 2 + q = p + (2 + q) by omega]
  have h0 : ¬ 2 + q = 0 := by omega
  have h1 : ¬ 2 + q = 1 := by omega
  have h2 : 2 + q < 62 := by omega
  exact mkC_upm (r := 2 + q) (by omega) (by simp [miscC, up2, h0, h1, h2]) (fun r' h => miscC_o h (fun q' hq' => up2_other gp 2 x hq'))
theorem cLg3 {q : Nat} (hq : q < 60) : rdI 0 (mkC b p N gn gp pi f0) (p + 2 + q) 3 = some (gp (2 + q) 3) := rdI_of (mkC_l hq) rfl
theorem cLw3 {q : Nat} {x : Int32} (hq : q < 60) : wrV 0 (mkC b p N gn gp pi f0) (p + 2 + q) 3 (.int x) = some (mkC b p N gn (up2 gp (2 + q) 3 x) pi f0) := by
  rw [wrV_of (mkC_l hq) (by simp)]
  congr 1
  rw [show p + 2 + q = p + (2 + q) by omega]
  have h0 : ¬ 2 + q = 0 := by omega
  have h1 : ¬ 2 + q = 1 := by omega
  have h2 : 2 + q < 62 := by omega
  exact mkC_upm (r := 2 + q) (by omega) (by simp [miscC, up2, h0, h1, h2]) (fun r' h => miscC_o h (fun q' hq' => up2_other gp 3 x hq'))
theorem cLg4 {q : Nat} (hq : q < 60) : rdI 0 (mkC b p N gn gp pi f0) (p + 2 + q) 4 = some (gp (2 + q) 4) := rdI_of (mkC_l hq) rfl
theorem cLw4 {q : Nat} {x : Int32} (hq : q < 60) : wrV 0 (mkC b p N gn gp pi f0) (p + 2 + q) 4 (.int x) = some (mkC b p N gn (up2 gp (2 + q) 4 x) pi f0) := by
  rw [wrV_of (mkC_l hq) (by simp)]
  congr 1
  rw [show p + 2 + q = p + (2 + q) by omega]
  have h0 : ¬ 2 + q = 0 := by omega
  have h1 : ¬ 2 + q = 1 := by omega
  have h2 : 2 + q < 62 := by omega
  exact mkC_upm (r := 2 + q) (by omega) (by simp [miscC, up2, h0, h1, h2]) (fun r' h => miscC_o h (fun q' hq' => up2_other gp 4 x hq'))
theorem cLg5 {q : Nat} (hq : q < 60) : rdI 0 (mkC b p N gn gp pi f0) (p + 2 + q) 5 = some (gp (2 + q) 5) := rdI_of (mkC_l hq) rfl
theorem cLw5 {q : Nat} {x : Int32} (hq : q < 60) : wrV 0 (mkC b p N gn gp pi f0) (p + 2 + q) 5 (.int x) = some (mkC b p N gn (up2 gp (2 + q) 5 x) pi f0) := by
  rw [wrV_of (mkC_l hq) (by simp)]
  congr 1
  rw [show p + 2 + q = p + (2 + q) by omega]
  have h0 : ¬ 2 + q = 0 := by omega
  have h1 : ¬ 2 + q = 1 := by omega
  have h2 : 2 + q < 62 := by omega
  exact mkC_upm (r := 2 + q) (by omega) (by simp [miscC, up2, h0, h1, h2]) (fun r' h => miscC_o h (fun q' hq' => up2_other gp 5 x hq'))
def isM (r : Nat) : Prop := r = 62 ∨ r = 66 ∨ r = 69
theorem mkC_mk {r : Nat} (h : isM r) : mkC b p N gn gp pi f0 (p + r) = some (.inr (1, [.ref (p + r + 1), .ref (p + r + 2), .int (gp r 0), .int (gp r 1)])) := by
  rcases h with rfl | rfl | rfl <;> exact mkC_m (by decide)
theorem mkC_mk1 {r : Nat} (h : isM r) : mkC b p N gn gp pi f0 (p + r + 1) = some (.inl (1, 120, .inl (gp (r + 1)))) := by
  rcases h with rfl | rfl | rfl
  · exact mkC_m (r := 63) (by decide)
  · exact mkC_m (r := 67) (by decide)
  · exact mkC_m (r := 70) (by decide)
theorem mkC_mk2 {r : Nat} (h : isM r) : mkC b p N gn gp pi f0 (p + r + 2) = some (.inl (0, 120, .inl (gp (r + 2)))) := by
  rcases h with rfl | rfl | rfl
  · exact mkC_m (r := 64) (by decide)
  · exact mkC_m (r := 68) (by decide)
  · exact mkC_m (r := 71) (by decide)
theorem cMchk {r : Nat} (h : isM r) : chk 1 (mkC b p N gn gp pi f0) (p + r) = some () := chk_of (mkC_mk h)
theorem cM0 {r : Nat} (h : isM r) : rdR 1 (mkC b p N gn gp pi f0) (p + r) 0 = some (p + r + 1) := rdR_of (mkC_mk h) rfl
theorem cM1 {r : Nat} (h : isM r) : rdR 1 (mkC b p N gn gp pi f0) (p + r) 1 = some (p + r + 2) := rdR_of (mkC_mk h) rfl
theorem cM2 {r : Nat} (h : isM r) : rdI 1 (mkC b p N gn gp pi f0) (p + r) 2 = some (gp r 0) := rdI_of (mkC_mk h) rfl
theorem cM3 {r : Nat} (h : isM r) : rdI 1 (mkC b p N gn gp pi f0) (p + r) 3 = some (gp r 1) := rdI_of (mkC_mk h) rfl
theorem cMw2 {r : Nat} {x : Int32} (h : isM r) : wrV 1 (mkC b p N gn gp pi f0) (p + r) 2 (.int x) = some (mkC b p N gn (up2 gp r 0 x) pi f0) := by
  rw [wrV_of (mkC_mk h) (by simp)]
  congr 1
  refine mkC_upm (r := r) (by rcases h with rfl | rfl | rfl <;> decide) ?_ (fun r' h => miscC_o h (fun q' hq' => up2_other gp 0 x hq'))
  rcases h with rfl | rfl | rfl <;> simp [miscC, up2]
theorem cMw3 {r : Nat} {x : Int32} (h : isM r) : wrV 1 (mkC b p N gn gp pi f0) (p + r) 3 (.int x) = some (mkC b p N gn (up2 gp r 1 x) pi f0) := by
  rw [wrV_of (mkC_mk h) (by simp)]
  congr 1
  refine mkC_upm (r := r) (by rcases h with rfl | rfl | rfl <;> decide) ?_ (fun r' h => miscC_o h (fun q' hq' => up2_other gp 1 x hq'))
  rcases h with rfl | rfl | rfl <;> simp [miscC, up2]
theorem cMl1 {r : Nat} {i : Int32} (h : isM r) : ldI 1 (mkC b p N gn gp pi f0) (p + r + 1) i = gl 120 (gp (r + 1)) i := ldI_of (mkC_mk1 h)
theorem cMl2 {r : Nat} {i : Int32} (h : isM r) : ldI 0 (mkC b p N gn gp pi f0) (p + r + 2) i = gl 120 (gp (r + 2)) i := ldI_of (mkC_mk2 h)
theorem cMs1 {r : Nat} {i x : Int32} (h : isM r) : stI 1 (mkC b p N gn gp pi f0) (p + r + 1) i x = gs 120 i (fun k => mkC b p N gn (up2 gp (r + 1) k x) pi f0) := by
  rw [stI_of (mkC_mk1 h)]
  congr 1
  funext q
  refine mkC_upm (r := r + 1) (by rcases h with rfl | rfl | rfl <;> decide) ?_ (fun r' h => miscC_o h (fun q' hq' => up2_other gp q x hq'))
  rw [← up2_row]
  rcases h with rfl | rfl | rfl <;> rfl
theorem cMs2 {r : Nat} {i x : Int32} (h : isM r) : stI 0 (mkC b p N gn gp pi f0) (p + r + 2) i x = gs 120 i (fun k => mkC b p N gn (up2 gp (r + 2) k x) pi f0) := by
  rw [stI_of (mkC_mk2 h)]
  congr 1
  funext q
  refine mkC_upm (r := r + 2) (by rcases h with rfl | rfl | rfl <;> decide) ?_ (fun r' h => miscC_o h (fun q' hq' => up2_other gp q x hq'))
  rw [← up2_row]
  rcases h with rfl | rfl | rfl <;> rfl
theorem cTchk : chk 4 (mkC b p N gn gp pi f0) (p + 65) = some () := chk_of (mkC_m (r := 65) (by decide))
theorem cT0 : rdR 4 (mkC b p N gn gp pi f0) (p + 65) 0 = some (p + 66) := rdR_of (mkC_m (r := 65) (by decide)) rfl
theorem cT1 : rdR 4 (mkC b p N gn gp pi f0) (p + 65) 1 = some (p + 69) := rdR_of (mkC_m (r := 65) (by decide)) rfl
theorem cT2 : rdR 4 (mkC b p N gn gp pi f0) (p + 65) 2 = some (p + 72) := rdR_of (mkC_m (r := 65) (by decide)) rfl
theorem cT3 : rdR 4 (mkC b p N gn gp pi f0) (p + 65) 3 = some (p + 73) := rdR_of (mkC_m (r := 65) (by decide)) rfl
theorem cTl72 {i : Int32} : ldI 0 (mkC b p N gn gp pi f0) (p + 72) i = gl 120 (gp 72) i := ldI_of (mkC_m (r := 72) (by decide))
theorem cTa72 : alen (mkC b p N gn gp pi f0) (p + 72) = some (nI 120) := by
  unfold alen
  rw [mkC_m (r := 72) (by decide)]
  rfl
theorem cTs72 {i x : Int32} : stI 0 (mkC b p N gn gp pi f0) (p + 72) i x = gs 120 i (fun k => mkC b p N gn (up2 gp 72 k x) pi f0) := by
  rw [stI_of (mkC_m (r := 72) (by decide))]
  congr 1
  funext q
  refine mkC_upm (r := 72) (by decide) ?_ (fun r' h => miscC_o h (fun q' hq' => up2_other gp q x hq'))
  rw [← up2_row]
  rfl
theorem cTl73 {i : Int32} : ldI 0 (mkC b p N gn gp pi f0) (p + 73) i = gl 120 (gp 73) i := ldI_of (mkC_m (r := 73) (by decide))
theorem cTa73 : alen (mkC b p N gn gp pi f0) (p + 73) = some (nI 120) := by
  unfold alen
  rw [mkC_m (r := 73) (by decide)]
  rfl
theorem cTs73 {i x : Int32} : stI 0 (mkC b p N gn gp pi f0) (p + 73) i x = gs 120 i (fun k => mkC b p N gn (up2 gp 73 k x) pi f0) := by
  rw [stI_of (mkC_m (r := 73) (by decide))]
  congr 1
  funext q
  refine mkC_upm (r := 73) (by decide) ?_ (fun r' h => miscC_o h (fun q' hq' => up2_other gp q x hq'))
  rw [← up2_row]
  rfl
end MC
