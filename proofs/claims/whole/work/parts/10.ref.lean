/-! PURE PART: numbers -/
def up2 (g : Nat → Nat → Int32) (j i : Nat) (x : Int32) : Nat → Nat → Int32 := fun j' i' => if j' = j ∧ i' = i then x else g j' i'
theorem up2_row (g : Nat → Nat → Int32) (j i : Nat) (x : Int32) : up2 g j i x j = upd (g j) i x := by
  funext i'; by_cases h : i' = i <;> simp [up2, upd, h]
theorem up2_other (g : Nat → Nat → Int32) {j j' : Nat} (i : Nat) (x : Int32) (h : j' ≠ j) : up2 g j i x j' = g j' := by
  funext i'; simp [up2, h]
def gl (n : Nat) (a : Nat → Int32) (i : Int32) : Option Int32 := if i < 0 ∨ n ≤ i.toNatClampNeg then none else some (a i.toNatClampNeg)
def gs {α : Type} (n : Nat) (i : Int32) (m : Nat → α) : Option α := if i < 0 ∨ n ≤ i.toNatClampNeg then none else some (m i.toNatClampNeg)
theorem gl_nI {n j : Nat} {a : Nat → Int32} (h : j < n) (hn : n < 2 ^ 31) : gl n a (nI j) = some (a j) := by
  have h1 := nI_in h hn
  rw [gl, if_neg h1, nI_clamp (by omega)]
theorem gs_nI {α : Type} {n j : Nat} {m : Nat → α} (h : j < n) (hn : n < 2 ^ 31) : gs n (nI j) m = some (m j) := by
  have h1 := nI_in h hn
  rw [gs, if_neg h1, nI_clamp (by omega)]
theorem nar0 : vp_nar .boolean 0 = 0 := by decide +kernel
theorem nar1 : vp_nar .boolean 1 = 1 := by decide +kernel
theorem nI_leq {a b : Nat} (ha : a < 2 ^ 31) (hb : b < 2 ^ 31) : (nI a ≤ nI b) = (a ≤ b) := propext (nI_leI ha hb)
theorem nI_ltq {a b : Nat} (ha : a < 2 ^ 31) (hb : b < 2 ^ 31) : (nI a < nI b) = (a < b) := propext (nI_ltI ha hb)
theorem nI_eqq {a b : Nat} (ha : a < 2 ^ 31) (hb : b < 2 ^ 31) : (nI a = nI b) = (a = b) := propext (nI_eq ha hb)
theorem nI_mul (a b : Nat) : nI a * nI b = nI (a * b) := pk_mul a b
theorem nI_div {a d : Nat} (ha : a < 2 ^ 31) (h0 : 0 < d) (hd : d < 2 ^ 31) : nI a / nI d = nI (a / d) := pk_div ha h0 hd
theorem nI_sub {a b : Nat} (h : b ≤ a) : nI a - nI b = nI (a - b) := pk_sub h
theorem nI_nneg {n : Nat} (h : n < 2 ^ 31) : (nI n < 0) = False := propext ⟨fun q => absurd q (nI_pos h), False.elim⟩
theorem i0 : (0 : Int32) = nI 0 := by decide +kernel
theorem i1 : (1 : Int32) = nI 1 := by decide +kernel
theorem i2 : (2 : Int32) = nI 2 := by decide +kernel
theorem i3 : (3 : Int32) = nI 3 := by decide +kernel
theorem i4 : (4 : Int32) = nI 4 := by decide +kernel
theorem i5 : (5 : Int32) = nI 5 := by decide +kernel
theorem i6 : (6 : Int32) = nI 6 := by decide +kernel
theorem i8 : (8 : Int32) = nI 8 := by decide +kernel
theorem i12 : (12 : Int32) = nI 12 := by decide +kernel
theorem i24 : (24 : Int32) = nI 24 := by decide +kernel
theorem i30 : (30 : Int32) = nI 30 := by decide +kernel
theorem i31 : (31 : Int32) = nI 31 := by decide +kernel
theorem i60 : (60 : Int32) = nI 60 := by decide +kernel
theorem i64 : (64 : Int32) = nI 64 := by decide +kernel
theorem i100 : (100 : Int32) = nI 100 := by decide +kernel
theorem i120 : (120 : Int32) = nI 120 := by decide +kernel
theorem i160 : (160 : Int32) = nI 160 := by decide +kernel
theorem i600 : (600 : Int32) = nI 600 := by decide +kernel
theorem i1000 : (1000 : Int32) = nI 1000 := by decide +kernel
theorem i1000000 : (1000000 : Int32) = nI 1000000 := by decide +kernel
/-! the reference's memory -/
def kdR (j : Nat) : Nat := if j = 4 ∨ j = 18 ∨ j = 19 ∨ (21 ≤ j ∧ j ≤ 24) then 1 else 0
def lenR (j : Nat) : Nat := if j = 5 ∨ j = 6 then 1440 else if j = 7 ∨ j = 8 then 30 else if j = 9 ∨ j = 22 then 600 else if j = 10 ∨ j = 11 then 5 else if 12 ≤ j ∧ j ≤ 17 then 64 else 120
def objR (b : Nat) (g : Nat → Nat → Int32) : List Value := [.int (g 0 0), .int (g 0 1), .ref (b + 1), .ref (b + 2), .ref (b + 3), .ref (b + 4), .ref (b + 5), .ref (b + 6), .ref (b + 7), .ref (b + 8), .ref (b + 9), .ref (b + 10), .ref (b + 11), .int (g 0 2), .ref (b + 12), .ref (b + 13), .ref (b + 14), .ref (b + 15), .ref (b + 16), .ref (b + 17), .ref (b + 18), .ref (b + 19), .int (g 0 3), .ref (b + 20), .ref (b + 21), .ref (b + 22), .ref (b + 23), .ref (b + 24)]
def mkR (b : Nat) (g : Nat → Nat → Int32) (f0 : jM) : jM := fun a => if a = b then some (.inr (6, objR b g)) else if b < a ∧ a < b + 25 then some (.inl (kdR (a - b), lenR (a - b), .inl (g (a - b)))) else f0 a
theorem mkR_b (b : Nat) (g : Nat → Nat → Int32) (f0 : jM) : mkR b g f0 b = some (.inr (6, objR b g)) := by simp [mkR]
theorem mkR_j {b j : Nat} {g : Nat → Nat → Int32} {f0 : jM} (h0 : 0 < j) (h : j < 25) : mkR b g f0 (b + j) = some (.inl (kdR j, lenR j, .inl (g j))) := by
  have h1 : ¬ b + j = b := by omega
  have h2 : b < b + j ∧ b + j < b + 25 := by omega
  have h3 : b + j - b = j := by omega
  simp only [mkR, h1, h2, h3, if_false, if_true, and_self]
theorem mkR_o {b a : Nat} {g : Nat → Nat → Int32} {f0 : jM} (h : a < b ∨ b + 25 ≤ a) : mkR b g f0 a = f0 a := by
  have h1 : ¬ a = b := by omega
  have h2 : ¬ (b < a ∧ a < b + 25) := by omega
  simp only [mkR, h1, h2, if_false]
theorem mkR_ld {b : Nat} {g : Nat → Nat → Int32} {f0 : jM} {i : Int32} (j : Nat) (h0 : 0 < j) (h : j < 25) : ldI (kdR j) (mkR b g f0) (b + j) i = gl (lenR j) (g j) i := by
  unfold ldI gl
  rw [mkR_j h0 h]
  by_cases hc : i < 0 ∨ lenR j ≤ i.toNatClampNeg <;> simp [hc]
theorem mkR_up {b : Nat} {g : Nat → Nat → Int32} {f0 : jM} {x : Int32} {k : Nat} (j : Nat) (h0 : 0 < j) (h : j < 25) : va_up (mkR b g f0) (b + j) (some (.inl (kdR j, lenR j, .inl (upd (g j) k x)))) = mkR b (up2 g j k x) f0 := by
  funext a
  by_cases ha : a = b + j
  · subst ha
    rw [va_up_self, mkR_j h0 h, up2_row]
  · rw [va_up_ne _ _ ha]
    by_cases hb : a = b
    · subst hb
      rw [mkR_b, mkR_b]
      have : objR a (up2 g j k x) = objR a g := by
        simp only [objR, up2_other g k x (show (0 : Nat) ≠ j by omega)]
      rw [this]
    · by_cases hr : b < a ∧ a < b + 25
      · obtain ⟨q, rfl⟩ : ∃ q, a = b + q := ⟨a - b, by omega⟩
        rw [mkR_j (by omega) (by omega), mkR_j (by omega) (by omega), up2_other g k x (by omega)]
      · rw [mkR_o (by omega), mkR_o (by omega)]
theorem mkR_st {b : Nat} {g : Nat → Nat → Int32} {f0 : jM} {i x : Int32} (j : Nat) (h0 : 0 < j) (h : j < 25) : stI (kdR j) (mkR b g f0) (b + j) i x = gs (lenR j) i (fun k => mkR b (up2 g j k x) f0) := by
  unfold stI gs
  rw [mkR_j h0 h]
  by_cases hc : i < 0 ∨ lenR j ≤ i.toNatClampNeg
  · simp [hc]
  · simp only [hc, not_false_eq_true, and_self, if_true, if_false]
    rw [mkR_up j h0 h]
theorem mkR_ob {b : Nat} {g : Nat → Nat → Int32} {f0 : jM} {x : Int32} (k : Nat) {l : List Value} (hl : l = objR b (up2 g 0 k x)) : va_up (mkR b g f0) b (some (.inr (6, l))) = mkR b (up2 g 0 k x) f0 := by
  subst hl
  funext a
  by_cases ha : a = b
  · subst ha
    rw [va_up_self, mkR_b]
  · rw [va_up_ne _ _ ha]
    by_cases hr : b < a ∧ a < b + 25
    · obtain ⟨q, rfl⟩ : ∃ q, a = b + q := ⟨a - b, by omega⟩
      rw [mkR_j (by omega) (by omega), mkR_j (by omega) (by omega), up2_other g k x (by omega)]
    · rw [mkR_o (by omega), mkR_o (by omega)]
theorem wrV_of {f : jM} {a ci k : Nat} {fs : List Value} {v : Value} (h : f a = some (.inr (ci, fs))) (hk : k < fs.length) : wrV ci f a k v = some (va_up f a (some (.inr (ci, fs.set k v)))) := by
  simp [wrV, h, hk]
theorem rchk {b : Nat} {g : Nat → Nat → Int32} {f0 : jM} : chk 6 (mkR b g f0) b = some () := by
  unfold chk
  rw [mkR_b]
  rfl
theorem rI0 {b : Nat} {g : Nat → Nat → Int32} {f0 : jM} : rdI 6 (mkR b g f0) b 0 = some (g 0 0) := by
  unfold rdI rdV
  rw [mkR_b]
  rfl
theorem rW0 {b : Nat} {g : Nat → Nat → Int32} {f0 : jM} {x : Int32} : wrV 6 (mkR b g f0) b 0 (.int x) = some (mkR b (up2 g 0 0 x) f0) := by
  rw [wrV_of (mkR_b b g f0) (by simp [objR]), mkR_ob (x := x) 0 (by simp [objR, up2])]
theorem rI1 {b : Nat} {g : Nat → Nat → Int32} {f0 : jM} : rdI 6 (mkR b g f0) b 1 = some (g 0 1) := by
  unfold rdI rdV
  rw [mkR_b]
  rfl
theorem rR2 {b : Nat} {g : Nat → Nat → Int32} {f0 : jM} : rdR 6 (mkR b g f0) b 2 = some (b + 1) := by
  unfold rdR rdV
  rw [mkR_b]
  rfl
theorem rl1 {b : Nat} {g : Nat → Nat → Int32} {f0 : jM} {i : Int32} : ldI 0 (mkR b g f0) (b + 1) i = gl 120 (g 1) i := mkR_ld 1 (by decide) (by decide)
theorem rs1 {b : Nat} {g : Nat → Nat → Int32} {f0 : jM} {i x : Int32} : stI 0 (mkR b g f0) (b + 1) i x = gs 120 i (fun k => mkR b (up2 g 1 k x) f0) := mkR_st 1 (by decide) (by decide)
theorem rR3 {b : Nat} {g : Nat → Nat → Int32} {f0 : jM} : rdR 6 (mkR b g f0) b 3 = some (b + 2) := by
  unfold rdR rdV
  rw [mkR_b]
  rfl
theorem rl2 {b : Nat} {g : Nat → Nat → Int32} {f0 : jM} {i : Int32} : ldI 0 (mkR b g f0) (b + 2) i = gl 120 (g 2) i := mkR_ld 2 (by decide) (by decide)
theorem rs2 {b : Nat} {g : Nat → Nat → Int32} {f0 : jM} {i x : Int32} : stI 0 (mkR b g f0) (b + 2) i x = gs 120 i (fun k => mkR b (up2 g 2 k x) f0) := mkR_st 2 (by decide) (by decide)
theorem rR4 {b : Nat} {g : Nat → Nat → Int32} {f0 : jM} : rdR 6 (mkR b g f0) b 4 = some (b + 3) := by
  unfold rdR rdV
  rw [mkR_b]
  rfl
theorem rl3 {b : Nat} {g : Nat → Nat → Int32} {f0 : jM} {i : Int32} : ldI 0 (mkR b g f0) (b + 3) i = gl 120 (g 3) i := mkR_ld 3 (by decide) (by decide)
theorem rs3 {b : Nat} {g : Nat → Nat → Int32} {f0 : jM} {i x : Int32} : stI 0 (mkR b g f0) (b + 3) i x = gs 120 i (fun k => mkR b (up2 g 3 k x) f0) := mkR_st 3 (by decide) (by decide)
theorem rR5 {b : Nat} {g : Nat → Nat → Int32} {f0 : jM} : rdR 6 (mkR b g f0) b 5 = some (b + 4) := by
  unfold rdR rdV
  rw [mkR_b]
  rfl
theorem rl4 {b : Nat} {g : Nat → Nat → Int32} {f0 : jM} {i : Int32} : ldI 1 (mkR b g f0) (b + 4) i = gl 120 (g 4) i := mkR_ld 4 (by decide) (by decide)
theorem rs4 {b : Nat} {g : Nat → Nat → Int32} {f0 : jM} {i x : Int32} : stI 1 (mkR b g f0) (b + 4) i x = gs 120 i (fun k => mkR b (up2 g 4 k x) f0) := mkR_st 4 (by decide) (by decide)
theorem rR6 {b : Nat} {g : Nat → Nat → Int32} {f0 : jM} : rdR 6 (mkR b g f0) b 6 = some (b + 5) := by
  unfold rdR rdV
  rw [mkR_b]
  rfl
theorem rl5 {b : Nat} {g : Nat → Nat → Int32} {f0 : jM} {i : Int32} : ldI 0 (mkR b g f0) (b + 5) i = gl 1440 (g 5) i := mkR_ld 5 (by decide) (by decide)
theorem rs5 {b : Nat} {g : Nat → Nat → Int32} {f0 : jM} {i x : Int32} : stI 0 (mkR b g f0) (b + 5) i x = gs 1440 i (fun k => mkR b (up2 g 5 k x) f0) := mkR_st 5 (by decide) (by decide)
theorem rR7 {b : Nat} {g : Nat → Nat → Int32} {f0 : jM} : rdR 6 (mkR b g f0) b 7 = some (b + 6) := by
  unfold rdR rdV
  rw [mkR_b]
  rfl
theorem rl6 {b : Nat} {g : Nat → Nat → Int32} {f0 : jM} {i : Int32} : ldI 0 (mkR b g f0) (b + 6) i = gl 1440 (g 6) i := mkR_ld 6 (by decide) (by decide)
theorem rs6 {b : Nat} {g : Nat → Nat → Int32} {f0 : jM} {i x : Int32} : stI 0 (mkR b g f0) (b + 6) i x = gs 1440 i (fun k => mkR b (up2 g 6 k x) f0) := mkR_st 6 (by decide) (by decide)
theorem rR8 {b : Nat} {g : Nat → Nat → Int32} {f0 : jM} : rdR 6 (mkR b g f0) b 8 = some (b + 7) := by
  unfold rdR rdV
  rw [mkR_b]
  rfl
theorem rl7 {b : Nat} {g : Nat → Nat → Int32} {f0 : jM} {i : Int32} : ldI 0 (mkR b g f0) (b + 7) i = gl 30 (g 7) i := mkR_ld 7 (by decide) (by decide)
theorem rs7 {b : Nat} {g : Nat → Nat → Int32} {f0 : jM} {i x : Int32} : stI 0 (mkR b g f0) (b + 7) i x = gs 30 i (fun k => mkR b (up2 g 7 k x) f0) := mkR_st 7 (by decide) (by decide)
theorem rR9 {b : Nat} {g : Nat → Nat → Int32} {f0 : jM} : rdR 6 (mkR b g f0) b 9 = some (b + 8) := by
  unfold rdR rdV
  rw [mkR_b]
  rfl
theorem rl8 {b : Nat} {g : Nat → Nat → Int32} {f0 : jM} {i : Int32} : ldI 0 (mkR b g f0) (b + 8) i = gl 30 (g 8) i := mkR_ld 8 (by decide) (by decide)
theorem rs8 {b : Nat} {g : Nat → Nat → Int32} {f0 : jM} {i x : Int32} : stI 0 (mkR b g f0) (b + 8) i x = gs 30 i (fun k => mkR b (up2 g 8 k x) f0) := mkR_st 8 (by decide) (by decide)
theorem rR10 {b : Nat} {g : Nat → Nat → Int32} {f0 : jM} : rdR 6 (mkR b g f0) b 10 = some (b + 9) := by
  unfold rdR rdV
  rw [mkR_b]
  rfl
theorem rl9 {b : Nat} {g : Nat → Nat → Int32} {f0 : jM} {i : Int32} : ldI 0 (mkR b g f0) (b + 9) i = gl 600 (g 9) i := mkR_ld 9 (by decide) (by decide)
theorem rs9 {b : Nat} {g : Nat → Nat → Int32} {f0 : jM} {i x : Int32} : stI 0 (mkR b g f0) (b + 9) i x = gs 600 i (fun k => mkR b (up2 g 9 k x) f0) := mkR_st 9 (by decide) (by decide)
theorem rR11 {b : Nat} {g : Nat → Nat → Int32} {f0 : jM} : rdR 6 (mkR b g f0) b 11 = some (b + 10) := by
  unfold rdR rdV
  rw [mkR_b]
  rfl
theorem rl10 {b : Nat} {g : Nat → Nat → Int32} {f0 : jM} {i : Int32} : ldI 0 (mkR b g f0) (b + 10) i = gl 5 (g 10) i := mkR_ld 10 (by decide) (by decide)
theorem rs10 {b : Nat} {g : Nat → Nat → Int32} {f0 : jM} {i x : Int32} : stI 0 (mkR b g f0) (b + 10) i x = gs 5 i (fun k => mkR b (up2 g 10 k x) f0) := mkR_st 10 (by decide) (by decide)
theorem rR12 {b : Nat} {g : Nat → Nat → Int32} {f0 : jM} : rdR 6 (mkR b g f0) b 12 = some (b + 11) := by
  unfold rdR rdV
  rw [mkR_b]
  rfl
theorem rl11 {b : Nat} {g : Nat → Nat → Int32} {f0 : jM} {i : Int32} : ldI 0 (mkR b g f0) (b + 11) i = gl 5 (g 11) i := mkR_ld 11 (by decide) (by decide)
theorem rs11 {b : Nat} {g : Nat → Nat → Int32} {f0 : jM} {i x : Int32} : stI 0 (mkR b g f0) (b + 11) i x = gs 5 i (fun k => mkR b (up2 g 11 k x) f0) := mkR_st 11 (by decide) (by decide)
theorem rI13 {b : Nat} {g : Nat → Nat → Int32} {f0 : jM} : rdI 6 (mkR b g f0) b 13 = some (g 0 2) := by
  unfold rdI rdV
  rw [mkR_b]
  rfl
theorem rW13 {b : Nat} {g : Nat → Nat → Int32} {f0 : jM} {x : Int32} : wrV 6 (mkR b g f0) b 13 (.int x) = some (mkR b (up2 g 0 2 x) f0) := by
  rw [wrV_of (mkR_b b g f0) (by simp [objR]), mkR_ob (x := x) 2 (by simp [objR, up2])]
theorem rR14 {b : Nat} {g : Nat → Nat → Int32} {f0 : jM} : rdR 6 (mkR b g f0) b 14 = some (b + 12) := by
  unfold rdR rdV
  rw [mkR_b]
  rfl
theorem rl12 {b : Nat} {g : Nat → Nat → Int32} {f0 : jM} {i : Int32} : ldI 0 (mkR b g f0) (b + 12) i = gl 64 (g 12) i := mkR_ld 12 (by decide) (by decide)
theorem rs12 {b : Nat} {g : Nat → Nat → Int32} {f0 : jM} {i x : Int32} : stI 0 (mkR b g f0) (b + 12) i x = gs 64 i (fun k => mkR b (up2 g 12 k x) f0) := mkR_st 12 (by decide) (by decide)
theorem rR15 {b : Nat} {g : Nat → Nat → Int32} {f0 : jM} : rdR 6 (mkR b g f0) b 15 = some (b + 13) := by
  unfold rdR rdV
  rw [mkR_b]
  rfl
theorem rl13 {b : Nat} {g : Nat → Nat → Int32} {f0 : jM} {i : Int32} : ldI 0 (mkR b g f0) (b + 13) i = gl 64 (g 13) i := mkR_ld 13 (by decide) (by decide)
theorem rs13 {b : Nat} {g : Nat → Nat → Int32} {f0 : jM} {i x : Int32} : stI 0 (mkR b g f0) (b + 13) i x = gs 64 i (fun k => mkR b (up2 g 13 k x) f0) := mkR_st 13 (by decide) (by decide)
theorem rR16 {b : Nat} {g : Nat → Nat → Int32} {f0 : jM} : rdR 6 (mkR b g f0) b 16 = some (b + 14) := by
  unfold rdR rdV
  rw [mkR_b]
  rfl
theorem rl14 {b : Nat} {g : Nat → Nat → Int32} {f0 : jM} {i : Int32} : ldI 0 (mkR b g f0) (b + 14) i = gl 64 (g 14) i := mkR_ld 14 (by decide) (by decide)
theorem rs14 {b : Nat} {g : Nat → Nat → Int32} {f0 : jM} {i x : Int32} : stI 0 (mkR b g f0) (b + 14) i x = gs 64 i (fun k => mkR b (up2 g 14 k x) f0) := mkR_st 14 (by decide) (by decide)
theorem rR17 {b : Nat} {g : Nat → Nat → Int32} {f0 : jM} : rdR 6 (mkR b g f0) b 17 = some (b + 15) := by
  unfold rdR rdV
  rw [mkR_b]
  rfl
theorem rl15 {b : Nat} {g : Nat → Nat → Int32} {f0 : jM} {i : Int32} : ldI 0 (mkR b g f0) (b + 15) i = gl 64 (g 15) i := mkR_ld 15 (by decide) (by decide)
theorem rs15 {b : Nat} {g : Nat → Nat → Int32} {f0 : jM} {i x : Int32} : stI 0 (mkR b g f0) (b + 15) i x = gs 64 i (fun k => mkR b (up2 g 15 k x) f0) := mkR_st 15 (by decide) (by decide)
theorem rR18 {b : Nat} {g : Nat → Nat → Int32} {f0 : jM} : rdR 6 (mkR b g f0) b 18 = some (b + 16) := by
  unfold rdR rdV
  rw [mkR_b]
  rfl
theorem rl16 {b : Nat} {g : Nat → Nat → Int32} {f0 : jM} {i : Int32} : ldI 0 (mkR b g f0) (b + 16) i = gl 64 (g 16) i := mkR_ld 16 (by decide) (by decide)
theorem rs16 {b : Nat} {g : Nat → Nat → Int32} {f0 : jM} {i x : Int32} : stI 0 (mkR b g f0) (b + 16) i x = gs 64 i (fun k => mkR b (up2 g 16 k x) f0) := mkR_st 16 (by decide) (by decide)
theorem rR19 {b : Nat} {g : Nat → Nat → Int32} {f0 : jM} : rdR 6 (mkR b g f0) b 19 = some (b + 17) := by
  unfold rdR rdV
  rw [mkR_b]
  rfl
theorem rl17 {b : Nat} {g : Nat → Nat → Int32} {f0 : jM} {i : Int32} : ldI 0 (mkR b g f0) (b + 17) i = gl 64 (g 17) i := mkR_ld 17 (by decide) (by decide)
theorem rs17 {b : Nat} {g : Nat → Nat → Int32} {f0 : jM} {i x : Int32} : stI 0 (mkR b g f0) (b + 17) i x = gs 64 i (fun k => mkR b (up2 g 17 k x) f0) := mkR_st 17 (by decide) (by decide)
theorem rR20 {b : Nat} {g : Nat → Nat → Int32} {f0 : jM} : rdR 6 (mkR b g f0) b 20 = some (b + 18) := by
  unfold rdR rdV
  rw [mkR_b]
  rfl
theorem rl18 {b : Nat} {g : Nat → Nat → Int32} {f0 : jM} {i : Int32} : ldI 1 (mkR b g f0) (b + 18) i = gl 120 (g 18) i := mkR_ld 18 (by decide) (by decide)
theorem rs18 {b : Nat} {g : Nat → Nat → Int32} {f0 : jM} {i x : Int32} : stI 1 (mkR b g f0) (b + 18) i x = gs 120 i (fun k => mkR b (up2 g 18 k x) f0) := mkR_st 18 (by decide) (by decide)
theorem rR21 {b : Nat} {g : Nat → Nat → Int32} {f0 : jM} : rdR 6 (mkR b g f0) b 21 = some (b + 19) := by
  unfold rdR rdV
  rw [mkR_b]
  rfl
theorem rl19 {b : Nat} {g : Nat → Nat → Int32} {f0 : jM} {i : Int32} : ldI 1 (mkR b g f0) (b + 19) i = gl 120 (g 19) i := mkR_ld 19 (by decide) (by decide)
theorem rs19 {b : Nat} {g : Nat → Nat → Int32} {f0 : jM} {i x : Int32} : stI 1 (mkR b g f0) (b + 19) i x = gs 120 i (fun k => mkR b (up2 g 19 k x) f0) := mkR_st 19 (by decide) (by decide)
theorem rI22 {b : Nat} {g : Nat → Nat → Int32} {f0 : jM} : rdI 6 (mkR b g f0) b 22 = some (g 0 3) := by
  unfold rdI rdV
  rw [mkR_b]
  rfl
theorem rW22 {b : Nat} {g : Nat → Nat → Int32} {f0 : jM} {x : Int32} : wrV 6 (mkR b g f0) b 22 (.int x) = some (mkR b (up2 g 0 3 x) f0) := by
  rw [wrV_of (mkR_b b g f0) (by simp [objR]), mkR_ob (x := x) 3 (by simp [objR, up2])]
theorem rR23 {b : Nat} {g : Nat → Nat → Int32} {f0 : jM} : rdR 6 (mkR b g f0) b 23 = some (b + 20) := by
  unfold rdR rdV
  rw [mkR_b]
  rfl
theorem rl20 {b : Nat} {g : Nat → Nat → Int32} {f0 : jM} {i : Int32} : ldI 0 (mkR b g f0) (b + 20) i = gl 120 (g 20) i := mkR_ld 20 (by decide) (by decide)
theorem rs20 {b : Nat} {g : Nat → Nat → Int32} {f0 : jM} {i x : Int32} : stI 0 (mkR b g f0) (b + 20) i x = gs 120 i (fun k => mkR b (up2 g 20 k x) f0) := mkR_st 20 (by decide) (by decide)
theorem rR24 {b : Nat} {g : Nat → Nat → Int32} {f0 : jM} : rdR 6 (mkR b g f0) b 24 = some (b + 21) := by
  unfold rdR rdV
  rw [mkR_b]
  rfl
theorem rl21 {b : Nat} {g : Nat → Nat → Int32} {f0 : jM} {i : Int32} : ldI 1 (mkR b g f0) (b + 21) i = gl 120 (g 21) i := mkR_ld 21 (by decide) (by decide)
theorem rs21 {b : Nat} {g : Nat → Nat → Int32} {f0 : jM} {i x : Int32} : stI 1 (mkR b g f0) (b + 21) i x = gs 120 i (fun k => mkR b (up2 g 21 k x) f0) := mkR_st 21 (by decide) (by decide)
theorem rR25 {b : Nat} {g : Nat → Nat → Int32} {f0 : jM} : rdR 6 (mkR b g f0) b 25 = some (b + 22) := by
  unfold rdR rdV
  rw [mkR_b]
  rfl
theorem rl22 {b : Nat} {g : Nat → Nat → Int32} {f0 : jM} {i : Int32} : ldI 1 (mkR b g f0) (b + 22) i = gl 600 (g 22) i := mkR_ld 22 (by decide) (by decide)
theorem rs22 {b : Nat} {g : Nat → Nat → Int32} {f0 : jM} {i x : Int32} : stI 1 (mkR b g f0) (b + 22) i x = gs 600 i (fun k => mkR b (up2 g 22 k x) f0) := mkR_st 22 (by decide) (by decide)
theorem rR26 {b : Nat} {g : Nat → Nat → Int32} {f0 : jM} : rdR 6 (mkR b g f0) b 26 = some (b + 23) := by
  unfold rdR rdV
  rw [mkR_b]
  rfl
theorem rl23 {b : Nat} {g : Nat → Nat → Int32} {f0 : jM} {i : Int32} : ldI 1 (mkR b g f0) (b + 23) i = gl 120 (g 23) i := mkR_ld 23 (by decide) (by decide)
theorem rs23 {b : Nat} {g : Nat → Nat → Int32} {f0 : jM} {i x : Int32} : stI 1 (mkR b g f0) (b + 23) i x = gs 120 i (fun k => mkR b (up2 g 23 k x) f0) := mkR_st 23 (by decide) (by decide)
theorem rR27 {b : Nat} {g : Nat → Nat → Int32} {f0 : jM} : rdR 6 (mkR b g f0) b 27 = some (b + 24) := by
  unfold rdR rdV
  rw [mkR_b]
  rfl
theorem rl24 {b : Nat} {g : Nat → Nat → Int32} {f0 : jM} {i : Int32} : ldI 1 (mkR b g f0) (b + 24) i = gl 120 (g 24) i := mkR_ld 24 (by decide) (by decide)
theorem rs24 {b : Nat} {g : Nat → Nat → Int32} {f0 : jM} {i x : Int32} : stI 1 (mkR b g f0) (b + 24) i x = gs 120 i (fun k => mkR b (up2 g 24 k x) f0) := mkR_st 24 (by decide) (by decide)
