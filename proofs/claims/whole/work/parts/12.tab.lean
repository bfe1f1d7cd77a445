/-! the reference's table out of numbers A and free values V (V: 6 field values, 8 register values, 11 moved, 17 registers of messages) -/
def upA (g : Nat → Nat → Nat) (j i x : Nat) : Nat → Nat → Nat := fun j' i' => if j' = j ∧ i' = i then x else g j' i'
theorem upA_s (g : Nat → Nat → Nat) (j i x : Nat) : upA g j i x j i = x := by simp [upA]
theorem upA_n (g : Nat → Nat → Nat) {j i j' i' : Nat} (x : Nat) (h : j' ≠ j ∨ i' ≠ i) : upA g j i x j' i' = g j' i' := by
  have : ¬ (j' = j ∧ i' = i) := by omega
  simp [upA, this]
theorem up2_s (g : Nat → Nat → Int32) (j i : Nat) (x : Int32) : up2 g j i x j i = x := by simp [up2]
theorem up2_n (g : Nat → Nat → Int32) {j i j' i' : Nat} (x : Int32) (h : j' ≠ j ∨ i' ≠ i) : up2 g j i x j' i' = g j' i' := by
  have : ¬ (j' = j ∧ i' = i) := by omega
  simp [up2, this]
def isV (j : Nat) : Bool := j == 6 || j == 8 || j == 11 || j == 17
def toR (A : Nat → Nat → Nat) (V : Nat → Nat → Int32) : Nat → Nat → Int32 := fun j i => if isV j then V j i else nI (A j i)
theorem toR_upA {A : Nat → Nat → Nat} {V : Nat → Nat → Int32} {j k x : Nat} (h : isV j = false) : up2 (toR A V) j k (nI x) = toR (upA A j k x) V := by
  funext j' i'
  by_cases hc : j' = j ∧ i' = k
  · obtain ⟨rfl, rfl⟩ := hc
    simp [up2, toR, upA, h]
  · simp only [up2, toR, upA, hc, if_false]
theorem toR_upV {A : Nat → Nat → Nat} {V : Nat → Nat → Int32} {j k : Nat} {x : Int32} (h : isV j = true) : up2 (toR A V) j k x = toR A (up2 V j k x) := by
  funext j' i'
  by_cases hc : j' = j ∧ i' = k
  · obtain ⟨rfl, rfl⟩ := hc
    simp [up2, toR, h]
  · simp only [up2, toR, hc, if_false]
theorem tR0 {A : Nat → Nat → Nat} {V : Nat → Nat → Int32} {i : Nat} : toR A V 0 i = nI (A 0 i) := rfl
theorem uR0 {A : Nat → Nat → Nat} {V : Nat → Nat → Int32} {k x : Nat} : up2 (toR A V) 0 k (nI x) = toR (upA A 0 k x) V := toR_upA rfl
theorem tR1 {A : Nat → Nat → Nat} {V : Nat → Nat → Int32} {i : Nat} : toR A V 1 i = nI (A 1 i) := rfl
theorem uR1 {A : Nat → Nat → Nat} {V : Nat → Nat → Int32} {k x : Nat} : up2 (toR A V) 1 k (nI x) = toR (upA A 1 k x) V := toR_upA rfl
theorem tR2 {A : Nat → Nat → Nat} {V : Nat → Nat → Int32} {i : Nat} : toR A V 2 i = nI (A 2 i) := rfl
theorem uR2 {A : Nat → Nat → Nat} {V : Nat → Nat → Int32} {k x : Nat} : up2 (toR A V) 2 k (nI x) = toR (upA A 2 k x) V := toR_upA rfl
theorem tR3 {A : Nat → Nat → Nat} {V : Nat → Nat → Int32} {i : Nat} : toR A V 3 i = nI (A 3 i) := rfl
theorem uR3 {A : Nat → Nat → Nat} {V : Nat → Nat → Int32} {k x : Nat} : up2 (toR A V) 3 k (nI x) = toR (upA A 3 k x) V := toR_upA rfl
theorem tR4 {A : Nat → Nat → Nat} {V : Nat → Nat → Int32} {i : Nat} : toR A V 4 i = nI (A 4 i) := rfl
theorem uR4 {A : Nat → Nat → Nat} {V : Nat → Nat → Int32} {k x : Nat} : up2 (toR A V) 4 k (nI x) = toR (upA A 4 k x) V := toR_upA rfl
theorem tR5 {A : Nat → Nat → Nat} {V : Nat → Nat → Int32} {i : Nat} : toR A V 5 i = nI (A 5 i) := rfl
theorem uR5 {A : Nat → Nat → Nat} {V : Nat → Nat → Int32} {k x : Nat} : up2 (toR A V) 5 k (nI x) = toR (upA A 5 k x) V := toR_upA rfl
theorem tR6 {A : Nat → Nat → Nat} {V : Nat → Nat → Int32} {i : Nat} : toR A V 6 i = V 6 i := rfl
theorem uR6 {A : Nat → Nat → Nat} {V : Nat → Nat → Int32} {k : Nat} {x : Int32} : up2 (toR A V) 6 k x = toR A (up2 V 6 k x) := toR_upV rfl
theorem tR7 {A : Nat → Nat → Nat} {V : Nat → Nat → Int32} {i : Nat} : toR A V 7 i = nI (A 7 i) := rfl
theorem uR7 {A : Nat → Nat → Nat} {V : Nat → Nat → Int32} {k x : Nat} : up2 (toR A V) 7 k (nI x) = toR (upA A 7 k x) V := toR_upA rfl
theorem tR8 {A : Nat → Nat → Nat} {V : Nat → Nat → Int32} {i : Nat} : toR A V 8 i = V 8 i := rfl
theorem uR8 {A : Nat → Nat → Nat} {V : Nat → Nat → Int32} {k : Nat} {x : Int32} : up2 (toR A V) 8 k x = toR A (up2 V 8 k x) := toR_upV rfl
theorem tR9 {A : Nat → Nat → Nat} {V : Nat → Nat → Int32} {i : Nat} : toR A V 9 i = nI (A 9 i) := rfl
theorem uR9 {A : Nat → Nat → Nat} {V : Nat → Nat → Int32} {k x : Nat} : up2 (toR A V) 9 k (nI x) = toR (upA A 9 k x) V := toR_upA rfl
theorem tR10 {A : Nat → Nat → Nat} {V : Nat → Nat → Int32} {i : Nat} : toR A V 10 i = nI (A 10 i) := rfl
theorem uR10 {A : Nat → Nat → Nat} {V : Nat → Nat → Int32} {k x : Nat} : up2 (toR A V) 10 k (nI x) = toR (upA A 10 k x) V := toR_upA rfl
theorem tR11 {A : Nat → Nat → Nat} {V : Nat → Nat → Int32} {i : Nat} : toR A V 11 i = V 11 i := rfl
theorem uR11 {A : Nat → Nat → Nat} {V : Nat → Nat → Int32} {k : Nat} {x : Int32} : up2 (toR A V) 11 k x = toR A (up2 V 11 k x) := toR_upV rfl
theorem tR12 {A : Nat → Nat → Nat} {V : Nat → Nat → Int32} {i : Nat} : toR A V 12 i = nI (A 12 i) := rfl
theorem uR12 {A : Nat → Nat → Nat} {V : Nat → Nat → Int32} {k x : Nat} : up2 (toR A V) 12 k (nI x) = toR (upA A 12 k x) V := toR_upA rfl
theorem tR13 {A : Nat → Nat → Nat} {V : Nat → Nat → Int32} {i : Nat} : toR A V 13 i = nI (A 13 i) := rfl
theorem uR13 {A : Nat → Nat → Nat} {V : Nat → Nat → Int32} {k x : Nat} : up2 (toR A V) 13 k (nI x) = toR (upA A 13 k x) V := toR_upA rfl
theorem tR14 {A : Nat → Nat → Nat} {V : Nat → Nat → Int32} {i : Nat} : toR A V 14 i = nI (A 14 i) := rfl
theorem uR14 {A : Nat → Nat → Nat} {V : Nat → Nat → Int32} {k x : Nat} : up2 (toR A V) 14 k (nI x) = toR (upA A 14 k x) V := toR_upA rfl
theorem tR15 {A : Nat → Nat → Nat} {V : Nat → Nat → Int32} {i : Nat} : toR A V 15 i = nI (A 15 i) := rfl
theorem uR15 {A : Nat → Nat → Nat} {V : Nat → Nat → Int32} {k x : Nat} : up2 (toR A V) 15 k (nI x) = toR (upA A 15 k x) V := toR_upA rfl
theorem tR16 {A : Nat → Nat → Nat} {V : Nat → Nat → Int32} {i : Nat} : toR A V 16 i = nI (A 16 i) := rfl
theorem uR16 {A : Nat → Nat → Nat} {V : Nat → Nat → Int32} {k x : Nat} : up2 (toR A V) 16 k (nI x) = toR (upA A 16 k x) V := toR_upA rfl
theorem tR17 {A : Nat → Nat → Nat} {V : Nat → Nat → Int32} {i : Nat} : toR A V 17 i = V 17 i := rfl
theorem uR17 {A : Nat → Nat → Nat} {V : Nat → Nat → Int32} {k : Nat} {x : Int32} : up2 (toR A V) 17 k x = toR A (up2 V 17 k x) := toR_upV rfl
theorem tR18 {A : Nat → Nat → Nat} {V : Nat → Nat → Int32} {i : Nat} : toR A V 18 i = nI (A 18 i) := rfl
theorem uR18 {A : Nat → Nat → Nat} {V : Nat → Nat → Int32} {k x : Nat} : up2 (toR A V) 18 k (nI x) = toR (upA A 18 k x) V := toR_upA rfl
theorem tR19 {A : Nat → Nat → Nat} {V : Nat → Nat → Int32} {i : Nat} : toR A V 19 i = nI (A 19 i) := rfl
theorem uR19 {A : Nat → Nat → Nat} {V : Nat → Nat → Int32} {k x : Nat} : up2 (toR A V) 19 k (nI x) = toR (upA A 19 k x) V := toR_upA rfl
theorem tR20 {A : Nat → Nat → Nat} {V : Nat → Nat → Int32} {i : Nat} : toR A V 20 i = nI (A 20 i) := rfl
theorem uR20 {A : Nat → Nat → Nat} {V : Nat → Nat → Int32} {k x : Nat} : up2 (toR A V) 20 k (nI x) = toR (upA A 20 k x) V := toR_upA rfl
theorem tR21 {A : Nat → Nat → Nat} {V : Nat → Nat → Int32} {i : Nat} : toR A V 21 i = nI (A 21 i) := rfl
theorem uR21 {A : Nat → Nat → Nat} {V : Nat → Nat → Int32} {k x : Nat} : up2 (toR A V) 21 k (nI x) = toR (upA A 21 k x) V := toR_upA rfl
theorem tR22 {A : Nat → Nat → Nat} {V : Nat → Nat → Int32} {i : Nat} : toR A V 22 i = nI (A 22 i) := rfl
theorem uR22 {A : Nat → Nat → Nat} {V : Nat → Nat → Int32} {k x : Nat} : up2 (toR A V) 22 k (nI x) = toR (upA A 22 k x) V := toR_upA rfl
theorem tR23 {A : Nat → Nat → Nat} {V : Nat → Nat → Int32} {i : Nat} : toR A V 23 i = nI (A 23 i) := rfl
theorem uR23 {A : Nat → Nat → Nat} {V : Nat → Nat → Int32} {k x : Nat} : up2 (toR A V) 23 k (nI x) = toR (upA A 23 k x) V := toR_upA rfl
theorem tR24 {A : Nat → Nat → Nat} {V : Nat → Nat → Int32} {i : Nat} : toR A V 24 i = nI (A 24 i) := rfl
theorem uR24 {A : Nat → Nat → Nat} {V : Nat → Nat → Int32} {k x : Nat} : up2 (toR A V) 24 k (nI x) = toR (upA A 24 k x) V := toR_upA rfl
