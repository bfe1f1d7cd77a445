/-! WITHOUT: the least set -/
section OD
variable (A : tA) (V : tV) (N : Nat) (Gr : Nat → Prop)
/-- held from outside of GRAY, in its own node -/
def lO (x : Nat) : Prop := x < 120 ∧ Gr x ∧ ((∃ n, n < N ∧ rH A V n x ∧ x / 24 = n) ∨ ∃ o, gd A N o ∧ ¬ Gr o ∧ fH A V o x ∧ x / 24 = o / 24)
/-- held in node m by let-go ones -/
def hW (O : Nat → Prop) (m x : Nat) : Prop := x < 120 ∧ x / 24 ≠ m ∧ ∃ o, gd A N o ∧ o / 24 = m ∧ Gr o ∧ ¬ O o ∧ fH A V o x
/-- held there by anything else -/
def hE (O : Nat → Prop) (m x : Nat) : Prop := x < 120 ∧ x / 24 ≠ m ∧ (rH A V m x ∨ ∃ o, gd A N o ∧ o / 24 = m ∧ ¬ (Gr o ∧ ¬ O o) ∧ fH A V o x)
def inr (O : Nat → Prop) (m x : Nat) : Prop := hW A V N Gr O m x ∧ ¬ hE A V N Gr O m x
def Cld (P : Nat → Prop) : Prop := (∀ x, lO A V N Gr x → P x) ∧ (∀ o x, gd A N o → Gr o → P o → fH A V o x → P x) ∧ ∀ x m, x < 120 → m < 5 → Gr x → 0 < A 9 (120 * m + x) → ¬ inr A V N Gr P m x → P x
def Wo (x : Nat) : Prop := ∀ P, Cld A V N Gr P → P x
end OD
section OL
variable {A : tA} {V : tV} {N : Nat} {Gr : Nat → Prop}
theorem inr_anti {O P : Nat → Prop} (h : ∀ x, gd A N x → O x → P x) {m x : Nat} (hi : inr A V N Gr P m x) : inr A V N Gr O m x := by
  obtain ⟨⟨w0, w1, o, w2, w3, w4, w5, w6⟩, w7⟩ := hi
  refine ⟨⟨w0, w1, o, w2, w3, w4, fun q => w5 (h o w2 q), w6⟩, fun ⟨_, _, q⟩ => w7 ⟨w0, w1, ?_⟩⟩
  rcases q with q | ⟨o', q1, q2, q3, q4⟩
  · exact Or.inl q
  · exact Or.inr ⟨o', q1, q2, fun w => q3 ⟨w.1, fun q' => w.2 (h o' q1 q')⟩, q4⟩
theorem Wo_Cld : Cld A V N Gr (Wo A V N Gr) := by
  refine ⟨fun x hx P hP => hP.1 x hx, fun o x ho hg hw hf P hP => hP.2.1 o x ho hg (hw P hP) hf, fun x m hx hm hg hw hi P hP => hP.2.2 x m hx hm hg hw (fun q => hi (inr_anti (fun y _ hy => hy P hP) q))⟩
theorem Wo_Gr {x : Nat} (hcl : ∀ o y, gd A N o → Gr o → fH A V o y → Gr y) (h : Wo A V N Gr x) : Gr x :=
  h Gr ⟨fun x hx => hx.2.1, fun o x ho hg _ hf => hcl o x ho hg hf, fun x m _ _ hg _ _ => hg⟩
/-- a sum of some is the whole sum just when all that count are among them -/
theorem sm_part {w : Nat → Nat} {I : Nat → Bool} : ∀ {n : Nat}, (sm (fun m => if I m then w m else 0) n = sm w n ↔ ∀ m, m < n → 0 < w m → I m = true) ∧ sm (fun m => if I m then w m else 0) n ≤ sm w n := by
  intro n
  induction n with
  | zero => exact ⟨⟨fun _ m hm => absurd hm (by omega), fun _ => rfl⟩, Nat.le_refl _⟩
  | succ n ih =>
    obtain ⟨h1, h2⟩ := ih
    show ((sm (fun m => if I m then w m else 0) n + (if I n then w n else 0) = sm w n + w n) ↔ _) ∧ sm (fun m => if I m then w m else 0) n + (if I n then w n else 0) ≤ sm w n + w n
    cases hI : I n with
    | true =>
      rw [if_pos rfl]
      refine ⟨⟨fun h m hm hw => ?_, fun h => ?_⟩, by omega⟩
      · by_cases c : m = n
        · rw [c]; exact hI
        · exact h1.mp (by omega) m (by omega) hw
      · rw [h1.mpr (fun m hm hw => h m (by omega) hw)]
    | false =>
      rw [if_neg (by decide)]
      refine ⟨⟨fun h m hm hw => ?_, fun h => ?_⟩, by omega⟩
      · by_cases c : m = n
        · rw [c] at hw; omega
        · exact h1.mp (by omega) m (by omega) hw
      · rcases Nat.eq_zero_or_pos (w n) with w0 | w0
        · rw [h1.mpr (fun m hm hw => h m (by omega) hw), w0]
        · have := h n (by omega) w0
          rw [hI] at this
          exact absurd this (by decide)
end OL
/-! the class's table of holders -/
def HT (E2 E1 : Nat → Prop) (g : tV) : Prop := ∀ x, x < 120 → (g 72 x = 2 ∧ E2 x) ∨ (g 72 x = 1 ∧ ¬ E2 x ∧ E1 x) ∨ (g 72 x = 0 ∧ ¬ E2 x ∧ ¬ E1 x)
theorem HT_congr {E2 E1 F2 F1 : Nat → Prop} {g : tV} (h : HT E2 E1 g) (h2 : ∀ x, x < 120 → (E2 x ↔ F2 x)) (h1 : ∀ x, x < 120 → (E1 x ↔ F1 x)) : HT F2 F1 g := by
  intro x hx
  rw [← h2 x hx, ← h1 x hx]
  exact h x hx
section FH
variable {b p N : Nat} {gn : tN} {pi : Nat → Nat} {A : tA} {V : tV}
/-- the value of a slot, as the class has it -/
theorem ckd3 {n k : Nat} {v : Int32} (hv : okv A N n k v) (hN : N ≤ 5) : ckd n k v = 3 ↔ ∃ y, y < 120 ∧ k = 2 ∧ v = nI y ∧ y / 24 ≠ n := by
  rcases hv with ⟨rfl, rfl⟩ | rfl | ⟨rfl, o, ho, rfl, -⟩
  · rw [ckd0]
    exact ⟨fun h => absurd h (by decide), fun ⟨y, _, h, _⟩ => absurd h (by omega)⟩
  · rw [ckd1]
    exact ⟨fun h => absurd h (by decide), fun ⟨y, _, h, _⟩ => absurd h (by omega)⟩
  · by_cases c : o / 24 = n
    · rw [ckdL (by omega) c]
      refine ⟨fun h => absurd h (by decide), fun ⟨y, h1, _, h2, h3⟩ => ?_⟩
      have : o = y := (nI_eq (by omega) (by omega)).mp h2
      subst this
      exact absurd c h3
    · rw [ckdF (by omega) c]
      exact ⟨fun _ => ⟨o, by omega, rfl, rfl, c⟩, fun _ => rfl⟩
theorem ckd2 {n k : Nat} {v : Int32} (hv : okv A N n k v) (hN : N ≤ 5) : ckd n k v = 2 ↔ ∃ y, y < 120 ∧ k = 2 ∧ v = nI y ∧ y / 24 = n := by
  rcases hv with ⟨rfl, rfl⟩ | rfl | ⟨rfl, o, ho, rfl, -⟩
  · rw [ckd0]
    exact ⟨fun h => absurd h (by decide), fun ⟨y, _, h, _⟩ => absurd h (by omega)⟩
  · rw [ckd1]
    exact ⟨fun h => absurd h (by decide), fun ⟨y, _, h, _⟩ => absurd h (by omega)⟩
  · by_cases c : o / 24 = n
    · rw [ckdL (by omega) c]
      exact ⟨fun _ => ⟨o, by omega, rfl, rfl, c⟩, fun _ => rfl⟩
    · rw [ckdF (by omega) c]
      refine ⟨fun h => absurd h (by decide), fun ⟨y, h1, _, h2, h3⟩ => ?_⟩
      have : o = y := (nI_eq (by omega) (by omega)).mp h2
      subst this
      exact absurd h3 c
theorem eC_note {n s h : Nat} {gp : tV} {E2 E1 : Nat → Prop} (hp : b + 2 + 8 * N ≤ p) (hn : n < N) (hs : s < 294) (hh : h = 1 ∨ h = 2) (hv : gn n 1 s = 3 → ∃ y, y < 120 ∧ gn n 2 s = nI y) (hT : HT E2 E1 gp) : ∃ gp', (∀ f1, mX4_noteHolder (mkC b p N gn gp pi f1) (p + 65) (b + 2 + 8 * n) (nI s) (nI h) = some (mkC b p N gn gp' pi f1)) ∧ HT (fun x => E2 x ∨ (h = 2 ∧ gn n 1 s = 3 ∧ gn n 2 s = nI x)) (fun x => E1 x ∨ (h = 1 ∧ gn n 1 s = 3 ∧ gn n 2 s = nI x)) gp' ∧ ∀ j, j ≠ 72 → gp' j = gp j := by
  by_cases c : gn n 1 s = 3
  · obtain ⟨y, hy, hy2⟩ := hv c
    have key : ∀ x, x < 120 → (gn n 2 s = nI x ↔ x = y) := fun x hx => by
      rw [hy2]
      exact ⟨fun q => ((nI_eq (by omega) (by omega)).mp q).symm, fun q => by rw [q]⟩
    refine ⟨up2 gp 72 y (if gp 72 y < nI h then nI h else gp 72 y), fun f1 => ?_, fun x hx => ?_, fun j hj => up2_other _ _ _ hj⟩
    · unfold mX4_noteHolder
      simp (disch := omega) only [cNr1, cNl1, gl_nI, Option.bind_some, c, if_true, cNr2, cNl2, hy2, eC_isId]
      rw [if_neg (by decide)]
      simp (disch := omega) only [Option.bind_some, cT2, cTl72, cTs72, gl_nI, gs_nI]
    · simp only [key x hx, c, true_and]
      by_cases d : x = y
      · subst d
        rw [up2_s]
        rcases hT x hx with ⟨t1, t2⟩ | ⟨t1, t2, t3⟩ | ⟨t1, t2, t3⟩
        · rw [t1]
          left
          refine ⟨?_, Or.inl t2⟩
          rcases hh with rfl | rfl
          · rw [if_neg (by decide)]
          · rw [if_neg (by decide)]
        · rw [t1]
          rcases hh with rfl | rfl
          · right; left
            refine ⟨by rw [if_neg (by decide)], fun w => ?_, Or.inl t3⟩
            rcases w with w | w
            · exact t2 w
            · omega
          · left
            exact ⟨by rw [if_pos (by decide)]; rfl, Or.inr ⟨rfl, rfl⟩⟩
        · rw [t1]
          rcases hh with rfl | rfl
          · right; left
            refine ⟨by rw [if_pos (by decide)]; rfl, fun w => ?_, Or.inr ⟨rfl, rfl⟩⟩
            rcases w with w | w
            · exact t2 w
            · omega
          · left
            exact ⟨by rw [if_pos (by decide)]; rfl, Or.inr ⟨rfl, rfl⟩⟩
      · rw [up2_n _ _ (by omega)]
        simp only [d, and_false, or_false]
        exact hT x hx
  · refine ⟨gp, fun f1 => ?_, ?_, fun j _ => rfl⟩
    · unfold mX4_noteHolder
      simp (disch := omega) only [cNr1, cNl1, cNr2, cNl2, gl_nI, Option.bind_some]
      rw [if_neg c]
    · exact HT_congr hT (fun x _ => by simp [c]) (fun x _ => by simp [c])
end FH
