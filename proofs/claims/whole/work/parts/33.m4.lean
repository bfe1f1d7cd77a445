/-! a message is sent -/
def apA (A : tA) (fr to k o w : Nat) : tA := upA (upA (upA (upA (upA (upA A 12 (A 0 2) fr) 13 (A 0 2) to) 14 (A 0 2) k) 15 (A 0 2) o) 16 (A 0 2) w) 0 2 (A 0 2 + 1)
theorem upA_if {A : tA} {j i x i' : Nat} : upA A j i x j i' = if i' = i then x else A j i' := by
  by_cases h : i' = i
  · rw [h, upA_s, if_pos rfl]
  · rw [upA_n _ _ (Or.inr h), if_neg h]
theorem up2_if {A : tV} {j i i' : Nat} {x : Int32} : up2 A j i x j i' = if i' = i then x else A j i' := by
  by_cases h : i' = i
  · rw [h, up2_s, if_pos rfl]
  · rw [up2_n _ _ (Or.inr h), if_neg h]
section AP
variable {A : tA} {V : tV} {N fr to k o w : Nat}
theorem ap12 (i : Nat) : apA A fr to k o w 12 i = if i = A 0 2 then fr else A 12 i := upA_if (A := A)
theorem ap13 (i : Nat) : apA A fr to k o w 13 i = if i = A 0 2 then to else A 13 i := upA_if (A := A)
theorem ap14 (i : Nat) : apA A fr to k o w 14 i = if i = A 0 2 then k else A 14 i := upA_if (A := A)
theorem ap15 (i : Nat) : apA A fr to k o w 15 i = if i = A 0 2 then o else A 15 i := upA_if (A := A)
theorem ap16 (i : Nat) : apA A fr to k o w 16 i = if i = A 0 2 then w else A 16 i := upA_if (A := A)
theorem ap0 : apA A fr to k o w 0 2 = A 0 2 + 1 := upA_s _ 0 2 _
theorem eR_sends {M : Nat} {f0 : jM} {r : Int32} (h : A 0 2 < 64) : mX6_sends (mkR M (toR A V) f0) M (nI fr) (nI to) (nI k) (nI o) (nI w) r = some (mkR M (toR (apA A fr to k o w) (up2 V 17 (A 0 2) r)) f0) := by
  unfold mX6_sends
  have e12 : ∀ (B : tA) (i x : Nat), upA B 12 i x 0 2 = B 0 2 := fun _ _ _ => rfl
  have e13 : ∀ (B : tA) (i x : Nat), upA B 13 i x 0 2 = B 0 2 := fun _ _ _ => rfl
  have e14 : ∀ (B : tA) (i x : Nat), upA B 14 i x 0 2 = B 0 2 := fun _ _ _ => rfl
  have e15 : ∀ (B : tA) (i x : Nat), upA B 15 i x 0 2 = B 0 2 := fun _ _ _ => rfl
  have e16 : ∀ (B : tA) (i x : Nat), upA B 16 i x 0 2 = B 0 2 := fun _ _ _ => rfl
  simp (disch := omega) only [rR14, rR15, rR16, rR17, rR18, rR19, rI13, rW13, rs12, rs13, rs14, rs15, rs16, rs17, tR0, e12, e13, e14, e15, e16, gs_nI, uR12, uR13, uR14, uR15, uR16, uR17, Option.bind_some, i1, nI_add, uR0]
  rfl
theorem ap_sum (o' : Nat) : sm (msW (apA A fr to k o w) o') (A 0 2 + 1) = sm (msW A o') (A 0 2) + (if o = o' then w else 0) := by
  show sm _ (A 0 2) + msW (apA A fr to k o w) o' (A 0 2) = _
  have h1 : sm (msW (apA A fr to k o w) o') (A 0 2) = sm (msW A o') (A 0 2) := sm_ext (fun i hi => by
    have hne : i ≠ A 0 2 := by omega
    simp only [msW, ap15, ap16, hne, if_false])
  rw [h1]
  simp only [msW, ap15, ap16, if_true]
theorem ap_cnt : cnt (fun i => apA A fr to k o w 14 i == 3) (A 0 2 + 1) = cnt (fun i => A 14 i == 3) (A 0 2) + (if k = 3 then 1 else 0) := by
  show cnt _ (A 0 2) + _ = _
  have h1 : cnt (fun i => apA A fr to k o w 14 i == 3) (A 0 2) = cnt (fun i => A 14 i == 3) (A 0 2) := cnt_ext (fun i hi => by
    rw [ap14, if_neg (by omega)])
  rw [h1]
  dsimp only
  simp only [ap14, if_true]
  by_cases hk : k = 3
  · simp [hk]
  · simp [hk]
/-- what a new message must be -/
def okn (A : tA) (N fr to k o w : Nat) (r : Int32) : Prop := fr < N ∧ to < N ∧ fr ≠ to ∧ o < 24 * N ∧ ((k = 1 ∧ 0 < w ∧ ∃ a, a < 6 ∧ r = nI a) ∨ (k = 2 ∧ 0 < w ∧ to = o / 24 ∧ r = -1) ∨ (k = 3 ∧ w = 0 ∧ to = o / 24 ∧ r = -1 ∧ 0 < A 9 (120 * fr + o)) ∨ (k = 4 ∧ 0 < w ∧ fr = o / 24 ∧ r = -1))
theorem wMsg_ap {r : Int32} (h : wMsg A V N) (hms : A 0 2 < 60) (hn : okn A N fr to k o w r) : wMsg (apA A fr to k o w) (up2 V 17 (A 0 2) r) N := by
  refine ⟨by rw [ap0]; omega, fun i hi => ?_⟩
  rw [ap0] at hi
  unfold okm
  rw [ap12, ap13, ap14, ap15, ap16, up2_if]
  by_cases e : i = A 0 2
  · simp only [if_pos e]
    obtain ⟨n1, n2, n3, n4, n5⟩ := hn
    refine ⟨n1, n2, n3, n4, ?_⟩
    rcases n5 with n5 | n5 | ⟨q1, q2, q3, q4, q5⟩ | n5
    · exact Or.inl n5
    · exact Or.inr (Or.inl n5)
    · exact Or.inr (Or.inr (Or.inl ⟨q1, q2, q3, q4, Or.inl q5⟩))
    · exact Or.inr (Or.inr (Or.inr n5))
  · simp only [if_neg e]
    obtain ⟨n1, n2, n3, n4, n5⟩ := h.2 i (by omega)
    refine ⟨n1, n2, n3, n4, ?_⟩
    rcases n5 with n5 | n5 | ⟨q1, q2, q3, q4, q5⟩ | n5
    · exact Or.inl n5
    · exact Or.inr (Or.inl n5)
    · refine Or.inr (Or.inr (Or.inl ⟨q1, q2, q3, q4, ?_⟩))
      rcases q5 with q5 | ⟨j, j1, j2, j3, j4, j5⟩
      · exact Or.inl q5
      · refine Or.inr ⟨j, j1, by rw [ap0]; omega, ?_⟩
        rw [ap14, ap12, ap15, if_neg (by omega), if_neg (by omega), if_neg (by omega)]
        exact ⟨j3, j4, j5⟩
    · exact Or.inr (Or.inr (Or.inr n5))
end AP
/-- the class's row behind a put -/
def gput (gp : tV) (l : Nat) (k fr to o w rg ms : Int32) : tV := up2 (up2 (up2 (up2 (up2 (up2 (up2 gp l 0 k) l 1 fr) l 2 to) l 3 o) l 4 w) l 5 rg) 0 0 ms
theorem eC_put {b p N ms : Nat} {gn : tN} {gp : tV} {pi : Nat → Nat} {f0 : jM} {k fr to o w rg : Int32} (hms : gp 0 0 = nI ms) (h : ms < 60) (hpi : pi ms < 60) : mX3_put (mkC b p N gn gp pi f0) p k fr to o w rg = some (mkC b p N gn (gput gp (2 + pi ms) k fr to o w rg (nI (ms + 1))) pi f0) := by
  unfold mX3_put mX3_isFull
  simp only [cPchk, Option.bind_some, cP1, hms, i60]
  rw [if_pos (nI_lt h (by decide))]
  simp only [Option.bind_some]
  rw [if_pos trivial]
  have e : ∀ (g : tV), g 0 0 = nI ms → rdI 3 (mkC b p N gn g pi f0) p 1 = some (nI ms) := fun g hg => by rw [cP1, hg]
  have hl : ∀ (g : tV) j x, up2 g (2 + pi ms) j x 0 0 = g 0 0 := fun g j x => up2_n g x (by omega)
  simp (disch := omega) only [cP0, cP1, cLat, cLw0, cLw1, cLw2, cLw3, cLw4, cLw5, cPw, Option.bind_some, hl, hms, i1, nI_add]
  rfl
theorem MK_ext {gp gp' : tV} {r m : Nat} {e : Nat → Nat} (h : MK gp r m e) (h0 : gp' r = gp r) (h1 : gp' (r + 1) = gp (r + 1)) (h2 : gp' (r + 2) = gp (r + 2)) : MK gp' r m e := by
  unfold MK
  rw [h0, h1, h2]
  exact h
theorem SM_ext {gp gp' : tV} (h : SM gp) (h0 : ∀ r, 62 ≤ r → r < 72 → gp' r = gp r) : SM gp' := by
  intro r hr
  obtain ⟨m, e, hm⟩ := h r hr
  refine ⟨m, e, MK_ext hm (h0 r ?_ ?_) (h0 _ ?_ ?_) (h0 _ ?_ ?_)⟩ <;> rcases hr with rfl | rfl | rfl <;> decide
theorem gput_r {gp : tV} {l : Nat} {k fr to o w rg ms : Int32} {r : Nat} (h1 : r ≠ l) (h0 : r ≠ 0) : gput gp l k fr to o w rg ms r = gp r := by
  unfold gput
  rw [up2_other _ _ _ h0, up2_other _ _ _ h1, up2_other _ _ _ h1, up2_other _ _ _ h1, up2_other _ _ _ h1, up2_other _ _ _ h1, up2_other _ _ _ h1]
theorem SIM_put {A : tA} {V : tV} {N fr to k o w : Nat} {rg : Int32} {gn : tN} {gp : tV} {pi : Nat → Nat} {od : Nat → Nat → Nat} {q : Nat → Nat} (h : SIM A V N gn gp pi od q) (hms : A 0 2 < 60) : SIM (apA A fr to k o w) (up2 V 17 (A 0 2) rg) N gn (gput gp (2 + pi (A 0 2)) (nI k) (nI fr) (nI to) (nI o) (nI w) rg (nI (A 0 2 + 1))) pi od q := by
  obtain ⟨hN, ⟨p1, p2, p3, p4⟩, hM⟩ := h
  refine ⟨hN, ⟨?_, p2, p3, ?_⟩, SM_ext hM (fun r h1 h2 => gput_r (by have := p2 _ hms; omega) (by omega))⟩
  · rw [ap0]
    exact up2_s _ 0 0 _
  · intro i hi
    rw [ap0] at hi
    rw [ap12, ap13, ap14, ap15, ap16, up2_if]
    by_cases e : i = A 0 2
    · simp only [if_pos e]
      rw [e]
      unfold gput
      refine ⟨?_, ?_, ?_, ?_, ?_, ?_⟩
      · rw [up2_n _ _ (by omega), up2_n _ _ (by omega), up2_n _ _ (by omega), up2_n _ _ (by omega), up2_n _ _ (by omega), up2_n _ _ (by omega), up2_s]
      · rw [up2_n _ _ (by omega), up2_n _ _ (by omega), up2_n _ _ (by omega), up2_n _ _ (by omega), up2_n _ _ (by omega), up2_s]
      · rw [up2_n _ _ (by omega), up2_n _ _ (by omega), up2_n _ _ (by omega), up2_n _ _ (by omega), up2_s]
      · rw [up2_n _ _ (by omega), up2_n _ _ (by omega), up2_n _ _ (by omega), up2_s]
      · rw [up2_n _ _ (by omega), up2_n _ _ (by omega), up2_s]
      · rw [up2_n _ _ (by omega), up2_s]
    · simp only [if_neg e]
      have hne : 2 + pi i ≠ 2 + pi (A 0 2) := fun q => e (p3 i (A 0 2) (by omega) hms (by omega))
      rw [gput_r hne (by omega)]
      exact p4 i (by omega)
/-! totals and weights of the class -/
theorem eC_changeTotal {b p N n o t : Nat} {gn : tN} {gp : tV} {pi : Nat → Nat} {f0 : jM} {y : Int32} {t' : Nat} (hp : b + 2 + 8 * N ≤ p) (hn : n < N) (ho : o < 120) (h : gn n 5 (o % 24) = nI t) (ht : nI t + y = nI t') : mX2_changeTotal (mkC b p N gn gp pi f0) (b + 2 + 8 * n) (nI o) y = some (mkC b p N (up3 gn n 5 (o % 24) (nI t')) gp pi f0) := by
  unfold mX2_changeTotal
  simp only [eC_isId ho, Option.bind_some]
  rw [if_neg (by decide)]
  simp (disch := omega) only [cNr5, eC_numberOf, cNl5, cNs5, gl_nI, gs_nI, Option.bind_some, h, ht]
theorem SIM_tot {A : tA} {V : tV} {N o x : Nat} {gn : tN} {gp : tV} {pi : Nat → Nat} {od : Nat → Nat → Nat} {q : Nat → Nat} (h : SIM A V N gn gp pi od q) (ho : o < 120) : SIM (upA A 3 o x) V N (up3 gn (o / 24) 5 (o % 24) (nI x)) gp pi od q := by
  obtain ⟨hN, hP, hM⟩ := h
  refine ⟨fun m hm => ?_, hP, hM⟩
  obtain ⟨h1, h2, h3, h4, h5, h6, h7⟩ := hN m hm
  refine ⟨fun c hc => ?_, fun k' f hk hf ht' => ?_, fun k' f hk hf ht' => ?_, fun k' hk => ?_, fun o ho => ?_, fun i hi => ?_, ?_⟩
  · rw [up3_n _ _ (by omega), up3_n _ _ (by omega)]; exact h1 c hc
  · rw [up3_n _ _ (by omega), up3_n _ _ (by omega)]; exact h2 k' f hk hf ht'
  · rw [up3_n _ _ (by omega), up3_n _ _ (by omega)]; exact h3 k' f hk hf ht'
  · rw [up3_n gn _ (i' := k') (j' := 3) (by omega), up3_n gn _ (i' := k') (j' := 4) (by omega)]
    refine ⟨(h4 k' hk).1, (h4 k' hk).2.1, ?_⟩
    by_cases e : m = o / 24 ∧ k' = o % 24
    · rw [show 24 * m + k' = o by omega, upA_s, e.1, e.2, up3_s]
    · rw [up3_n _ _ (by omega), upA_n _ _ (by omega)]
      exact (h4 k' hk).2.2
  · rw [up3_n _ _ (by omega)]; exact h5 o ho
  · rw [up3_n _ _ (by omega)]; exact h6 i hi
  · rw [up3_n _ _ (by omega), up3_n _ _ (by omega), up3_n _ _ (by omega), up3_n _ _ (by omega)]; exact h7
theorem sm_set {f g : Nat → Nat} {k : Nat} : ∀ {n : Nat}, k < n → (∀ i, i ≠ k → g i = f i) → sm g n + f k = sm f n + g k := by
  intro n
  induction n with
  | zero => intro h; omega
  | succ n ih =>
    intro h1 h2
    simp only [sm]
    by_cases e : k = n
    · subst e
      rw [sm_ext (f := g) (g := f) (fun i hi => h2 i (by omega))]
      omega
    · have := ih (by omega) h2
      rw [h2 n (by omega)]
      omega
