/-! the class's constructors: node, marks, trial, post -/
theorem fill24 {fu a : Nat} {f : jM} {g : Nat → Int32} (hfu : 2000 ≤ fu) (h : f a = some (.inl (0, 24, .inl g))) : mJ7_fill_53178 fu f a (-1) = some (va_up f a (some (.inl (0, 24, .inl (fun i => if i < 24 then -1 else g i))))) := by
  unfold mJ7_fill_53178
  have ha : alen f a = some (nI 24) := by
    unfold alen
    rw [h]
    rfl
  rw [ha, Option.bind_some]
  have h0 : f = va_up f a (some (.inl (0, 24, .inl (fun x => if x < 0 then -1 else g x)))) := by
    funext x
    by_cases e : x = a
    · subst e
      rw [va_up_self, h]
      have : (fun x => if x < 0 then -1 else g x) = g := by
        funext y
        rw [if_neg (by omega)]
      rw [this]
    · rw [va_up_ne _ _ e]
  have := lup0 (fun k i => mJ7_fill_53178_L5 fu a (-1) (nI 24) k (nI i) (va_up f a (some (.inl (0, 24, .inl (fun x => if x < i then -1 else g x)))))) 24 (some (va_up f a (some (.inl (0, 24, .inl (fun i => if i < 24 then -1 else g i)))))) fu (by omega)
    (by
      intro k
      rw [mJ7_fill_53178_L5, if_pos (nI_le (Nat.le_refl _) (by omega))])
    (by
      intro k i hi
      rw [mJ7_fill_53178_L5, if_neg (nI_ge hi (by omega)), stI_of (va_up_self _ _ _), gs_nI hi (by omega), Option.bind_some, nI_1]
      have e : va_up (va_up f a (some (.inl (0, 24, .inl (fun x => if x < i then -1 else g x))))) a (some (.inl (0, 24, .inl (upd (fun x => if x < i then -1 else g x) i (-1))))) = va_up f a (some (.inl (0, 24, .inl (fun x => if x < i + 1 then -1 else g x)))) := by
        funext y
        by_cases e : y = a
        · subst e
          rw [va_up_self, va_up_self]
          have : upd (fun x => if x < i then -1 else g x) i (-1) = fun x => if x < i + 1 then -1 else g x := by
            funext z
            unfold upd
            by_cases c : z = i
            · subst c
              rw [if_pos rfl, if_pos (by omega)]
            · rw [if_neg c]
              show (if z < i then -1 else g z) = _
              by_cases c2 : z < i
              · rw [if_pos c2, if_pos (by omega)]
              · rw [if_neg c2, if_neg (by omega)]
          rw [this]
        · rw [va_up_ne _ _ e, va_up_ne _ _ e, va_up_ne _ _ e]
      rw [e])
  rw [← h0] at this
  exact this
def gn0 : tN := fun _ j i => if j = 3 ∧ i < 24 then -1 else 0
def b12 : List Value := [.int 0, .null, .null, .null, .null, .null, .null, .null, .int 0, .int 0, .int 0, .int 0]
def nm (b : Nat) (f : jM) (n : Nat) : jM := fun x => if b + 2 + 8 * n ≤ x ∧ x < b + 2 + 8 * n + 8 then some (nodeC b gn0 n (x - (b + 2 + 8 * n))) else f x
theorem init2 {fu n a b : Nat} {f : jM} (hfu : 2000 ≤ fu) (ha : a = b + 2 + 8 * n) : ∃ r, mX2_init fu (va_up f a (some (.inr (2, b12)))) (a + 1) a (nI n) = some r ∧ r.1 = nm b f n ∧ r.2.1 = a + 8 ∧ r.2.2.1 ≤ 10 ∧ r.2.2.2 ≤ 2000 := by
  unfold mX2_init
  simp only [Nat.add_assoc, Nat.reduceAdd]
  obtain ⟨fs0, e0, l0⟩ : ∃ fs0, fs0 = b12 ∧ fs0.length = 12 := ⟨b12, rfl, rfl⟩
  rw [← e0]
  refine mstep 0 (fun j => (0, lenN j)) (by decide) (by decide) l0 (by decide) ?_
  intro fs1 e1 l1
  refine mstep 1 (fun j => (0, lenN j)) (by decide) (by decide) l1 (by decide) ?_
  intro fs2 e2 l2
  refine mstep 2 (fun j => (0, lenN j)) (by decide) (by decide) l2 (by decide) ?_
  intro fs3 e3 l3
  refine mstep 3 (fun j => (0, lenN j)) (by decide) (by decide) l3 (by decide) ?_
  intro fs4 e4 l4
  refine mstep 4 (fun j => (0, lenN j)) (by decide) (by decide) l4 (by decide) ?_
  intro fs5 e5 l5
  refine mstep 5 (fun j => (0, lenN j)) (by decide) (by decide) l5 (by decide) ?_
  intro fs6 e6 l6
  refine mstep 6 (fun j => (0, lenN j)) (by decide) (by decide) l6 (by decide) ?_
  intro fs7 e7 l7
  have eq : fs7.set 0 (.int (nI n)) = [.int (nI n), .ref (a + 1), .ref (a + 2), .ref (a + 3), .ref (a + 4), .ref (a + 5), .ref (a + 6), .ref (a + 7), .int 0, .int 0, .int 0, .int 0] := by
    rw [e7, e6, e5, e4, e3, e2, e1, e0]
    simp only [b12, List.set_cons_succ, List.set_cons_zero]
  refine bindE (wrV_of (va_up_self _ _ _) (by omega)) ?_
  rw [eq]
  refine bindE (rdR_of (va_up_self _ _ _) (show _ = some (Value.ref (a + 3)) from rfl)) ?_
  refine bindE (fill24 (g := fun _ => 0) hfu (by rw [va_up_ne _ _ (by omega), va_up_ne _ _ (by omega), rwr_at, if_pos (by omega), show a + 3 - a = 3 by omega]; rfl)) ?_
  refine ⟨_, rfl, ?_, rfl, by simp only [jcnt]; decide +kernel, by simp only [jcnt]; decide +kernel⟩
  simp only [jcnt]
  subst ha
  funext x
  unfold nm
  by_cases h3 : x = b + 2 + 8 * n + 3
  · subst h3
    rw [va_up_self, if_pos (by omega), show b + 2 + 8 * n + 3 - (b + 2 + 8 * n) = 3 by omega]
    have : (gn0 n 3) = fun i => if i < 24 then -1 else 0 := by
      funext i
      unfold gn0
      by_cases c : i < 24
      · rw [if_pos ⟨rfl, c⟩, if_pos c]
      · rw [if_neg (fun u => c u.2), if_neg c]
    show _ = (some (.inl (0, 24, .inl (gn0 n 3))) : Option jC)
    rw [this]
  · rw [va_up_ne _ _ h3]
    by_cases h0 : x = b + 2 + 8 * n
    · subst h0
      rw [va_up_self, if_pos (by omega), show b + 2 + 8 * n - (b + 2 + 8 * n) = 0 by omega]
      rfl
    · rw [va_up_ne _ _ h0, va_up_ne _ _ h0, rwr_at]
      by_cases hr : b + 2 + 8 * n < x ∧ x ≤ b + 2 + 8 * n + 7
      · rw [if_pos hr, if_pos (by omega)]
        obtain ⟨j, hj⟩ : ∃ j, x - (b + 2 + 8 * n) = j := ⟨_, rfl⟩
        rw [hj]
        unfold nodeC
        rw [if_neg (by omega)]
        have : gn0 n j = fun _ => 0 := by
          funext i
          unfold gn0
          rw [if_neg (by omega)]
        rw [this]
      · rw [if_neg hr, if_neg (by omega)]
def b4 : List Value := [.null, .null, .int 0, .int 0]
def km (a : Nat) (f : jM) : jM := fun x => if x = a then some (.inr (1, [.ref (a + 1), .ref (a + 2), .int 0, .int 0])) else if x = a + 1 then some (.inl (1, 120, .inl (fun _ => 0))) else if x = a + 2 then some (.inl (0, 120, .inl (fun _ => 0))) else f x
theorem init1 {a : Nat} {f : jM} : ∃ r, mX1_init (va_up f a (some (.inr (1, b4)))) (a + 1) a = some r ∧ r.1 = km a f ∧ r.2.1 = a + 3 ∧ r.2.2.1 ≤ 2 ∧ r.2.2.2 ≤ 240 := by
  unfold mX1_init
  simp only [Nat.add_assoc, Nat.reduceAdd]
  obtain ⟨fs0, e0, l0⟩ : ∃ fs0, fs0 = b4 ∧ fs0.length = 4 := ⟨b4, rfl, rfl⟩
  rw [← e0]
  refine mstep 0 (fun j => (if j = 1 then 1 else 0, 120)) (by decide) (by decide) l0 (by decide) ?_
  intro fs1 e1 l1
  refine mstep 1 (fun j => (if j = 1 then 1 else 0, 120)) (by decide) (by decide) l1 (by decide) ?_
  intro fs2 e2 l2
  refine ⟨_, rfl, ?_, rfl, by simp only [jcnt]; decide +kernel, by simp only [jcnt]; decide +kernel⟩
  simp only [jcnt]
  rw [e2, e1, e0]
  simp only [b4, List.set_cons_succ, List.set_cons_zero]
  funext x
  unfold km
  by_cases h0 : x = a
  · subst h0
    rw [va_up_self, if_pos rfl]
  · rw [va_up_ne _ _ h0, rwr_at, if_neg h0]
    by_cases h1 : x = a + 1
    · subst h1
      rw [if_pos (by omega), if_pos rfl, show a + 1 - a = 1 by omega]
      rfl
    · rw [if_neg h1]
      by_cases h2 : x = a + 2
      · subst h2
        rw [if_pos (by omega), if_pos rfl, show a + 2 - a = 2 by omega]
        rfl
      · rw [if_neg (by omega), if_neg h2]
theorem km_o {a x : Nat} {f : jM} (h : x < a ∨ a + 3 ≤ x) : km a f x = f x := by
  unfold km
  rw [if_neg (by omega), if_neg (by omega), if_neg (by omega)]
def t4 : List Value := [.null, .null, .null, .null]
def tm (a : Nat) (f : jM) : jM := fun x => if x = a then some (.inr (4, [.ref (a + 1), .ref (a + 4), .ref (a + 7), .ref (a + 8)])) else if x = a + 7 ∨ x = a + 8 then some (.inl (0, 120, .inl (fun _ => 0))) else km (a + 4) (km (a + 1) f) x
theorem nwI120 {f : jM} {s : Nat} : nwI 0 f s 120 = some (va_up f s (some (.inl (0, 120, .inl (fun _ => 0))))) := by
  unfold nwI
  rw [if_neg (by decide)]
  rfl
theorem init4 {a : Nat} {f : jM} : ∃ r, mX4_init (va_up f a (some (.inr (4, t4)))) (a + 1) a = some r ∧ r.1 = tm a f ∧ r.2.1 = a + 9 ∧ r.2.2.1 ≤ 20 ∧ r.2.2.2 ≤ 2000 := by
  unfold mX4_init
  refine mapE ?_
  refine bindE (show nwO 1 b4 _ _ = some _ from rfl) ?_
  obtain ⟨⟨F1, S1, c1, k1⟩, hr1, h1, h2, h3, h4⟩ := init1 (a := a + 1) (f := va_up f a (some (.inr (4, t4))))
  dsimp only at h1 h2 h3 h4
  subst h1 h2
  refine bindE hr1 ?_
  refine mapE ?_
  dsimp only
  refine bindE (wrV_of (fs := t4) (by rw [km_o (by omega), va_up_self]) (by decide)) ?_
  refine mapE ?_
  refine bindE (show nwO 1 b4 _ _ = some _ from rfl) ?_
  obtain ⟨⟨F2, S2, c2, k2⟩, hr2, g1, g2, g3, g4⟩ := init1 (a := a + 1 + 3) (f := va_up (km (a + 1) (va_up f a (some (.inr (4, t4))))) a (some (.inr (4, t4.set 0 (.ref (a + 1))))))
  dsimp only at g1 g2 g3 g4
  subst g1 g2
  refine bindE hr2 ?_
  refine mapE ?_
  dsimp only
  refine bindE (wrV_of (fs := t4.set 0 (.ref (a + 1))) (by rw [km_o (by omega), va_up_self]) (Nat.le_of_ble_eq_true rfl)) ?_
  refine mapE ?_
  refine bindE nwI120 ?_
  refine bindE (wrV_of (fs := (t4.set 0 (.ref (a + 1))).set 1 (.ref (a + 1 + 3))) (by rw [va_up_ne _ _ (by omega), va_up_self]) (Nat.le_of_ble_eq_true rfl)) ?_
  refine mapE ?_
  refine bindE nwI120 ?_
  refine bindE (wrV_of (fs := ((t4.set 0 (.ref (a + 1))).set 1 (.ref (a + 1 + 3))).set 2 (.ref (a + 1 + 3 + 3))) (by rw [va_up_ne _ _ (by omega), va_up_self]) (Nat.le_of_ble_eq_true rfl)) ?_
  refine ⟨_, rfl, ?_, rfl, ?_, ?_⟩
  · simp only [jcnt]
    funext x
    unfold tm
    by_cases h0 : x = a
    · subst h0
      rw [va_up_self, if_pos rfl]
      rfl
    · rw [va_up_ne _ _ h0, if_neg h0]
      by_cases h8 : x = a + 8
      · subst h8
        rw [show a + 1 + 3 + 3 + 1 = a + 8 by omega, va_up_self, if_pos (Or.inr rfl)]
      · rw [va_up_ne _ _ (show x ≠ a + 1 + 3 + 3 + 1 by omega), va_up_ne _ _ h0]
        by_cases h7 : x = a + 7
        · subst h7
          rw [show a + 1 + 3 + 3 = a + 7 by omega, va_up_self, if_pos (Or.inl rfl)]
        · rw [va_up_ne _ _ (show x ≠ a + 1 + 3 + 3 by omega), va_up_ne _ _ h0, if_neg (by omega), show a + 1 + 3 = a + 4 by omega]
          by_cases c : x < a + 4 ∨ a + 4 + 3 ≤ x
          · rw [km_o c, km_o c, va_up_ne _ _ h0]
            by_cases c2 : x < a + 1 ∨ a + 1 + 3 ≤ x
            · rw [km_o c2, km_o c2, va_up_ne _ _ h0]
            · unfold km
              by_cases z1 : x = a + 1
              · rw [if_pos z1, if_pos z1]
              · rw [if_neg z1, if_neg z1]
                by_cases z2 : x = a + 1 + 1
                · rw [if_pos z2, if_pos z2]
                · rw [if_neg z2, if_neg z2, if_pos (by omega), if_pos (by omega)]
          · unfold km
            by_cases z1 : x = a + 4
            · rw [if_pos z1, if_pos z1]
            · rw [if_neg z1, if_neg z1]
              by_cases z2 : x = a + 4 + 1
              · rw [if_pos z2, if_pos z2]
              · rw [if_neg z2, if_neg z2, if_pos (by omega), if_pos (by omega)]
  · simp only [jcnt]
    omega
  · simp only [jcnt]
    have : Int32.toNatClampNeg (120 : Int32) = 120 := by decide +kernel
    omega
/-! post -/
def pl (p : Nat) (f : jM) (i : Nat) : jM := fun x => if x = p then some (.inr (3, [.ref (p + 1), .int 0])) else if x = p + 1 then some (.inl (3, 60, .inr (.inr (.inr (.inr (fun k => if k < i then some (p + 2 + k) else none)))))) else if p + 2 ≤ x ∧ x < p + 2 + i then some (.inr (0, [.int 0, .int 0, .int 0, .int 0, .int 0, .int 0])) else f x
theorem init3_loop {fu p : Nat} {f : jM} : ∀ d i k, 60 = i + d → d < k → ∃ r, mX3_init_L15 fu p k (nI i) (pl p f i) (p + 2 + i) = some r ∧ r.1 = pl p f 60 ∧ r.2.1 = p + 62 ∧ r.2.2.1 ≤ d ∧ r.2.2.2 ≤ 6 * d := by
  intro d
  induction d with
  | zero =>
    intro i k h1 h2
    obtain ⟨k, rfl⟩ : ∃ n, k = n + 1 := ⟨k - 1, by omega⟩
    have : i = 60 := by omega
    subst this
    rw [mX3_init_L15, i60, if_pos (nI_le (Nat.le_refl _) (by omega))]
    exact ⟨_, rfl, rfl, rfl, Nat.le_refl _, Nat.le_refl _⟩
  | succ d ih =>
    intro i k h1 h2
    obtain ⟨k, rfl⟩ : ∃ n, k = n + 1 := ⟨k - 1, by omega⟩
    rw [mX3_init_L15, i60, if_neg (nI_ge (by omega) (by omega))]
    have hp0 : pl p f i p = some (.inr (3, [.ref (p + 1), .int 0])) := by
      unfold pl
      rw [if_pos rfl]
    refine bindE (rdR_of hp0 rfl) ?_
    refine mapE ?_
    refine bindE (show nwO 0 _ _ _ = some _ from rfl) ?_
    refine bindE (show mX0_init _ _ = some _ from rfl) ?_
    refine bindE (stR_of (n := 60) (g := fun k => if k < i then some (p + 2 + k) else none) (by
      rw [va_up_ne _ _ (by omega)]
      unfold pl
      rw [if_neg (by omega), if_pos rfl]) (by omega) (by omega) (chk_of (va_up_self _ _ _))) ?_
    have e : va_up (va_up (pl p f i) (p + 2 + i) (some (.inr (0, [.int 0, .int 0, .int 0, .int 0, .int 0, .int 0])))) (p + 1) (some (.inl (3, 60, .inr (.inr (.inr (.inr (va_up (fun k => if k < i then some (p + 2 + k) else none) i (some (p + 2 + i))))))))) = pl p f (i + 1) := by
      funext x
      by_cases x1 : x = p + 1
      · subst x1
        rw [va_up_self]
        unfold pl
        rw [if_neg (by omega), if_pos rfl]
        have : va_up (fun k => if k < i then some (p + 2 + k) else none) i (some (p + 2 + i)) = fun k => if k < i + 1 then some (p + 2 + k) else none := by
          funext z
          by_cases c : z = i
          · subst c
            rw [va_up_self, if_pos (by omega)]
          · rw [va_up_ne _ _ c]
            by_cases c2 : z < i
            · rw [if_pos c2, if_pos (by omega)]
            · rw [if_neg c2, if_neg (by omega)]
        rw [this]
      · rw [va_up_ne _ _ x1]
        by_cases x2 : x = p + 2 + i
        · subst x2
          rw [va_up_self]
          unfold pl
          rw [if_neg (by omega), if_neg (by omega), if_pos (by omega)]
        · rw [va_up_ne _ _ x2]
          unfold pl
          by_cases x0 : x = p
          · rw [if_pos x0, if_pos x0]
          · rw [if_neg x0, if_neg x0, if_neg x1, if_neg x1]
            by_cases c : p + 2 ≤ x ∧ x < p + 2 + i
            · rw [if_pos c, if_pos (by omega)]
            · rw [if_neg c, if_neg (by omega)]
    rw [e, nI_1]
    obtain ⟨r, r1, r2, r3, r4, r5⟩ := ih (i + 1) k (by omega) (by omega)
    refine ⟨r, r1, r2, r3, ?_, ?_⟩
    · simp only [jcnt]; omega
    · simp only [jcnt]; omega
theorem init3 {fu p : Nat} {f : jM} (hfu : 2000 ≤ fu) : ∃ r, mX3_init fu (va_up f p (some (.inr (3, [.null, .int 0])))) (p + 1) p = some r ∧ r.1 = pl p f 60 ∧ r.2.1 = p + 62 ∧ r.2.2.1 ≤ 100 ∧ r.2.2.2 ≤ 1000 := by
  unfold mX3_init
  refine mapE ?_
  refine bindE (x := va_up (va_up f p (some (.inr (3, [.null, .int 0])))) (p + 1) (some (.inl (3, 60, .inr (.inr (.inr (.inr (fun _ => none)))))))) (by unfold nwR; rw [if_neg (by decide)]; rfl) ?_
  refine bindE (wrV_of (fs := [.null, .int 0]) (by rw [va_up_ne _ _ (by omega), va_up_self]) (by decide)) ?_
  have e : va_up (va_up (va_up f p (some (.inr (3, [.null, .int 0])))) (p + 1) (some (.inl (3, 60, .inr (.inr (.inr (.inr (fun _ => none)))))))) p (some (.inr (3, ([.null, .int 0] : List Value).set 0 (.ref (p + 1))))) = pl p f 0 := by
    funext x
    unfold pl
    by_cases x0 : x = p
    · subst x0
      rw [va_up_self, if_pos rfl]
      rfl
    · rw [va_up_ne _ _ x0, if_neg x0]
      by_cases x1 : x = p + 1
      · subst x1
        rw [va_up_self, if_pos rfl]
        have : (fun k => if k < 0 then some (p + 2 + k) else none) = fun _ => none := by
          funext z
          rw [if_neg (by omega)]
        rw [this]
      · rw [va_up_ne _ _ x1, va_up_ne _ _ x0, if_neg x1, if_neg (by omega)]
  rw [e]
  obtain ⟨r, r1, r2, r3, r4, r5⟩ := init3_loop (fu := fu) (p := p) (f := f) 60 0 fu (by omega) (by omega)
  refine ⟨r, r1, r2, r3, ?_, ?_⟩
  · simp only [jcnt]; omega
  · simp only [jcnt]
    have : Int32.toNatClampNeg (60 : Int32) = 60 := by decide +kernel
    omega
