def mX3_init_L15 (fu : Nat)  (v0 : Nat) : Nat → Int32 → jM → Nat → Option jRA
  | 0, _, _, _ => none
  | n + 1, v1, f, sz =>
    if (60 : Int32) ≤ v1 then (
    some (f, sz, 0, 0)) else (
    (rdR 3 f v0 0).bind fun x2 =>
    ((nwO 0 [.int 0, .int 0, .int 0, .int 0, .int 0, .int 0] f sz).bind fun f3 =>
    (mX0_init f3 sz).bind fun f4 =>
    (stR 3 0 f4 x2 v1 sz).bind fun f5 =>
    mX3_init_L15 fu v0 n (v1 + (1 : Int32)) f5 (sz + 1)).map (jcnt 1 6))
set_option maxRecDepth 100000 in
set_option maxHeartbeats 4000000 in
theorem wX3_init_L15 {c : jS} {fu : Nat}  {v0 : Nat} (E : jOk c cX3_init 2 RX3 none 2 32) (hcn : (j_h c).name = "<init>")  : ∀ (n : Nat) (v1 : Int32) (f : jM) (sz : Nat) (res : jRA), mX3_init_L15 fu  v0 n v1 f sz = some res → J c (jZ c none res.1 res.2.1) f sz res.2.2.1 res.2.2.2 15 [(0, .ref v0), (1, .int v1)] [] := by
  intro n
  induction n with
  | zero => intro v1 f sz res h; exact jn0 h
  | succ n ih =>
    intro v1 f sz res h
    rw [mX3_init_L15] at h
    refine j_iload_n E 1 dX3_init_15 rfl rfl ?_
    refine j_bipush (v := (60 : Int32)) E dX3_init_16 (by decide) ?_
    refine j_icmp_ge (tgt := 40) E dX3_init_18 (by decide) (fun hc1 => ?_) (fun hc1 => ?_)
    · replace h := jt hc1 h
      cases h
      exact j_vret E dX3_init_40
    replace h := jf hc1 h
    refine j_aload_n E 0 dX3_init_21 rfl rfl ?_
    obtain ⟨x2, h2, h⟩ := jb h
    refine j_getR E gX3_11 h2 dX3_init_22 ?_
    refine j_iload_n E 1 dX3_init_25 rfl rfl ?_
    obtain ⟨r3, q3, e3⟩ := jmp h
    clear h
    subst e3
    have h := q3
    obtain ⟨f3, h3, h⟩ := jb h
    have h3 := nwO_spec h3
    subst h3
    refine j_new (ci := 0) (fs := [.int 0, .int 0, .int 0, .int 0, .int 0, .int 0]) (rc := r3.2.2.1) (rs := r3.2.2.2) E tyX0 rfl in_X0 tyX0_ok clX3_9 insX0 iniX0 (fun j hj => by rcases (show j = 0 ∨ j = 1 ∨ j = 2 ∨ j = 3 ∨ j = 4 ∨ j = 5 by omega) with rfl | rfl | rfl | rfl | rfl | rfl <;> rfl) dX3_init_26 ?_
    refine j_dup E dX3_init_29 rfl ?_
    obtain ⟨f4, h4, h⟩ := jb h
    refine j_less (Nat.le_of_eq (Nat.zero_add _)) (Nat.le_of_eq (Nat.zero_add _)) ?_
    refine j_callI (As := []) (b := sz) (rest := [.ref sz, .int v1, .ref x2]) (mc1 := 0) (ms1 := 0) E (sX0_init h4) lwX0_init lkX3_17 imX0_init rfl (by decide) rfl (Nat.le_of_ble_eq_true rfl) dX3_init_30 ?_
    obtain ⟨f5, h5, h⟩ := jb h
    refine j_aast E rfl rfl h5 dX3_init_33 ?_
    refine j_iinc (v := (v1 + (1 : Int32))) (lv' := [(1, .int (v1 + (1 : Int32))), (0, .ref v0)]) E 1 dX3_init_34 rfl rfl (by decide) rfl ?_
    refine j_goto (tgt := 15) E dX3_init_37 (by decide) ?_
    exact j_sub [1, 0] rfl (ih _ _ _ _ h)
def mX3_init (fu : Nat) (f : jM) (sz : Nat) (v0 : Nat) : Option jRA :=
    ((nwR 3 f sz (60 : Int32)).bind fun f6 =>
    (wrV 3 f6 v0 0 (.ref sz)).bind fun f7 =>
    mX3_init_L15 fu v0 fu (0 : Int32) f7 (sz + 1)).map (jcnt 1 (Int32.toNatClampNeg (60 : Int32)))
set_option maxRecDepth 100000 in
set_option maxHeartbeats 4000000 in
theorem sX3_init {l : Launch} {D : jD} {sz : Nat} {fu : Nat} {f : jM} {v0 : Nat} {res : jRA} (h : mX3_init fu f sz v0 = some res) : jCt l D yX3_init cX3_init 2 none 2 32 [.ref v0] f sz res.2.2.1 res.2.2.2 none res.1 res.2.1 := by
  refine j_start (by decide +kernel) (Nat.le_of_ble_eq_true rfl) (fun c hcl hcD hcn E => ?_)
  subst hcl
  subst hcD
  replace E : jOk c cX3_init 2 RX3 none 2 32 := E
  replace hcn : (j_h c).name = "<init>" := hcn
  show J c (jZ c none res.1 res.2.1) f sz res.2.2.1 res.2.2.2 0 [(0, .ref v0)] []
  unfold mX3_init at h
  refine j_aload_n E 0 dX3_init_0 rfl rfl ?_
  refine j_objInit E lkX3_3 oi_in oi_co (by decide) (by decide) dX3_init_1 ?_
  refine j_aload_n E 0 dX3_init_4 rfl rfl ?_
  refine j_bipush (v := (60 : Int32)) E dX3_init_5 (by decide) ?_
  obtain ⟨r6, q6, e6⟩ := jmp h
  clear h
  subst e6
  have h := q6
  obtain ⟨f6, h6, h⟩ := jb h
  obtain ⟨h6a, h6b, h6⟩ := nwR_spec h6
  subst h6
  refine j_anew (kd := 3) (rc := r6.2.2.1) (rs := r6.2.2.2) E rfl (by decide) clX3_9 h6a rfl (Nat.le_trans (Nat.mul_le_mul_right _ h6b) (by decide)) dX3_init_7 ?_
  obtain ⟨f7, h7, h⟩ := jb h
  refine j_putF E hcn gfX3_11 h7 rfl rfl dX3_init_10 ?_
  refine j_iconst (v := (0 : Int32)) E dX3_init_13 (by decide) ?_
  refine j_istore_n (lv' := [(1, .int (0 : Int32)), (0, .ref v0)]) E dX3_init_14 rfl (by decide) rfl ?_
  exact j_sub [1, 0] rfl (wX3_init_L15 E hcn _ _ _ _ _ h)
def mX3_find_L6 (fu : Nat)  (v0 : Nat) (v1 : Int32) (v2 : Int32) (v3 : Int32) : Nat → Int32 → Int32 → jM → Option (Option Nat × jM)
  | 0, _, _, _ => none
  | n + 1, v4, v5, f =>
    (rdI 3 f v0 1).bind fun x1 =>
    if x1 ≤ v5 then (
    some (none, f)) else (
    (rdR 3 f v0 0).bind fun x3 =>
    (ldR 3 f x3 v5).bind fun x4 =>
    (rdI 0 f x4 1).bind fun x5 =>
    if x5 = v1 then (
    (rdI 0 f x4 2).bind fun x7 =>
    if x7 = v2 then (
    if v4 = v3 then (
    some ((some x4), f)) else (
    mX3_find_L6 fu v0 v1 v2 v3 n (v4 + (1 : Int32)) (v5 + (1 : Int32)) f)) else (
    mX3_find_L6 fu v0 v1 v2 v3 n v4 (v5 + (1 : Int32)) f)) else (
    mX3_find_L6 fu v0 v1 v2 v3 n v4 (v5 + (1 : Int32)) f))
set_option maxRecDepth 100000 in
set_option maxHeartbeats 4000000 in
theorem wX3_find_L6 {c : jS} {sz : Nat} {fu : Nat}  {v0 : Nat} {v1 : Int32} {v2 : Int32} {v3 : Int32} {res : (Option Nat × jM)} (E : jOk c cX3_find 7 RX3 (some (.object "FarHeaps$Letter")) 0 0)  : ∀ (n : Nat) (v4 : Int32) (v5 : Int32) (f : jM), mX3_find_L6 fu  v0 v1 v2 v3 n v4 v5 f = some res → J c (jZ c (some (va_rf res.1)) res.2 sz) f sz 0 0 6 [(0, .ref v0), (1, .int v1), (2, .int v2), (3, .int v3), (4, .int v4), (5, .int v5)] [] := by
  intro n
  induction n with
  | zero => intro v4 v5 f h; exact jn0 h
  | succ n ih =>
    intro v4 v5 f h
    rw [mX3_find_L6] at h
    refine j_iload E 5 dX3_find_6 rfl ?_
    refine j_aload_n E 0 dX3_find_8 rfl rfl ?_
    obtain ⟨x1, h1, h⟩ := jb h
    refine j_getI E gX3_18 h1 dX3_find_9 ?_
    refine j_icmp_ge (tgt := 60) E dX3_find_12 (by decide) (fun hc2 => ?_) (fun hc2 => ?_)
    · replace h := jt hc2 h
      refine j_null E dX3_find_60 ?_
      cases h
      exact j_aretQ (o := none) E dX3_find_61
    replace h := jf hc2 h
    refine j_aload_n E 0 dX3_find_15 rfl rfl ?_
    obtain ⟨x3, h3, h⟩ := jb h
    refine j_getR E gX3_11 h3 dX3_find_16 ?_
    refine j_iload E 5 dX3_find_19 rfl ?_
    obtain ⟨x4, h4, h⟩ := jb h
    refine j_aald E rfl h4 dX3_find_21 ?_
    refine j_astore (lv' := [(6, .ref x4), (0, .ref v0), (1, .int v1), (2, .int v2), (3, .int v3), (4, .int v4), (5, .int v5)]) E dX3_find_22 (by decide) rfl ?_
    refine j_aload E 0 dX3_find_24 rfl ?_
    obtain ⟨x5, h5, h⟩ := jb h
    refine j_getI E gX3_29 h5 dX3_find_26 ?_
    refine j_iload_n E 2 dX3_find_29 rfl rfl ?_
    refine j_icmp_ne (tgt := 54) E dX3_find_30 (by decide) (fun hc6 => ?_) (fun hc6 => ?_)
    · replace h := jf hc6 h
      refine j_iinc (v := (v5 + (1 : Int32))) (lv' := [(5, .int (v5 + (1 : Int32))), (6, .ref x4), (0, .ref v0), (1, .int v1), (2, .int v2), (3, .int v3), (4, .int v4)]) E 6 dX3_find_54 rfl rfl (by decide) rfl ?_
      refine j_goto (tgt := 6) E dX3_find_57 (by decide) ?_
      exact j_sub [2, 3, 4, 5, 6, 0] rfl (ih _ _ _ h)
    replace h := jt hc6 h
    refine j_aload E 0 dX3_find_33 rfl ?_
    obtain ⟨x7, h7, h⟩ := jb h
    refine j_getI E gX3_32 h7 dX3_find_35 ?_
    refine j_iload_n E 3 dX3_find_38 rfl rfl ?_
    refine j_icmp_ne (tgt := 54) E dX3_find_39 (by decide) (fun hc8 => ?_) (fun hc8 => ?_)
    · replace h := jf hc8 h
      refine j_iinc (v := (v5 + (1 : Int32))) (lv' := [(5, .int (v5 + (1 : Int32))), (6, .ref x4), (0, .ref v0), (1, .int v1), (2, .int v2), (3, .int v3), (4, .int v4)]) E 6 dX3_find_54 rfl rfl (by decide) rfl ?_
      refine j_goto (tgt := 6) E dX3_find_57 (by decide) ?_
      exact j_sub [2, 3, 4, 5, 6, 0] rfl (ih _ _ _ h)
    replace h := jt hc8 h
    refine j_iload E 5 dX3_find_42 rfl ?_
    refine j_iload_n E 4 dX3_find_44 rfl rfl ?_
    refine j_icmp_ne (tgt := 51) E dX3_find_45 (by decide) (fun hc9 => ?_) (fun hc9 => ?_)
    · replace h := jf hc9 h
      refine j_iinc (v := (v4 + (1 : Int32))) (lv' := [(4, .int (v4 + (1 : Int32))), (6, .ref x4), (0, .ref v0), (1, .int v1), (2, .int v2), (3, .int v3), (5, .int v5)]) E 5 dX3_find_51 rfl rfl (by decide) rfl ?_
      refine j_iinc (v := (v5 + (1 : Int32))) (lv' := [(5, .int (v5 + (1 : Int32))), (4, .int (v4 + (1 : Int32))), (6, .ref x4), (0, .ref v0), (1, .int v1), (2, .int v2), (3, .int v3)]) E 6 dX3_find_54 rfl rfl (by decide) rfl ?_
      refine j_goto (tgt := 6) E dX3_find_57 (by decide) ?_
      exact j_sub [3, 4, 5, 6, 1, 0] rfl (ih _ _ _ h)
    replace h := jt hc9 h
    refine j_aload E 0 dX3_find_48 rfl ?_
    cases h
    exact j_aretQ (o := (some x4)) E dX3_find_50
def mX3_find (fu : Nat) (f : jM) (v0 : Nat) (v1 : Int32) (v2 : Int32) (v3 : Int32) : Option (Option Nat × jM) :=
    mX3_find_L6 fu v0 v1 v2 v3 fu (0 : Int32) (0 : Int32) f
set_option maxRecDepth 100000 in
set_option maxHeartbeats 4000000 in
theorem sX3_find {l : Launch} {D : jD} {sz : Nat} {fu : Nat} {f : jM} {v0 : Nat} {v1 : Int32} {v2 : Int32} {v3 : Int32} {res : (Option Nat × jM)} (h : mX3_find fu f v0 v1 v2 v3 = some res) : jCt l D yX3_find cX3_find 7 (some (.object "FarHeaps$Letter")) 0 0 [.ref v0, .int v1, .int v2, .int v3] f sz 0 0 (some (va_rf res.1)) res.2 sz := by
  refine j_start (by decide +kernel) (Nat.le_of_ble_eq_true rfl) (fun c hcl hcD hcn E => ?_)
  subst hcl
  subst hcD
  replace E : jOk c cX3_find 7 RX3 (some (.object "FarHeaps$Letter")) 0 0 := E
  show J c (jZ c (some (va_rf res.1)) res.2 sz) f sz 0 0 0 [(0, .ref v0), (1, .int v1), (2, .int v2), (3, .int v3)] []
  unfold mX3_find at h
  refine j_iconst (v := (0 : Int32)) E dX3_find_0 (by decide) ?_
  refine j_istore (lv' := [(4, .int (0 : Int32)), (0, .ref v0), (1, .int v1), (2, .int v2), (3, .int v3)]) E dX3_find_1 (by decide) rfl ?_
  refine j_iconst (v := (0 : Int32)) E dX3_find_3 (by decide) ?_
  refine j_istore (lv' := [(5, .int (0 : Int32)), (4, .int (0 : Int32)), (0, .ref v0), (1, .int v1), (2, .int v2), (3, .int v3)]) E dX3_find_4 (by decide) rfl ?_
  exact j_sub [2, 3, 4, 5, 1, 0] rfl (wX3_find_L6 E _ _ _ _ h)
def mX3_remove_B31 (fu : Nat) (k4 : Int32 → Int32 → jM → Option jM) (v0 : Nat) (v1 : Nat) (v3 : Int32) (s0 : Int32) (f : jM) : Option jM :=
    if s0 = 0 then (
    k4 s0 (v3 + (1 : Int32)) f) else (
    (rdI 3 f v0 1).bind fun x14 =>
    if x14 ≤ (v3 + (1 : Int32)) then (
    k4 s0 (v3 + (1 : Int32)) f) else (
    (rdR 3 f v0 0).bind fun x16 =>
    (rdR 3 f v0 0).bind fun x17 =>
    (ldR 3 f x17 (v3 + (1 : Int32))).bind fun x18 =>
    (stR 3 0 f x16 v3 x18).bind fun f19 =>
    k4 s0 (v3 + (1 : Int32)) f19))
set_option maxRecDepth 100000 in
set_option maxHeartbeats 4000000 in
theorem wX3_remove_B31 {c : jS} {sz : Nat} {fu : Nat} {k4 : Int32 → Int32 → jM → Option jM} {v0 : Nat} {v1 : Nat} {v3 : Int32} {s0 : Int32} {f : jM} {res : jM} (E : jOk c cX3_remove 4 RX3 none 0 0) (hk4 : ∀ (v2 : Int32) (v3 : Int32) (f : jM), k4 v2 v3 f = some res → J c (jZ c none res sz) f sz 0 0 4 [(0, .ref v0), (1, .ref v1), (2, .int v2), (3, .int v3)] []) (h : mX3_remove_B31 fu k4 v0 v1 v3 s0 f = some res) : J c (jZ c none res sz) f sz 0 0 31 [(0, .ref v0), (1, .ref v1), (3, .int v3)] [.int s0] := by
  unfold mX3_remove_B31 at h
  refine j_istore_n (lv' := [(2, .int s0), (0, .ref v0), (1, .ref v1), (3, .int v3)]) E dX3_remove_31 rfl (by decide) rfl ?_
  refine j_iload_n E 0 dX3_remove_32 rfl rfl ?_
  refine j_if_eq (tgt := 60) E dX3_remove_33 (by decide) (fun hc13 => ?_) (fun hc13 => ?_)
  · replace h := jt hc13 h
    refine j_iinc (v := (v3 + (1 : Int32))) (lv' := [(3, .int (v3 + (1 : Int32))), (2, .int s0), (0, .ref v0), (1, .ref v1)]) E 3 dX3_remove_60 rfl rfl (by decide) rfl ?_
    refine j_goto (tgt := 4) E dX3_remove_63 (by decide) ?_
    exact j_sub [2, 3, 1, 0] rfl (hk4 _ _ _ h)
  replace h := jf hc13 h
  refine j_iload_n E 3 dX3_remove_36 rfl rfl ?_
  refine j_iconst (v := (1 : Int32)) E dX3_remove_37 (by decide) ?_
  refine j_iadd E dX3_remove_38 ?_
  refine j_aload_n E 1 dX3_remove_39 rfl rfl ?_
  obtain ⟨x14, h14, h⟩ := jb h
  refine j_getI E gX3_18 h14 dX3_remove_40 ?_
  refine j_icmp_ge (tgt := 60) E dX3_remove_43 (by decide) (fun hc15 => ?_) (fun hc15 => ?_)
  · replace h := jt hc15 h
    refine j_iinc (v := (v3 + (1 : Int32))) (lv' := [(3, .int (v3 + (1 : Int32))), (2, .int s0), (0, .ref v0), (1, .ref v1)]) E 3 dX3_remove_60 rfl rfl (by decide) rfl ?_
    refine j_goto (tgt := 4) E dX3_remove_63 (by decide) ?_
    exact j_sub [2, 3, 1, 0] rfl (hk4 _ _ _ h)
  replace h := jf hc15 h
  refine j_aload_n E 1 dX3_remove_46 rfl rfl ?_
  obtain ⟨x16, h16, h⟩ := jb h
  refine j_getR E gX3_11 h16 dX3_remove_47 ?_
  refine j_iload_n E 3 dX3_remove_50 rfl rfl ?_
  refine j_aload_n E 1 dX3_remove_51 rfl rfl ?_
  obtain ⟨x17, h17, h⟩ := jb h
  refine j_getR E gX3_11 h17 dX3_remove_52 ?_
  refine j_iload_n E 3 dX3_remove_55 rfl rfl ?_
  refine j_iconst (v := (1 : Int32)) E dX3_remove_56 (by decide) ?_
  refine j_iadd E dX3_remove_57 ?_
  obtain ⟨x18, h18, h⟩ := jb h
  refine j_aald E rfl h18 dX3_remove_58 ?_
  obtain ⟨f19, h19, h⟩ := jb h
  refine j_aast E rfl rfl h19 dX3_remove_59 ?_
  refine j_iinc (v := (v3 + (1 : Int32))) (lv' := [(3, .int (v3 + (1 : Int32))), (2, .int s0), (0, .ref v0), (1, .ref v1)]) E 3 dX3_remove_60 rfl rfl (by decide) rfl ?_
  refine j_goto (tgt := 4) E dX3_remove_63 (by decide) ?_
  exact j_sub [2, 3, 1, 0] rfl (hk4 _ _ _ h)
def mX3_remove_L4 (fu : Nat)  (v0 : Nat) (v1 : Nat) : Nat → Int32 → Int32 → jM → Option jM
  | 0, _, _, _ => none
  | n + 1, v2, v3, f =>
    (rdI 3 f v0 1).bind fun x1 =>
    if x1 ≤ v3 then (
    if v2 = 0 then (
    some f) else (
    (rdI 3 f v0 1).bind fun x4 =>
    (wrV 3 f v0 1 (.int (x4 - (1 : Int32)))).bind fun f5 =>
    (rdR 3 f5 v0 0).bind fun x6 =>
    (rdI 3 f5 v0 1).bind fun x7 =>
    (stR 3 0 f5 x6 x7 v1).bind fun f8 =>
    some f8)) else (
    if v2 = 0 then (
    (rdR 3 f v0 0).bind fun x10 =>
    (ldR 3 f x10 v3).bind fun x11 =>
    if x11 = v1 then (
    mX3_remove_B31 fu (mX3_remove_L4 fu v0 v1 n) v0 v1 v3 (1 : Int32) f) else (
    mX3_remove_B31 fu (mX3_remove_L4 fu v0 v1 n) v0 v1 v3 (0 : Int32) f)) else (
    mX3_remove_B31 fu (mX3_remove_L4 fu v0 v1 n) v0 v1 v3 (1 : Int32) f))
set_option maxRecDepth 100000 in
set_option maxHeartbeats 4000000 in
theorem wX3_remove_L4 {c : jS} {sz : Nat} {fu : Nat}  {v0 : Nat} {v1 : Nat} {res : jM} (E : jOk c cX3_remove 4 RX3 none 0 0)  : ∀ (n : Nat) (v2 : Int32) (v3 : Int32) (f : jM), mX3_remove_L4 fu  v0 v1 n v2 v3 f = some res → J c (jZ c none res sz) f sz 0 0 4 [(0, .ref v0), (1, .ref v1), (2, .int v2), (3, .int v3)] [] := by
  intro n
  induction n with
  | zero => intro v2 v3 f h; exact jn0 h
  | succ n ih =>
    intro v2 v3 f h
    rw [mX3_remove_L4] at h
    refine j_iload_n E 3 dX3_remove_4 rfl rfl ?_
    refine j_aload_n E 0 dX3_remove_5 rfl rfl ?_
    obtain ⟨x1, h1, h⟩ := jb h
    refine j_getI E gX3_18 h1 dX3_remove_6 ?_
    refine j_icmp_ge (tgt := 66) E dX3_remove_9 (by decide) (fun hc2 => ?_) (fun hc2 => ?_)
    · replace h := jt hc2 h
      refine j_iload_n E 2 dX3_remove_66 rfl rfl ?_
      refine j_if_eq (tgt := 90) E dX3_remove_67 (by decide) (fun hc3 => ?_) (fun hc3 => ?_)
      · replace h := jt hc3 h
        cases h
        exact j_vret E dX3_remove_90
      replace h := jf hc3 h
      refine j_aload_n E 0 dX3_remove_70 rfl rfl ?_
      refine j_dup E dX3_remove_71 rfl ?_
      obtain ⟨x4, h4, h⟩ := jb h
      refine j_getI E gX3_18 h4 dX3_remove_72 ?_
      refine j_iconst (v := (1 : Int32)) E dX3_remove_75 (by decide) ?_
      refine j_isub E dX3_remove_76 ?_
      obtain ⟨f5, h5, h⟩ := jb h
      refine j_putV E gpX3_18 h5 rfl rfl dX3_remove_77 ?_
      refine j_aload_n E 0 dX3_remove_80 rfl rfl ?_
      obtain ⟨x6, h6, h⟩ := jb h
      refine j_getR E gX3_11 h6 dX3_remove_81 ?_
      refine j_aload_n E 0 dX3_remove_84 rfl rfl ?_
      obtain ⟨x7, h7, h⟩ := jb h
      refine j_getI E gX3_18 h7 dX3_remove_85 ?_
      refine j_aload_n E 1 dX3_remove_88 rfl rfl ?_
      obtain ⟨f8, h8, h⟩ := jb h
      refine j_aast E rfl rfl h8 dX3_remove_89 ?_
      cases h
      exact j_vret E dX3_remove_90
    replace h := jf hc2 h
    refine j_iload_n E 2 dX3_remove_12 rfl rfl ?_
    refine j_if_ne (tgt := 26) E dX3_remove_13 (by decide) (fun hc9 => ?_) (fun hc9 => ?_)
    · replace h := jf hc9 h
      refine j_iconst (v := (1 : Int32)) E dX3_remove_26 (by decide) ?_
      refine j_goto (tgt := 31) E dX3_remove_27 (by decide) ?_
      exact j_sub [0, 1, 3] rfl (wX3_remove_B31 E ih h)
    replace h := jt hc9 h
    refine j_aload_n E 0 dX3_remove_16 rfl rfl ?_
    obtain ⟨x10, h10, h⟩ := jb h
    refine j_getR E gX3_11 h10 dX3_remove_17 ?_
    refine j_iload_n E 3 dX3_remove_20 rfl rfl ?_
    obtain ⟨x11, h11, h⟩ := jb h
    refine j_aald E rfl h11 dX3_remove_21 ?_
    refine j_aload_n E 1 dX3_remove_22 rfl rfl ?_
    refine j_acmp_ne (tgt := 30) E dX3_remove_23 (by decide) (fun hc12 => ?_) (fun hc12 => ?_)
    · replace h := jf hc12 h
      refine j_iconst (v := (0 : Int32)) E dX3_remove_30 (by decide) ?_
      exact j_sub [0, 1, 3] rfl (wX3_remove_B31 E ih h)
    replace h := jt hc12 h
    refine j_iconst (v := (1 : Int32)) E dX3_remove_26 (by decide) ?_
    refine j_goto (tgt := 31) E dX3_remove_27 (by decide) ?_
    exact j_sub [0, 1, 3] rfl (wX3_remove_B31 E ih h)
def mX3_remove (fu : Nat) (f : jM) (v0 : Nat) (v1 : Nat) : Option jM :=
    mX3_remove_L4 fu v0 v1 fu (0 : Int32) (0 : Int32) f
set_option maxRecDepth 100000 in
set_option maxHeartbeats 4000000 in
theorem sX3_remove {l : Launch} {D : jD} {sz : Nat} {fu : Nat} {f : jM} {v0 : Nat} {v1 : Nat} {res : jM} (h : mX3_remove fu f v0 v1 = some res) : jCt l D yX3_remove cX3_remove 4 none 0 0 [.ref v0, .ref v1] f sz 0 0 none res sz := by
  refine j_start (by decide +kernel) (Nat.le_of_ble_eq_true rfl) (fun c hcl hcD hcn E => ?_)
  subst hcl
  subst hcD
  replace E : jOk c cX3_remove 4 RX3 none 0 0 := E
  show J c (jZ c none res sz) f sz 0 0 0 [(0, .ref v0), (1, .ref v1)] []
  unfold mX3_remove at h
  refine j_iconst (v := (0 : Int32)) E dX3_remove_0 (by decide) ?_
  refine j_istore_n (lv' := [(2, .int (0 : Int32)), (0, .ref v0), (1, .ref v1)]) E dX3_remove_1 rfl (by decide) rfl ?_
  refine j_iconst (v := (0 : Int32)) E dX3_remove_2 (by decide) ?_
  refine j_istore_n (lv' := [(3, .int (0 : Int32)), (2, .int (0 : Int32)), (0, .ref v0), (1, .ref v1)]) E dX3_remove_3 rfl (by decide) rfl ?_
  exact j_sub [2, 3, 1, 0] rfl (wX3_remove_L4 E _ _ _ _ h)
def mX3_markRefs_L2 (fu : Nat)  (v0 : Nat) (v1 : Nat) : Nat → Int32 → jM → Option jM
  | 0, _, _ => none
  | n + 1, v2, f =>
    (rdI 3 f v0 1).bind fun x1 =>
    if x1 ≤ v2 then (
    some f) else (
    (rdR 3 f v0 0).bind fun x3 =>
    (ldR 3 f x3 v2).bind fun x4 =>
    (rdI 0 f x4 0).bind fun x5 =>
    if x5 = (1 : Int32) then (
    (rdR 3 f v0 0).bind fun x7 =>
    (ldR 3 f x7 v2).bind fun x8 =>
    (rdI 0 f x8 3).bind fun x9 =>
    (chk 1 f v1).bind fun _ =>
    (mX1_add f v1 x9).bind fun f11 =>
    mX3_markRefs_L2 fu v0 v1 n (v2 + (1 : Int32)) f11) else (
    mX3_markRefs_L2 fu v0 v1 n (v2 + (1 : Int32)) f))
set_option maxRecDepth 100000 in
set_option maxHeartbeats 4000000 in
theorem wX3_markRefs_L2 {c : jS} {sz : Nat} {fu : Nat}  {v0 : Nat} {v1 : Nat} {res : jM} (E : jOk c cX3_markRefs 3 RX3 none 1 21)  : ∀ (n : Nat) (v2 : Int32) (f : jM), mX3_markRefs_L2 fu  v0 v1 n v2 f = some res → J c (jZ c none res sz) f sz 0 0 2 [(0, .ref v0), (1, .ref v1), (2, .int v2)] [] := by
  intro n
  induction n with
  | zero => intro v2 f h; exact jn0 h
  | succ n ih =>
    intro v2 f h
    rw [mX3_markRefs_L2] at h
    refine j_iload_n E 2 dX3_markRefs_2 rfl rfl ?_
    refine j_aload_n E 0 dX3_markRefs_3 rfl rfl ?_
    obtain ⟨x1, h1, h⟩ := jb h
    refine j_getI E gX3_18 h1 dX3_markRefs_4 ?_
    refine j_icmp_ge (tgt := 42) E dX3_markRefs_7 (by decide) (fun hc2 => ?_) (fun hc2 => ?_)
    · replace h := jt hc2 h
      cases h
      exact j_vret E dX3_markRefs_42
    replace h := jf hc2 h
    refine j_aload_n E 0 dX3_markRefs_10 rfl rfl ?_
    obtain ⟨x3, h3, h⟩ := jb h
    refine j_getR E gX3_11 h3 dX3_markRefs_11 ?_
    refine j_iload_n E 2 dX3_markRefs_14 rfl rfl ?_
    obtain ⟨x4, h4, h⟩ := jb h
    refine j_aald E rfl h4 dX3_markRefs_15 ?_
    obtain ⟨x5, h5, h⟩ := jb h
    refine j_getI E gX3_26 h5 dX3_markRefs_16 ?_
    refine j_iconst (v := (1 : Int32)) E dX3_markRefs_19 (by decide) ?_
    refine j_icmp_ne (tgt := 36) E dX3_markRefs_20 (by decide) (fun hc6 => ?_) (fun hc6 => ?_)
    · replace h := jf hc6 h
      refine j_iinc (v := (v2 + (1 : Int32))) (lv' := [(2, .int (v2 + (1 : Int32))), (0, .ref v0), (1, .ref v1)]) E 2 dX3_markRefs_36 rfl rfl (by decide) rfl ?_
      refine j_goto (tgt := 2) E dX3_markRefs_39 (by decide) ?_
      exact j_sub [1, 2, 0] rfl (ih _ _ h)
    replace h := jt hc6 h
    refine j_aload_n E 1 dX3_markRefs_23 rfl rfl ?_
    refine j_aload_n E 0 dX3_markRefs_24 rfl rfl ?_
    obtain ⟨x7, h7, h⟩ := jb h
    refine j_getR E gX3_11 h7 dX3_markRefs_25 ?_
    refine j_iload_n E 2 dX3_markRefs_28 rfl rfl ?_
    obtain ⟨x8, h8, h⟩ := jb h
    refine j_aald E rfl h8 dX3_markRefs_29 ?_
    obtain ⟨x9, h9, h⟩ := jb h
    refine j_getI E gX3_35 h9 dX3_markRefs_30 ?_
    obtain ⟨u10, h10, h⟩ := jb h
    obtain ⟨fs10, h10⟩ := chk_spec h10
    obtain ⟨f11, h11, h⟩ := jb h
    refine j_callV (As := [.int x9]) (b := v1) (rest := []) (rc := 0) (rs := 0) E (sX1_add h11) lwX1_add lkX3_44 imX1_add seX1_add rfl h10 (by decide) rfl (Nat.le_of_ble_eq_true rfl) dX3_markRefs_33 ?_
    refine j_iinc (v := (v2 + (1 : Int32))) (lv' := [(2, .int (v2 + (1 : Int32))), (0, .ref v0), (1, .ref v1)]) E 2 dX3_markRefs_36 rfl rfl (by decide) rfl ?_
    refine j_goto (tgt := 2) E dX3_markRefs_39 (by decide) ?_
    exact j_sub [1, 2, 0] rfl (ih _ _ h)
def mX3_markRefs (fu : Nat) (f : jM) (v0 : Nat) (v1 : Nat) : Option jM :=
    mX3_markRefs_L2 fu v0 v1 fu (0 : Int32) f
set_option maxRecDepth 100000 in
set_option maxHeartbeats 4000000 in
theorem sX3_markRefs {l : Launch} {D : jD} {sz : Nat} {fu : Nat} {f : jM} {v0 : Nat} {v1 : Nat} {res : jM} (h : mX3_markRefs fu f v0 v1 = some res) : jCt l D yX3_markRefs cX3_markRefs 3 none 1 21 [.ref v0, .ref v1] f sz 0 0 none res sz := by
  refine j_start (by decide +kernel) (Nat.le_of_ble_eq_true rfl) (fun c hcl hcD hcn E => ?_)
  subst hcl
  subst hcD
  replace E : jOk c cX3_markRefs 3 RX3 none 1 21 := E
  show J c (jZ c none res sz) f sz 0 0 0 [(0, .ref v0), (1, .ref v1)] []
  unfold mX3_markRefs at h
  refine j_iconst (v := (0 : Int32)) E dX3_markRefs_0 (by decide) ?_
  refine j_istore_n (lv' := [(2, .int (0 : Int32)), (0, .ref v0), (1, .ref v1)]) E dX3_markRefs_1 rfl (by decide) rfl ?_
  exact j_sub [1, 2, 0] rfl (wX3_markRefs_L2 E _ _ _ h)
def mX3_countTo_L4 (fu : Nat)  (v0 : Nat) (v1 : Int32) : Nat → Int32 → Int32 → jM → Option (Int32 × jM)
  | 0, _, _, _ => none
  | n + 1, v2, v3, f =>
    (rdI 3 f v0 1).bind fun x1 =>
    if x1 ≤ v3 then (
    some (v2, f)) else (
    (rdR 3 f v0 0).bind fun x3 =>
    (ldR 3 f x3 v3).bind fun x4 =>
    (rdI 0 f x4 2).bind fun x5 =>
    if x5 = v1 then (
    mX3_countTo_L4 fu v0 v1 n (v2 + (1 : Int32)) (v3 + (1 : Int32)) f) else (
    mX3_countTo_L4 fu v0 v1 n v2 (v3 + (1 : Int32)) f))
set_option maxRecDepth 100000 in
set_option maxHeartbeats 4000000 in
theorem wX3_countTo_L4 {c : jS} {sz : Nat} {fu : Nat}  {v0 : Nat} {v1 : Int32} {res : (Int32 × jM)} (E : jOk c cX3_countTo 4 RX3 (some .int) 0 0)  : ∀ (n : Nat) (v2 : Int32) (v3 : Int32) (f : jM), mX3_countTo_L4 fu  v0 v1 n v2 v3 f = some res → J c (jZ c (some (.int res.1)) res.2 sz) f sz 0 0 4 [(0, .ref v0), (1, .int v1), (2, .int v2), (3, .int v3)] [] := by
  intro n
  induction n with
  | zero => intro v2 v3 f h; exact jn0 h
  | succ n ih =>
    intro v2 v3 f h
    rw [mX3_countTo_L4] at h
    refine j_iload_n E 3 dX3_countTo_4 rfl rfl ?_
    refine j_aload_n E 0 dX3_countTo_5 rfl rfl ?_
    obtain ⟨x1, h1, h⟩ := jb h
    refine j_getI E gX3_18 h1 dX3_countTo_6 ?_
    refine j_icmp_ge (tgt := 34) E dX3_countTo_9 (by decide) (fun hc2 => ?_) (fun hc2 => ?_)
    · replace h := jt hc2 h
      refine j_iload_n E 2 dX3_countTo_34 rfl rfl ?_
      cases h
      exact j_iret E dX3_countTo_35
    replace h := jf hc2 h
    refine j_aload_n E 0 dX3_countTo_12 rfl rfl ?_
    obtain ⟨x3, h3, h⟩ := jb h
    refine j_getR E gX3_11 h3 dX3_countTo_13 ?_
    refine j_iload_n E 3 dX3_countTo_16 rfl rfl ?_
    obtain ⟨x4, h4, h⟩ := jb h
    refine j_aald E rfl h4 dX3_countTo_17 ?_
    obtain ⟨x5, h5, h⟩ := jb h
    refine j_getI E gX3_32 h5 dX3_countTo_18 ?_
    refine j_iload_n E 1 dX3_countTo_21 rfl rfl ?_
    refine j_icmp_ne (tgt := 28) E dX3_countTo_22 (by decide) (fun hc6 => ?_) (fun hc6 => ?_)
    · replace h := jf hc6 h
      refine j_iinc (v := (v3 + (1 : Int32))) (lv' := [(3, .int (v3 + (1 : Int32))), (0, .ref v0), (1, .int v1), (2, .int v2)]) E 3 dX3_countTo_28 rfl rfl (by decide) rfl ?_
      refine j_goto (tgt := 4) E dX3_countTo_31 (by decide) ?_
      exact j_sub [1, 2, 3, 0] rfl (ih _ _ _ h)
    replace h := jt hc6 h
    refine j_iinc (v := (v2 + (1 : Int32))) (lv' := [(2, .int (v2 + (1 : Int32))), (0, .ref v0), (1, .int v1), (3, .int v3)]) E 2 dX3_countTo_25 rfl rfl (by decide) rfl ?_
    refine j_iinc (v := (v3 + (1 : Int32))) (lv' := [(3, .int (v3 + (1 : Int32))), (2, .int (v2 + (1 : Int32))), (0, .ref v0), (1, .int v1)]) E 3 dX3_countTo_28 rfl rfl (by decide) rfl ?_
    refine j_goto (tgt := 4) E dX3_countTo_31 (by decide) ?_
    exact j_sub [2, 3, 1, 0] rfl (ih _ _ _ h)
def mX3_countTo (fu : Nat) (f : jM) (v0 : Nat) (v1 : Int32) : Option (Int32 × jM) :=
    mX3_countTo_L4 fu v0 v1 fu (0 : Int32) (0 : Int32) f
set_option maxRecDepth 100000 in
set_option maxHeartbeats 4000000 in
theorem sX3_countTo {l : Launch} {D : jD} {sz : Nat} {fu : Nat} {f : jM} {v0 : Nat} {v1 : Int32} {res : (Int32 × jM)} (h : mX3_countTo fu f v0 v1 = some res) : jCt l D yX3_countTo cX3_countTo 4 (some .int) 0 0 [.ref v0, .int v1] f sz 0 0 (some (.int res.1)) res.2 sz := by
  refine j_start (by decide +kernel) (Nat.le_of_ble_eq_true rfl) (fun c hcl hcD hcn E => ?_)
  subst hcl
  subst hcD
  replace E : jOk c cX3_countTo 4 RX3 (some .int) 0 0 := E
  show J c (jZ c (some (.int res.1)) res.2 sz) f sz 0 0 0 [(0, .ref v0), (1, .int v1)] []
  unfold mX3_countTo at h
  refine j_iconst (v := (0 : Int32)) E dX3_countTo_0 (by decide) ?_
  refine j_istore_n (lv' := [(2, .int (0 : Int32)), (0, .ref v0), (1, .int v1)]) E dX3_countTo_1 rfl (by decide) rfl ?_
  refine j_iconst (v := (0 : Int32)) E dX3_countTo_2 (by decide) ?_
  refine j_istore_n (lv' := [(3, .int (0 : Int32)), (2, .int (0 : Int32)), (0, .ref v0), (1, .int v1)]) E dX3_countTo_3 rfl (by decide) rfl ?_
  exact j_sub [2, 3, 1, 0] rfl (wX3_countTo_L4 E _ _ _ _ h)
def mX3_weightOf_L4 (fu : Nat)  (v0 : Nat) (v1 : Int32) : Nat → Int32 → Int32 → jM → Option (Int32 × jM)
  | 0, _, _, _ => none
  | n + 1, v2, v3, f =>
    (rdI 3 f v0 1).bind fun x1 =>
    if x1 ≤ v3 then (
    some (v2, f)) else (
    (rdR 3 f v0 0).bind fun x3 =>
    (ldR 3 f x3 v3).bind fun x4 =>
    (rdI 0 f x4 3).bind fun x5 =>
    if x5 = v1 then (
    (rdR 3 f v0 0).bind fun x7 =>
    (ldR 3 f x7 v3).bind fun x8 =>
    (rdI 0 f x8 4).bind fun x9 =>
    mX3_weightOf_L4 fu v0 v1 n (v2 + x9) (v3 + (1 : Int32)) f) else (
    mX3_weightOf_L4 fu v0 v1 n v2 (v3 + (1 : Int32)) f))
set_option maxRecDepth 100000 in
set_option maxHeartbeats 4000000 in
theorem wX3_weightOf_L4 {c : jS} {sz : Nat} {fu : Nat}  {v0 : Nat} {v1 : Int32} {res : (Int32 × jM)} (E : jOk c cX3_weightOf 4 RX3 (some .int) 0 0)  : ∀ (n : Nat) (v2 : Int32) (v3 : Int32) (f : jM), mX3_weightOf_L4 fu  v0 v1 n v2 v3 f = some res → J c (jZ c (some (.int res.1)) res.2 sz) f sz 0 0 4 [(0, .ref v0), (1, .int v1), (2, .int v2), (3, .int v3)] [] := by
  intro n
  induction n with
  | zero => intro v2 v3 f h; exact jn0 h
  | succ n ih =>
    intro v2 v3 f h
    rw [mX3_weightOf_L4] at h
    refine j_iload_n E 3 dX3_weightOf_4 rfl rfl ?_
    refine j_aload_n E 0 dX3_weightOf_5 rfl rfl ?_
    obtain ⟨x1, h1, h⟩ := jb h
    refine j_getI E gX3_18 h1 dX3_weightOf_6 ?_
    refine j_icmp_ge (tgt := 43) E dX3_weightOf_9 (by decide) (fun hc2 => ?_) (fun hc2 => ?_)
    · replace h := jt hc2 h
      refine j_iload_n E 2 dX3_weightOf_43 rfl rfl ?_
      cases h
      exact j_iret E dX3_weightOf_44
    replace h := jf hc2 h
    refine j_aload_n E 0 dX3_weightOf_12 rfl rfl ?_
    obtain ⟨x3, h3, h⟩ := jb h
    refine j_getR E gX3_11 h3 dX3_weightOf_13 ?_
    refine j_iload_n E 3 dX3_weightOf_16 rfl rfl ?_
    obtain ⟨x4, h4, h⟩ := jb h
    refine j_aald E rfl h4 dX3_weightOf_17 ?_
    obtain ⟨x5, h5, h⟩ := jb h
    refine j_getI E gX3_35 h5 dX3_weightOf_18 ?_
    refine j_iload_n E 1 dX3_weightOf_21 rfl rfl ?_
    refine j_icmp_ne (tgt := 37) E dX3_weightOf_22 (by decide) (fun hc6 => ?_) (fun hc6 => ?_)
    · replace h := jf hc6 h
      refine j_iinc (v := (v3 + (1 : Int32))) (lv' := [(3, .int (v3 + (1 : Int32))), (0, .ref v0), (1, .int v1), (2, .int v2)]) E 3 dX3_weightOf_37 rfl rfl (by decide) rfl ?_
      refine j_goto (tgt := 4) E dX3_weightOf_40 (by decide) ?_
      exact j_sub [1, 2, 3, 0] rfl (ih _ _ _ h)
    replace h := jt hc6 h
    refine j_iload_n E 2 dX3_weightOf_25 rfl rfl ?_
    refine j_aload_n E 0 dX3_weightOf_26 rfl rfl ?_
    obtain ⟨x7, h7, h⟩ := jb h
    refine j_getR E gX3_11 h7 dX3_weightOf_27 ?_
    refine j_iload_n E 3 dX3_weightOf_30 rfl rfl ?_
    obtain ⟨x8, h8, h⟩ := jb h
    refine j_aald E rfl h8 dX3_weightOf_31 ?_
    obtain ⟨x9, h9, h⟩ := jb h
    refine j_getI E gX3_38 h9 dX3_weightOf_32 ?_
    refine j_iadd E dX3_weightOf_35 ?_
    refine j_istore_n (lv' := [(2, .int (v2 + x9)), (0, .ref v0), (1, .int v1), (3, .int v3)]) E dX3_weightOf_36 rfl (by decide) rfl ?_
    refine j_iinc (v := (v3 + (1 : Int32))) (lv' := [(3, .int (v3 + (1 : Int32))), (2, .int (v2 + x9)), (0, .ref v0), (1, .int v1)]) E 3 dX3_weightOf_37 rfl rfl (by decide) rfl ?_
    refine j_goto (tgt := 4) E dX3_weightOf_40 (by decide) ?_
    exact j_sub [2, 3, 1, 0] rfl (ih _ _ _ h)
def mX3_weightOf (fu : Nat) (f : jM) (v0 : Nat) (v1 : Int32) : Option (Int32 × jM) :=
    mX3_weightOf_L4 fu v0 v1 fu (0 : Int32) (0 : Int32) f
set_option maxRecDepth 100000 in
set_option maxHeartbeats 4000000 in
theorem sX3_weightOf {l : Launch} {D : jD} {sz : Nat} {fu : Nat} {f : jM} {v0 : Nat} {v1 : Int32} {res : (Int32 × jM)} (h : mX3_weightOf fu f v0 v1 = some res) : jCt l D yX3_weightOf cX3_weightOf 4 (some .int) 0 0 [.ref v0, .int v1] f sz 0 0 (some (.int res.1)) res.2 sz := by
  refine j_start (by decide +kernel) (Nat.le_of_ble_eq_true rfl) (fun c hcl hcD hcn E => ?_)
  subst hcl
  subst hcD
  replace E : jOk c cX3_weightOf 4 RX3 (some .int) 0 0 := E
  show J c (jZ c (some (.int res.1)) res.2 sz) f sz 0 0 0 [(0, .ref v0), (1, .int v1)] []
  unfold mX3_weightOf at h
  refine j_iconst (v := (0 : Int32)) E dX3_weightOf_0 (by decide) ?_
  refine j_istore_n (lv' := [(2, .int (0 : Int32)), (0, .ref v0), (1, .int v1)]) E dX3_weightOf_1 rfl (by decide) rfl ?_
  refine j_iconst (v := (0 : Int32)) E dX3_weightOf_2 (by decide) ?_
  refine j_istore_n (lv' := [(3, .int (0 : Int32)), (2, .int (0 : Int32)), (0, .ref v0), (1, .int v1)]) E dX3_weightOf_3 rfl (by decide) rfl ?_
  exact j_sub [2, 3, 1, 0] rfl (wX3_weightOf_L4 E _ _ _ _ h)
def mX4_init (f : jM) (sz : Nat) (v0 : Nat) : Option jRA :=
    ((nwO 1 [.null, .null, .int 0, .int 0] f sz).bind fun f1 =>
    (mX1_init f1 (sz + 1) sz).bind fun r2 => (
    (wrV 4 r2.1 v0 0 (.ref sz)).bind fun f3 =>
    ((nwO 1 [.null, .null, .int 0, .int 0] f3 r2.2.1).bind fun f4 =>
    (mX1_init f4 (r2.2.1 + 1) r2.2.1).bind fun r5 => (
    (wrV 4 r5.1 v0 1 (.ref r2.2.1)).bind fun f6 =>
    ((nwI 0 f6 r5.2.1 (120 : Int32)).bind fun f7 =>
    (wrV 4 f7 v0 2 (.ref r5.2.1)).bind fun f8 =>
    ((nwI 0 f8 (r5.2.1 + 1) (120 : Int32)).bind fun f9 =>
    (wrV 4 f9 v0 3 (.ref (r5.2.1 + 1))).bind fun f10 =>
    some (f10, ((r5.2.1 + 1) + 1), 0, 0)).map (jcnt 1 (Int32.toNatClampNeg (120 : Int32)))).map (jcnt 1 (Int32.toNatClampNeg (120 : Int32)))).map (jcnt r5.2.2.1 r5.2.2.2)).map (jcnt 1 4)).map (jcnt r2.2.2.1 r2.2.2.2)).map (jcnt 1 4)
set_option maxRecDepth 100000 in
set_option maxHeartbeats 4000000 in
theorem sX4_init {l : Launch} {D : jD} {sz : Nat} {f : jM} {v0 : Nat} {res : jRA} (h : mX4_init f sz v0 = some res) : jCt l D yX4_init cX4_init 1 none 2 32 [.ref v0] f sz res.2.2.1 res.2.2.2 none res.1 res.2.1 := by
  refine j_start (by decide +kernel) (Nat.le_of_ble_eq_true rfl) (fun c hcl hcD hcn E => ?_)
  subst hcl
  subst hcD
  replace E : jOk c cX4_init 1 RX4 none 2 32 := E
  replace hcn : (j_h c).name = "<init>" := hcn
  show J c (jZ c none res.1 res.2.1) f sz res.2.2.1 res.2.2.2 0 [(0, .ref v0)] []
  unfold mX4_init at h
  refine j_aload_n E 0 dX4_init_0 rfl rfl ?_
  refine j_objInit E lkX4_3 oi_in oi_co (by decide) (by decide) dX4_init_1 ?_
  refine j_aload_n E 0 dX4_init_4 rfl rfl ?_
  obtain ⟨r1, q1, e1⟩ := jmp h
  clear h
  subst e1
  have h := q1
  obtain ⟨f1, h1, h⟩ := jb h
  have h1 := nwO_spec h1
  subst h1
  refine j_new (ci := 1) (fs := [.null, .null, .int 0, .int 0]) (rc := r1.2.2.1) (rs := r1.2.2.2) E tyX1 rfl in_X1 tyX1_ok clX4_9 insX1 iniX1 (fun j hj => by rcases (show j = 0 ∨ j = 1 ∨ j = 2 ∨ j = 3 by omega) with rfl | rfl | rfl | rfl <;> rfl) dX4_init_5 ?_
  refine j_dup E dX4_init_8 rfl ?_
  obtain ⟨r2, h2, h⟩ := jb h
  obtain ⟨z2, q2, e2⟩ := jmp h
  clear h
  subst e2
  have h := q2
  refine j_callI (As := []) (b := sz) (rest := [.ref sz, .ref v0]) (rc := z2.2.2.1) (rs := z2.2.2.2) E (sX1_init h2) lwX1_init lkX4_11 imX1_init rfl (by decide) rfl (Nat.le_of_ble_eq_true rfl) dX4_init_9 ?_
  obtain ⟨f3, h3, h⟩ := jb h
  refine j_putF E hcn gfX4_12 h3 rfl rfl dX4_init_12 ?_
  refine j_aload_n E 0 dX4_init_15 rfl rfl ?_
  obtain ⟨r4, q4, e4⟩ := jmp h
  clear h
  subst e4
  have h := q4
  obtain ⟨f4, h4, h⟩ := jb h
  have h4 := nwO_spec h4
  subst h4
  refine j_new (ci := 1) (fs := [.null, .null, .int 0, .int 0]) (rc := r4.2.2.1) (rs := r4.2.2.2) E tyX1 rfl in_X1 tyX1_ok clX4_9 insX1 iniX1 (fun j hj => by rcases (show j = 0 ∨ j = 1 ∨ j = 2 ∨ j = 3 by omega) with rfl | rfl | rfl | rfl <;> rfl) dX4_init_16 ?_
  refine j_dup E dX4_init_19 rfl ?_
  obtain ⟨r5, h5, h⟩ := jb h
  obtain ⟨z5, q5, e5⟩ := jmp h
  clear h
  subst e5
  have h := q5
  refine j_callI (As := []) (b := r2.2.1) (rest := [.ref r2.2.1, .ref v0]) (rc := z5.2.2.1) (rs := z5.2.2.2) E (sX1_init h5) lwX1_init lkX4_11 imX1_init rfl (by decide) rfl (Nat.le_of_ble_eq_true rfl) dX4_init_20 ?_
  obtain ⟨f6, h6, h⟩ := jb h
  refine j_putF E hcn gfX4_18 h6 rfl rfl dX4_init_23 ?_
  refine j_aload_n E 0 dX4_init_26 rfl rfl ?_
  refine j_bipush (v := (120 : Int32)) E dX4_init_27 (by decide) ?_
  obtain ⟨r7, q7, e7⟩ := jmp h
  clear h
  subst e7
  have h := q7
  obtain ⟨f7, h7, h⟩ := jb h
  obtain ⟨h7a, h7b, h7⟩ := nwI_spec h7
  subst h7
  refine j_newa (kd := 0) (rc := r7.2.2.1) (rs := r7.2.2.2) E rfl (by decide) rfl (fun _ q => by cases q) h7a rfl (Nat.le_trans (Nat.mul_le_mul_right _ h7b) (by decide)) dX4_init_29 ?_
  obtain ⟨f8, h8, h⟩ := jb h
  refine j_putF E hcn gfX4_21 h8 rfl rfl dX4_init_31 ?_
  refine j_aload_n E 0 dX4_init_34 rfl rfl ?_
  refine j_bipush (v := (120 : Int32)) E dX4_init_35 (by decide) ?_
  obtain ⟨r9, q9, e9⟩ := jmp h
  clear h
  subst e9
  have h := q9
  obtain ⟨f9, h9, h⟩ := jb h
  obtain ⟨h9a, h9b, h9⟩ := nwI_spec h9
  subst h9
  refine j_newa (kd := 0) (rc := r9.2.2.1) (rs := r9.2.2.2) E rfl (by decide) rfl (fun _ q => by cases q) h9a rfl (Nat.le_trans (Nat.mul_le_mul_right _ h9b) (by decide)) dX4_init_37 ?_
  obtain ⟨f10, h10, h⟩ := jb h
  refine j_putF E hcn gfX4_25 h10 rfl rfl dX4_init_39 ?_
  cases h
  exact j_vret E dX4_init_42
def mX4_markLocalGray (f : jM) (v0 : Nat) (v1 : Nat) (v2 : Int32) : Option jM :=
    (rdR 2 f v1 1).bind fun x1 =>
    (ldI 0 f x1 v2).bind fun x2 =>
    if x2 = (2 : Int32) then (
    (rdR 4 f v0 0).bind fun x4 =>
    (rdR 2 f v1 2).bind fun x5 =>
    (ldI 0 f x5 v2).bind fun x6 =>
    (chk 1 f x4).bind fun _ =>
    (mX1_has f x4 x6).bind fun r8 =>
    if r8.1 = 0 then (
    some r8.2) else (
    (rdR 4 r8.2 v0 1).bind fun x10 =>
    (rdR 2 r8.2 v1 2).bind fun x11 =>
    (ldI 0 r8.2 x11 v2).bind fun x12 =>
    (chk 1 r8.2 x10).bind fun _ =>
    (mX1_add r8.2 x10 x12).bind fun f14 =>
    some f14)) else (
    some f)
set_option maxRecDepth 100000 in
set_option maxHeartbeats 4000000 in
theorem sX4_markLocalGray {l : Launch} {D : jD} {sz : Nat} {f : jM} {v0 : Nat} {v1 : Nat} {v2 : Int32} {res : jM} (h : mX4_markLocalGray f v0 v1 v2 = some res) : jCt l D yX4_markLocalGray cX4_markLocalGray 3 none 1 21 [.ref v0, .ref v1, .int v2] f sz 0 0 none res sz := by
  refine j_start (by decide +kernel) (Nat.le_of_ble_eq_true rfl) (fun c hcl hcD hcn E => ?_)
  subst hcl
  subst hcD
  replace E : jOk c cX4_markLocalGray 3 RX4 none 1 21 := E
  show J c (jZ c none res sz) f sz 0 0 0 [(0, .ref v0), (1, .ref v1), (2, .int v2)] []
  unfold mX4_markLocalGray at h
  refine j_aload_n E 1 dX4_markLocalGray_0 rfl rfl ?_
  obtain ⟨x1, h1, h⟩ := jb h
  refine j_getR E gX4_92 h1 dX4_markLocalGray_1 ?_
  refine j_iload_n E 2 dX4_markLocalGray_4 rfl rfl ?_
  obtain ⟨x2, h2, h⟩ := jb h
  refine j_iald E h2 dX4_markLocalGray_5 ?_
  refine j_iconst (v := (2 : Int32)) E dX4_markLocalGray_6 (by decide) ?_
  refine j_icmp_ne (tgt := 39) E dX4_markLocalGray_7 (by decide) (fun hc3 => ?_) (fun hc3 => ?_)
  · replace h := jf hc3 h
    cases h
    exact j_vret E dX4_markLocalGray_39
  replace h := jt hc3 h
  refine j_aload_n E 0 dX4_markLocalGray_10 rfl rfl ?_
  obtain ⟨x4, h4, h⟩ := jb h
  refine j_getR E gX4_12 h4 dX4_markLocalGray_11 ?_
  refine j_aload_n E 1 dX4_markLocalGray_14 rfl rfl ?_
  obtain ⟨x5, h5, h⟩ := jb h
  refine j_getR E gX4_95 h5 dX4_markLocalGray_15 ?_
  refine j_iload_n E 2 dX4_markLocalGray_18 rfl rfl ?_
  obtain ⟨x6, h6, h⟩ := jb h
  refine j_iald E h6 dX4_markLocalGray_19 ?_
  obtain ⟨u7, h7, h⟩ := jb h
  obtain ⟨fs7, h7⟩ := chk_spec h7
  obtain ⟨r8, h8, h⟩ := jb h
  refine j_callV (As := [.int x6]) (b := x4) (rest := []) (rc := 0) (rs := 0) E (sX1_has h8) lwX1_has lkX4_43 imX1_has seX1_has rfl h7 (by decide) rfl (Nat.le_of_ble_eq_true rfl) dX4_markLocalGray_20 ?_
  refine j_if_eq (tgt := 39) E dX4_markLocalGray_23 (by decide) (fun hc9 => ?_) (fun hc9 => ?_)
  · replace h := jt hc9 h
    cases h
    exact j_vret E dX4_markLocalGray_39
  replace h := jf hc9 h
  refine j_aload_n E 0 dX4_markLocalGray_26 rfl rfl ?_
  obtain ⟨x10, h10, h⟩ := jb h
  refine j_getR E gX4_18 h10 dX4_markLocalGray_27 ?_
  refine j_aload_n E 1 dX4_markLocalGray_30 rfl rfl ?_
  obtain ⟨x11, h11, h⟩ := jb h
  refine j_getR E gX4_95 h11 dX4_markLocalGray_31 ?_
  refine j_iload_n E 2 dX4_markLocalGray_34 rfl rfl ?_
  obtain ⟨x12, h12, h⟩ := jb h
  refine j_iald E h12 dX4_markLocalGray_35 ?_
  obtain ⟨u13, h13, h⟩ := jb h
  obtain ⟨fs13, h13⟩ := chk_spec h13
  obtain ⟨f14, h14, h⟩ := jb h
  refine j_callV (As := [.int x12]) (b := x10) (rest := []) (rc := 0) (rs := 0) E (sX1_add h14) lwX1_add lkX4_31 imX1_add seX1_add rfl h13 (by decide) rfl (Nat.le_of_ble_eq_true rfl) dX4_markLocalGray_36 ?_
  cases h
  exact j_vret E dX4_markLocalGray_39
def mX4_markHeldFromOutside_L48 (fu : Nat) (k22 : Int32 → jM → Option jM) (v0 : Nat) (v1 : Nat) (v2 : Int32) : Nat → Int32 → jM → Option jM
  | 0, _, _ => none
  | n + 1, v3, f =>
    (rdR 2 f v1 3).bind fun x11 =>
    (ldI 0 f x11 v2).bind fun x12 =>
    if x12 ≤ v3 then (
    k22 (v2 + (1 : Int32)) f) else (
    (mX5_fieldSlot f v2 v3).bind fun r14 =>
    (chk 4 r14.2 v0).bind fun _ =>
    (mX4_markLocalGray r14.2 v0 v1 r14.1).bind fun f16 =>
    mX4_markHeldFromOutside_L48 fu k22 v0 v1 v2 n (v3 + (1 : Int32)) f16)
set_option maxRecDepth 100000 in
set_option maxHeartbeats 4000000 in
theorem wX4_markHeldFromOutside_L48 {c : jS} {sz : Nat} {fu : Nat} {k22 : Int32 → jM → Option jM} {v0 : Nat} {v1 : Nat} {v2 : Int32} {res : jM} (E : jOk c cX4_markHeldFromOutside 4 RX4 none 2 43) (hk22 : ∀ (v2 : Int32) (f : jM), k22 v2 f = some res → J c (jZ c none res sz) f sz 0 0 22 [(0, .ref v0), (1, .ref v1), (2, .int v2)] []) : ∀ (n : Nat) (v3 : Int32) (f : jM), mX4_markHeldFromOutside_L48 fu k22 v0 v1 v2 n v3 f = some res → J c (jZ c none res sz) f sz 0 0 48 [(0, .ref v0), (1, .ref v1), (2, .int v2), (3, .int v3)] [] := by
  intro n
  induction n with
  | zero => intro v3 f h; exact jn0 h
  | succ n ih =>
    intro v3 f h
    rw [mX4_markHeldFromOutside_L48] at h
    refine j_iload_n E 3 dX4_markHeldFromOutside_48 rfl rfl ?_
    refine j_aload_n E 1 dX4_markHeldFromOutside_49 rfl rfl ?_
    obtain ⟨x11, h11, h⟩ := jb h
    refine j_getR E gX4_86 h11 dX4_markHeldFromOutside_50 ?_
    refine j_iload_n E 2 dX4_markHeldFromOutside_53 rfl rfl ?_
    obtain ⟨x12, h12, h⟩ := jb h
    refine j_iald E h12 dX4_markHeldFromOutside_54 ?_
    refine j_icmp_ge (tgt := 74) E dX4_markHeldFromOutside_55 (by decide) (fun hc13 => ?_) (fun hc13 => ?_)
    · replace h := jt hc13 h
      refine j_iinc (v := (v2 + (1 : Int32))) (lv' := [(2, .int (v2 + (1 : Int32))), (0, .ref v0), (1, .ref v1), (3, .int v3)]) E 2 dX4_markHeldFromOutside_74 rfl rfl (by decide) rfl ?_
      refine j_goto (tgt := 22) E dX4_markHeldFromOutside_77 (by decide) ?_
      exact j_sub [1, 2, 0] rfl (hk22 _ _ h)
    replace h := jf hc13 h
    refine j_aload_n E 0 dX4_markHeldFromOutside_58 rfl rfl ?_
    refine j_aload_n E 1 dX4_markHeldFromOutside_59 rfl rfl ?_
    refine j_iload_n E 2 dX4_markHeldFromOutside_60 rfl rfl ?_
    refine j_iload_n E 3 dX4_markHeldFromOutside_61 rfl rfl ?_
    obtain ⟨r14, h14, h⟩ := jb h
    refine j_callS (As := [.int v2, .int v3]) (rest := [.ref v1, .ref v0]) (rc := 0) (rs := 0) E (sX5_fieldSlot h14) lwX5_fieldSlot lkX4_89 stX5_fieldSlot (by decide) rfl (Nat.le_of_ble_eq_true rfl) dX4_markHeldFromOutside_62 ?_
    obtain ⟨u15, h15, h⟩ := jb h
    obtain ⟨fs15, h15⟩ := chk_spec h15
    obtain ⟨f16, h16, h⟩ := jb h
    refine j_callV (As := [.ref v1, .int r14.1]) (b := v0) (rest := []) (rc := 0) (rs := 0) E (sX4_markLocalGray h16) lwX4_markLocalGray lkX4_73 imX4_markLocalGray seX4_markLocalGray rfl h15 (by decide) rfl (Nat.le_of_ble_eq_true rfl) dX4_markHeldFromOutside_65 ?_
    refine j_iinc (v := (v3 + (1 : Int32))) (lv' := [(3, .int (v3 + (1 : Int32))), (0, .ref v0), (1, .ref v1), (2, .int v2)]) E 3 dX4_markHeldFromOutside_68 rfl rfl (by decide) rfl ?_
    refine j_goto (tgt := 48) E dX4_markHeldFromOutside_71 (by decide) ?_
    exact j_sub [1, 2, 3, 0] rfl (ih _ _ h)
def mX4_markHeldFromOutside_L22 (fu : Nat)  (v0 : Nat) (v1 : Nat) : Nat → Int32 → jM → Option jM
  | 0, _, _ => none
  | n + 1, v2, f =>
    if (24 : Int32) ≤ v2 then (
    some f) else (
    (rdR 4 f v0 0).bind fun x5 =>
    (rdI 2 f v1 0).bind fun x6 =>
    (mX5_idOf f x6 v2).bind fun r7 =>
    (chk 1 r7.2 x5).bind fun _ =>
    (mX1_has r7.2 x5 r7.1).bind fun r9 =>
    if r9.1 = 0 then (
    mX4_markHeldFromOutside_L48 fu (mX4_markHeldFromOutside_L22 fu v0 v1 n) v0 v1 v2 fu (0 : Int32) r9.2) else (
    mX4_markHeldFromOutside_L22 fu v0 v1 n (v2 + (1 : Int32)) r9.2))
set_option maxRecDepth 100000 in
set_option maxHeartbeats 4000000 in
theorem wX4_markHeldFromOutside_L22 {c : jS} {sz : Nat} {fu : Nat}  {v0 : Nat} {v1 : Nat} {res : jM} (E : jOk c cX4_markHeldFromOutside 4 RX4 none 2 43)  : ∀ (n : Nat) (v2 : Int32) (f : jM), mX4_markHeldFromOutside_L22 fu  v0 v1 n v2 f = some res → J c (jZ c none res sz) f sz 0 0 22 [(0, .ref v0), (1, .ref v1), (2, .int v2)] [] := by
  intro n
  induction n with
  | zero => intro v2 f h; exact jn0 h
  | succ n ih =>
    intro v2 f h
    rw [mX4_markHeldFromOutside_L22] at h
    refine j_iload_n E 2 dX4_markHeldFromOutside_22 rfl rfl ?_
    refine j_bipush (v := (24 : Int32)) E dX4_markHeldFromOutside_23 (by decide) ?_
    refine j_icmp_ge (tgt := 80) E dX4_markHeldFromOutside_25 (by decide) (fun hc4 => ?_) (fun hc4 => ?_)
    · replace h := jt hc4 h
      cases h
      exact j_vret E dX4_markHeldFromOutside_80
    replace h := jf hc4 h
    refine j_aload_n E 0 dX4_markHeldFromOutside_28 rfl rfl ?_
    obtain ⟨x5, h5, h⟩ := jb h
    refine j_getR E gX4_12 h5 dX4_markHeldFromOutside_29 ?_
    refine j_aload_n E 1 dX4_markHeldFromOutside_32 rfl rfl ?_
    obtain ⟨x6, h6, h⟩ := jb h
    refine j_getI E gX4_77 h6 dX4_markHeldFromOutside_33 ?_
    refine j_iload_n E 2 dX4_markHeldFromOutside_36 rfl rfl ?_
    obtain ⟨r7, h7, h⟩ := jb h
    refine j_callS (As := [.int x6, .int v2]) (rest := [.ref x5]) (rc := 0) (rs := 0) E (sX5_idOf h7) lwX5_idOf lkX4_82 stX5_idOf (by decide) rfl (Nat.le_of_ble_eq_true rfl) dX4_markHeldFromOutside_37 ?_
    obtain ⟨u8, h8, h⟩ := jb h
    obtain ⟨fs8, h8⟩ := chk_spec h8
    obtain ⟨r9, h9, h⟩ := jb h
    refine j_callV (As := [.int r7.1]) (b := x5) (rest := []) (rc := 0) (rs := 0) E (sX1_has h9) lwX1_has lkX4_43 imX1_has seX1_has rfl h8 (by decide) rfl (Nat.le_of_ble_eq_true rfl) dX4_markHeldFromOutside_40 ?_
    refine j_if_ne (tgt := 74) E dX4_markHeldFromOutside_43 (by decide) (fun hc10 => ?_) (fun hc10 => ?_)
    · replace h := jf hc10 h
      refine j_iinc (v := (v2 + (1 : Int32))) (lv' := [(2, .int (v2 + (1 : Int32))), (0, .ref v0), (1, .ref v1)]) E 2 dX4_markHeldFromOutside_74 rfl rfl (by decide) rfl ?_
      refine j_goto (tgt := 22) E dX4_markHeldFromOutside_77 (by decide) ?_
      exact j_sub [1, 2, 0] rfl (ih _ _ h)
    replace h := jt hc10 h
    refine j_iconst (v := (0 : Int32)) E dX4_markHeldFromOutside_46 (by decide) ?_
    refine j_istore_n (lv' := [(3, .int (0 : Int32)), (0, .ref v0), (1, .ref v1), (2, .int v2)]) E dX4_markHeldFromOutside_47 rfl (by decide) rfl ?_
    exact j_sub [1, 2, 3, 0] rfl (wX4_markHeldFromOutside_L48 E ih _ _ _ h)
def mX4_markHeldFromOutside_L2 (fu : Nat)  (v0 : Nat) (v1 : Nat) : Nat → Int32 → jM → Option jM
  | 0, _, _ => none
  | n + 1, v2, f =>
    if (6 : Int32) ≤ v2 then (
    mX4_markHeldFromOutside_L22 fu v0 v1 fu (0 : Int32) f) else (
    (chk 4 f v0).bind fun _ =>
    (mX4_markLocalGray f v0 v1 v2).bind fun f3 =>
    mX4_markHeldFromOutside_L2 fu v0 v1 n (v2 + (1 : Int32)) f3)
set_option maxRecDepth 100000 in
set_option maxHeartbeats 4000000 in
theorem wX4_markHeldFromOutside_L2 {c : jS} {sz : Nat} {fu : Nat}  {v0 : Nat} {v1 : Nat} {res : jM} (E : jOk c cX4_markHeldFromOutside 4 RX4 none 2 43)  : ∀ (n : Nat) (v2 : Int32) (f : jM), mX4_markHeldFromOutside_L2 fu  v0 v1 n v2 f = some res → J c (jZ c none res sz) f sz 0 0 2 [(0, .ref v0), (1, .ref v1), (2, .int v2)] [] := by
  intro n
  induction n with
  | zero => intro v2 f h; exact jn0 h
  | succ n ih =>
    intro v2 f h
    rw [mX4_markHeldFromOutside_L2] at h
    refine j_iload_n E 2 dX4_markHeldFromOutside_2 rfl rfl ?_
    refine j_bipush (v := (6 : Int32)) E dX4_markHeldFromOutside_3 (by decide) ?_
    refine j_icmp_ge (tgt := 20) E dX4_markHeldFromOutside_5 (by decide) (fun hc1 => ?_) (fun hc1 => ?_)
    · replace h := jt hc1 h
      refine j_iconst (v := (0 : Int32)) E dX4_markHeldFromOutside_20 (by decide) ?_
      refine j_istore_n (lv' := [(2, .int (0 : Int32)), (0, .ref v0), (1, .ref v1)]) E dX4_markHeldFromOutside_21 rfl (by decide) rfl ?_
      exact j_sub [1, 2, 0] rfl (wX4_markHeldFromOutside_L22 E _ _ _ h)
    replace h := jf hc1 h
    refine j_aload_n E 0 dX4_markHeldFromOutside_8 rfl rfl ?_
    refine j_aload_n E 1 dX4_markHeldFromOutside_9 rfl rfl ?_
    refine j_iload_n E 2 dX4_markHeldFromOutside_10 rfl rfl ?_
    obtain ⟨u2, h2, h⟩ := jb h
    obtain ⟨fs2, h2⟩ := chk_spec h2
    obtain ⟨f3, h3, h⟩ := jb h
    refine j_callV (As := [.ref v1, .int v2]) (b := v0) (rest := []) (rc := 0) (rs := 0) E (sX4_markLocalGray h3) lwX4_markLocalGray lkX4_73 imX4_markLocalGray seX4_markLocalGray rfl h2 (by decide) rfl (Nat.le_of_ble_eq_true rfl) dX4_markHeldFromOutside_11 ?_
    refine j_iinc (v := (v2 + (1 : Int32))) (lv' := [(2, .int (v2 + (1 : Int32))), (0, .ref v0), (1, .ref v1)]) E 2 dX4_markHeldFromOutside_14 rfl rfl (by decide) rfl ?_
    refine j_goto (tgt := 2) E dX4_markHeldFromOutside_17 (by decide) ?_
    exact j_sub [1, 2, 0] rfl (ih _ _ h)
def mX4_markHeldFromOutside (fu : Nat) (f : jM) (v0 : Nat) (v1 : Nat) : Option jM :=
    mX4_markHeldFromOutside_L2 fu v0 v1 fu (0 : Int32) f
set_option maxRecDepth 100000 in
set_option maxHeartbeats 4000000 in
theorem sX4_markHeldFromOutside {l : Launch} {D : jD} {sz : Nat} {fu : Nat} {f : jM} {v0 : Nat} {v1 : Nat} {res : jM} (h : mX4_markHeldFromOutside fu f v0 v1 = some res) : jCt l D yX4_markHeldFromOutside cX4_markHeldFromOutside 4 none 2 43 [.ref v0, .ref v1] f sz 0 0 none res sz := by
  refine j_start (by decide +kernel) (Nat.le_of_ble_eq_true rfl) (fun c hcl hcD hcn E => ?_)
  subst hcl
  subst hcD
  replace E : jOk c cX4_markHeldFromOutside 4 RX4 none 2 43 := E
  show J c (jZ c none res sz) f sz 0 0 0 [(0, .ref v0), (1, .ref v1)] []
  unfold mX4_markHeldFromOutside at h
  refine j_iconst (v := (0 : Int32)) E dX4_markHeldFromOutside_0 (by decide) ?_
  refine j_istore_n (lv' := [(2, .int (0 : Int32)), (0, .ref v0), (1, .ref v1)]) E dX4_markHeldFromOutside_1 rfl (by decide) rfl ?_
  exact j_sub [1, 2, 0] rfl (wX4_markHeldFromOutside_L2 E _ _ _ h)
def mX4_noteHolder (f : jM) (v0 : Nat) (v1 : Nat) (v2 : Int32) (v3 : Int32) : Option jM :=
    (rdR 2 f v1 2).bind fun x1 =>
    (ldI 0 f x1 v2).bind fun x2 =>
    (rdR 2 f v1 1).bind fun x3 =>
    (ldI 0 f x3 v2).bind fun x4 =>
    if x4 = (3 : Int32) then (
    (mX5_isId f x2).bind fun r6 =>
    if r6.1 = 0 then (
    some r6.2) else (
    (rdR 4 r6.2 v0 2).bind fun x8 =>
    (rdR 4 r6.2 v0 2).bind fun x9 =>
    (ldI 0 r6.2 x9 x2).bind fun x10 =>
    (stI 0 r6.2 x8 x2 (if x10 < v3 then v3 else x10)).bind fun f11 =>
    some f11)) else (
    some f)
set_option maxRecDepth 100000 in
set_option maxHeartbeats 4000000 in
theorem sX4_noteHolder {l : Launch} {D : jD} {sz : Nat} {f : jM} {v0 : Nat} {v1 : Nat} {v2 : Int32} {v3 : Int32} {res : jM} (h : mX4_noteHolder f v0 v1 v2 v3 = some res) : jCt l D yX4_noteHolder cX4_noteHolder 5 none 1 20 [.ref v0, .ref v1, .int v2, .int v3] f sz 0 0 none res sz := by
  refine j_start (by decide +kernel) (Nat.le_of_ble_eq_true rfl) (fun c hcl hcD hcn E => ?_)
  subst hcl
  subst hcD
  replace E : jOk c cX4_noteHolder 5 RX4 none 1 20 := E
  show J c (jZ c none res sz) f sz 0 0 0 [(0, .ref v0), (1, .ref v1), (2, .int v2), (3, .int v3)] []
  unfold mX4_noteHolder at h
  refine j_aload_n E 1 dX4_noteHolder_0 rfl rfl ?_
  obtain ⟨x1, h1, h⟩ := jb h
  refine j_getR E gX4_95 h1 dX4_noteHolder_1 ?_
  refine j_iload_n E 2 dX4_noteHolder_4 rfl rfl ?_
  obtain ⟨x2, h2, h⟩ := jb h
  refine j_iald E h2 dX4_noteHolder_5 ?_
  refine j_istore (lv' := [(4, .int x2), (0, .ref v0), (1, .ref v1), (2, .int v2), (3, .int v3)]) E dX4_noteHolder_6 (by decide) rfl ?_
  refine j_aload_n E 2 dX4_noteHolder_8 rfl rfl ?_
  obtain ⟨x3, h3, h⟩ := jb h
  refine j_getR E gX4_92 h3 dX4_noteHolder_9 ?_
  refine j_iload_n E 3 dX4_noteHolder_12 rfl rfl ?_
  obtain ⟨x4, h4, h⟩ := jb h
  refine j_iald E h4 dX4_noteHolder_13 ?_
  refine j_iconst (v := (3 : Int32)) E dX4_noteHolder_14 (by decide) ?_
  refine j_icmp_ne (tgt := 44) E dX4_noteHolder_15 (by decide) (fun hc5 => ?_) (fun hc5 => ?_)
  · replace h := jf hc5 h
    cases h
    exact j_vret E dX4_noteHolder_44
  replace h := jt hc5 h
  refine j_iload E 0 dX4_noteHolder_18 rfl ?_
  obtain ⟨r6, h6, h⟩ := jb h
  refine j_callS (As := [.int x2]) (rest := []) (rc := 0) (rs := 0) E (sX5_isId h6) lwX5_isId lkX4_121 stX5_isId (by decide) rfl (Nat.le_of_ble_eq_true rfl) dX4_noteHolder_20 ?_
  refine j_if_eq (tgt := 44) E dX4_noteHolder_23 (by decide) (fun hc7 => ?_) (fun hc7 => ?_)
  · replace h := jt hc7 h
    cases h
    exact j_vret E dX4_noteHolder_44
  replace h := jf hc7 h
  refine j_aload_n E 1 dX4_noteHolder_26 rfl rfl ?_
  obtain ⟨x8, h8, h⟩ := jb h
  refine j_getR E gX4_21 h8 dX4_noteHolder_27 ?_
  refine j_iload E 0 dX4_noteHolder_30 rfl ?_
  refine j_aload_n E 1 dX4_noteHolder_32 rfl rfl ?_
  obtain ⟨x9, h9, h⟩ := jb h
  refine j_getR E gX4_21 h9 dX4_noteHolder_33 ?_
  refine j_iload E 0 dX4_noteHolder_36 rfl ?_
  obtain ⟨x10, h10, h⟩ := jb h
  refine j_iald E h10 dX4_noteHolder_38 ?_
  refine j_iload_n E 4 dX4_noteHolder_39 rfl rfl ?_
  refine j_mmax E lkX4_124 ma_st_max ma_in ma_co_max (by decide) (Nat.le_of_ble_eq_true rfl) dX4_noteHolder_40 ?_
  obtain ⟨f11, h11, h⟩ := jb h
  refine j_iast E h11 dX4_noteHolder_43 ?_
  cases h
  exact j_vret E dX4_noteHolder_44
def mX4_isLetGo (f : jM) (v0 : Nat) (v1 : Nat) (v2 : Int32) : Option (Int32 × jM) :=
    (rdI 2 f v1 0).bind fun x1 =>
    (mX5_idOf f x1 v2).bind fun r2 =>
    (rdR 4 r2.2 v0 0).bind fun x3 =>
    (chk 1 r2.2 x3).bind fun _ =>
    (mX1_has r2.2 x3 r2.1).bind fun r5 =>
    if r5.1 = 0 then (
    some ((0 : Int32), r5.2)) else (
    (rdR 4 r5.2 v0 1).bind fun x7 =>
    (chk 1 r5.2 x7).bind fun _ =>
    (mX1_has r5.2 x7 r2.1).bind fun r9 =>
    if r9.1 = 0 then (
    some ((1 : Int32), r9.2)) else (
    some ((0 : Int32), r9.2)))
set_option maxRecDepth 100000 in
set_option maxHeartbeats 4000000 in
theorem sX4_isLetGo {l : Launch} {D : jD} {sz : Nat} {f : jM} {v0 : Nat} {v1 : Nat} {v2 : Int32} {res : (Int32 × jM)} (h : mX4_isLetGo f v0 v1 v2 = some res) : jCt l D yX4_isLetGo cX4_isLetGo 4 (some .boolean) 1 21 [.ref v0, .ref v1, .int v2] f sz 0 0 (some (.int res.1)) res.2 sz := by
  refine j_start (by decide +kernel) (Nat.le_of_ble_eq_true rfl) (fun c hcl hcD hcn E => ?_)
  subst hcl
  subst hcD
  replace E : jOk c cX4_isLetGo 4 RX4 (some .boolean) 1 21 := E
  show J c (jZ c (some (.int res.1)) res.2 sz) f sz 0 0 0 [(0, .ref v0), (1, .ref v1), (2, .int v2)] []
  unfold mX4_isLetGo at h
  refine j_aload_n E 1 dX4_isLetGo_0 rfl rfl ?_
  obtain ⟨x1, h1, h⟩ := jb h
  refine j_getI E gX4_77 h1 dX4_isLetGo_1 ?_
  refine j_iload_n E 2 dX4_isLetGo_4 rfl rfl ?_
  obtain ⟨r2, h2, h⟩ := jb h
  refine j_callS (As := [.int x1, .int v2]) (rest := []) (rc := 0) (rs := 0) E (sX5_idOf h2) lwX5_idOf lkX4_82 stX5_idOf (by decide) rfl (Nat.le_of_ble_eq_true rfl) dX4_isLetGo_5 ?_
  refine j_istore_n (lv' := [(3, .int r2.1), (0, .ref v0), (1, .ref v1), (2, .int v2)]) E dX4_isLetGo_8 rfl (by decide) rfl ?_
  refine j_aload_n E 1 dX4_isLetGo_9 rfl rfl ?_
  obtain ⟨x3, h3, h⟩ := jb h
  refine j_getR E gX4_12 h3 dX4_isLetGo_10 ?_
  refine j_iload_n E 0 dX4_isLetGo_13 rfl rfl ?_
  obtain ⟨u4, h4, h⟩ := jb h
  obtain ⟨fs4, h4⟩ := chk_spec h4
  obtain ⟨r5, h5, h⟩ := jb h
  refine j_callV (As := [.int r2.1]) (b := x3) (rest := []) (rc := 0) (rs := 0) E (sX1_has h5) lwX1_has lkX4_43 imX1_has seX1_has rfl h4 (by decide) rfl (Nat.le_of_ble_eq_true rfl) dX4_isLetGo_14 ?_
  refine j_if_eq (tgt := 35) E dX4_isLetGo_17 (by decide) (fun hc6 => ?_) (fun hc6 => ?_)
  · replace h := jt hc6 h
    refine j_iconst (v := (0 : Int32)) E dX4_isLetGo_35 (by decide) ?_
    cases h
    exact j_zret (v := (0 : Int32)) E (by decide +kernel) dX4_isLetGo_36
  replace h := jf hc6 h
  refine j_aload_n E 1 dX4_isLetGo_20 rfl rfl ?_
  obtain ⟨x7, h7, h⟩ := jb h
  refine j_getR E gX4_18 h7 dX4_isLetGo_21 ?_
  refine j_iload_n E 0 dX4_isLetGo_24 rfl rfl ?_
  obtain ⟨u8, h8, h⟩ := jb h
  obtain ⟨fs8, h8⟩ := chk_spec h8
  obtain ⟨r9, h9, h⟩ := jb h
  refine j_callV (As := [.int r2.1]) (b := x7) (rest := []) (rc := 0) (rs := 0) E (sX1_has h9) lwX1_has lkX4_43 imX1_has seX1_has rfl h8 (by decide) rfl (Nat.le_of_ble_eq_true rfl) dX4_isLetGo_25 ?_
  refine j_if_ne (tgt := 35) E dX4_isLetGo_28 (by decide) (fun hc10 => ?_) (fun hc10 => ?_)
  · replace h := jf hc10 h
    refine j_iconst (v := (0 : Int32)) E dX4_isLetGo_35 (by decide) ?_
    cases h
    exact j_zret (v := (0 : Int32)) E (by decide +kernel) dX4_isLetGo_36
  replace h := jt hc10 h
  refine j_iconst (v := (1 : Int32)) E dX4_isLetGo_31 (by decide) ?_
  refine j_goto (tgt := 36) E dX4_isLetGo_32 (by decide) ?_
  cases h
  exact j_zret (v := (1 : Int32)) E (by decide +kernel) dX4_isLetGo_36
def mX4_findHolders_L55 (fu : Nat) (k31 : Int32 → jM → Option jM) (v0 : Nat) (v1 : Nat) (v2 : Int32) (v3 : Int32) : Nat → Int32 → jM → Option jM
  | 0, _, _ => none
  | n + 1, v4, f =>
    (rdR 2 f v1 3).bind fun x8 =>
    (ldI 0 f x8 v2).bind fun x9 =>
    if x9 ≤ v4 then (
    k31 (v2 + (1 : Int32)) f) else (
    (mX5_fieldSlot f v2 v4).bind fun r11 =>
    (chk 4 r11.2 v0).bind fun _ =>
    (mX4_noteHolder r11.2 v0 v1 r11.1 v3).bind fun f13 =>
    mX4_findHolders_L55 fu k31 v0 v1 v2 v3 n (v4 + (1 : Int32)) f13)
set_option maxRecDepth 100000 in
set_option maxHeartbeats 4000000 in
theorem wX4_findHolders_L55 {c : jS} {sz : Nat} {fu : Nat} {k31 : Int32 → jM → Option jM} {v0 : Nat} {v1 : Nat} {v2 : Int32} {v3 : Int32} {res : jM} (E : jOk c cX4_findHolders 5 RX4 none 2 44) (hk31 : ∀ (v2 : Int32) (f : jM), k31 v2 f = some res → J c (jZ c none res sz) f sz 0 0 31 [(0, .ref v0), (1, .ref v1), (2, .int v2)] []) : ∀ (n : Nat) (v4 : Int32) (f : jM), mX4_findHolders_L55 fu k31 v0 v1 v2 v3 n v4 f = some res → J c (jZ c none res sz) f sz 0 0 55 [(0, .ref v0), (1, .ref v1), (2, .int v2), (3, .int v3), (4, .int v4)] [] := by
  intro n
  induction n with
  | zero => intro v4 f h; exact jn0 h
  | succ n ih =>
    intro v4 f h
    rw [mX4_findHolders_L55] at h
    refine j_iload E 4 dX4_findHolders_55 rfl ?_
    refine j_aload_n E 1 dX4_findHolders_57 rfl rfl ?_
    obtain ⟨x8, h8, h⟩ := jb h
    refine j_getR E gX4_86 h8 dX4_findHolders_58 ?_
    refine j_iload_n E 2 dX4_findHolders_61 rfl rfl ?_
    obtain ⟨x9, h9, h⟩ := jb h
    refine j_iald E h9 dX4_findHolders_62 ?_
    refine j_icmp_ge (tgt := 84) E dX4_findHolders_63 (by decide) (fun hc10 => ?_) (fun hc10 => ?_)
    · replace h := jt hc10 h
      refine j_iinc (v := (v2 + (1 : Int32))) (lv' := [(2, .int (v2 + (1 : Int32))), (0, .ref v0), (1, .ref v1), (3, .int v3), (4, .int v4)]) E 2 dX4_findHolders_84 rfl rfl (by decide) rfl ?_
      refine j_goto (tgt := 31) E dX4_findHolders_87 (by decide) ?_
      exact j_sub [1, 2, 0] rfl (hk31 _ _ h)
    replace h := jf hc10 h
    refine j_aload_n E 0 dX4_findHolders_66 rfl rfl ?_
    refine j_aload_n E 1 dX4_findHolders_67 rfl rfl ?_
    refine j_iload_n E 2 dX4_findHolders_68 rfl rfl ?_
    refine j_iload E 4 dX4_findHolders_69 rfl ?_
    obtain ⟨r11, h11, h⟩ := jb h
    refine j_callS (As := [.int v2, .int v4]) (rest := [.ref v1, .ref v0]) (rc := 0) (rs := 0) E (sX5_fieldSlot h11) lwX5_fieldSlot lkX4_89 stX5_fieldSlot (by decide) rfl (Nat.le_of_ble_eq_true rfl) dX4_findHolders_71 ?_
    refine j_iload_n E 3 dX4_findHolders_74 rfl rfl ?_
    obtain ⟨u12, h12, h⟩ := jb h
    obtain ⟨fs12, h12⟩ := chk_spec h12
    obtain ⟨f13, h13, h⟩ := jb h
    refine j_callV (As := [.ref v1, .int r11.1, .int v3]) (b := v0) (rest := []) (rc := 0) (rs := 0) E (sX4_noteHolder h13) lwX4_noteHolder lkX4_113 imX4_noteHolder seX4_noteHolder rfl h12 (by decide) rfl (Nat.le_of_ble_eq_true rfl) dX4_findHolders_75 ?_
    refine j_iinc (v := (v4 + (1 : Int32))) (lv' := [(4, .int (v4 + (1 : Int32))), (0, .ref v0), (1, .ref v1), (2, .int v2), (3, .int v3)]) E 4 dX4_findHolders_78 rfl rfl (by decide) rfl ?_
    refine j_goto (tgt := 55) E dX4_findHolders_81 (by decide) ?_
    exact j_sub [1, 2, 3, 4, 0] rfl (ih _ _ h)
def mX4_findHolders_B51 (fu : Nat) (k31 : Int32 → jM → Option jM) (v0 : Nat) (v1 : Nat) (v2 : Int32) (s0 : Int32) (f : jM) : Option jM :=
    mX4_findHolders_L55 fu k31 v0 v1 v2 s0 fu (0 : Int32) f
set_option maxRecDepth 100000 in
set_option maxHeartbeats 4000000 in
theorem wX4_findHolders_B51 {c : jS} {sz : Nat} {fu : Nat} {k31 : Int32 → jM → Option jM} {v0 : Nat} {v1 : Nat} {v2 : Int32} {s0 : Int32} {f : jM} {res : jM} (E : jOk c cX4_findHolders 5 RX4 none 2 44) (hk31 : ∀ (v2 : Int32) (f : jM), k31 v2 f = some res → J c (jZ c none res sz) f sz 0 0 31 [(0, .ref v0), (1, .ref v1), (2, .int v2)] []) (h : mX4_findHolders_B51 fu k31 v0 v1 v2 s0 f = some res) : J c (jZ c none res sz) f sz 0 0 51 [(0, .ref v0), (1, .ref v1), (2, .int v2)] [.int s0] := by
  unfold mX4_findHolders_B51 at h
  refine j_istore_n (lv' := [(3, .int s0), (0, .ref v0), (1, .ref v1), (2, .int v2)]) E dX4_findHolders_51 rfl (by decide) rfl ?_
  refine j_iconst (v := (0 : Int32)) E dX4_findHolders_52 (by decide) ?_
  refine j_istore (lv' := [(4, .int (0 : Int32)), (3, .int s0), (0, .ref v0), (1, .ref v1), (2, .int v2)]) E dX4_findHolders_53 (by decide) rfl ?_
  exact j_sub [2, 3, 4, 1, 0] rfl (wX4_findHolders_L55 E hk31 _ _ _ h)
def mX4_findHolders_L31 (fu : Nat)  (v0 : Nat) (v1 : Nat) : Nat → Int32 → jM → Option jM
  | 0, _, _ => none
  | n + 1, v2, f =>
    if (24 : Int32) ≤ v2 then (
    some f) else (
    (chk 4 f v0).bind fun _ =>
    (mX4_isLetGo f v0 v1 v2).bind fun r6 =>
    if r6.1 = 0 then (
    mX4_findHolders_B51 fu (mX4_findHolders_L31 fu v0 v1 n) v0 v1 v2 (2 : Int32) r6.2) else (
    mX4_findHolders_B51 fu (mX4_findHolders_L31 fu v0 v1 n) v0 v1 v2 (1 : Int32) r6.2))
set_option maxRecDepth 100000 in
set_option maxHeartbeats 4000000 in
theorem wX4_findHolders_L31 {c : jS} {sz : Nat} {fu : Nat}  {v0 : Nat} {v1 : Nat} {res : jM} (E : jOk c cX4_findHolders 5 RX4 none 2 44)  : ∀ (n : Nat) (v2 : Int32) (f : jM), mX4_findHolders_L31 fu  v0 v1 n v2 f = some res → J c (jZ c none res sz) f sz 0 0 31 [(0, .ref v0), (1, .ref v1), (2, .int v2)] [] := by
  intro n
  induction n with
  | zero => intro v2 f h; exact jn0 h
  | succ n ih =>
    intro v2 f h
    rw [mX4_findHolders_L31] at h
    refine j_iload_n E 2 dX4_findHolders_31 rfl rfl ?_
    refine j_bipush (v := (24 : Int32)) E dX4_findHolders_32 (by decide) ?_
    refine j_icmp_ge (tgt := 90) E dX4_findHolders_34 (by decide) (fun hc4 => ?_) (fun hc4 => ?_)
    · replace h := jt hc4 h
      cases h
      exact j_vret E dX4_findHolders_90
    replace h := jf hc4 h
    refine j_aload_n E 0 dX4_findHolders_37 rfl rfl ?_
    refine j_aload_n E 1 dX4_findHolders_38 rfl rfl ?_
    refine j_iload_n E 2 dX4_findHolders_39 rfl rfl ?_
    obtain ⟨u5, h5, h⟩ := jb h
    obtain ⟨fs5, h5⟩ := chk_spec h5
    obtain ⟨r6, h6, h⟩ := jb h
    refine j_callV (As := [.ref v1, .int v2]) (b := v0) (rest := []) (rc := 0) (rs := 0) E (sX4_isLetGo h6) lwX4_isLetGo lkX4_117 imX4_isLetGo seX4_isLetGo rfl h5 (by decide) rfl (Nat.le_of_ble_eq_true rfl) dX4_findHolders_40 ?_
    refine j_if_eq (tgt := 50) E dX4_findHolders_43 (by decide) (fun hc7 => ?_) (fun hc7 => ?_)
    · replace h := jt hc7 h
      refine j_iconst (v := (2 : Int32)) E dX4_findHolders_50 (by decide) ?_
      exact j_sub [0, 1, 2] rfl (wX4_findHolders_B51 E ih h)
    replace h := jf hc7 h
    refine j_iconst (v := (1 : Int32)) E dX4_findHolders_46 (by decide) ?_
    refine j_goto (tgt := 51) E dX4_findHolders_47 (by decide) ?_
    exact j_sub [0, 1, 2] rfl (wX4_findHolders_B51 E ih h)
def mX4_findHolders_L10 (fu : Nat)  (v0 : Nat) (v1 : Nat) : Nat → Int32 → jM → Option jM
  | 0, _, _ => none
  | n + 1, v2, f =>
    if (6 : Int32) ≤ v2 then (
    mX4_findHolders_L31 fu v0 v1 fu (0 : Int32) f) else (
    (chk 4 f v0).bind fun _ =>
    (mX4_noteHolder f v0 v1 v2 (2 : Int32)).bind fun f3 =>
    mX4_findHolders_L10 fu v0 v1 n (v2 + (1 : Int32)) f3)
set_option maxRecDepth 100000 in
set_option maxHeartbeats 4000000 in
theorem wX4_findHolders_L10 {c : jS} {sz : Nat} {fu : Nat}  {v0 : Nat} {v1 : Nat} {res : jM} (E : jOk c cX4_findHolders 5 RX4 none 2 44)  : ∀ (n : Nat) (v2 : Int32) (f : jM), mX4_findHolders_L10 fu  v0 v1 n v2 f = some res → J c (jZ c none res sz) f sz 0 0 10 [(0, .ref v0), (1, .ref v1), (2, .int v2)] [] := by
  intro n
  induction n with
  | zero => intro v2 f h; exact jn0 h
  | succ n ih =>
    intro v2 f h
    rw [mX4_findHolders_L10] at h
    refine j_iload_n E 2 dX4_findHolders_10 rfl rfl ?_
    refine j_bipush (v := (6 : Int32)) E dX4_findHolders_11 (by decide) ?_
    refine j_icmp_ge (tgt := 29) E dX4_findHolders_13 (by decide) (fun hc1 => ?_) (fun hc1 => ?_)
    · replace h := jt hc1 h
      refine j_iconst (v := (0 : Int32)) E dX4_findHolders_29 (by decide) ?_
      refine j_istore_n (lv' := [(2, .int (0 : Int32)), (0, .ref v0), (1, .ref v1)]) E dX4_findHolders_30 rfl (by decide) rfl ?_
      exact j_sub [1, 2, 0] rfl (wX4_findHolders_L31 E _ _ _ h)
    replace h := jf hc1 h
    refine j_aload_n E 0 dX4_findHolders_16 rfl rfl ?_
    refine j_aload_n E 1 dX4_findHolders_17 rfl rfl ?_
    refine j_iload_n E 2 dX4_findHolders_18 rfl rfl ?_
    refine j_iconst (v := (2 : Int32)) E dX4_findHolders_19 (by decide) ?_
    obtain ⟨u2, h2, h⟩ := jb h
    obtain ⟨fs2, h2⟩ := chk_spec h2
    obtain ⟨f3, h3, h⟩ := jb h
    refine j_callV (As := [.ref v1, .int v2, .int (2 : Int32)]) (b := v0) (rest := []) (rc := 0) (rs := 0) E (sX4_noteHolder h3) lwX4_noteHolder lkX4_113 imX4_noteHolder seX4_noteHolder rfl h2 (by decide) rfl (Nat.le_of_ble_eq_true rfl) dX4_findHolders_20 ?_
    refine j_iinc (v := (v2 + (1 : Int32))) (lv' := [(2, .int (v2 + (1 : Int32))), (0, .ref v0), (1, .ref v1)]) E 2 dX4_findHolders_23 rfl rfl (by decide) rfl ?_
    refine j_goto (tgt := 10) E dX4_findHolders_26 (by decide) ?_
    exact j_sub [1, 2, 0] rfl (ih _ _ h)
def mX4_findHolders (fu : Nat) (f : jM) (v0 : Nat) (v1 : Nat) : Option jM :=
    (rdR 4 f v0 2).bind fun x14 =>
    (mJ7_fill_53178 fu f x14 (0 : Int32)).bind fun f15 =>
    mX4_findHolders_L10 fu v0 v1 fu (0 : Int32) f15
set_option maxRecDepth 100000 in
set_option maxHeartbeats 4000000 in
theorem sX4_findHolders {l : Launch} {D : jD} {sz : Nat} {fu : Nat} {f : jM} {v0 : Nat} {v1 : Nat} {res : jM} (h : mX4_findHolders fu f v0 v1 = some res) : jCt l D yX4_findHolders cX4_findHolders 5 none 2 44 [.ref v0, .ref v1] f sz 0 0 none res sz := by
  refine j_start (by decide +kernel) (Nat.le_of_ble_eq_true rfl) (fun c hcl hcD hcn E => ?_)
  subst hcl
  subst hcD
  replace E : jOk c cX4_findHolders 5 RX4 none 2 44 := E
  show J c (jZ c none res sz) f sz 0 0 0 [(0, .ref v0), (1, .ref v1)] []
  unfold mX4_findHolders at h
  refine j_aload_n E 0 dX4_findHolders_0 rfl rfl ?_
  obtain ⟨x14, h14, h⟩ := jb h
  refine j_getR E gX4_21 h14 dX4_findHolders_1 ?_
  refine j_iconst (v := (0 : Int32)) E dX4_findHolders_4 (by decide) ?_
  obtain ⟨f15, h15, h⟩ := jb h
  refine j_callS (As := [.ref x14, .int (0 : Int32)]) (rest := []) (rc := 0) (rs := 0) E (sJ7_fill_53178 h15) lwJ7_fill_53178 lkX4_101 stJ7_fill_53178 (by decide) rfl (Nat.le_of_ble_eq_true rfl) dX4_findHolders_5 ?_
  refine j_iconst (v := (0 : Int32)) E dX4_findHolders_8 (by decide) ?_
  refine j_istore_n (lv' := [(2, .int (0 : Int32)), (0, .ref v0), (1, .ref v1)]) E dX4_findHolders_9 rfl (by decide) rfl ?_
  exact j_sub [1, 2, 0] rfl (wX4_findHolders_L10 E _ _ _ h)
def mX4_sumInnerWeights_L25 (fu : Nat) (k10 : Int32 → jM → Option jM) (v0 : Nat) (v1 : Nat) (v2 : Int32) : Nat → Int32 → jM → Option jM
  | 0, _, _ => none
  | n + 1, v3, f =>
    if (120 : Int32) ≤ v3 then (
    k10 (v2 + (1 : Int32)) f) else (
    (rdR 4 f v0 2).bind fun x7 =>
    (ldI 0 f x7 v3).bind fun x8 =>
    if x8 = (1 : Int32) then (
    (rdR 4 f v0 3).bind fun x10 =>
    (ldI 0 f x10 v3).bind fun x11 =>
    (ldR 2 f v1 v2).bind fun x12 =>
    (rdR 2 f x12 6).bind fun x13 =>
    (ldI 0 f x13 v3).bind fun x14 =>
    (stI 0 f x10 v3 (x11 + x14)).bind fun f15 =>
    mX4_sumInnerWeights_L25 fu k10 v0 v1 v2 n (v3 + (1 : Int32)) f15) else (
    mX4_sumInnerWeights_L25 fu k10 v0 v1 v2 n (v3 + (1 : Int32)) f))
set_option maxRecDepth 100000 in
set_option maxHeartbeats 4000000 in
theorem wX4_sumInnerWeights_L25 {c : jS} {sz : Nat} {fu : Nat} {k10 : Int32 → jM → Option jM} {v0 : Nat} {v1 : Nat} {v2 : Int32} {res : jM} (E : jOk c cX4_sumInnerWeights 4 RX4 none 3 68) (hk10 : ∀ (v2 : Int32) (f : jM), k10 v2 f = some res → J c (jZ c none res sz) f sz 0 0 10 [(0, .ref v0), (1, .ref v1), (2, .int v2)] []) : ∀ (n : Nat) (v3 : Int32) (f : jM), mX4_sumInnerWeights_L25 fu k10 v0 v1 v2 n v3 f = some res → J c (jZ c none res sz) f sz 0 0 25 [(0, .ref v0), (1, .ref v1), (2, .int v2), (3, .int v3)] [] := by
  intro n
  induction n with
  | zero => intro v3 f h; exact jn0 h
  | succ n ih =>
    intro v3 f h
    rw [mX4_sumInnerWeights_L25] at h
    refine j_iload_n E 3 dX4_sumInnerWeights_25 rfl rfl ?_
    refine j_bipush (v := (120 : Int32)) E dX4_sumInnerWeights_26 (by decide) ?_
    refine j_icmp_ge (tgt := 64) E dX4_sumInnerWeights_28 (by decide) (fun hc6 => ?_) (fun hc6 => ?_)
    · replace h := jt hc6 h
      refine j_iinc (v := (v2 + (1 : Int32))) (lv' := [(2, .int (v2 + (1 : Int32))), (0, .ref v0), (1, .ref v1), (3, .int v3)]) E 2 dX4_sumInnerWeights_64 rfl rfl (by decide) rfl ?_
      refine j_goto (tgt := 10) E dX4_sumInnerWeights_67 (by decide) ?_
      exact j_sub [1, 2, 0] rfl (hk10 _ _ h)
    replace h := jf hc6 h
    refine j_aload_n E 0 dX4_sumInnerWeights_31 rfl rfl ?_
    obtain ⟨x7, h7, h⟩ := jb h
    refine j_getR E gX4_21 h7 dX4_sumInnerWeights_32 ?_
    refine j_iload_n E 3 dX4_sumInnerWeights_35 rfl rfl ?_
    obtain ⟨x8, h8, h⟩ := jb h
    refine j_iald E h8 dX4_sumInnerWeights_36 ?_
    refine j_iconst (v := (1 : Int32)) E dX4_sumInnerWeights_37 (by decide) ?_
    refine j_icmp_ne (tgt := 58) E dX4_sumInnerWeights_38 (by decide) (fun hc9 => ?_) (fun hc9 => ?_)
    · replace h := jf hc9 h
      refine j_iinc (v := (v3 + (1 : Int32))) (lv' := [(3, .int (v3 + (1 : Int32))), (0, .ref v0), (1, .ref v1), (2, .int v2)]) E 3 dX4_sumInnerWeights_58 rfl rfl (by decide) rfl ?_
      refine j_goto (tgt := 25) E dX4_sumInnerWeights_61 (by decide) ?_
      exact j_sub [1, 2, 3, 0] rfl (ih _ _ h)
    replace h := jt hc9 h
    refine j_aload_n E 0 dX4_sumInnerWeights_41 rfl rfl ?_
    obtain ⟨x10, h10, h⟩ := jb h
    refine j_getR E gX4_25 h10 dX4_sumInnerWeights_42 ?_
    refine j_iload_n E 3 dX4_sumInnerWeights_45 rfl rfl ?_
    refine j_dup2 E dX4_sumInnerWeights_46 rfl rfl ?_
    obtain ⟨x11, h11, h⟩ := jb h
    refine j_iald E h11 dX4_sumInnerWeights_47 ?_
    refine j_aload_n E 1 dX4_sumInnerWeights_48 rfl rfl ?_
    refine j_iload_n E 2 dX4_sumInnerWeights_49 rfl rfl ?_
    obtain ⟨x12, h12, h⟩ := jb h
    refine j_aald E rfl h12 dX4_sumInnerWeights_50 ?_
    obtain ⟨x13, h13, h⟩ := jb h
    refine j_getR E gX4_110 h13 dX4_sumInnerWeights_51 ?_
    refine j_iload_n E 3 dX4_sumInnerWeights_54 rfl rfl ?_
    obtain ⟨x14, h14, h⟩ := jb h
    refine j_iald E h14 dX4_sumInnerWeights_55 ?_
    refine j_iadd E dX4_sumInnerWeights_56 ?_
    obtain ⟨f15, h15, h⟩ := jb h
    refine j_iast E h15 dX4_sumInnerWeights_57 ?_
    refine j_iinc (v := (v3 + (1 : Int32))) (lv' := [(3, .int (v3 + (1 : Int32))), (0, .ref v0), (1, .ref v1), (2, .int v2)]) E 3 dX4_sumInnerWeights_58 rfl rfl (by decide) rfl ?_
    refine j_goto (tgt := 25) E dX4_sumInnerWeights_61 (by decide) ?_
    exact j_sub [1, 2, 3, 0] rfl (ih _ _ h)
def mX4_sumInnerWeights_L10 (fu : Nat)  (v0 : Nat) (v1 : Nat) : Nat → Int32 → jM → Option jM
  | 0, _, _ => none
  | n + 1, v2, f =>
    (alen f v1).bind fun x1 =>
    if x1 ≤ v2 then (
    some f) else (
    (ldR 2 f v1 v2).bind fun x3 =>
    (chk 4 f v0).bind fun _ =>
    (mX4_findHolders fu f v0 x3).bind fun f5 =>
    mX4_sumInnerWeights_L25 fu (mX4_sumInnerWeights_L10 fu v0 v1 n) v0 v1 v2 fu (0 : Int32) f5)
set_option maxRecDepth 100000 in
set_option maxHeartbeats 4000000 in
theorem wX4_sumInnerWeights_L10 {c : jS} {sz : Nat} {fu : Nat}  {v0 : Nat} {v1 : Nat} {res : jM} (E : jOk c cX4_sumInnerWeights 4 RX4 none 3 68)  : ∀ (n : Nat) (v2 : Int32) (f : jM), mX4_sumInnerWeights_L10 fu  v0 v1 n v2 f = some res → J c (jZ c none res sz) f sz 0 0 10 [(0, .ref v0), (1, .ref v1), (2, .int v2)] [] := by
  intro n
  induction n with
  | zero => intro v2 f h; exact jn0 h
  | succ n ih =>
    intro v2 f h
    rw [mX4_sumInnerWeights_L10] at h
    refine j_iload_n E 2 dX4_sumInnerWeights_10 rfl rfl ?_
    refine j_aload_n E 1 dX4_sumInnerWeights_11 rfl rfl ?_
    obtain ⟨x1, h1, h⟩ := jb h
    refine j_alen E h1 dX4_sumInnerWeights_12 ?_
    refine j_icmp_ge (tgt := 70) E dX4_sumInnerWeights_13 (by decide) (fun hc2 => ?_) (fun hc2 => ?_)
    · replace h := jt hc2 h
      cases h
      exact j_vret E dX4_sumInnerWeights_70
    replace h := jf hc2 h
    refine j_aload_n E 0 dX4_sumInnerWeights_16 rfl rfl ?_
    refine j_aload_n E 1 dX4_sumInnerWeights_17 rfl rfl ?_
    refine j_iload_n E 2 dX4_sumInnerWeights_18 rfl rfl ?_
    obtain ⟨x3, h3, h⟩ := jb h
    refine j_aald E rfl h3 dX4_sumInnerWeights_19 ?_
    obtain ⟨u4, h4, h⟩ := jb h
    obtain ⟨fs4, h4⟩ := chk_spec h4
    obtain ⟨f5, h5, h⟩ := jb h
    refine j_callV (As := [.ref x3]) (b := v0) (rest := []) (rc := 0) (rs := 0) E (sX4_findHolders h5) lwX4_findHolders lkX4_107 imX4_findHolders seX4_findHolders rfl h4 (by decide) rfl (Nat.le_of_ble_eq_true rfl) dX4_sumInnerWeights_20 ?_
    refine j_iconst (v := (0 : Int32)) E dX4_sumInnerWeights_23 (by decide) ?_
    refine j_istore_n (lv' := [(3, .int (0 : Int32)), (0, .ref v0), (1, .ref v1), (2, .int v2)]) E dX4_sumInnerWeights_24 rfl (by decide) rfl ?_
    exact j_sub [1, 2, 3, 0] rfl (wX4_sumInnerWeights_L25 E ih _ _ _ h)
def mX4_sumInnerWeights (fu : Nat) (f : jM) (v0 : Nat) (v1 : Nat) : Option jM :=
    (rdR 4 f v0 3).bind fun x16 =>
    (mJ7_fill_53178 fu f x16 (0 : Int32)).bind fun f17 =>
    mX4_sumInnerWeights_L10 fu v0 v1 fu (0 : Int32) f17
set_option maxRecDepth 100000 in
set_option maxHeartbeats 4000000 in
theorem sX4_sumInnerWeights {l : Launch} {D : jD} {sz : Nat} {fu : Nat} {f : jM} {v0 : Nat} {v1 : Nat} {res : jM} (h : mX4_sumInnerWeights fu f v0 v1 = some res) : jCt l D yX4_sumInnerWeights cX4_sumInnerWeights 4 none 3 68 [.ref v0, .ref v1] f sz 0 0 none res sz := by
  refine j_start (by decide +kernel) (Nat.le_of_ble_eq_true rfl) (fun c hcl hcD hcn E => ?_)
  subst hcl
  subst hcD
  replace E : jOk c cX4_sumInnerWeights 4 RX4 none 3 68 := E
  show J c (jZ c none res sz) f sz 0 0 0 [(0, .ref v0), (1, .ref v1)] []
  unfold mX4_sumInnerWeights at h
  refine j_aload_n E 0 dX4_sumInnerWeights_0 rfl rfl ?_
  obtain ⟨x16, h16, h⟩ := jb h
  refine j_getR E gX4_25 h16 dX4_sumInnerWeights_1 ?_
  refine j_iconst (v := (0 : Int32)) E dX4_sumInnerWeights_4 (by decide) ?_
  obtain ⟨f17, h17, h⟩ := jb h
  refine j_callS (As := [.ref x16, .int (0 : Int32)]) (rest := []) (rc := 0) (rs := 0) E (sJ7_fill_53178 h17) lwJ7_fill_53178 lkX4_101 stJ7_fill_53178 (by decide) rfl (Nat.le_of_ble_eq_true rfl) dX4_sumInnerWeights_5 ?_
  refine j_iconst (v := (0 : Int32)) E dX4_sumInnerWeights_8 (by decide) ?_
  refine j_istore_n (lv' := [(2, .int (0 : Int32)), (0, .ref v0), (1, .ref v1)]) E dX4_sumInnerWeights_9 rfl (by decide) rfl ?_
  exact j_sub [1, 2, 0] rfl (wX4_sumInnerWeights_L10 E _ _ _ h)
