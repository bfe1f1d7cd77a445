def mX0_init (f : jM) (v0 : Nat) : Option jM :=
    some f
set_option maxRecDepth 100000 in
set_option maxHeartbeats 4000000 in
theorem sX0_init {l : Launch} {D : jD} {sz : Nat} {f : jM} {v0 : Nat} {res : jM} (h : mX0_init f v0 = some res) : jCt l D yX0_init cX0_init 1 none 1 12 [.ref v0] f sz 0 0 none res sz := by
  refine j_start (by decide +kernel) (Nat.le_of_ble_eq_true rfl) (fun c hcl hcD hcn E => ?_)
  subst hcl
  subst hcD
  replace E : jOk c cX0_init 1 RX0 none 1 12 := E
  replace hcn : (j_h c).name = "<init>" := hcn
  show J c (jZ c none res sz) f sz 0 0 0 [(0, .ref v0)] []
  unfold mX0_init at h
  refine j_aload_n E 0 dX0_init_0 rfl rfl ?_
  refine j_objInit E lkX0_1 oi_in oi_co (by decide) (by decide) dX0_init_1 ?_
  cases h
  exact j_vret E dX0_init_4
def mX1_init (f : jM) (sz : Nat) (v0 : Nat) : Option jRA :=
    ((nwI 1 f sz (120 : Int32)).bind fun f1 =>
    (wrV 1 f1 v0 0 (.ref sz)).bind fun f2 =>
    ((nwI 0 f2 (sz + 1) (120 : Int32)).bind fun f3 =>
    (wrV 1 f3 v0 1 (.ref (sz + 1))).bind fun f4 =>
    some (f4, ((sz + 1) + 1), 0, 0)).map (jcnt 1 (Int32.toNatClampNeg (120 : Int32)))).map (jcnt 1 (Int32.toNatClampNeg (120 : Int32)))
set_option maxRecDepth 100000 in
set_option maxHeartbeats 4000000 in
theorem sX1_init {l : Launch} {D : jD} {sz : Nat} {f : jM} {v0 : Nat} {res : jRA} (h : mX1_init f sz v0 = some res) : jCt l D yX1_init cX1_init 1 none 1 12 [.ref v0] f sz res.2.2.1 res.2.2.2 none res.1 res.2.1 := by
  refine j_start (by decide +kernel) (Nat.le_of_ble_eq_true rfl) (fun c hcl hcD hcn E => ?_)
  subst hcl
  subst hcD
  replace E : jOk c cX1_init 1 RX1 none 1 12 := E
  replace hcn : (j_h c).name = "<init>" := hcn
  show J c (jZ c none res.1 res.2.1) f sz res.2.2.1 res.2.2.2 0 [(0, .ref v0)] []
  unfold mX1_init at h
  refine j_aload_n E 0 dX1_init_0 rfl rfl ?_
  refine j_objInit E lkX1_3 oi_in oi_co (by decide) (by decide) dX1_init_1 ?_
  refine j_aload_n E 0 dX1_init_4 rfl rfl ?_
  refine j_bipush (v := (120 : Int32)) E dX1_init_5 (by decide) ?_
  obtain ⟨r1, q1, e1⟩ := jmp h
  clear h
  subst e1
  have h := q1
  obtain ⟨f1, h1, h⟩ := jb h
  obtain ⟨h1a, h1b, h1⟩ := nwI_spec h1
  subst h1
  refine j_newa (kd := 1) (rc := r1.2.2.1) (rs := r1.2.2.2) E rfl (by decide) rfl (fun _ q => by cases q) h1a rfl (Nat.le_trans (Nat.mul_le_mul_right _ h1b) (by decide)) dX1_init_7 ?_
  obtain ⟨f2, h2, h⟩ := jb h
  refine j_putF E hcn gfX1_9 h2 rfl rfl dX1_init_9 ?_
  refine j_aload_n E 0 dX1_init_12 rfl rfl ?_
  refine j_bipush (v := (120 : Int32)) E dX1_init_13 (by decide) ?_
  obtain ⟨r3, q3, e3⟩ := jmp h
  clear h
  subst e3
  have h := q3
  obtain ⟨f3, h3, h⟩ := jb h
  obtain ⟨h3a, h3b, h3⟩ := nwI_spec h3
  subst h3
  refine j_newa (kd := 0) (rc := r3.2.2.1) (rs := r3.2.2.2) E rfl (by decide) rfl (fun _ q => by cases q) h3a rfl (Nat.le_trans (Nat.mul_le_mul_right _ h3b) (by decide)) dX1_init_15 ?_
  obtain ⟨f4, h4, h⟩ := jb h
  refine j_putF E hcn gfX1_15 h4 rfl rfl dX1_init_17 ?_
  cases h
  exact j_vret E dX1_init_20
def mX1_clear_L2 (fu : Nat)  (v0 : Nat) : Nat → Int32 → jM → Option jM
  | 0, _, _ => none
  | n + 1, v1, f =>
    if (120 : Int32) ≤ v1 then (
    (wrV 1 f v0 2 (.int (0 : Int32))).bind fun f2 =>
    (wrV 1 f2 v0 3 (.int (0 : Int32))).bind fun f3 =>
    some f3) else (
    (rdR 1 f v0 0).bind fun x4 =>
    (stI 1 f x4 v1 (vp_nar .boolean (0 : Int32))).bind fun f5 =>
    mX1_clear_L2 fu v0 n (v1 + (1 : Int32)) f5)
set_option maxRecDepth 100000 in
set_option maxHeartbeats 4000000 in
theorem wX1_clear_L2 {c : jS} {sz : Nat} {fu : Nat}  {v0 : Nat} {res : jM} (E : jOk c cX1_clear 2 RX1 none 0 0)  : ∀ (n : Nat) (v1 : Int32) (f : jM), mX1_clear_L2 fu  v0 n v1 f = some res → J c (jZ c none res sz) f sz 0 0 2 [(0, .ref v0), (1, .int v1)] [] := by
  intro n
  induction n with
  | zero => intro v1 f h; exact jn0 h
  | succ n ih =>
    intro v1 f h
    rw [mX1_clear_L2] at h
    refine j_iload_n E 1 dX1_clear_2 rfl rfl ?_
    refine j_bipush (v := (120 : Int32)) E dX1_clear_3 (by decide) ?_
    refine j_icmp_ge (tgt := 21) E dX1_clear_5 (by decide) (fun hc1 => ?_) (fun hc1 => ?_)
    · replace h := jt hc1 h
      refine j_aload_n E 0 dX1_clear_21 rfl rfl ?_
      refine j_iconst (v := (0 : Int32)) E dX1_clear_22 (by decide) ?_
      obtain ⟨f2, h2, h⟩ := jb h
      refine j_putV E gpX1_19 h2 rfl rfl dX1_clear_23 ?_
      refine j_aload_n E 0 dX1_clear_26 rfl rfl ?_
      refine j_iconst (v := (0 : Int32)) E dX1_clear_27 (by decide) ?_
      obtain ⟨f3, h3, h⟩ := jb h
      refine j_putV E gpX1_23 h3 rfl rfl dX1_clear_28 ?_
      cases h
      exact j_vret E dX1_clear_31
    replace h := jf hc1 h
    refine j_aload_n E 0 dX1_clear_8 rfl rfl ?_
    obtain ⟨x4, h4, h⟩ := jb h
    refine j_getR E gX1_9 h4 dX1_clear_9 ?_
    refine j_iload_n E 1 dX1_clear_12 rfl rfl ?_
    refine j_iconst (v := (0 : Int32)) E dX1_clear_13 (by decide) ?_
    obtain ⟨f5, h5, h⟩ := jb h
    refine j_zast E h5 dX1_clear_14 ?_
    refine j_iinc (v := (v1 + (1 : Int32))) (lv' := [(1, .int (v1 + (1 : Int32))), (0, .ref v0)]) E 1 dX1_clear_15 rfl rfl (by decide) rfl ?_
    refine j_goto (tgt := 2) E dX1_clear_18 (by decide) ?_
    exact j_sub [1, 0] rfl (ih _ _ h)
def mX1_clear (fu : Nat) (f : jM) (v0 : Nat) : Option jM :=
    mX1_clear_L2 fu v0 fu (0 : Int32) f
set_option maxRecDepth 100000 in
set_option maxHeartbeats 4000000 in
theorem sX1_clear {l : Launch} {D : jD} {sz : Nat} {fu : Nat} {f : jM} {v0 : Nat} {res : jM} (h : mX1_clear fu f v0 = some res) : jCt l D yX1_clear cX1_clear 2 none 0 0 [.ref v0] f sz 0 0 none res sz := by
  refine j_start (by decide +kernel) (Nat.le_of_ble_eq_true rfl) (fun c hcl hcD hcn E => ?_)
  subst hcl
  subst hcD
  replace E : jOk c cX1_clear 2 RX1 none 0 0 := E
  show J c (jZ c none res sz) f sz 0 0 0 [(0, .ref v0)] []
  unfold mX1_clear at h
  refine j_iconst (v := (0 : Int32)) E dX1_clear_0 (by decide) ?_
  refine j_istore_n (lv' := [(1, .int (0 : Int32)), (0, .ref v0)]) E dX1_clear_1 rfl (by decide) rfl ?_
  exact j_sub [1, 0] rfl (wX1_clear_L2 E _ _ _ h)
def mX1_has (f : jM) (v0 : Nat) (v1 : Int32) : Option (Int32 × jM) :=
    if v1 < 0 then (
    some ((0 : Int32), f)) else (
    if (120 : Int32) ≤ v1 then (
    some ((0 : Int32), f)) else (
    (rdR 1 f v0 0).bind fun x3 =>
    (ldI 1 f x3 v1).bind fun x4 =>
    if x4 = 0 then (
    some ((0 : Int32), f)) else (
    some ((1 : Int32), f))))
set_option maxRecDepth 100000 in
set_option maxHeartbeats 4000000 in
theorem sX1_has {l : Launch} {D : jD} {sz : Nat} {f : jM} {v0 : Nat} {v1 : Int32} {res : (Int32 × jM)} (h : mX1_has f v0 v1 = some res) : jCt l D yX1_has cX1_has 2 (some .boolean) 0 0 [.ref v0, .int v1] f sz 0 0 (some (.int res.1)) res.2 sz := by
  refine j_start (by decide +kernel) (Nat.le_of_ble_eq_true rfl) (fun c hcl hcD hcn E => ?_)
  subst hcl
  subst hcD
  replace E : jOk c cX1_has 2 RX1 (some .boolean) 0 0 := E
  show J c (jZ c (some (.int res.1)) res.2 sz) f sz 0 0 0 [(0, .ref v0), (1, .int v1)] []
  unfold mX1_has at h
  refine j_iload_n E 1 dX1_has_0 rfl rfl ?_
  refine j_if_lt (tgt := 23) E dX1_has_1 (by decide) (fun hc1 => ?_) (fun hc1 => ?_)
  · replace h := jt hc1 h
    refine j_iconst (v := (0 : Int32)) E dX1_has_23 (by decide) ?_
    cases h
    exact j_zret (v := (0 : Int32)) E (by decide +kernel) dX1_has_24
  replace h := jf hc1 h
  refine j_iload_n E 1 dX1_has_4 rfl rfl ?_
  refine j_bipush (v := (120 : Int32)) E dX1_has_5 (by decide) ?_
  refine j_icmp_ge (tgt := 23) E dX1_has_7 (by decide) (fun hc2 => ?_) (fun hc2 => ?_)
  · replace h := jt hc2 h
    refine j_iconst (v := (0 : Int32)) E dX1_has_23 (by decide) ?_
    cases h
    exact j_zret (v := (0 : Int32)) E (by decide +kernel) dX1_has_24
  replace h := jf hc2 h
  refine j_aload_n E 0 dX1_has_10 rfl rfl ?_
  obtain ⟨x3, h3, h⟩ := jb h
  refine j_getR E gX1_9 h3 dX1_has_11 ?_
  refine j_iload_n E 1 dX1_has_14 rfl rfl ?_
  obtain ⟨x4, h4, h⟩ := jb h
  refine j_zald E h4 dX1_has_15 ?_
  refine j_if_eq (tgt := 23) E dX1_has_16 (by decide) (fun hc5 => ?_) (fun hc5 => ?_)
  · replace h := jt hc5 h
    refine j_iconst (v := (0 : Int32)) E dX1_has_23 (by decide) ?_
    cases h
    exact j_zret (v := (0 : Int32)) E (by decide +kernel) dX1_has_24
  replace h := jf hc5 h
  refine j_iconst (v := (1 : Int32)) E dX1_has_19 (by decide) ?_
  refine j_goto (tgt := 24) E dX1_has_20 (by decide) ?_
  cases h
  exact j_zret (v := (1 : Int32)) E (by decide +kernel) dX1_has_24
def mX1_add (f : jM) (v0 : Nat) (v1 : Int32) : Option jM :=
    if v1 < 0 then (
    some f) else (
    if (120 : Int32) ≤ v1 then (
    some f) else (
    (rdR 1 f v0 0).bind fun x3 =>
    (ldI 1 f x3 v1).bind fun x4 =>
    if x4 = 0 then (
    (rdI 1 f v0 2).bind fun x6 =>
    if (120 : Int32) ≤ x6 then (
    some f) else (
    (rdR 1 f v0 0).bind fun x8 =>
    (stI 1 f x8 v1 (vp_nar .boolean (1 : Int32))).bind fun f9 =>
    (rdR 1 f9 v0 1).bind fun x10 =>
    (rdI 1 f9 v0 2).bind fun x11 =>
    (stI 0 f9 x10 x11 v1).bind fun f12 =>
    (rdI 1 f12 v0 2).bind fun x13 =>
    (wrV 1 f12 v0 2 (.int (x13 + (1 : Int32)))).bind fun f14 =>
    some f14)) else (
    some f)))
set_option maxRecDepth 100000 in
set_option maxHeartbeats 4000000 in
theorem sX1_add {l : Launch} {D : jD} {sz : Nat} {f : jM} {v0 : Nat} {v1 : Int32} {res : jM} (h : mX1_add f v0 v1 = some res) : jCt l D yX1_add cX1_add 2 none 0 0 [.ref v0, .int v1] f sz 0 0 none res sz := by
  refine j_start (by decide +kernel) (Nat.le_of_ble_eq_true rfl) (fun c hcl hcD hcn E => ?_)
  subst hcl
  subst hcD
  replace E : jOk c cX1_add 2 RX1 none 0 0 := E
  show J c (jZ c none res sz) f sz 0 0 0 [(0, .ref v0), (1, .int v1)] []
  unfold mX1_add at h
  refine j_iload_n E 1 dX1_add_0 rfl rfl ?_
  refine j_if_lt (tgt := 55) E dX1_add_1 (by decide) (fun hc1 => ?_) (fun hc1 => ?_)
  · replace h := jt hc1 h
    cases h
    exact j_vret E dX1_add_55
  replace h := jf hc1 h
  refine j_iload_n E 1 dX1_add_4 rfl rfl ?_
  refine j_bipush (v := (120 : Int32)) E dX1_add_5 (by decide) ?_
  refine j_icmp_ge (tgt := 55) E dX1_add_7 (by decide) (fun hc2 => ?_) (fun hc2 => ?_)
  · replace h := jt hc2 h
    cases h
    exact j_vret E dX1_add_55
  replace h := jf hc2 h
  refine j_aload_n E 0 dX1_add_10 rfl rfl ?_
  obtain ⟨x3, h3, h⟩ := jb h
  refine j_getR E gX1_9 h3 dX1_add_11 ?_
  refine j_iload_n E 1 dX1_add_14 rfl rfl ?_
  obtain ⟨x4, h4, h⟩ := jb h
  refine j_zald E h4 dX1_add_15 ?_
  refine j_if_ne (tgt := 55) E dX1_add_16 (by decide) (fun hc5 => ?_) (fun hc5 => ?_)
  · replace h := jf hc5 h
    cases h
    exact j_vret E dX1_add_55
  replace h := jt hc5 h
  refine j_aload_n E 0 dX1_add_19 rfl rfl ?_
  obtain ⟨x6, h6, h⟩ := jb h
  refine j_getI E gX1_19 h6 dX1_add_20 ?_
  refine j_bipush (v := (120 : Int32)) E dX1_add_23 (by decide) ?_
  refine j_icmp_ge (tgt := 55) E dX1_add_25 (by decide) (fun hc7 => ?_) (fun hc7 => ?_)
  · replace h := jt hc7 h
    cases h
    exact j_vret E dX1_add_55
  replace h := jf hc7 h
  refine j_aload_n E 0 dX1_add_28 rfl rfl ?_
  obtain ⟨x8, h8, h⟩ := jb h
  refine j_getR E gX1_9 h8 dX1_add_29 ?_
  refine j_iload_n E 1 dX1_add_32 rfl rfl ?_
  refine j_iconst (v := (1 : Int32)) E dX1_add_33 (by decide) ?_
  obtain ⟨f9, h9, h⟩ := jb h
  refine j_zast E h9 dX1_add_34 ?_
  refine j_aload_n E 0 dX1_add_35 rfl rfl ?_
  obtain ⟨x10, h10, h⟩ := jb h
  refine j_getR E gX1_15 h10 dX1_add_36 ?_
  refine j_aload_n E 0 dX1_add_39 rfl rfl ?_
  obtain ⟨x11, h11, h⟩ := jb h
  refine j_getI E gX1_19 h11 dX1_add_40 ?_
  refine j_iload_n E 1 dX1_add_43 rfl rfl ?_
  obtain ⟨f12, h12, h⟩ := jb h
  refine j_iast E h12 dX1_add_44 ?_
  refine j_aload_n E 0 dX1_add_45 rfl rfl ?_
  refine j_dup E dX1_add_46 rfl ?_
  obtain ⟨x13, h13, h⟩ := jb h
  refine j_getI E gX1_19 h13 dX1_add_47 ?_
  refine j_iconst (v := (1 : Int32)) E dX1_add_50 (by decide) ?_
  refine j_iadd E dX1_add_51 ?_
  obtain ⟨f14, h14, h⟩ := jb h
  refine j_putV E gpX1_19 h14 rfl rfl dX1_add_52 ?_
  cases h
  exact j_vret E dX1_add_55
def mX5_nodeOf (f : jM) (v0 : Int32) : Option (Int32 × jM) :=
    some ((v0 / (24 : Int32)), f)
set_option maxRecDepth 100000 in
set_option maxHeartbeats 4000000 in
theorem sX5_nodeOf {l : Launch} {D : jD} {sz : Nat} {f : jM} {v0 : Int32} {res : (Int32 × jM)} (h : mX5_nodeOf f v0 = some res) : jCt l D yX5_nodeOf cX5_nodeOf 1 (some .int) 0 0 [.int v0] f sz 0 0 (some (.int res.1)) res.2 sz := by
  refine j_start (by decide +kernel) (Nat.le_of_ble_eq_true rfl) (fun c hcl hcD hcn E => ?_)
  subst hcl
  subst hcD
  replace E : jOk c cX5_nodeOf 1 RX5 (some .int) 0 0 := E
  show J c (jZ c (some (.int res.1)) res.2 sz) f sz 0 0 0 [(0, .int v0)] []
  unfold mX5_nodeOf at h
  refine j_iload_n E 0 dX5_nodeOf_0 rfl rfl ?_
  refine j_bipush (v := (24 : Int32)) E dX5_nodeOf_1 (by decide) ?_
  refine j_idiv E dX5_nodeOf_3 (by decide) ?_
  cases h
  exact j_iret E dX5_nodeOf_4
def mX5_numberOf (f : jM) (v0 : Int32) : Option (Int32 × jM) :=
    some ((v0 - v0 / (24 : Int32) * (24 : Int32)), f)
set_option maxRecDepth 100000 in
set_option maxHeartbeats 4000000 in
theorem sX5_numberOf {l : Launch} {D : jD} {sz : Nat} {f : jM} {v0 : Int32} {res : (Int32 × jM)} (h : mX5_numberOf f v0 = some res) : jCt l D yX5_numberOf cX5_numberOf 1 (some .int) 0 0 [.int v0] f sz 0 0 (some (.int res.1)) res.2 sz := by
  refine j_start (by decide +kernel) (Nat.le_of_ble_eq_true rfl) (fun c hcl hcD hcn E => ?_)
  subst hcl
  subst hcD
  replace E : jOk c cX5_numberOf 1 RX5 (some .int) 0 0 := E
  show J c (jZ c (some (.int res.1)) res.2 sz) f sz 0 0 0 [(0, .int v0)] []
  unfold mX5_numberOf at h
  refine j_iload_n E 0 dX5_numberOf_0 rfl rfl ?_
  refine j_bipush (v := (24 : Int32)) E dX5_numberOf_1 (by decide) ?_
  refine j_irem E dX5_numberOf_3 (by decide) ?_
  cases h
  exact j_iret E dX5_numberOf_4
def mX5_fieldSlot (f : jM) (v0 : Int32) (v1 : Int32) : Option (Int32 × jM) :=
    some ((((6 : Int32) + (v0 * (12 : Int32))) + v1), f)
set_option maxRecDepth 100000 in
set_option maxHeartbeats 4000000 in
theorem sX5_fieldSlot {l : Launch} {D : jD} {sz : Nat} {f : jM} {v0 : Int32} {v1 : Int32} {res : (Int32 × jM)} (h : mX5_fieldSlot f v0 v1 = some res) : jCt l D yX5_fieldSlot cX5_fieldSlot 2 (some .int) 0 0 [.int v0, .int v1] f sz 0 0 (some (.int res.1)) res.2 sz := by
  refine j_start (by decide +kernel) (Nat.le_of_ble_eq_true rfl) (fun c hcl hcD hcn E => ?_)
  subst hcl
  subst hcD
  replace E : jOk c cX5_fieldSlot 2 RX5 (some .int) 0 0 := E
  show J c (jZ c (some (.int res.1)) res.2 sz) f sz 0 0 0 [(0, .int v0), (1, .int v1)] []
  unfold mX5_fieldSlot at h
  refine j_bipush (v := (6 : Int32)) E dX5_fieldSlot_0 (by decide) ?_
  refine j_iload_n E 0 dX5_fieldSlot_2 rfl rfl ?_
  refine j_bipush (v := (12 : Int32)) E dX5_fieldSlot_3 (by decide) ?_
  refine j_imul E dX5_fieldSlot_5 ?_
  refine j_iadd E dX5_fieldSlot_6 ?_
  refine j_iload_n E 1 dX5_fieldSlot_7 rfl rfl ?_
  refine j_iadd E dX5_fieldSlot_8 ?_
  cases h
  exact j_iret E dX5_fieldSlot_9
def mX2_holdsObject (f : jM) (v0 : Nat) (v1 : Int32) : Option (Int32 × jM) :=
    (rdR 2 f v0 1).bind fun x1 =>
    (ldI 0 f x1 v1).bind fun x2 =>
    if x2 = (2 : Int32) then (
    some ((1 : Int32), f)) else (
    (rdR 2 f v0 1).bind fun x4 =>
    (ldI 0 f x4 v1).bind fun x5 =>
    if x5 = (3 : Int32) then (
    some ((1 : Int32), f)) else (
    some ((0 : Int32), f)))
set_option maxRecDepth 100000 in
set_option maxHeartbeats 4000000 in
theorem sX2_holdsObject {l : Launch} {D : jD} {sz : Nat} {f : jM} {v0 : Nat} {v1 : Int32} {res : (Int32 × jM)} (h : mX2_holdsObject f v0 v1 = some res) : jCt l D yX2_holdsObject cX2_holdsObject 2 (some .boolean) 0 0 [.ref v0, .int v1] f sz 0 0 (some (.int res.1)) res.2 sz := by
  refine j_start (by decide +kernel) (Nat.le_of_ble_eq_true rfl) (fun c hcl hcD hcn E => ?_)
  subst hcl
  subst hcD
  replace E : jOk c cX2_holdsObject 2 RX2 (some .boolean) 0 0 := E
  show J c (jZ c (some (.int res.1)) res.2 sz) f sz 0 0 0 [(0, .ref v0), (1, .int v1)] []
  unfold mX2_holdsObject at h
  refine j_aload_n E 0 dX2_holdsObject_0 rfl rfl ?_
  obtain ⟨x1, h1, h⟩ := jb h
  refine j_getR E gX2_9 h1 dX2_holdsObject_1 ?_
  refine j_iload_n E 1 dX2_holdsObject_4 rfl rfl ?_
  obtain ⟨x2, h2, h⟩ := jb h
  refine j_iald E h2 dX2_holdsObject_5 ?_
  refine j_iconst (v := (2 : Int32)) E dX2_holdsObject_6 (by decide) ?_
  refine j_icmp_eq (tgt := 20) E dX2_holdsObject_7 (by decide) (fun hc3 => ?_) (fun hc3 => ?_)
  · replace h := jt hc3 h
    refine j_iconst (v := (1 : Int32)) E dX2_holdsObject_20 (by decide) ?_
    refine j_goto (tgt := 25) E dX2_holdsObject_21 (by decide) ?_
    cases h
    exact j_zret (v := (1 : Int32)) E (by decide +kernel) dX2_holdsObject_25
  replace h := jf hc3 h
  refine j_aload_n E 0 dX2_holdsObject_10 rfl rfl ?_
  obtain ⟨x4, h4, h⟩ := jb h
  refine j_getR E gX2_9 h4 dX2_holdsObject_11 ?_
  refine j_iload_n E 1 dX2_holdsObject_14 rfl rfl ?_
  obtain ⟨x5, h5, h⟩ := jb h
  refine j_iald E h5 dX2_holdsObject_15 ?_
  refine j_iconst (v := (3 : Int32)) E dX2_holdsObject_16 (by decide) ?_
  refine j_icmp_ne (tgt := 24) E dX2_holdsObject_17 (by decide) (fun hc6 => ?_) (fun hc6 => ?_)
  · replace h := jf hc6 h
    refine j_iconst (v := (0 : Int32)) E dX2_holdsObject_24 (by decide) ?_
    cases h
    exact j_zret (v := (0 : Int32)) E (by decide +kernel) dX2_holdsObject_25
  replace h := jt hc6 h
  refine j_iconst (v := (1 : Int32)) E dX2_holdsObject_20 (by decide) ?_
  refine j_goto (tgt := 25) E dX2_holdsObject_21 (by decide) ?_
  cases h
  exact j_zret (v := (1 : Int32)) E (by decide +kernel) dX2_holdsObject_25
def mX2_markFields_L2 (fu : Nat)  (v0 : Nat) (v1 : Int32) (v2 : Nat) : Nat → Int32 → jM → Option jM
  | 0, _, _ => none
  | n + 1, v3, f =>
    (rdR 2 f v0 3).bind fun x1 =>
    (ldI 0 f x1 v1).bind fun x2 =>
    if x2 ≤ v3 then (
    some f) else (
    (mX5_fieldSlot f v1 v3).bind fun r4 =>
    (chk 2 r4.2 v0).bind fun _ =>
    (mX2_holdsObject r4.2 v0 r4.1).bind fun r6 =>
    if r6.1 = 0 then (
    mX2_markFields_L2 fu v0 v1 v2 n (v3 + (1 : Int32)) r6.2) else (
    (rdR 2 r6.2 v0 2).bind fun x8 =>
    (ldI 0 r6.2 x8 r4.1).bind fun x9 =>
    (chk 1 r6.2 v2).bind fun _ =>
    (mX1_add r6.2 v2 x9).bind fun f11 =>
    mX2_markFields_L2 fu v0 v1 v2 n (v3 + (1 : Int32)) f11))
set_option maxRecDepth 100000 in
set_option maxHeartbeats 4000000 in
theorem wX2_markFields_L2 {c : jS} {sz : Nat} {fu : Nat}  {v0 : Nat} {v1 : Int32} {v2 : Nat} {res : jM} (E : jOk c cX2_markFields 5 RX2 none 1 21)  : ∀ (n : Nat) (v3 : Int32) (f : jM), mX2_markFields_L2 fu  v0 v1 v2 n v3 f = some res → J c (jZ c none res sz) f sz 0 0 2 [(0, .ref v0), (1, .int v1), (2, .ref v2), (3, .int v3)] [] := by
  intro n
  induction n with
  | zero => intro v3 f h; exact jn0 h
  | succ n ih =>
    intro v3 f h
    rw [mX2_markFields_L2] at h
    refine j_iload_n E 3 dX2_markFields_2 rfl rfl ?_
    refine j_aload_n E 0 dX2_markFields_3 rfl rfl ?_
    obtain ⟨x1, h1, h⟩ := jb h
    refine j_getR E gX2_18 h1 dX2_markFields_4 ?_
    refine j_iload_n E 1 dX2_markFields_7 rfl rfl ?_
    obtain ⟨x2, h2, h⟩ := jb h
    refine j_iald E h2 dX2_markFields_8 ?_
    refine j_icmp_ge (tgt := 45) E dX2_markFields_9 (by decide) (fun hc3 => ?_) (fun hc3 => ?_)
    · replace h := jt hc3 h
      cases h
      exact j_vret E dX2_markFields_45
    replace h := jf hc3 h
    refine j_iload_n E 1 dX2_markFields_12 rfl rfl ?_
    refine j_iload_n E 3 dX2_markFields_13 rfl rfl ?_
    obtain ⟨r4, h4, h⟩ := jb h
    refine j_callS (As := [.int v1, .int v3]) (rest := []) (rc := 0) (rs := 0) E (sX5_fieldSlot h4) lwX5_fieldSlot lkX2_63 stX5_fieldSlot (by decide) rfl (Nat.le_of_ble_eq_true rfl) dX2_markFields_14 ?_
    refine j_istore (lv' := [(4, .int r4.1), (0, .ref v0), (1, .int v1), (2, .ref v2), (3, .int v3)]) E dX2_markFields_17 (by decide) rfl ?_
    refine j_aload_n E 1 dX2_markFields_19 rfl rfl ?_
    refine j_iload E 0 dX2_markFields_20 rfl ?_
    obtain ⟨u5, h5, h⟩ := jb h
    obtain ⟨fs5, h5⟩ := chk_spec h5
    obtain ⟨r6, h6, h⟩ := jb h
    refine j_callV (As := [.int r4.1]) (b := v0) (rest := []) (rc := 0) (rs := 0) E (sX2_holdsObject h6) lwX2_holdsObject lkX2_56 imX2_holdsObject seX2_holdsObject rfl h5 (by decide) rfl (Nat.le_of_ble_eq_true rfl) dX2_markFields_22 ?_
    refine j_if_eq (tgt := 39) E dX2_markFields_25 (by decide) (fun hc7 => ?_) (fun hc7 => ?_)
    · replace h := jt hc7 h
      refine j_iinc (v := (v3 + (1 : Int32))) (lv' := [(3, .int (v3 + (1 : Int32))), (4, .int r4.1), (0, .ref v0), (1, .int v1), (2, .ref v2)]) E 4 dX2_markFields_39 rfl rfl (by decide) rfl ?_
      refine j_goto (tgt := 2) E dX2_markFields_42 (by decide) ?_
      exact j_sub [2, 3, 4, 0] rfl (ih _ _ h)
    replace h := jf hc7 h
    refine j_aload_n E 3 dX2_markFields_28 rfl rfl ?_
    refine j_aload_n E 1 dX2_markFields_29 rfl rfl ?_
    obtain ⟨x8, h8, h⟩ := jb h
    refine j_getR E gX2_15 h8 dX2_markFields_30 ?_
    refine j_iload E 0 dX2_markFields_33 rfl ?_
    obtain ⟨x9, h9, h⟩ := jb h
    refine j_iald E h9 dX2_markFields_35 ?_
    obtain ⟨u10, h10, h⟩ := jb h
    obtain ⟨fs10, h10⟩ := chk_spec h10
    obtain ⟨f11, h11, h⟩ := jb h
    refine j_callV (As := [.int x9]) (b := v2) (rest := []) (rc := 0) (rs := 0) E (sX1_add h11) lwX1_add lkX2_99 imX1_add seX1_add rfl h10 (by decide) rfl (Nat.le_of_ble_eq_true rfl) dX2_markFields_36 ?_
    refine j_iinc (v := (v3 + (1 : Int32))) (lv' := [(3, .int (v3 + (1 : Int32))), (4, .int r4.1), (0, .ref v0), (1, .int v1), (2, .ref v2)]) E 4 dX2_markFields_39 rfl rfl (by decide) rfl ?_
    refine j_goto (tgt := 2) E dX2_markFields_42 (by decide) ?_
    exact j_sub [2, 3, 4, 0] rfl (ih _ _ h)
def mX2_markFields (fu : Nat) (f : jM) (v0 : Nat) (v1 : Int32) (v2 : Nat) : Option jM :=
    mX2_markFields_L2 fu v0 v1 v2 fu (0 : Int32) f
set_option maxRecDepth 100000 in
set_option maxHeartbeats 4000000 in
theorem sX2_markFields {l : Launch} {D : jD} {sz : Nat} {fu : Nat} {f : jM} {v0 : Nat} {v1 : Int32} {v2 : Nat} {res : jM} (h : mX2_markFields fu f v0 v1 v2 = some res) : jCt l D yX2_markFields cX2_markFields 5 none 1 21 [.ref v0, .int v1, .ref v2] f sz 0 0 none res sz := by
  refine j_start (by decide +kernel) (Nat.le_of_ble_eq_true rfl) (fun c hcl hcD hcn E => ?_)
  subst hcl
  subst hcD
  replace E : jOk c cX2_markFields 5 RX2 none 1 21 := E
  show J c (jZ c none res sz) f sz 0 0 0 [(0, .ref v0), (1, .int v1), (2, .ref v2)] []
  unfold mX2_markFields at h
  refine j_iconst (v := (0 : Int32)) E dX2_markFields_0 (by decide) ?_
  refine j_istore_n (lv' := [(3, .int (0 : Int32)), (0, .ref v0), (1, .int v1), (2, .ref v2)]) E dX2_markFields_1 rfl (by decide) rfl ?_
  exact j_sub [1, 2, 3, 0] rfl (wX2_markFields_L2 E _ _ _ h)
def mX1_spread_B61 (fu : Nat)  (v0 : Nat)  (f : jM) : Option jM :=
    (rdI 1 f v0 2).bind fun x16 =>
    (wrV 1 f v0 3 (.int x16)).bind fun f17 =>
    some f17
set_option maxRecDepth 100000 in
set_option maxHeartbeats 4000000 in
theorem wX1_spread_B61 {c : jS} {sz : Nat} {fu : Nat}  {v0 : Nat}  {f : jM} {res : jM} (E : jOk c cX1_spread 4 RX1 none 2 45)  (h : mX1_spread_B61 fu  v0  f = some res) : J c (jZ c none res sz) f sz 0 0 61 [(0, .ref v0)] [] := by
  unfold mX1_spread_B61 at h
  refine j_aload_n E 0 dX1_spread_61 rfl rfl ?_
  refine j_aload_n E 0 dX1_spread_62 rfl rfl ?_
  obtain ⟨x16, h16, h⟩ := jb h
  refine j_getI E gX1_19 h16 dX1_spread_63 ?_
  obtain ⟨f17, h17, h⟩ := jb h
  refine j_putV E gpX1_23 h17 rfl rfl dX1_spread_66 ?_
  cases h
  exact j_vret E dX1_spread_69
def mX1_spread_L5 (fu : Nat)  (v0 : Nat) (v1 : Nat) : Nat → Int32 → jM → Option jM
  | 0, _, _ => none
  | n + 1, v2, f =>
    (rdI 1 f v0 2).bind fun x1 =>
    if x1 ≤ v2 then (
    mX1_spread_B61 fu v0 f) else (
    if (120 : Int32) ≤ v2 then (
    mX1_spread_B61 fu v0 f) else (
    (rdR 1 f v0 1).bind fun x4 =>
    (ldI 0 f x4 v2).bind fun x5 =>
    (mX5_nodeOf f x5).bind fun r6 =>
    if r6.1 < 0 then (
    mX1_spread_L5 fu v0 v1 n (v2 + (1 : Int32)) r6.2) else (
    (alen r6.2 v1).bind fun x8 =>
    if x8 ≤ r6.1 then (
    mX1_spread_L5 fu v0 v1 n (v2 + (1 : Int32)) r6.2) else (
    (ldR 2 r6.2 v1 r6.1).bind fun x10 =>
    (rdR 1 r6.2 v0 1).bind fun x11 =>
    (ldI 0 r6.2 x11 v2).bind fun x12 =>
    (mX5_numberOf r6.2 x12).bind fun r13 =>
    (chk 2 r13.2 x10).bind fun _ =>
    (mX2_markFields fu r13.2 x10 r13.1 v0).bind fun f15 =>
    mX1_spread_L5 fu v0 v1 n (v2 + (1 : Int32)) f15))))
set_option maxRecDepth 100000 in
set_option maxHeartbeats 4000000 in
theorem wX1_spread_L5 {c : jS} {sz : Nat} {fu : Nat}  {v0 : Nat} {v1 : Nat} {res : jM} (E : jOk c cX1_spread 4 RX1 none 2 45)  : ∀ (n : Nat) (v2 : Int32) (f : jM), mX1_spread_L5 fu  v0 v1 n v2 f = some res → J c (jZ c none res sz) f sz 0 0 5 [(0, .ref v0), (1, .ref v1), (2, .int v2)] [] := by
  intro n
  induction n with
  | zero => intro v2 f h; exact jn0 h
  | succ n ih =>
    intro v2 f h
    rw [mX1_spread_L5] at h
    refine j_iload_n E 2 dX1_spread_5 rfl rfl ?_
    refine j_aload_n E 0 dX1_spread_6 rfl rfl ?_
    obtain ⟨x1, h1, h⟩ := jb h
    refine j_getI E gX1_19 h1 dX1_spread_7 ?_
    refine j_icmp_ge (tgt := 61) E dX1_spread_10 (by decide) (fun hc2 => ?_) (fun hc2 => ?_)
    · replace h := jt hc2 h
      exact j_sub [0] rfl (wX1_spread_B61 E  h)
    replace h := jf hc2 h
    refine j_iload_n E 2 dX1_spread_13 rfl rfl ?_
    refine j_bipush (v := (120 : Int32)) E dX1_spread_14 (by decide) ?_
    refine j_icmp_ge (tgt := 61) E dX1_spread_16 (by decide) (fun hc3 => ?_) (fun hc3 => ?_)
    · replace h := jt hc3 h
      exact j_sub [0] rfl (wX1_spread_B61 E  h)
    replace h := jf hc3 h
    refine j_aload_n E 0 dX1_spread_19 rfl rfl ?_
    obtain ⟨x4, h4, h⟩ := jb h
    refine j_getR E gX1_15 h4 dX1_spread_20 ?_
    refine j_iload_n E 2 dX1_spread_23 rfl rfl ?_
    obtain ⟨x5, h5, h⟩ := jb h
    refine j_iald E h5 dX1_spread_24 ?_
    obtain ⟨r6, h6, h⟩ := jb h
    refine j_callS (As := [.int x5]) (rest := []) (rc := 0) (rs := 0) E (sX5_nodeOf h6) lwX5_nodeOf lkX1_26 stX5_nodeOf (by decide) rfl (Nat.le_of_ble_eq_true rfl) dX1_spread_25 ?_
    refine j_istore_n (lv' := [(3, .int r6.1), (0, .ref v0), (1, .ref v1), (2, .int v2)]) E dX1_spread_28 rfl (by decide) rfl ?_
    refine j_iload_n E 0 dX1_spread_29 rfl rfl ?_
    refine j_if_lt (tgt := 55) E dX1_spread_30 (by decide) (fun hc7 => ?_) (fun hc7 => ?_)
    · replace h := jt hc7 h
      refine j_iinc (v := (v2 + (1 : Int32))) (lv' := [(2, .int (v2 + (1 : Int32))), (3, .int r6.1), (0, .ref v0), (1, .ref v1)]) E 3 dX1_spread_55 rfl rfl (by decide) rfl ?_
      refine j_goto (tgt := 5) E dX1_spread_58 (by decide) ?_
      exact j_sub [2, 3, 0] rfl (ih _ _ h)
    replace h := jf hc7 h
    refine j_iload_n E 0 dX1_spread_33 rfl rfl ?_
    refine j_aload_n E 2 dX1_spread_34 rfl rfl ?_
    obtain ⟨x8, h8, h⟩ := jb h
    refine j_alen E h8 dX1_spread_35 ?_
    refine j_icmp_ge (tgt := 55) E dX1_spread_36 (by decide) (fun hc9 => ?_) (fun hc9 => ?_)
    · replace h := jt hc9 h
      refine j_iinc (v := (v2 + (1 : Int32))) (lv' := [(2, .int (v2 + (1 : Int32))), (3, .int r6.1), (0, .ref v0), (1, .ref v1)]) E 3 dX1_spread_55 rfl rfl (by decide) rfl ?_
      refine j_goto (tgt := 5) E dX1_spread_58 (by decide) ?_
      exact j_sub [2, 3, 0] rfl (ih _ _ h)
    replace h := jf hc9 h
    refine j_aload_n E 2 dX1_spread_39 rfl rfl ?_
    refine j_iload_n E 0 dX1_spread_40 rfl rfl ?_
    obtain ⟨x10, h10, h⟩ := jb h
    refine j_aald E rfl h10 dX1_spread_41 ?_
    refine j_aload_n E 1 dX1_spread_42 rfl rfl ?_
    obtain ⟨x11, h11, h⟩ := jb h
    refine j_getR E gX1_15 h11 dX1_spread_43 ?_
    refine j_iload_n E 3 dX1_spread_46 rfl rfl ?_
    obtain ⟨x12, h12, h⟩ := jb h
    refine j_iald E h12 dX1_spread_47 ?_
    obtain ⟨r13, h13, h⟩ := jb h
    refine j_callS (As := [.int x12]) (rest := [.ref x10]) (rc := 0) (rs := 0) E (sX5_numberOf h13) lwX5_numberOf lkX1_30 stX5_numberOf (by decide) rfl (Nat.le_of_ble_eq_true rfl) dX1_spread_48 ?_
    refine j_aload_n E 1 dX1_spread_51 rfl rfl ?_
    obtain ⟨u14, h14, h⟩ := jb h
    obtain ⟨fs14, h14⟩ := chk_spec h14
    obtain ⟨f15, h15, h⟩ := jb h
    refine j_callV (As := [.int r13.1, .ref v0]) (b := x10) (rest := []) (rc := 0) (rs := 0) E (sX2_markFields h15) lwX2_markFields lkX1_33 imX2_markFields seX2_markFields rfl h14 (by decide) rfl (Nat.le_of_ble_eq_true rfl) dX1_spread_52 ?_
    refine j_iinc (v := (v2 + (1 : Int32))) (lv' := [(2, .int (v2 + (1 : Int32))), (3, .int r6.1), (0, .ref v0), (1, .ref v1)]) E 3 dX1_spread_55 rfl rfl (by decide) rfl ?_
    refine j_goto (tgt := 5) E dX1_spread_58 (by decide) ?_
    exact j_sub [2, 3, 0] rfl (ih _ _ h)
def mX1_spread (fu : Nat) (f : jM) (v0 : Nat) (v1 : Nat) : Option jM :=
    (rdI 1 f v0 3).bind fun x18 =>
    mX1_spread_L5 fu v0 v1 fu x18 f
set_option maxRecDepth 100000 in
set_option maxHeartbeats 4000000 in
theorem sX1_spread {l : Launch} {D : jD} {sz : Nat} {fu : Nat} {f : jM} {v0 : Nat} {v1 : Nat} {res : jM} (h : mX1_spread fu f v0 v1 = some res) : jCt l D yX1_spread cX1_spread 4 none 2 45 [.ref v0, .ref v1] f sz 0 0 none res sz := by
  refine j_start (by decide +kernel) (Nat.le_of_ble_eq_true rfl) (fun c hcl hcD hcn E => ?_)
  subst hcl
  subst hcD
  replace E : jOk c cX1_spread 4 RX1 none 2 45 := E
  show J c (jZ c none res sz) f sz 0 0 0 [(0, .ref v0), (1, .ref v1)] []
  unfold mX1_spread at h
  refine j_aload_n E 0 dX1_spread_0 rfl rfl ?_
  obtain ⟨x18, h18, h⟩ := jb h
  refine j_getI E gX1_23 h18 dX1_spread_1 ?_
  refine j_istore_n (lv' := [(2, .int x18), (0, .ref v0), (1, .ref v1)]) E dX1_spread_4 rfl (by decide) rfl ?_
  exact j_sub [1, 2, 0] rfl (wX1_spread_L5 E _ _ _ h)
def mJ7_fill_53178_L5 (fu : Nat)  (v0 : Nat) (v1 : Int32) (v3 : Int32) : Nat → Int32 → jM → Option jM
  | 0, _, _ => none
  | n + 1, v2, f =>
    if v3 ≤ v2 then (
    some f) else (
    (stI 0 f v0 v2 v1).bind fun f2 =>
    mJ7_fill_53178_L5 fu v0 v1 v3 n (v2 + (1 : Int32)) f2)
set_option maxRecDepth 100000 in
set_option maxHeartbeats 4000000 in
theorem wJ7_fill_53178_L5 {c : jS} {sz : Nat} {fu : Nat}  {v0 : Nat} {v1 : Int32} {v3 : Int32} {res : jM} (E : jOk c cJ7_fill_53178 4 RJ7 none 0 0)  : ∀ (n : Nat) (v2 : Int32) (f : jM), mJ7_fill_53178_L5 fu  v0 v1 v3 n v2 f = some res → J c (jZ c none res sz) f sz 0 0 5 [(0, .ref v0), (1, .int v1), (2, .int v2), (3, .int v3)] [] := by
  intro n
  induction n with
  | zero => intro v2 f h; exact jn0 h
  | succ n ih =>
    intro v2 f h
    rw [mJ7_fill_53178_L5] at h
    refine j_iload_n E 2 dJ7_fill_53178_5 rfl rfl ?_
    refine j_iload_n E 3 dJ7_fill_53178_6 rfl rfl ?_
    refine j_icmp_ge (tgt := 20) E dJ7_fill_53178_7 (by decide) (fun hc1 => ?_) (fun hc1 => ?_)
    · replace h := jt hc1 h
      cases h
      exact j_vret E dJ7_fill_53178_20
    replace h := jf hc1 h
    refine j_aload_n E 0 dJ7_fill_53178_10 rfl rfl ?_
    refine j_iload_n E 2 dJ7_fill_53178_11 rfl rfl ?_
    refine j_iload_n E 1 dJ7_fill_53178_12 rfl rfl ?_
    obtain ⟨f2, h2, h⟩ := jb h
    refine j_iast E h2 dJ7_fill_53178_13 ?_
    refine j_iinc (v := (v2 + (1 : Int32))) (lv' := [(2, .int (v2 + (1 : Int32))), (0, .ref v0), (1, .int v1), (3, .int v3)]) E 2 dJ7_fill_53178_14 rfl rfl (by decide) rfl ?_
    refine j_goto (tgt := 5) E dJ7_fill_53178_17 (by decide) ?_
    exact j_sub [1, 2, 0, 3] rfl (ih _ _ h)
def mJ7_fill_53178 (fu : Nat) (f : jM) (v0 : Nat) (v1 : Int32) : Option jM :=
    (alen f v0).bind fun x3 =>
    mJ7_fill_53178_L5 fu v0 v1 x3 fu (0 : Int32) f
set_option maxRecDepth 100000 in
set_option maxHeartbeats 4000000 in
theorem sJ7_fill_53178 {l : Launch} {D : jD} {sz : Nat} {fu : Nat} {f : jM} {v0 : Nat} {v1 : Int32} {res : jM} (h : mJ7_fill_53178 fu f v0 v1 = some res) : jCt l D yJ7_fill_53178 cJ7_fill_53178 4 none 0 0 [.ref v0, .int v1] f sz 0 0 none res sz := by
  refine j_start (by decide +kernel) (Nat.le_of_ble_eq_true rfl) (fun c hcl hcD hcn E => ?_)
  subst hcl
  subst hcD
  replace E : jOk c cJ7_fill_53178 4 RJ7 none 0 0 := E
  show J c (jZ c none res sz) f sz 0 0 0 [(0, .ref v0), (1, .int v1)] []
  unfold mJ7_fill_53178 at h
  refine j_iconst (v := (0 : Int32)) E dJ7_fill_53178_0 (by decide) ?_
  refine j_istore_n (lv' := [(2, .int (0 : Int32)), (0, .ref v0), (1, .int v1)]) E dJ7_fill_53178_1 rfl (by decide) rfl ?_
  refine j_aload_n E 1 dJ7_fill_53178_2 rfl rfl ?_
  obtain ⟨x3, h3, h⟩ := jb h
  refine j_alen E h3 dJ7_fill_53178_3 ?_
  refine j_istore_n (lv' := [(3, .int x3), (2, .int (0 : Int32)), (0, .ref v0), (1, .int v1)]) E dJ7_fill_53178_4 rfl (by decide) rfl ?_
  exact j_sub [2, 3, 1, 0] rfl (wJ7_fill_53178_L5 E _ _ _ h)
def mX2_init (fu : Nat) (f : jM) (sz : Nat) (v0 : Nat) (v1 : Int32) : Option jRA :=
    ((nwI 0 f sz (294 : Int32)).bind fun f1 =>
    (wrV 2 f1 v0 1 (.ref sz)).bind fun f2 =>
    ((nwI 0 f2 (sz + 1) (294 : Int32)).bind fun f3 =>
    (wrV 2 f3 v0 2 (.ref (sz + 1))).bind fun f4 =>
    ((nwI 0 f4 ((sz + 1) + 1) (24 : Int32)).bind fun f5 =>
    (wrV 2 f5 v0 3 (.ref ((sz + 1) + 1))).bind fun f6 =>
    ((nwI 0 f6 (((sz + 1) + 1) + 1) (24 : Int32)).bind fun f7 =>
    (wrV 2 f7 v0 4 (.ref (((sz + 1) + 1) + 1))).bind fun f8 =>
    ((nwI 0 f8 ((((sz + 1) + 1) + 1) + 1) (24 : Int32)).bind fun f9 =>
    (wrV 2 f9 v0 5 (.ref ((((sz + 1) + 1) + 1) + 1))).bind fun f10 =>
    ((nwI 0 f10 (((((sz + 1) + 1) + 1) + 1) + 1) (120 : Int32)).bind fun f11 =>
    (wrV 2 f11 v0 6 (.ref (((((sz + 1) + 1) + 1) + 1) + 1))).bind fun f12 =>
    ((nwI 0 f12 ((((((sz + 1) + 1) + 1) + 1) + 1) + 1) (24 : Int32)).bind fun f13 =>
    (wrV 2 f13 v0 7 (.ref ((((((sz + 1) + 1) + 1) + 1) + 1) + 1))).bind fun f14 =>
    (wrV 2 f14 v0 0 (.int v1)).bind fun f15 =>
    (rdR 2 f15 v0 3).bind fun x16 =>
    (mJ7_fill_53178 fu f15 x16 (-1 : Int32)).bind fun f17 =>
    some (f17, (((((((sz + 1) + 1) + 1) + 1) + 1) + 1) + 1), 0, 0)).map (jcnt 1 (Int32.toNatClampNeg (24 : Int32)))).map (jcnt 1 (Int32.toNatClampNeg (120 : Int32)))).map (jcnt 1 (Int32.toNatClampNeg (24 : Int32)))).map (jcnt 1 (Int32.toNatClampNeg (24 : Int32)))).map (jcnt 1 (Int32.toNatClampNeg (24 : Int32)))).map (jcnt 1 (Int32.toNatClampNeg (294 : Int32)))).map (jcnt 1 (Int32.toNatClampNeg (294 : Int32)))
set_option maxRecDepth 100000 in
set_option maxHeartbeats 4000000 in
theorem sX2_init {l : Launch} {D : jD} {sz : Nat} {fu : Nat} {f : jM} {v0 : Nat} {v1 : Int32} {res : jRA} (h : mX2_init fu f sz v0 v1 = some res) : jCt l D yX2_init cX2_init 2 none 1 23 [.ref v0, .int v1] f sz res.2.2.1 res.2.2.2 none res.1 res.2.1 := by
  refine j_start (by decide +kernel) (Nat.le_of_ble_eq_true rfl) (fun c hcl hcD hcn E => ?_)
  subst hcl
  subst hcD
  replace E : jOk c cX2_init 2 RX2 none 1 23 := E
  replace hcn : (j_h c).name = "<init>" := hcn
  show J c (jZ c none res.1 res.2.1) f sz res.2.2.1 res.2.2.2 0 [(0, .ref v0), (1, .int v1)] []
  unfold mX2_init at h
  refine j_aload_n E 0 dX2_init_0 rfl rfl ?_
  refine j_objInit E lkX2_3 oi_in oi_co (by decide) (by decide) dX2_init_1 ?_
  refine j_aload_n E 0 dX2_init_4 rfl rfl ?_
  refine j_sipush (v := (294 : Int32)) E dX2_init_5 (by decide) ?_
  obtain ⟨r1, q1, e1⟩ := jmp h
  clear h
  subst e1
  have h := q1
  obtain ⟨f1, h1, h⟩ := jb h
  obtain ⟨h1a, h1b, h1⟩ := nwI_spec h1
  subst h1
  refine j_newa (kd := 0) (rc := r1.2.2.1) (rs := r1.2.2.2) E rfl (by decide) rfl (fun _ q => by cases q) h1a rfl (Nat.le_trans (Nat.mul_le_mul_right _ h1b) (by decide)) dX2_init_8 ?_
  obtain ⟨f2, h2, h⟩ := jb h
  refine j_putF E hcn gfX2_9 h2 rfl rfl dX2_init_10 ?_
  refine j_aload_n E 0 dX2_init_13 rfl rfl ?_
  refine j_sipush (v := (294 : Int32)) E dX2_init_14 (by decide) ?_
  obtain ⟨r3, q3, e3⟩ := jmp h
  clear h
  subst e3
  have h := q3
  obtain ⟨f3, h3, h⟩ := jb h
  obtain ⟨h3a, h3b, h3⟩ := nwI_spec h3
  subst h3
  refine j_newa (kd := 0) (rc := r3.2.2.1) (rs := r3.2.2.2) E rfl (by decide) rfl (fun _ q => by cases q) h3a rfl (Nat.le_trans (Nat.mul_le_mul_right _ h3b) (by decide)) dX2_init_17 ?_
  obtain ⟨f4, h4, h⟩ := jb h
  refine j_putF E hcn gfX2_15 h4 rfl rfl dX2_init_19 ?_
  refine j_aload_n E 0 dX2_init_22 rfl rfl ?_
  refine j_bipush (v := (24 : Int32)) E dX2_init_23 (by decide) ?_
  obtain ⟨r5, q5, e5⟩ := jmp h
  clear h
  subst e5
  have h := q5
  obtain ⟨f5, h5, h⟩ := jb h
  obtain ⟨h5a, h5b, h5⟩ := nwI_spec h5
  subst h5
  refine j_newa (kd := 0) (rc := r5.2.2.1) (rs := r5.2.2.2) E rfl (by decide) rfl (fun _ q => by cases q) h5a rfl (Nat.le_trans (Nat.mul_le_mul_right _ h5b) (by decide)) dX2_init_25 ?_
  obtain ⟨f6, h6, h⟩ := jb h
  refine j_putF E hcn gfX2_18 h6 rfl rfl dX2_init_27 ?_
  refine j_aload_n E 0 dX2_init_30 rfl rfl ?_
  refine j_bipush (v := (24 : Int32)) E dX2_init_31 (by decide) ?_
  obtain ⟨r7, q7, e7⟩ := jmp h
  clear h
  subst e7
  have h := q7
  obtain ⟨f7, h7, h⟩ := jb h
  obtain ⟨h7a, h7b, h7⟩ := nwI_spec h7
  subst h7
  refine j_newa (kd := 0) (rc := r7.2.2.1) (rs := r7.2.2.2) E rfl (by decide) rfl (fun _ q => by cases q) h7a rfl (Nat.le_trans (Nat.mul_le_mul_right _ h7b) (by decide)) dX2_init_33 ?_
  obtain ⟨f8, h8, h⟩ := jb h
  refine j_putF E hcn gfX2_21 h8 rfl rfl dX2_init_35 ?_
  refine j_aload_n E 0 dX2_init_38 rfl rfl ?_
  refine j_bipush (v := (24 : Int32)) E dX2_init_39 (by decide) ?_
  obtain ⟨r9, q9, e9⟩ := jmp h
  clear h
  subst e9
  have h := q9
  obtain ⟨f9, h9, h⟩ := jb h
  obtain ⟨h9a, h9b, h9⟩ := nwI_spec h9
  subst h9
  refine j_newa (kd := 0) (rc := r9.2.2.1) (rs := r9.2.2.2) E rfl (by decide) rfl (fun _ q => by cases q) h9a rfl (Nat.le_trans (Nat.mul_le_mul_right _ h9b) (by decide)) dX2_init_41 ?_
  obtain ⟨f10, h10, h⟩ := jb h
  refine j_putF E hcn gfX2_24 h10 rfl rfl dX2_init_43 ?_
  refine j_aload_n E 0 dX2_init_46 rfl rfl ?_
  refine j_bipush (v := (120 : Int32)) E dX2_init_47 (by decide) ?_
  obtain ⟨r11, q11, e11⟩ := jmp h
  clear h
  subst e11
  have h := q11
  obtain ⟨f11, h11, h⟩ := jb h
  obtain ⟨h11a, h11b, h11⟩ := nwI_spec h11
  subst h11
  refine j_newa (kd := 0) (rc := r11.2.2.1) (rs := r11.2.2.2) E rfl (by decide) rfl (fun _ q => by cases q) h11a rfl (Nat.le_trans (Nat.mul_le_mul_right _ h11b) (by decide)) dX2_init_49 ?_
  obtain ⟨f12, h12, h⟩ := jb h
  refine j_putF E hcn gfX2_27 h12 rfl rfl dX2_init_51 ?_
  refine j_aload_n E 0 dX2_init_54 rfl rfl ?_
  refine j_bipush (v := (24 : Int32)) E dX2_init_55 (by decide) ?_
  obtain ⟨r13, q13, e13⟩ := jmp h
  clear h
  subst e13
  have h := q13
  obtain ⟨f13, h13, h⟩ := jb h
  obtain ⟨h13a, h13b, h13⟩ := nwI_spec h13
  subst h13
  refine j_newa (kd := 0) (rc := r13.2.2.1) (rs := r13.2.2.2) E rfl (by decide) rfl (fun _ q => by cases q) h13a rfl (Nat.le_trans (Nat.mul_le_mul_right _ h13b) (by decide)) dX2_init_57 ?_
  obtain ⟨f14, h14, h⟩ := jb h
  refine j_putF E hcn gfX2_30 h14 rfl rfl dX2_init_59 ?_
  refine j_aload_n E 0 dX2_init_62 rfl rfl ?_
  refine j_iload_n E 1 dX2_init_63 rfl rfl ?_
  obtain ⟨f15, h15, h⟩ := jb h
  refine j_putF E hcn gfX2_33 h15 rfl rfl dX2_init_64 ?_
  refine j_aload_n E 0 dX2_init_67 rfl rfl ?_
  obtain ⟨x16, h16, h⟩ := jb h
  refine j_getR E gX2_18 h16 dX2_init_68 ?_
  refine j_iconst (v := (-1 : Int32)) E dX2_init_71 (by decide) ?_
  obtain ⟨f17, h17, h⟩ := jb h
  refine j_less (Nat.le_of_eq (Nat.zero_add _)) (Nat.le_of_eq (Nat.zero_add _)) ?_
  refine j_callS (As := [.ref x16, .int (-1 : Int32)]) (rest := []) (mc1 := 0) (ms1 := 0) E (sJ7_fill_53178 h17) lwJ7_fill_53178 lkX2_37 stJ7_fill_53178 (by decide) rfl (Nat.le_of_ble_eq_true rfl) dX2_init_72 ?_
  cases h
  exact j_vret E dX2_init_75
def mX2_hasObject (f : jM) (v0 : Nat) (v1 : Int32) : Option (Int32 × jM) :=
    if v1 < 0 then (
    some ((0 : Int32), f)) else (
    if (24 : Int32) ≤ v1 then (
    some ((0 : Int32), f)) else (
    (rdR 2 f v0 3).bind fun x3 =>
    (ldI 0 f x3 v1).bind fun x4 =>
    if x4 = (-1 : Int32) then (
    some ((0 : Int32), f)) else (
    some ((1 : Int32), f))))
set_option maxRecDepth 100000 in
set_option maxHeartbeats 4000000 in
theorem sX2_hasObject {l : Launch} {D : jD} {sz : Nat} {f : jM} {v0 : Nat} {v1 : Int32} {res : (Int32 × jM)} (h : mX2_hasObject f v0 v1 = some res) : jCt l D yX2_hasObject cX2_hasObject 2 (some .boolean) 0 0 [.ref v0, .int v1] f sz 0 0 (some (.int res.1)) res.2 sz := by
  refine j_start (by decide +kernel) (Nat.le_of_ble_eq_true rfl) (fun c hcl hcD hcn E => ?_)
  subst hcl
  subst hcD
  replace E : jOk c cX2_hasObject 2 RX2 (some .boolean) 0 0 := E
  show J c (jZ c (some (.int res.1)) res.2 sz) f sz 0 0 0 [(0, .ref v0), (1, .int v1)] []
  unfold mX2_hasObject at h
  refine j_iload_n E 1 dX2_hasObject_0 rfl rfl ?_
  refine j_if_lt (tgt := 24) E dX2_hasObject_1 (by decide) (fun hc1 => ?_) (fun hc1 => ?_)
  · replace h := jt hc1 h
    refine j_iconst (v := (0 : Int32)) E dX2_hasObject_24 (by decide) ?_
    cases h
    exact j_zret (v := (0 : Int32)) E (by decide +kernel) dX2_hasObject_25
  replace h := jf hc1 h
  refine j_iload_n E 1 dX2_hasObject_4 rfl rfl ?_
  refine j_bipush (v := (24 : Int32)) E dX2_hasObject_5 (by decide) ?_
  refine j_icmp_ge (tgt := 24) E dX2_hasObject_7 (by decide) (fun hc2 => ?_) (fun hc2 => ?_)
  · replace h := jt hc2 h
    refine j_iconst (v := (0 : Int32)) E dX2_hasObject_24 (by decide) ?_
    cases h
    exact j_zret (v := (0 : Int32)) E (by decide +kernel) dX2_hasObject_25
  replace h := jf hc2 h
  refine j_aload_n E 0 dX2_hasObject_10 rfl rfl ?_
  obtain ⟨x3, h3, h⟩ := jb h
  refine j_getR E gX2_18 h3 dX2_hasObject_11 ?_
  refine j_iload_n E 1 dX2_hasObject_14 rfl rfl ?_
  obtain ⟨x4, h4, h⟩ := jb h
  refine j_iald E h4 dX2_hasObject_15 ?_
  refine j_iconst (v := (-1 : Int32)) E dX2_hasObject_16 (by decide) ?_
  refine j_icmp_eq (tgt := 24) E dX2_hasObject_17 (by decide) (fun hc5 => ?_) (fun hc5 => ?_)
  · replace h := jt hc5 h
    refine j_iconst (v := (0 : Int32)) E dX2_hasObject_24 (by decide) ?_
    cases h
    exact j_zret (v := (0 : Int32)) E (by decide +kernel) dX2_hasObject_25
  replace h := jf hc5 h
  refine j_iconst (v := (1 : Int32)) E dX2_hasObject_20 (by decide) ?_
  refine j_goto (tgt := 25) E dX2_hasObject_21 (by decide) ?_
  cases h
  exact j_zret (v := (1 : Int32)) E (by decide +kernel) dX2_hasObject_25
def mX2_hasField (f : jM) (v0 : Nat) (v1 : Int32) (v2 : Int32) : Option (Int32 × jM) :=
    (chk 2 f v0).bind fun _ =>
    (mX2_hasObject f v0 v1).bind fun r2 =>
    if r2.1 = 0 then (
    some ((0 : Int32), r2.2)) else (
    if v2 < 0 then (
    some ((0 : Int32), r2.2)) else (
    (rdR 2 r2.2 v0 3).bind fun x5 =>
    (ldI 0 r2.2 x5 v1).bind fun x6 =>
    if x6 ≤ v2 then (
    some ((0 : Int32), r2.2)) else (
    some ((1 : Int32), r2.2))))
set_option maxRecDepth 100000 in
set_option maxHeartbeats 4000000 in
theorem sX2_hasField {l : Launch} {D : jD} {sz : Nat} {f : jM} {v0 : Nat} {v1 : Int32} {v2 : Int32} {res : (Int32 × jM)} (h : mX2_hasField f v0 v1 v2 = some res) : jCt l D yX2_hasField cX2_hasField 3 (some .boolean) 1 21 [.ref v0, .int v1, .int v2] f sz 0 0 (some (.int res.1)) res.2 sz := by
  refine j_start (by decide +kernel) (Nat.le_of_ble_eq_true rfl) (fun c hcl hcD hcn E => ?_)
  subst hcl
  subst hcD
  replace E : jOk c cX2_hasField 3 RX2 (some .boolean) 1 21 := E
  show J c (jZ c (some (.int res.1)) res.2 sz) f sz 0 0 0 [(0, .ref v0), (1, .int v1), (2, .int v2)] []
  unfold mX2_hasField at h
  refine j_aload_n E 0 dX2_hasField_0 rfl rfl ?_
  refine j_iload_n E 1 dX2_hasField_1 rfl rfl ?_
  obtain ⟨u1, h1, h⟩ := jb h
  obtain ⟨fs1, h1⟩ := chk_spec h1
  obtain ⟨r2, h2, h⟩ := jb h
  refine j_callV (As := [.int v1]) (b := v0) (rest := []) (rc := 0) (rs := 0) E (sX2_hasObject h2) lwX2_hasObject lkX2_43 imX2_hasObject seX2_hasObject rfl h1 (by decide) rfl (Nat.le_of_ble_eq_true rfl) dX2_hasField_2 ?_
  refine j_if_eq (tgt := 26) E dX2_hasField_5 (by decide) (fun hc3 => ?_) (fun hc3 => ?_)
  · replace h := jt hc3 h
    refine j_iconst (v := (0 : Int32)) E dX2_hasField_26 (by decide) ?_
    cases h
    exact j_zret (v := (0 : Int32)) E (by decide +kernel) dX2_hasField_27
  replace h := jf hc3 h
  refine j_iload_n E 2 dX2_hasField_8 rfl rfl ?_
  refine j_if_lt (tgt := 26) E dX2_hasField_9 (by decide) (fun hc4 => ?_) (fun hc4 => ?_)
  · replace h := jt hc4 h
    refine j_iconst (v := (0 : Int32)) E dX2_hasField_26 (by decide) ?_
    cases h
    exact j_zret (v := (0 : Int32)) E (by decide +kernel) dX2_hasField_27
  replace h := jf hc4 h
  refine j_iload_n E 2 dX2_hasField_12 rfl rfl ?_
  refine j_aload_n E 0 dX2_hasField_13 rfl rfl ?_
  obtain ⟨x5, h5, h⟩ := jb h
  refine j_getR E gX2_18 h5 dX2_hasField_14 ?_
  refine j_iload_n E 1 dX2_hasField_17 rfl rfl ?_
  obtain ⟨x6, h6, h⟩ := jb h
  refine j_iald E h6 dX2_hasField_18 ?_
  refine j_icmp_ge (tgt := 26) E dX2_hasField_19 (by decide) (fun hc7 => ?_) (fun hc7 => ?_)
  · replace h := jt hc7 h
    refine j_iconst (v := (0 : Int32)) E dX2_hasField_26 (by decide) ?_
    cases h
    exact j_zret (v := (0 : Int32)) E (by decide +kernel) dX2_hasField_27
  replace h := jf hc7 h
  refine j_iconst (v := (1 : Int32)) E dX2_hasField_22 (by decide) ?_
  refine j_goto (tgt := 27) E dX2_hasField_23 (by decide) ?_
  cases h
  exact j_zret (v := (1 : Int32)) E (by decide +kernel) dX2_hasField_27
def mX2_freeNumber_L2 (fu : Nat)  (v0 : Nat) : Nat → Int32 → jM → Option (Int32 × jM)
  | 0, _, _ => none
  | n + 1, v1, f =>
    if (24 : Int32) ≤ v1 then (
    some ((-1 : Int32), f)) else (
    (rdI 2 f v0 8).bind fun x2 =>
    if (24 : Int32) ≤ x2 then (
    some ((-1 : Int32), f)) else (
    (rdR 2 f v0 3).bind fun x4 =>
    (ldI 0 f x4 v1).bind fun x5 =>
    if x5 = (-1 : Int32) then (
    some (v1, f)) else (
    mX2_freeNumber_L2 fu v0 n (v1 + (1 : Int32)) f)))
set_option maxRecDepth 100000 in
set_option maxHeartbeats 4000000 in
theorem wX2_freeNumber_L2 {c : jS} {sz : Nat} {fu : Nat}  {v0 : Nat} {res : (Int32 × jM)} (E : jOk c cX2_freeNumber 2 RX2 (some .int) 0 0)  : ∀ (n : Nat) (v1 : Int32) (f : jM), mX2_freeNumber_L2 fu  v0 n v1 f = some res → J c (jZ c (some (.int res.1)) res.2 sz) f sz 0 0 2 [(0, .ref v0), (1, .int v1)] [] := by
  intro n
  induction n with
  | zero => intro v1 f h; exact jn0 h
  | succ n ih =>
    intro v1 f h
    rw [mX2_freeNumber_L2] at h
    refine j_iload_n E 1 dX2_freeNumber_2 rfl rfl ?_
    refine j_bipush (v := (24 : Int32)) E dX2_freeNumber_3 (by decide) ?_
    refine j_icmp_ge (tgt := 35) E dX2_freeNumber_5 (by decide) (fun hc1 => ?_) (fun hc1 => ?_)
    · replace h := jt hc1 h
      refine j_iconst (v := (-1 : Int32)) E dX2_freeNumber_35 (by decide) ?_
      cases h
      exact j_iret E dX2_freeNumber_36
    replace h := jf hc1 h
    refine j_aload_n E 0 dX2_freeNumber_8 rfl rfl ?_
    obtain ⟨x2, h2, h⟩ := jb h
    refine j_getI E gX2_47 h2 dX2_freeNumber_9 ?_
    refine j_bipush (v := (24 : Int32)) E dX2_freeNumber_12 (by decide) ?_
    refine j_icmp_ge (tgt := 35) E dX2_freeNumber_14 (by decide) (fun hc3 => ?_) (fun hc3 => ?_)
    · replace h := jt hc3 h
      refine j_iconst (v := (-1 : Int32)) E dX2_freeNumber_35 (by decide) ?_
      cases h
      exact j_iret E dX2_freeNumber_36
    replace h := jf hc3 h
    refine j_aload_n E 0 dX2_freeNumber_17 rfl rfl ?_
    obtain ⟨x4, h4, h⟩ := jb h
    refine j_getR E gX2_18 h4 dX2_freeNumber_18 ?_
    refine j_iload_n E 1 dX2_freeNumber_21 rfl rfl ?_
    obtain ⟨x5, h5, h⟩ := jb h
    refine j_iald E h5 dX2_freeNumber_22 ?_
    refine j_iconst (v := (-1 : Int32)) E dX2_freeNumber_23 (by decide) ?_
    refine j_icmp_ne (tgt := 29) E dX2_freeNumber_24 (by decide) (fun hc6 => ?_) (fun hc6 => ?_)
    · replace h := jf hc6 h
      refine j_iinc (v := (v1 + (1 : Int32))) (lv' := [(1, .int (v1 + (1 : Int32))), (0, .ref v0)]) E 1 dX2_freeNumber_29 rfl rfl (by decide) rfl ?_
      refine j_goto (tgt := 2) E dX2_freeNumber_32 (by decide) ?_
      exact j_sub [1, 0] rfl (ih _ _ h)
    replace h := jt hc6 h
    refine j_iload_n E 1 dX2_freeNumber_27 rfl rfl ?_
    cases h
    exact j_iret E dX2_freeNumber_28
def mX2_freeNumber (fu : Nat) (f : jM) (v0 : Nat) : Option (Int32 × jM) :=
    mX2_freeNumber_L2 fu v0 fu (0 : Int32) f
set_option maxRecDepth 100000 in
set_option maxHeartbeats 4000000 in
theorem sX2_freeNumber {l : Launch} {D : jD} {sz : Nat} {fu : Nat} {f : jM} {v0 : Nat} {res : (Int32 × jM)} (h : mX2_freeNumber fu f v0 = some res) : jCt l D yX2_freeNumber cX2_freeNumber 2 (some .int) 0 0 [.ref v0] f sz 0 0 (some (.int res.1)) res.2 sz := by
  refine j_start (by decide +kernel) (Nat.le_of_ble_eq_true rfl) (fun c hcl hcD hcn E => ?_)
  subst hcl
  subst hcD
  replace E : jOk c cX2_freeNumber 2 RX2 (some .int) 0 0 := E
  show J c (jZ c (some (.int res.1)) res.2 sz) f sz 0 0 0 [(0, .ref v0)] []
  unfold mX2_freeNumber at h
  refine j_iconst (v := (0 : Int32)) E dX2_freeNumber_0 (by decide) ?_
  refine j_istore_n (lv' := [(1, .int (0 : Int32)), (0, .ref v0)]) E dX2_freeNumber_1 rfl (by decide) rfl ?_
  exact j_sub [1, 0] rfl (wX2_freeNumber_L2 E _ _ _ h)
def mX2_hasRoom (f : jM) (v0 : Nat) (v1 : Int32) : Option (Int32 × jM) :=
    (rdI 2 f v0 10).bind fun x1 =>
    if (160 : Int32) < ((x1 + v1) + (1 : Int32)) then (
    some ((0 : Int32), f)) else (
    some ((1 : Int32), f))
set_option maxRecDepth 100000 in
set_option maxHeartbeats 4000000 in
theorem sX2_hasRoom {l : Launch} {D : jD} {sz : Nat} {f : jM} {v0 : Nat} {v1 : Int32} {res : (Int32 × jM)} (h : mX2_hasRoom f v0 v1 = some res) : jCt l D yX2_hasRoom cX2_hasRoom 2 (some .boolean) 0 0 [.ref v0, .int v1] f sz 0 0 (some (.int res.1)) res.2 sz := by
  refine j_start (by decide +kernel) (Nat.le_of_ble_eq_true rfl) (fun c hcl hcD hcn E => ?_)
  subst hcl
  subst hcD
  replace E : jOk c cX2_hasRoom 2 RX2 (some .boolean) 0 0 := E
  show J c (jZ c (some (.int res.1)) res.2 sz) f sz 0 0 0 [(0, .ref v0), (1, .int v1)] []
  unfold mX2_hasRoom at h
  refine j_aload_n E 0 dX2_hasRoom_0 rfl rfl ?_
  obtain ⟨x1, h1, h⟩ := jb h
  refine j_getI E gX2_50 h1 dX2_hasRoom_1 ?_
  refine j_iload_n E 1 dX2_hasRoom_4 rfl rfl ?_
  refine j_iadd E dX2_hasRoom_5 ?_
  refine j_iconst (v := (1 : Int32)) E dX2_hasRoom_6 (by decide) ?_
  refine j_iadd E dX2_hasRoom_7 ?_
  refine j_sipush (v := (160 : Int32)) E dX2_hasRoom_8 (by decide) ?_
  refine j_icmp_gt (tgt := 18) E dX2_hasRoom_11 (by decide) (fun hc2 => ?_) (fun hc2 => ?_)
  · replace h := jt hc2 h
    refine j_iconst (v := (0 : Int32)) E dX2_hasRoom_18 (by decide) ?_
    cases h
    exact j_zret (v := (0 : Int32)) E (by decide +kernel) dX2_hasRoom_19
  replace h := jf hc2 h
  refine j_iconst (v := (1 : Int32)) E dX2_hasRoom_14 (by decide) ?_
  refine j_goto (tgt := 19) E dX2_hasRoom_15 (by decide) ?_
  cases h
  exact j_zret (v := (1 : Int32)) E (by decide +kernel) dX2_hasRoom_19
def mX2_lay (f : jM) (v0 : Nat) (v1 : Int32) (v2 : Int32) : Option jM :=
    (rdR 2 f v0 3).bind fun x1 =>
    (stI 0 f x1 v1 v2).bind fun f2 =>
    (rdR 2 f2 v0 4).bind fun x3 =>
    (rdI 2 f2 v0 10).bind fun x4 =>
    (stI 0 f2 x3 v1 x4).bind fun f5 =>
    (rdR 2 f5 v0 7).bind fun x6 =>
    (rdI 2 f5 v0 8).bind fun x7 =>
    (stI 0 f5 x6 x7 v1).bind fun f8 =>
    (rdI 2 f8 v0 8).bind fun x9 =>
    (wrV 2 f8 v0 8 (.int (x9 + (1 : Int32)))).bind fun f10 =>
    (rdI 2 f10 v0 10).bind fun x11 =>
    (wrV 2 f10 v0 10 (.int (x11 + (v2 + (1 : Int32))))).bind fun f12 =>
    some f12
set_option maxRecDepth 100000 in
set_option maxHeartbeats 4000000 in
theorem sX2_lay {l : Launch} {D : jD} {sz : Nat} {f : jM} {v0 : Nat} {v1 : Int32} {v2 : Int32} {res : jM} (h : mX2_lay f v0 v1 v2 = some res) : jCt l D yX2_lay cX2_lay 3 none 0 0 [.ref v0, .int v1, .int v2] f sz 0 0 none res sz := by
  refine j_start (by decide +kernel) (Nat.le_of_ble_eq_true rfl) (fun c hcl hcD hcn E => ?_)
  subst hcl
  subst hcD
  replace E : jOk c cX2_lay 3 RX2 none 0 0 := E
  show J c (jZ c none res sz) f sz 0 0 0 [(0, .ref v0), (1, .int v1), (2, .int v2)] []
  unfold mX2_lay at h
  refine j_aload_n E 0 dX2_lay_0 rfl rfl ?_
  obtain ⟨x1, h1, h⟩ := jb h
  refine j_getR E gX2_18 h1 dX2_lay_1 ?_
  refine j_iload_n E 1 dX2_lay_4 rfl rfl ?_
  refine j_iload_n E 2 dX2_lay_5 rfl rfl ?_
  obtain ⟨f2, h2, h⟩ := jb h
  refine j_iast E h2 dX2_lay_6 ?_
  refine j_aload_n E 0 dX2_lay_7 rfl rfl ?_
  obtain ⟨x3, h3, h⟩ := jb h
  refine j_getR E gX2_21 h3 dX2_lay_8 ?_
  refine j_iload_n E 1 dX2_lay_11 rfl rfl ?_
  refine j_aload_n E 0 dX2_lay_12 rfl rfl ?_
  obtain ⟨x4, h4, h⟩ := jb h
  refine j_getI E gX2_50 h4 dX2_lay_13 ?_
  obtain ⟨f5, h5, h⟩ := jb h
  refine j_iast E h5 dX2_lay_16 ?_
  refine j_aload_n E 0 dX2_lay_17 rfl rfl ?_
  obtain ⟨x6, h6, h⟩ := jb h
  refine j_getR E gX2_30 h6 dX2_lay_18 ?_
  refine j_aload_n E 0 dX2_lay_21 rfl rfl ?_
  obtain ⟨x7, h7, h⟩ := jb h
  refine j_getI E gX2_47 h7 dX2_lay_22 ?_
  refine j_iload_n E 1 dX2_lay_25 rfl rfl ?_
  obtain ⟨f8, h8, h⟩ := jb h
  refine j_iast E h8 dX2_lay_26 ?_
  refine j_aload_n E 0 dX2_lay_27 rfl rfl ?_
  refine j_dup E dX2_lay_28 rfl ?_
  obtain ⟨x9, h9, h⟩ := jb h
  refine j_getI E gX2_47 h9 dX2_lay_29 ?_
  refine j_iconst (v := (1 : Int32)) E dX2_lay_32 (by decide) ?_
  refine j_iadd E dX2_lay_33 ?_
  obtain ⟨f10, h10, h⟩ := jb h
  refine j_putV E gpX2_47 h10 rfl rfl dX2_lay_34 ?_
  refine j_aload_n E 0 dX2_lay_37 rfl rfl ?_
  refine j_dup E dX2_lay_38 rfl ?_
  obtain ⟨x11, h11, h⟩ := jb h
  refine j_getI E gX2_50 h11 dX2_lay_39 ?_
  refine j_iload_n E 2 dX2_lay_42 rfl rfl ?_
  refine j_iconst (v := (1 : Int32)) E dX2_lay_43 (by decide) ?_
  refine j_iadd E dX2_lay_44 ?_
  refine j_iadd E dX2_lay_45 ?_
  obtain ⟨f12, h12, h⟩ := jb h
  refine j_putV E gpX2_50 h12 rfl rfl dX2_lay_46 ?_
  cases h
  exact j_vret E dX2_lay_49
def mX2_objectAt_L2 (fu : Nat)  (v0 : Nat) (v1 : Int32) : Nat → Int32 → jM → Option (Int32 × jM)
  | 0, _, _ => none
  | n + 1, v2, f =>
    if (24 : Int32) ≤ v2 then (
    some ((-1 : Int32), f)) else (
    (chk 2 f v0).bind fun _ =>
    (mX2_hasObject f v0 v2).bind fun r3 =>
    if r3.1 = 0 then (
    mX2_objectAt_L2 fu v0 v1 n (v2 + (1 : Int32)) r3.2) else (
    (rdR 2 r3.2 v0 4).bind fun x5 =>
    (ldI 0 r3.2 x5 v2).bind fun x6 =>
    if v1 < x6 then (
    mX2_objectAt_L2 fu v0 v1 n (v2 + (1 : Int32)) r3.2) else (
    (rdR 2 r3.2 v0 4).bind fun x8 =>
    (ldI 0 r3.2 x8 v2).bind fun x9 =>
    (rdR 2 r3.2 v0 3).bind fun x10 =>
    (ldI 0 r3.2 x10 v2).bind fun x11 =>
    if (x9 + x11) < v1 then (
    mX2_objectAt_L2 fu v0 v1 n (v2 + (1 : Int32)) r3.2) else (
    some (v2, r3.2)))))
set_option maxRecDepth 100000 in
set_option maxHeartbeats 4000000 in
theorem wX2_objectAt_L2 {c : jS} {sz : Nat} {fu : Nat}  {v0 : Nat} {v1 : Int32} {res : (Int32 × jM)} (E : jOk c cX2_objectAt 3 RX2 (some .int) 1 21)  : ∀ (n : Nat) (v2 : Int32) (f : jM), mX2_objectAt_L2 fu  v0 v1 n v2 f = some res → J c (jZ c (some (.int res.1)) res.2 sz) f sz 0 0 2 [(0, .ref v0), (1, .int v1), (2, .int v2)] [] := by
  intro n
  induction n with
  | zero => intro v2 f h; exact jn0 h
  | succ n ih =>
    intro v2 f h
    rw [mX2_objectAt_L2] at h
    refine j_iload_n E 2 dX2_objectAt_2 rfl rfl ?_
    refine j_bipush (v := (24 : Int32)) E dX2_objectAt_3 (by decide) ?_
    refine j_icmp_ge (tgt := 51) E dX2_objectAt_5 (by decide) (fun hc1 => ?_) (fun hc1 => ?_)
    · replace h := jt hc1 h
      refine j_iconst (v := (-1 : Int32)) E dX2_objectAt_51 (by decide) ?_
      cases h
      exact j_iret E dX2_objectAt_52
    replace h := jf hc1 h
    refine j_aload_n E 0 dX2_objectAt_8 rfl rfl ?_
    refine j_iload_n E 2 dX2_objectAt_9 rfl rfl ?_
    obtain ⟨u2, h2, h⟩ := jb h
    obtain ⟨fs2, h2⟩ := chk_spec h2
    obtain ⟨r3, h3, h⟩ := jb h
    refine j_callV (As := [.int v2]) (b := v0) (rest := []) (rc := 0) (rs := 0) E (sX2_hasObject h3) lwX2_hasObject lkX2_43 imX2_hasObject seX2_hasObject rfl h2 (by decide) rfl (Nat.le_of_ble_eq_true rfl) dX2_objectAt_10 ?_
    refine j_if_eq (tgt := 45) E dX2_objectAt_13 (by decide) (fun hc4 => ?_) (fun hc4 => ?_)
    · replace h := jt hc4 h
      refine j_iinc (v := (v2 + (1 : Int32))) (lv' := [(2, .int (v2 + (1 : Int32))), (0, .ref v0), (1, .int v1)]) E 2 dX2_objectAt_45 rfl rfl (by decide) rfl ?_
      refine j_goto (tgt := 2) E dX2_objectAt_48 (by decide) ?_
      exact j_sub [1, 2, 0] rfl (ih _ _ h)
    replace h := jf hc4 h
    refine j_iload_n E 1 dX2_objectAt_16 rfl rfl ?_
    refine j_aload_n E 0 dX2_objectAt_17 rfl rfl ?_
    obtain ⟨x5, h5, h⟩ := jb h
    refine j_getR E gX2_21 h5 dX2_objectAt_18 ?_
    refine j_iload_n E 2 dX2_objectAt_21 rfl rfl ?_
    obtain ⟨x6, h6, h⟩ := jb h
    refine j_iald E h6 dX2_objectAt_22 ?_
    refine j_icmp_lt (tgt := 45) E dX2_objectAt_23 (by decide) (fun hc7 => ?_) (fun hc7 => ?_)
    · replace h := jt hc7 h
      refine j_iinc (v := (v2 + (1 : Int32))) (lv' := [(2, .int (v2 + (1 : Int32))), (0, .ref v0), (1, .int v1)]) E 2 dX2_objectAt_45 rfl rfl (by decide) rfl ?_
      refine j_goto (tgt := 2) E dX2_objectAt_48 (by decide) ?_
      exact j_sub [1, 2, 0] rfl (ih _ _ h)
    replace h := jf hc7 h
    refine j_iload_n E 1 dX2_objectAt_26 rfl rfl ?_
    refine j_aload_n E 0 dX2_objectAt_27 rfl rfl ?_
    obtain ⟨x8, h8, h⟩ := jb h
    refine j_getR E gX2_21 h8 dX2_objectAt_28 ?_
    refine j_iload_n E 2 dX2_objectAt_31 rfl rfl ?_
    obtain ⟨x9, h9, h⟩ := jb h
    refine j_iald E h9 dX2_objectAt_32 ?_
    refine j_aload_n E 0 dX2_objectAt_33 rfl rfl ?_
    obtain ⟨x10, h10, h⟩ := jb h
    refine j_getR E gX2_18 h10 dX2_objectAt_34 ?_
    refine j_iload_n E 2 dX2_objectAt_37 rfl rfl ?_
    obtain ⟨x11, h11, h⟩ := jb h
    refine j_iald E h11 dX2_objectAt_38 ?_
    refine j_iadd E dX2_objectAt_39 ?_
    refine j_icmp_gt (tgt := 45) E dX2_objectAt_40 (by decide) (fun hc12 => ?_) (fun hc12 => ?_)
    · replace h := jt hc12 h
      refine j_iinc (v := (v2 + (1 : Int32))) (lv' := [(2, .int (v2 + (1 : Int32))), (0, .ref v0), (1, .int v1)]) E 2 dX2_objectAt_45 rfl rfl (by decide) rfl ?_
      refine j_goto (tgt := 2) E dX2_objectAt_48 (by decide) ?_
      exact j_sub [1, 2, 0] rfl (ih _ _ h)
    replace h := jf hc12 h
    refine j_iload_n E 2 dX2_objectAt_43 rfl rfl ?_
    cases h
    exact j_iret E dX2_objectAt_44
def mX2_objectAt (fu : Nat) (f : jM) (v0 : Nat) (v1 : Int32) : Option (Int32 × jM) :=
    mX2_objectAt_L2 fu v0 v1 fu (0 : Int32) f
set_option maxRecDepth 100000 in
set_option maxHeartbeats 4000000 in
theorem sX2_objectAt {l : Launch} {D : jD} {sz : Nat} {fu : Nat} {f : jM} {v0 : Nat} {v1 : Int32} {res : (Int32 × jM)} (h : mX2_objectAt fu f v0 v1 = some res) : jCt l D yX2_objectAt cX2_objectAt 3 (some .int) 1 21 [.ref v0, .int v1] f sz 0 0 (some (.int res.1)) res.2 sz := by
  refine j_start (by decide +kernel) (Nat.le_of_ble_eq_true rfl) (fun c hcl hcD hcn E => ?_)
  subst hcl
  subst hcD
  replace E : jOk c cX2_objectAt 3 RX2 (some .int) 1 21 := E
  show J c (jZ c (some (.int res.1)) res.2 sz) f sz 0 0 0 [(0, .ref v0), (1, .int v1)] []
  unfold mX2_objectAt at h
  refine j_iconst (v := (0 : Int32)) E dX2_objectAt_0 (by decide) ?_
  refine j_istore_n (lv' := [(2, .int (0 : Int32)), (0, .ref v0), (1, .int v1)]) E dX2_objectAt_1 rfl (by decide) rfl ?_
  exact j_sub [1, 2, 0] rfl (wX2_objectAt_L2 E _ _ _ h)
def mX2_fill (f : jM) (v0 : Nat) (v1 : Int32) (v2 : Int32) (v3 : Int32) : Option jM :=
    if v1 < 0 then (
    some f) else (
    if (294 : Int32) ≤ v1 then (
    some f) else (
    (rdR 2 f v0 1).bind fun x3 =>
    (stI 0 f x3 v1 v2).bind fun f4 =>
    (rdR 2 f4 v0 2).bind fun x5 =>
    (stI 0 f4 x5 v1 v3).bind fun f6 =>
    some f6))
set_option maxRecDepth 100000 in
set_option maxHeartbeats 4000000 in
theorem sX2_fill {l : Launch} {D : jD} {sz : Nat} {f : jM} {v0 : Nat} {v1 : Int32} {v2 : Int32} {v3 : Int32} {res : jM} (h : mX2_fill f v0 v1 v2 v3 = some res) : jCt l D yX2_fill cX2_fill 4 none 0 0 [.ref v0, .int v1, .int v2, .int v3] f sz 0 0 none res sz := by
  refine j_start (by decide +kernel) (Nat.le_of_ble_eq_true rfl) (fun c hcl hcD hcn E => ?_)
  subst hcl
  subst hcD
  replace E : jOk c cX2_fill 4 RX2 none 0 0 := E
  show J c (jZ c none res sz) f sz 0 0 0 [(0, .ref v0), (1, .int v1), (2, .int v2), (3, .int v3)] []
  unfold mX2_fill at h
  refine j_iload_n E 1 dX2_fill_0 rfl rfl ?_
  refine j_if_lt (tgt := 25) E dX2_fill_1 (by decide) (fun hc1 => ?_) (fun hc1 => ?_)
  · replace h := jt hc1 h
    cases h
    exact j_vret E dX2_fill_25
  replace h := jf hc1 h
  refine j_iload_n E 1 dX2_fill_4 rfl rfl ?_
  refine j_sipush (v := (294 : Int32)) E dX2_fill_5 (by decide) ?_
  refine j_icmp_ge (tgt := 25) E dX2_fill_8 (by decide) (fun hc2 => ?_) (fun hc2 => ?_)
  · replace h := jt hc2 h
    cases h
    exact j_vret E dX2_fill_25
  replace h := jf hc2 h
  refine j_aload_n E 0 dX2_fill_11 rfl rfl ?_
  obtain ⟨x3, h3, h⟩ := jb h
  refine j_getR E gX2_9 h3 dX2_fill_12 ?_
  refine j_iload_n E 1 dX2_fill_15 rfl rfl ?_
  refine j_iload_n E 2 dX2_fill_16 rfl rfl ?_
  obtain ⟨f4, h4, h⟩ := jb h
  refine j_iast E h4 dX2_fill_17 ?_
  refine j_aload_n E 0 dX2_fill_18 rfl rfl ?_
  obtain ⟨x5, h5, h⟩ := jb h
  refine j_getR E gX2_15 h5 dX2_fill_19 ?_
  refine j_iload_n E 1 dX2_fill_22 rfl rfl ?_
  refine j_iload_n E 3 dX2_fill_23 rfl rfl ?_
  obtain ⟨f6, h6, h⟩ := jb h
  refine j_iast E h6 dX2_fill_24 ?_
  cases h
  exact j_vret E dX2_fill_25
def mX2_empty (f : jM) (v0 : Nat) (v1 : Int32) : Option jM :=
    (chk 2 f v0).bind fun _ =>
    (mX2_fill f v0 v1 (0 : Int32) (0 : Int32)).bind fun f2 =>
    some f2
set_option maxRecDepth 100000 in
set_option maxHeartbeats 4000000 in
theorem sX2_empty {l : Launch} {D : jD} {sz : Nat} {f : jM} {v0 : Nat} {v1 : Int32} {res : jM} (h : mX2_empty f v0 v1 = some res) : jCt l D yX2_empty cX2_empty 2 none 1 23 [.ref v0, .int v1] f sz 0 0 none res sz := by
  refine j_start (by decide +kernel) (Nat.le_of_ble_eq_true rfl) (fun c hcl hcD hcn E => ?_)
  subst hcl
  subst hcD
  replace E : jOk c cX2_empty 2 RX2 none 1 23 := E
  show J c (jZ c none res sz) f sz 0 0 0 [(0, .ref v0), (1, .int v1)] []
  unfold mX2_empty at h
  refine j_aload_n E 0 dX2_empty_0 rfl rfl ?_
  refine j_iload_n E 1 dX2_empty_1 rfl rfl ?_
  refine j_iconst (v := (0 : Int32)) E dX2_empty_2 (by decide) ?_
  refine j_iconst (v := (0 : Int32)) E dX2_empty_3 (by decide) ?_
  obtain ⟨u1, h1, h⟩ := jb h
  obtain ⟨fs1, h1⟩ := chk_spec h1
  obtain ⟨f2, h2, h⟩ := jb h
  refine j_callV (As := [.int v1, .int (0 : Int32), .int (0 : Int32)]) (b := v0) (rest := []) (rc := 0) (rs := 0) E (sX2_fill h2) lwX2_fill lkX2_53 imX2_fill seX2_fill rfl h1 (by decide) rfl (Nat.le_of_ble_eq_true rfl) dX2_empty_4 ?_
  cases h
  exact j_vret E dX2_empty_7
def mX2_copy (f : jM) (v0 : Nat) (v1 : Int32) (v2 : Int32) : Option jM :=
    (rdR 2 f v0 1).bind fun x1 =>
    (ldI 0 f x1 v1).bind fun x2 =>
    (rdR 2 f v0 2).bind fun x3 =>
    (ldI 0 f x3 v1).bind fun x4 =>
    (chk 2 f v0).bind fun _ =>
    (mX2_fill f v0 v2 x2 x4).bind fun f6 =>
    some f6
set_option maxRecDepth 100000 in
set_option maxHeartbeats 4000000 in
theorem sX2_copy {l : Launch} {D : jD} {sz : Nat} {f : jM} {v0 : Nat} {v1 : Int32} {v2 : Int32} {res : jM} (h : mX2_copy f v0 v1 v2 = some res) : jCt l D yX2_copy cX2_copy 3 none 1 23 [.ref v0, .int v1, .int v2] f sz 0 0 none res sz := by
  refine j_start (by decide +kernel) (Nat.le_of_ble_eq_true rfl) (fun c hcl hcD hcn E => ?_)
  subst hcl
  subst hcD
  replace E : jOk c cX2_copy 3 RX2 none 1 23 := E
  show J c (jZ c none res sz) f sz 0 0 0 [(0, .ref v0), (1, .int v1), (2, .int v2)] []
  unfold mX2_copy at h
  refine j_aload_n E 0 dX2_copy_0 rfl rfl ?_
  refine j_iload_n E 2 dX2_copy_1 rfl rfl ?_
  refine j_aload_n E 0 dX2_copy_2 rfl rfl ?_
  obtain ⟨x1, h1, h⟩ := jb h
  refine j_getR E gX2_9 h1 dX2_copy_3 ?_
  refine j_iload_n E 1 dX2_copy_6 rfl rfl ?_
  obtain ⟨x2, h2, h⟩ := jb h
  refine j_iald E h2 dX2_copy_7 ?_
  refine j_aload_n E 0 dX2_copy_8 rfl rfl ?_
  obtain ⟨x3, h3, h⟩ := jb h
  refine j_getR E gX2_15 h3 dX2_copy_9 ?_
  refine j_iload_n E 1 dX2_copy_12 rfl rfl ?_
  obtain ⟨x4, h4, h⟩ := jb h
  refine j_iald E h4 dX2_copy_13 ?_
  obtain ⟨u5, h5, h⟩ := jb h
  obtain ⟨fs5, h5⟩ := chk_spec h5
  obtain ⟨f6, h6, h⟩ := jb h
  refine j_callV (As := [.int v2, .int x2, .int x4]) (b := v0) (rest := []) (rc := 0) (rs := 0) E (sX2_fill h6) lwX2_fill lkX2_53 imX2_fill seX2_fill rfl h5 (by decide) rfl (Nat.le_of_ble_eq_true rfl) dX2_copy_14 ?_
  cases h
  exact j_vret E dX2_copy_17
def mX5_nameOf (f : jM) (v0 : Int32) : Option (Int32 × jM) :=
    (mX5_nodeOf f v0).bind fun r1 =>
    (mX5_numberOf r1.2 v0).bind fun r2 =>
    some ((((100 : Int32) * r1.1) + r2.1), r2.2)
set_option maxRecDepth 100000 in
set_option maxHeartbeats 4000000 in
theorem sX5_nameOf {l : Launch} {D : jD} {sz : Nat} {f : jM} {v0 : Int32} {res : (Int32 × jM)} (h : mX5_nameOf f v0 = some res) : jCt l D yX5_nameOf cX5_nameOf 1 (some .int) 1 20 [.int v0] f sz 0 0 (some (.int res.1)) res.2 sz := by
  refine j_start (by decide +kernel) (Nat.le_of_ble_eq_true rfl) (fun c hcl hcD hcn E => ?_)
  subst hcl
  subst hcD
  replace E : jOk c cX5_nameOf 1 RX5 (some .int) 1 20 := E
  show J c (jZ c (some (.int res.1)) res.2 sz) f sz 0 0 0 [(0, .int v0)] []
  unfold mX5_nameOf at h
  refine j_bipush (v := (100 : Int32)) E dX5_nameOf_0 (by decide) ?_
  refine j_iload_n E 0 dX5_nameOf_2 rfl rfl ?_
  obtain ⟨r1, h1, h⟩ := jb h
  refine j_callS (As := [.int v0]) (rest := [.int (100 : Int32)]) (rc := 0) (rs := 0) E (sX5_nodeOf h1) lwX5_nodeOf lkX5_105 stX5_nodeOf (by decide) rfl (Nat.le_of_ble_eq_true rfl) dX5_nameOf_3 ?_
  refine j_imul E dX5_nameOf_6 ?_
  refine j_iload_n E 0 dX5_nameOf_7 rfl rfl ?_
  obtain ⟨r2, h2, h⟩ := jb h
  refine j_callS (As := [.int v0]) (rest := [.int ((100 : Int32) * r1.1)]) (rc := 0) (rs := 0) E (sX5_numberOf h2) lwX5_numberOf lkX5_185 stX5_numberOf (by decide) rfl (Nat.le_of_ble_eq_true rfl) dX5_nameOf_8 ?_
  refine j_iadd E dX5_nameOf_11 ?_
  cases h
  exact j_iret E dX5_nameOf_12
def mX2_tell (f : jM) (v0 : Nat) (v1 : Int32) (v2 : Int32) : Option (Int32 × jM) :=
    if v2 = 0 then (
    (rdR 2 f v0 1).bind fun x11 =>
    (ldI 0 f x11 v1).bind fun x12 =>
    some (x12, f)) else (
    if v2 = (1 : Int32) then (
    (chk 2 f v0).bind fun _ =>
    (mX2_holdsObject f v0 v1).bind fun r4 =>
    if r4.1 = 0 then (
    (rdR 2 r4.2 v0 2).bind fun x6 =>
    (ldI 0 r4.2 x6 v1).bind fun x7 =>
    some (x7, r4.2)) else (
    (rdR 2 r4.2 v0 2).bind fun x8 =>
    (ldI 0 r4.2 x8 v1).bind fun x9 =>
    (mX5_nameOf r4.2 x9).bind fun r10 =>
    some (r10.1, r10.2))) else (
    some ((-1 : Int32), f)))
set_option maxRecDepth 100000 in
set_option maxHeartbeats 4000000 in
theorem sX2_tell {l : Launch} {D : jD} {sz : Nat} {f : jM} {v0 : Nat} {v1 : Int32} {v2 : Int32} {res : (Int32 × jM)} (h : mX2_tell f v0 v1 v2 = some res) : jCt l D yX2_tell cX2_tell 3 (some .int) 2 40 [.ref v0, .int v1, .int v2] f sz 0 0 (some (.int res.1)) res.2 sz := by
  refine j_start (by decide +kernel) (Nat.le_of_ble_eq_true rfl) (fun c hcl hcD hcn E => ?_)
  subst hcl
  subst hcD
  replace E : jOk c cX2_tell 3 RX2 (some .int) 2 40 := E
  show J c (jZ c (some (.int res.1)) res.2 sz) f sz 0 0 0 [(0, .ref v0), (1, .int v1), (2, .int v2)] []
  unfold mX2_tell at h
  refine j_iload_n E 2 dX2_tell_0 rfl rfl ?_
  refine j_if_ne (tgt := 11) E dX2_tell_1 (by decide) (fun hc1 => ?_) (fun hc1 => ?_)
  · replace h := jf hc1 h
    refine j_iload_n E 2 dX2_tell_11 rfl rfl ?_
    refine j_iconst (v := (1 : Int32)) E dX2_tell_12 (by decide) ?_
    refine j_icmp_ne (tgt := 43) E dX2_tell_13 (by decide) (fun hc2 => ?_) (fun hc2 => ?_)
    · replace h := jf hc2 h
      refine j_iconst (v := (-1 : Int32)) E dX2_tell_43 (by decide) ?_
      cases h
      exact j_iret E dX2_tell_44
    replace h := jt hc2 h
    refine j_aload_n E 0 dX2_tell_16 rfl rfl ?_
    refine j_iload_n E 1 dX2_tell_17 rfl rfl ?_
    obtain ⟨u3, h3, h⟩ := jb h
    obtain ⟨fs3, h3⟩ := chk_spec h3
    obtain ⟨r4, h4, h⟩ := jb h
    refine j_callV (As := [.int v1]) (b := v0) (rest := []) (rc := 0) (rs := 0) E (sX2_holdsObject h4) lwX2_holdsObject lkX2_56 imX2_holdsObject seX2_holdsObject rfl h3 (by decide) rfl (Nat.le_of_ble_eq_true rfl) dX2_tell_18 ?_
    refine j_if_eq (tgt := 36) E dX2_tell_21 (by decide) (fun hc5 => ?_) (fun hc5 => ?_)
    · replace h := jt hc5 h
      refine j_aload_n E 0 dX2_tell_36 rfl rfl ?_
      obtain ⟨x6, h6, h⟩ := jb h
      refine j_getR E gX2_15 h6 dX2_tell_37 ?_
      refine j_iload_n E 1 dX2_tell_40 rfl rfl ?_
      obtain ⟨x7, h7, h⟩ := jb h
      refine j_iald E h7 dX2_tell_41 ?_
      cases h
      exact j_iret E dX2_tell_42
    replace h := jf hc5 h
    refine j_aload_n E 0 dX2_tell_24 rfl rfl ?_
    obtain ⟨x8, h8, h⟩ := jb h
    refine j_getR E gX2_15 h8 dX2_tell_25 ?_
    refine j_iload_n E 1 dX2_tell_28 rfl rfl ?_
    obtain ⟨x9, h9, h⟩ := jb h
    refine j_iald E h9 dX2_tell_29 ?_
    obtain ⟨r10, h10, h⟩ := jb h
    refine j_callS (As := [.int x9]) (rest := []) (rc := 0) (rs := 0) E (sX5_nameOf h10) lwX5_nameOf lkX2_59 stX5_nameOf (by decide) rfl (Nat.le_of_ble_eq_true rfl) dX2_tell_30 ?_
    refine j_goto (tgt := 42) E dX2_tell_33 (by decide) ?_
    cases h
    exact j_iret E dX2_tell_42
  replace h := jt hc1 h
  refine j_aload_n E 0 dX2_tell_4 rfl rfl ?_
  obtain ⟨x11, h11, h⟩ := jb h
  refine j_getR E gX2_9 h11 dX2_tell_5 ?_
  refine j_iload_n E 1 dX2_tell_8 rfl rfl ?_
  obtain ⟨x12, h12, h⟩ := jb h
  refine j_iald E h12 dX2_tell_9 ?_
  cases h
  exact j_iret E dX2_tell_10
def mX2_emptyFields_L2 (fu : Nat)  (v0 : Nat) (v1 : Int32) : Nat → Int32 → jM → Option jM
  | 0, _, _ => none
  | n + 1, v2, f =>
    (rdR 2 f v0 3).bind fun x1 =>
    (ldI 0 f x1 v1).bind fun x2 =>
    if x2 ≤ v2 then (
    some f) else (
    (mX5_fieldSlot f v1 v2).bind fun r4 =>
    (chk 2 r4.2 v0).bind fun _ =>
    (mX2_empty r4.2 v0 r4.1).bind fun f6 =>
    mX2_emptyFields_L2 fu v0 v1 n (v2 + (1 : Int32)) f6)
set_option maxRecDepth 100000 in
set_option maxHeartbeats 4000000 in
theorem wX2_emptyFields_L2 {c : jS} {sz : Nat} {fu : Nat}  {v0 : Nat} {v1 : Int32} {res : jM} (E : jOk c cX2_emptyFields 3 RX2 none 2 44)  : ∀ (n : Nat) (v2 : Int32) (f : jM), mX2_emptyFields_L2 fu  v0 v1 n v2 f = some res → J c (jZ c none res sz) f sz 0 0 2 [(0, .ref v0), (1, .int v1), (2, .int v2)] [] := by
  intro n
  induction n with
  | zero => intro v2 f h; exact jn0 h
  | succ n ih =>
    intro v2 f h
    rw [mX2_emptyFields_L2] at h
    refine j_iload_n E 2 dX2_emptyFields_2 rfl rfl ?_
    refine j_aload_n E 0 dX2_emptyFields_3 rfl rfl ?_
    obtain ⟨x1, h1, h⟩ := jb h
    refine j_getR E gX2_18 h1 dX2_emptyFields_4 ?_
    refine j_iload_n E 1 dX2_emptyFields_7 rfl rfl ?_
    obtain ⟨x2, h2, h⟩ := jb h
    refine j_iald E h2 dX2_emptyFields_8 ?_
    refine j_icmp_ge (tgt := 27) E dX2_emptyFields_9 (by decide) (fun hc3 => ?_) (fun hc3 => ?_)
    · replace h := jt hc3 h
      cases h
      exact j_vret E dX2_emptyFields_27
    replace h := jf hc3 h
    refine j_aload_n E 0 dX2_emptyFields_12 rfl rfl ?_
    refine j_iload_n E 1 dX2_emptyFields_13 rfl rfl ?_
    refine j_iload_n E 2 dX2_emptyFields_14 rfl rfl ?_
    obtain ⟨r4, h4, h⟩ := jb h
    refine j_callS (As := [.int v1, .int v2]) (rest := [.ref v0]) (rc := 0) (rs := 0) E (sX5_fieldSlot h4) lwX5_fieldSlot lkX2_63 stX5_fieldSlot (by decide) rfl (Nat.le_of_ble_eq_true rfl) dX2_emptyFields_15 ?_
    obtain ⟨u5, h5, h⟩ := jb h
    obtain ⟨fs5, h5⟩ := chk_spec h5
    obtain ⟨f6, h6, h⟩ := jb h
    refine j_callV (As := [.int r4.1]) (b := v0) (rest := []) (rc := 0) (rs := 0) E (sX2_empty h6) lwX2_empty lkX2_67 imX2_empty seX2_empty rfl h5 (by decide) rfl (Nat.le_of_ble_eq_true rfl) dX2_emptyFields_18 ?_
    refine j_iinc (v := (v2 + (1 : Int32))) (lv' := [(2, .int (v2 + (1 : Int32))), (0, .ref v0), (1, .int v1)]) E 2 dX2_emptyFields_21 rfl rfl (by decide) rfl ?_
    refine j_goto (tgt := 2) E dX2_emptyFields_24 (by decide) ?_
    exact j_sub [1, 2, 0] rfl (ih _ _ h)
def mX2_emptyFields (fu : Nat) (f : jM) (v0 : Nat) (v1 : Int32) : Option jM :=
    mX2_emptyFields_L2 fu v0 v1 fu (0 : Int32) f
set_option maxRecDepth 100000 in
set_option maxHeartbeats 4000000 in
theorem sX2_emptyFields {l : Launch} {D : jD} {sz : Nat} {fu : Nat} {f : jM} {v0 : Nat} {v1 : Int32} {res : jM} (h : mX2_emptyFields fu f v0 v1 = some res) : jCt l D yX2_emptyFields cX2_emptyFields 3 none 2 44 [.ref v0, .int v1] f sz 0 0 none res sz := by
  refine j_start (by decide +kernel) (Nat.le_of_ble_eq_true rfl) (fun c hcl hcD hcn E => ?_)
  subst hcl
  subst hcD
  replace E : jOk c cX2_emptyFields 3 RX2 none 2 44 := E
  show J c (jZ c none res sz) f sz 0 0 0 [(0, .ref v0), (1, .int v1)] []
  unfold mX2_emptyFields at h
  refine j_iconst (v := (0 : Int32)) E dX2_emptyFields_0 (by decide) ?_
  refine j_istore_n (lv' := [(2, .int (0 : Int32)), (0, .ref v0), (1, .int v1)]) E dX2_emptyFields_1 rfl (by decide) rfl ?_
  exact j_sub [1, 2, 0] rfl (wX2_emptyFields_L2 E _ _ _ h)
def mX5_isId (f : jM) (v0 : Int32) : Option (Int32 × jM) :=
    if v0 < 0 then (
    some ((0 : Int32), f)) else (
    if (120 : Int32) ≤ v0 then (
    some ((0 : Int32), f)) else (
    some ((1 : Int32), f)))
set_option maxRecDepth 100000 in
set_option maxHeartbeats 4000000 in
theorem sX5_isId {l : Launch} {D : jD} {sz : Nat} {f : jM} {v0 : Int32} {res : (Int32 × jM)} (h : mX5_isId f v0 = some res) : jCt l D yX5_isId cX5_isId 1 (some .boolean) 0 0 [.int v0] f sz 0 0 (some (.int res.1)) res.2 sz := by
  refine j_start (by decide +kernel) (Nat.le_of_ble_eq_true rfl) (fun c hcl hcD hcn E => ?_)
  subst hcl
  subst hcD
  replace E : jOk c cX5_isId 1 RX5 (some .boolean) 0 0 := E
  show J c (jZ c (some (.int res.1)) res.2 sz) f sz 0 0 0 [(0, .int v0)] []
  unfold mX5_isId at h
  refine j_iload_n E 0 dX5_isId_0 rfl rfl ?_
  refine j_if_lt (tgt := 14) E dX5_isId_1 (by decide) (fun hc1 => ?_) (fun hc1 => ?_)
  · replace h := jt hc1 h
    refine j_iconst (v := (0 : Int32)) E dX5_isId_14 (by decide) ?_
    cases h
    exact j_zret (v := (0 : Int32)) E (by decide +kernel) dX5_isId_15
  replace h := jf hc1 h
  refine j_iload_n E 0 dX5_isId_4 rfl rfl ?_
  refine j_bipush (v := (120 : Int32)) E dX5_isId_5 (by decide) ?_
  refine j_icmp_ge (tgt := 14) E dX5_isId_7 (by decide) (fun hc2 => ?_) (fun hc2 => ?_)
  · replace h := jt hc2 h
    refine j_iconst (v := (0 : Int32)) E dX5_isId_14 (by decide) ?_
    cases h
    exact j_zret (v := (0 : Int32)) E (by decide +kernel) dX5_isId_15
  replace h := jf hc2 h
  refine j_iconst (v := (1 : Int32)) E dX5_isId_10 (by decide) ?_
  refine j_goto (tgt := 15) E dX5_isId_11 (by decide) ?_
  cases h
  exact j_zret (v := (1 : Int32)) E (by decide +kernel) dX5_isId_15
