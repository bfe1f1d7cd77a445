def mX4_markUncovered_L19 (fu : Nat) (k10 : Int32 → jM → Option (Int32 × jM)) (v0 : Nat) (v1 : Nat) (v2 : Int32) (v3 : Int32) : Nat → Int32 → jM → Option (Int32 × jM)
  | 0, _, _ => none
  | n + 1, v4, f =>
    if (24 : Int32) ≤ v4 then (
    k10 (v3 + (1 : Int32)) f) else (
    (mX5_idOf f v3 v4).bind fun r7 =>
    (ldR 2 r7.2 v1 v3).bind fun x8 =>
    (rdR 2 r7.2 x8 5).bind fun x9 =>
    (ldI 0 r7.2 x9 v4).bind fun x10 =>
    (rdR 4 r7.2 v0 0).bind fun x11 =>
    (chk 1 r7.2 x11).bind fun _ =>
    (mX1_has r7.2 x11 r7.1).bind fun r13 =>
    if r13.1 = 0 then (
    mX4_markUncovered_L19 fu k10 v0 v1 v2 v3 n (v4 + (1 : Int32)) r13.2) else (
    if x10 ≤ 0 then (
    mX4_markUncovered_L19 fu k10 v0 v1 v2 v3 n (v4 + (1 : Int32)) r13.2) else (
    (rdR 4 r13.2 v0 3).bind fun x16 =>
    (ldI 0 r13.2 x16 r7.1).bind fun x17 =>
    if x10 = x17 then (
    mX4_markUncovered_L19 fu k10 v0 v1 v2 v3 n (v4 + (1 : Int32)) r13.2) else (
    (rdR 4 r13.2 v0 1).bind fun x19 =>
    (chk 1 r13.2 x19).bind fun _ =>
    (mX1_add r13.2 x19 r7.1).bind fun f21 =>
    mX4_markUncovered_L19 fu k10 v0 v1 v2 v3 n (v4 + (1 : Int32)) f21))))
set_option maxRecDepth 100000 in
set_option maxHeartbeats 4000000 in
theorem wX4_markUncovered_L19 {c : jS} {sz : Nat} {fu : Nat} {k10 : Int32 → jM → Option (Int32 × jM)} {v0 : Nat} {v1 : Nat} {v2 : Int32} {v3 : Int32} {res : (Int32 × jM)} (E : jOk c cX4_markUncovered 7 RX4 (some .boolean) 1 21) (hk10 : ∀ (v3 : Int32) (f : jM), k10 v3 f = some res → J c (jZ c (some (.int res.1)) res.2 sz) f sz 0 0 10 [(0, .ref v0), (1, .ref v1), (2, .int v2), (3, .int v3)] []) : ∀ (n : Nat) (v4 : Int32) (f : jM), mX4_markUncovered_L19 fu k10 v0 v1 v2 v3 n v4 f = some res → J c (jZ c (some (.int res.1)) res.2 sz) f sz 0 0 19 [(0, .ref v0), (1, .ref v1), (2, .int v2), (3, .int v3), (4, .int v4)] [] := by
  intro n
  induction n with
  | zero => intro v4 f h; exact jn0 h
  | succ n ih =>
    intro v4 f h
    rw [mX4_markUncovered_L19] at h
    refine j_iload E 4 dX4_markUncovered_19 rfl ?_
    refine j_bipush (v := (24 : Int32)) E dX4_markUncovered_21 (by decide) ?_
    refine j_icmp_ge (tgt := 89) E dX4_markUncovered_23 (by decide) (fun hc6 => ?_) (fun hc6 => ?_)
    · replace h := jt hc6 h
      refine j_iinc (v := (v3 + (1 : Int32))) (lv' := [(3, .int (v3 + (1 : Int32))), (0, .ref v0), (1, .ref v1), (2, .int v2), (4, .int v4)]) E 3 dX4_markUncovered_89 rfl rfl (by decide) rfl ?_
      refine j_goto (tgt := 10) E dX4_markUncovered_92 (by decide) ?_
      exact j_sub [1, 2, 3, 0] rfl (hk10 _ _ h)
    replace h := jf hc6 h
    refine j_iload_n E 3 dX4_markUncovered_26 rfl rfl ?_
    refine j_iload E 4 dX4_markUncovered_27 rfl ?_
    obtain ⟨r7, h7, h⟩ := jb h
    refine j_callS (As := [.int v3, .int v4]) (rest := []) (rc := 0) (rs := 0) E (sX5_idOf h7) lwX5_idOf lkX4_82 stX5_idOf (by decide) rfl (Nat.le_of_ble_eq_true rfl) dX4_markUncovered_29 ?_
    refine j_istore (lv' := [(5, .int r7.1), (0, .ref v0), (1, .ref v1), (2, .int v2), (3, .int v3), (4, .int v4)]) E dX4_markUncovered_32 (by decide) rfl ?_
    refine j_aload_n E 2 dX4_markUncovered_34 rfl rfl ?_
    refine j_iload_n E 4 dX4_markUncovered_35 rfl rfl ?_
    obtain ⟨x8, h8, h⟩ := jb h
    refine j_aald E rfl h8 dX4_markUncovered_36 ?_
    obtain ⟨x9, h9, h⟩ := jb h
    refine j_getR E gX4_98 h9 dX4_markUncovered_37 ?_
    refine j_iload E 5 dX4_markUncovered_40 rfl ?_
    obtain ⟨x10, h10, h⟩ := jb h
    refine j_iald E h10 dX4_markUncovered_42 ?_
    refine j_istore (lv' := [(6, .int x10), (5, .int r7.1), (0, .ref v0), (1, .ref v1), (2, .int v2), (3, .int v3), (4, .int v4)]) E dX4_markUncovered_43 (by decide) rfl ?_
    refine j_aload_n E 2 dX4_markUncovered_45 rfl rfl ?_
    obtain ⟨x11, h11, h⟩ := jb h
    refine j_getR E gX4_12 h11 dX4_markUncovered_46 ?_
    refine j_iload E 1 dX4_markUncovered_49 rfl ?_
    obtain ⟨u12, h12, h⟩ := jb h
    obtain ⟨fs12, h12⟩ := chk_spec h12
    obtain ⟨r13, h13, h⟩ := jb h
    refine j_callV (As := [.int r7.1]) (b := x11) (rest := []) (rc := 0) (rs := 0) E (sX1_has h13) lwX1_has lkX4_43 imX1_has seX1_has rfl h12 (by decide) rfl (Nat.le_of_ble_eq_true rfl) dX4_markUncovered_51 ?_
    refine j_if_eq (tgt := 83) E dX4_markUncovered_54 (by decide) (fun hc14 => ?_) (fun hc14 => ?_)
    · replace h := jt hc14 h
      refine j_iinc (v := (v4 + (1 : Int32))) (lv' := [(4, .int (v4 + (1 : Int32))), (6, .int x10), (5, .int r7.1), (0, .ref v0), (1, .ref v1), (2, .int v2), (3, .int v3)]) E 6 dX4_markUncovered_83 rfl rfl (by decide) rfl ?_
      refine j_goto (tgt := 19) E dX4_markUncovered_86 (by decide) ?_
      exact j_sub [3, 4, 5, 6, 0] rfl (ih _ _ h)
    replace h := jf hc14 h
    refine j_iload E 0 dX4_markUncovered_57 rfl ?_
    refine j_if_le (tgt := 83) E dX4_markUncovered_59 (by decide) (fun hc15 => ?_) (fun hc15 => ?_)
    · replace h := jt hc15 h
      refine j_iinc (v := (v4 + (1 : Int32))) (lv' := [(4, .int (v4 + (1 : Int32))), (6, .int x10), (5, .int r7.1), (0, .ref v0), (1, .ref v1), (2, .int v2), (3, .int v3)]) E 6 dX4_markUncovered_83 rfl rfl (by decide) rfl ?_
      refine j_goto (tgt := 19) E dX4_markUncovered_86 (by decide) ?_
      exact j_sub [3, 4, 5, 6, 0] rfl (ih _ _ h)
    replace h := jf hc15 h
    refine j_iload E 0 dX4_markUncovered_62 rfl ?_
    refine j_aload_n E 2 dX4_markUncovered_64 rfl rfl ?_
    obtain ⟨x16, h16, h⟩ := jb h
    refine j_getR E gX4_25 h16 dX4_markUncovered_65 ?_
    refine j_iload E 1 dX4_markUncovered_68 rfl ?_
    obtain ⟨x17, h17, h⟩ := jb h
    refine j_iald E h17 dX4_markUncovered_70 ?_
    refine j_icmp_eq (tgt := 83) E dX4_markUncovered_71 (by decide) (fun hc18 => ?_) (fun hc18 => ?_)
    · replace h := jt hc18 h
      refine j_iinc (v := (v4 + (1 : Int32))) (lv' := [(4, .int (v4 + (1 : Int32))), (6, .int x10), (5, .int r7.1), (0, .ref v0), (1, .ref v1), (2, .int v2), (3, .int v3)]) E 6 dX4_markUncovered_83 rfl rfl (by decide) rfl ?_
      refine j_goto (tgt := 19) E dX4_markUncovered_86 (by decide) ?_
      exact j_sub [3, 4, 5, 6, 0] rfl (ih _ _ h)
    replace h := jf hc18 h
    refine j_aload_n E 2 dX4_markUncovered_74 rfl rfl ?_
    obtain ⟨x19, h19, h⟩ := jb h
    refine j_getR E gX4_18 h19 dX4_markUncovered_75 ?_
    refine j_iload E 1 dX4_markUncovered_78 rfl ?_
    obtain ⟨u20, h20, h⟩ := jb h
    obtain ⟨fs20, h20⟩ := chk_spec h20
    obtain ⟨f21, h21, h⟩ := jb h
    refine j_callV (As := [.int r7.1]) (b := x19) (rest := []) (rc := 0) (rs := 0) E (sX1_add h21) lwX1_add lkX4_31 imX1_add seX1_add rfl h20 (by decide) rfl (Nat.le_of_ble_eq_true rfl) dX4_markUncovered_80 ?_
    refine j_iinc (v := (v4 + (1 : Int32))) (lv' := [(4, .int (v4 + (1 : Int32))), (6, .int x10), (5, .int r7.1), (0, .ref v0), (1, .ref v1), (2, .int v2), (3, .int v3)]) E 6 dX4_markUncovered_83 rfl rfl (by decide) rfl ?_
    refine j_goto (tgt := 19) E dX4_markUncovered_86 (by decide) ?_
    exact j_sub [3, 4, 5, 6, 0] rfl (ih _ _ h)
def mX4_markUncovered_L10 (fu : Nat)  (v0 : Nat) (v1 : Nat) (v2 : Int32) : Nat → Int32 → jM → Option (Int32 × jM)
  | 0, _, _ => none
  | n + 1, v3, f =>
    (alen f v1).bind fun x1 =>
    if x1 ≤ v3 then (
    (rdR 4 f v0 1).bind fun x3 =>
    (rdI 1 f x3 2).bind fun x4 =>
    if x4 ≤ v2 then (
    some ((0 : Int32), f)) else (
    some ((1 : Int32), f))) else (
    mX4_markUncovered_L19 fu (mX4_markUncovered_L10 fu v0 v1 v2 n) v0 v1 v2 v3 fu (0 : Int32) f)
set_option maxRecDepth 100000 in
set_option maxHeartbeats 4000000 in
theorem wX4_markUncovered_L10 {c : jS} {sz : Nat} {fu : Nat}  {v0 : Nat} {v1 : Nat} {v2 : Int32} {res : (Int32 × jM)} (E : jOk c cX4_markUncovered 7 RX4 (some .boolean) 1 21)  : ∀ (n : Nat) (v3 : Int32) (f : jM), mX4_markUncovered_L10 fu  v0 v1 v2 n v3 f = some res → J c (jZ c (some (.int res.1)) res.2 sz) f sz 0 0 10 [(0, .ref v0), (1, .ref v1), (2, .int v2), (3, .int v3)] [] := by
  intro n
  induction n with
  | zero => intro v3 f h; exact jn0 h
  | succ n ih =>
    intro v3 f h
    rw [mX4_markUncovered_L10] at h
    refine j_iload_n E 3 dX4_markUncovered_10 rfl rfl ?_
    refine j_aload_n E 1 dX4_markUncovered_11 rfl rfl ?_
    obtain ⟨x1, h1, h⟩ := jb h
    refine j_alen E h1 dX4_markUncovered_12 ?_
    refine j_icmp_ge (tgt := 95) E dX4_markUncovered_13 (by decide) (fun hc2 => ?_) (fun hc2 => ?_)
    · replace h := jt hc2 h
      refine j_aload_n E 0 dX4_markUncovered_95 rfl rfl ?_
      obtain ⟨x3, h3, h⟩ := jb h
      refine j_getR E gX4_18 h3 dX4_markUncovered_96 ?_
      obtain ⟨x4, h4, h⟩ := jb h
      refine j_getI E gX4_61 h4 dX4_markUncovered_99 ?_
      refine j_iload_n E 2 dX4_markUncovered_102 rfl rfl ?_
      refine j_icmp_le (tgt := 110) E dX4_markUncovered_103 (by decide) (fun hc5 => ?_) (fun hc5 => ?_)
      · replace h := jt hc5 h
        refine j_iconst (v := (0 : Int32)) E dX4_markUncovered_110 (by decide) ?_
        cases h
        exact j_zret (v := (0 : Int32)) E (by decide +kernel) dX4_markUncovered_111
      replace h := jf hc5 h
      refine j_iconst (v := (1 : Int32)) E dX4_markUncovered_106 (by decide) ?_
      refine j_goto (tgt := 111) E dX4_markUncovered_107 (by decide) ?_
      cases h
      exact j_zret (v := (1 : Int32)) E (by decide +kernel) dX4_markUncovered_111
    replace h := jf hc2 h
    refine j_iconst (v := (0 : Int32)) E dX4_markUncovered_16 (by decide) ?_
    refine j_istore (lv' := [(4, .int (0 : Int32)), (0, .ref v0), (1, .ref v1), (2, .int v2), (3, .int v3)]) E dX4_markUncovered_17 (by decide) rfl ?_
    exact j_sub [1, 2, 3, 4, 0] rfl (wX4_markUncovered_L19 E ih _ _ _ h)
def mX4_markUncovered (fu : Nat) (f : jM) (v0 : Nat) (v1 : Nat) : Option (Int32 × jM) :=
    (rdR 4 f v0 1).bind fun x22 =>
    (rdI 1 f x22 2).bind fun x23 =>
    mX4_markUncovered_L10 fu v0 v1 x23 fu (0 : Int32) f
set_option maxRecDepth 100000 in
set_option maxHeartbeats 4000000 in
theorem sX4_markUncovered {l : Launch} {D : jD} {sz : Nat} {fu : Nat} {f : jM} {v0 : Nat} {v1 : Nat} {res : (Int32 × jM)} (h : mX4_markUncovered fu f v0 v1 = some res) : jCt l D yX4_markUncovered cX4_markUncovered 7 (some .boolean) 1 21 [.ref v0, .ref v1] f sz 0 0 (some (.int res.1)) res.2 sz := by
  refine j_start (by decide +kernel) (Nat.le_of_ble_eq_true rfl) (fun c hcl hcD hcn E => ?_)
  subst hcl
  subst hcD
  replace E : jOk c cX4_markUncovered 7 RX4 (some .boolean) 1 21 := E
  show J c (jZ c (some (.int res.1)) res.2 sz) f sz 0 0 0 [(0, .ref v0), (1, .ref v1)] []
  unfold mX4_markUncovered at h
  refine j_aload_n E 0 dX4_markUncovered_0 rfl rfl ?_
  obtain ⟨x22, h22, h⟩ := jb h
  refine j_getR E gX4_18 h22 dX4_markUncovered_1 ?_
  obtain ⟨x23, h23, h⟩ := jb h
  refine j_getI E gX4_61 h23 dX4_markUncovered_4 ?_
  refine j_istore_n (lv' := [(2, .int x23), (0, .ref v0), (1, .ref v1)]) E dX4_markUncovered_7 rfl (by decide) rfl ?_
  refine j_iconst (v := (0 : Int32)) E dX4_markUncovered_8 (by decide) ?_
  refine j_istore_n (lv' := [(3, .int (0 : Int32)), (2, .int x23), (0, .ref v0), (1, .ref v1)]) E dX4_markUncovered_9 rfl (by decide) rfl ?_
  exact j_sub [2, 3, 1, 0] rfl (wX4_markUncovered_L10 E _ _ _ h)
def mX4_findWithout_L30 (fu : Nat)  (v0 : Nat) (v1 : Nat) (v2 : Int32) : Nat → Int32 → jM → Option jM
  | 0, _, _ => none
  | n + 1, v3, f =>
    if (120 : Int32) < v3 then (
    some f) else (
    (rdR 4 f v0 1).bind fun x7 =>
    (chk 1 f x7).bind fun _ =>
    (mX1_has f x7 v2).bind fun r9 =>
    if r9.1 = 0 then (
    (rdR 4 r9.2 v0 1).bind fun x11 =>
    (chk 1 r9.2 x11).bind fun _ =>
    (mX1_spread fu r9.2 x11 v1).bind fun f13 =>
    (chk 4 f13 v0).bind fun _ =>
    (mX4_sumInnerWeights fu f13 v0 v1).bind fun f15 =>
    (chk 4 f15 v0).bind fun _ =>
    (mX4_markUncovered fu f15 v0 v1).bind fun r17 =>
    if r17.1 = 0 then (
    some r17.2) else (
    mX4_findWithout_L30 fu v0 v1 v2 n (v3 + (1 : Int32)) r17.2)) else (
    some r9.2))
set_option maxRecDepth 100000 in
set_option maxHeartbeats 4000000 in
theorem wX4_findWithout_L30 {c : jS} {sz : Nat} {fu : Nat}  {v0 : Nat} {v1 : Nat} {v2 : Int32} {res : jM} (E : jOk c cX4_findWithout 4 RX4 none 4 91)  : ∀ (n : Nat) (v3 : Int32) (f : jM), mX4_findWithout_L30 fu  v0 v1 v2 n v3 f = some res → J c (jZ c none res sz) f sz 0 0 30 [(0, .ref v0), (1, .ref v1), (2, .int v2), (3, .int v3)] [] := by
  intro n
  induction n with
  | zero => intro v3 f h; exact jn0 h
  | succ n ih =>
    intro v3 f h
    rw [mX4_findWithout_L30] at h
    refine j_iload_n E 3 dX4_findWithout_30 rfl rfl ?_
    refine j_bipush (v := (120 : Int32)) E dX4_findWithout_31 (by decide) ?_
    refine j_icmp_gt (tgt := 75) E dX4_findWithout_33 (by decide) (fun hc6 => ?_) (fun hc6 => ?_)
    · replace h := jt hc6 h
      cases h
      exact j_vret E dX4_findWithout_75
    replace h := jf hc6 h
    refine j_aload_n E 0 dX4_findWithout_36 rfl rfl ?_
    obtain ⟨x7, h7, h⟩ := jb h
    refine j_getR E gX4_18 h7 dX4_findWithout_37 ?_
    refine j_iload_n E 2 dX4_findWithout_40 rfl rfl ?_
    obtain ⟨u8, h8, h⟩ := jb h
    obtain ⟨fs8, h8⟩ := chk_spec h8
    obtain ⟨r9, h9, h⟩ := jb h
    refine j_callV (As := [.int v2]) (b := x7) (rest := []) (rc := 0) (rs := 0) E (sX1_has h9) lwX1_has lkX4_43 imX1_has seX1_has rfl h8 (by decide) rfl (Nat.le_of_ble_eq_true rfl) dX4_findWithout_41 ?_
    refine j_if_ne (tgt := 75) E dX4_findWithout_44 (by decide) (fun hc10 => ?_) (fun hc10 => ?_)
    · replace h := jf hc10 h
      cases h
      exact j_vret E dX4_findWithout_75
    replace h := jt hc10 h
    refine j_aload_n E 0 dX4_findWithout_47 rfl rfl ?_
    obtain ⟨x11, h11, h⟩ := jb h
    refine j_getR E gX4_18 h11 dX4_findWithout_48 ?_
    refine j_aload_n E 1 dX4_findWithout_51 rfl rfl ?_
    obtain ⟨u12, h12, h⟩ := jb h
    obtain ⟨fs12, h12⟩ := chk_spec h12
    obtain ⟨f13, h13, h⟩ := jb h
    refine j_callV (As := [.ref v1]) (b := x11) (rest := []) (rc := 0) (rs := 0) E (sX1_spread h13) lwX1_spread lkX4_35 imX1_spread seX1_spread rfl h12 (by decide) rfl (Nat.le_of_ble_eq_true rfl) dX4_findWithout_52 ?_
    refine j_aload_n E 0 dX4_findWithout_55 rfl rfl ?_
    refine j_aload_n E 1 dX4_findWithout_56 rfl rfl ?_
    obtain ⟨u14, h14, h⟩ := jb h
    obtain ⟨fs14, h14⟩ := chk_spec h14
    obtain ⟨f15, h15, h⟩ := jb h
    refine j_callV (As := [.ref v1]) (b := v0) (rest := []) (rc := 0) (rs := 0) E (sX4_sumInnerWeights h15) lwX4_sumInnerWeights lkX4_66 imX4_sumInnerWeights seX4_sumInnerWeights rfl h14 (by decide) rfl (Nat.le_of_ble_eq_true rfl) dX4_findWithout_57 ?_
    refine j_aload_n E 0 dX4_findWithout_60 rfl rfl ?_
    refine j_aload_n E 1 dX4_findWithout_61 rfl rfl ?_
    obtain ⟨u16, h16, h⟩ := jb h
    obtain ⟨fs16, h16⟩ := chk_spec h16
    obtain ⟨r17, h17, h⟩ := jb h
    refine j_callV (As := [.ref v1]) (b := v0) (rest := []) (rc := 0) (rs := 0) E (sX4_markUncovered h17) lwX4_markUncovered lkX4_69 imX4_markUncovered seX4_markUncovered rfl h16 (by decide) rfl (Nat.le_of_ble_eq_true rfl) dX4_findWithout_62 ?_
    refine j_if_ne (tgt := 69) E dX4_findWithout_65 (by decide) (fun hc18 => ?_) (fun hc18 => ?_)
    · replace h := jf hc18 h
      refine j_iinc (v := (v3 + (1 : Int32))) (lv' := [(3, .int (v3 + (1 : Int32))), (0, .ref v0), (1, .ref v1), (2, .int v2)]) E 3 dX4_findWithout_69 rfl rfl (by decide) rfl ?_
      refine j_goto (tgt := 30) E dX4_findWithout_72 (by decide) ?_
      exact j_sub [1, 2, 3, 0] rfl (ih _ _ h)
    replace h := jt hc18 h
    cases h
    exact j_vret E dX4_findWithout_68
def mX4_findWithout_L9 (fu : Nat)  (v0 : Nat) (v1 : Nat) (v2 : Int32) : Nat → Int32 → jM → Option jM
  | 0, _, _ => none
  | n + 1, v3, f =>
    (alen f v1).bind fun x1 =>
    if x1 ≤ v3 then (
    mX4_findWithout_L30 fu v0 v1 v2 fu (0 : Int32) f) else (
    (ldR 2 f v1 v3).bind fun x3 =>
    (chk 4 f v0).bind fun _ =>
    (mX4_markHeldFromOutside fu f v0 x3).bind fun f5 =>
    mX4_findWithout_L9 fu v0 v1 v2 n (v3 + (1 : Int32)) f5)
set_option maxRecDepth 100000 in
set_option maxHeartbeats 4000000 in
theorem wX4_findWithout_L9 {c : jS} {sz : Nat} {fu : Nat}  {v0 : Nat} {v1 : Nat} {v2 : Int32} {res : jM} (E : jOk c cX4_findWithout 4 RX4 none 4 91)  : ∀ (n : Nat) (v3 : Int32) (f : jM), mX4_findWithout_L9 fu  v0 v1 v2 n v3 f = some res → J c (jZ c none res sz) f sz 0 0 9 [(0, .ref v0), (1, .ref v1), (2, .int v2), (3, .int v3)] [] := by
  intro n
  induction n with
  | zero => intro v3 f h; exact jn0 h
  | succ n ih =>
    intro v3 f h
    rw [mX4_findWithout_L9] at h
    refine j_iload_n E 3 dX4_findWithout_9 rfl rfl ?_
    refine j_aload_n E 1 dX4_findWithout_10 rfl rfl ?_
    obtain ⟨x1, h1, h⟩ := jb h
    refine j_alen E h1 dX4_findWithout_11 ?_
    refine j_icmp_ge (tgt := 28) E dX4_findWithout_12 (by decide) (fun hc2 => ?_) (fun hc2 => ?_)
    · replace h := jt hc2 h
      refine j_iconst (v := (0 : Int32)) E dX4_findWithout_28 (by decide) ?_
      refine j_istore_n (lv' := [(3, .int (0 : Int32)), (0, .ref v0), (1, .ref v1), (2, .int v2)]) E dX4_findWithout_29 rfl (by decide) rfl ?_
      exact j_sub [1, 2, 3, 0] rfl (wX4_findWithout_L30 E _ _ _ h)
    replace h := jf hc2 h
    refine j_aload_n E 0 dX4_findWithout_15 rfl rfl ?_
    refine j_aload_n E 1 dX4_findWithout_16 rfl rfl ?_
    refine j_iload_n E 3 dX4_findWithout_17 rfl rfl ?_
    obtain ⟨x3, h3, h⟩ := jb h
    refine j_aald E rfl h3 dX4_findWithout_18 ?_
    obtain ⟨u4, h4, h⟩ := jb h
    obtain ⟨fs4, h4⟩ := chk_spec h4
    obtain ⟨f5, h5, h⟩ := jb h
    refine j_callV (As := [.ref x3]) (b := v0) (rest := []) (rc := 0) (rs := 0) E (sX4_markHeldFromOutside h5) lwX4_markHeldFromOutside lkX4_62 imX4_markHeldFromOutside seX4_markHeldFromOutside rfl h4 (by decide) rfl (Nat.le_of_ble_eq_true rfl) dX4_findWithout_19 ?_
    refine j_iinc (v := (v3 + (1 : Int32))) (lv' := [(3, .int (v3 + (1 : Int32))), (0, .ref v0), (1, .ref v1), (2, .int v2)]) E 3 dX4_findWithout_22 rfl rfl (by decide) rfl ?_
    refine j_goto (tgt := 9) E dX4_findWithout_25 (by decide) ?_
    exact j_sub [1, 2, 3, 0] rfl (ih _ _ h)
def mX4_findWithout (fu : Nat) (f : jM) (v0 : Nat) (v1 : Nat) (v2 : Int32) : Option jM :=
    (rdR 4 f v0 1).bind fun x19 =>
    (chk 1 f x19).bind fun _ =>
    (mX1_clear fu f x19).bind fun f21 =>
    mX4_findWithout_L9 fu v0 v1 v2 fu (0 : Int32) f21
set_option maxRecDepth 100000 in
set_option maxHeartbeats 4000000 in
theorem sX4_findWithout {l : Launch} {D : jD} {sz : Nat} {fu : Nat} {f : jM} {v0 : Nat} {v1 : Nat} {v2 : Int32} {res : jM} (h : mX4_findWithout fu f v0 v1 v2 = some res) : jCt l D yX4_findWithout cX4_findWithout 4 none 4 91 [.ref v0, .ref v1, .int v2] f sz 0 0 none res sz := by
  refine j_start (by decide +kernel) (Nat.le_of_ble_eq_true rfl) (fun c hcl hcD hcn E => ?_)
  subst hcl
  subst hcD
  replace E : jOk c cX4_findWithout 4 RX4 none 4 91 := E
  show J c (jZ c none res sz) f sz 0 0 0 [(0, .ref v0), (1, .ref v1), (2, .int v2)] []
  unfold mX4_findWithout at h
  refine j_aload_n E 0 dX4_findWithout_0 rfl rfl ?_
  obtain ⟨x19, h19, h⟩ := jb h
  refine j_getR E gX4_18 h19 dX4_findWithout_1 ?_
  obtain ⟨u20, h20, h⟩ := jb h
  obtain ⟨fs20, h20⟩ := chk_spec h20
  obtain ⟨f21, h21, h⟩ := jb h
  refine j_callV (As := []) (b := x19) (rest := []) (rc := 0) (rs := 0) E (sX1_clear h21) lwX1_clear lkX4_28 imX1_clear seX1_clear rfl h20 (by decide) rfl (Nat.le_of_ble_eq_true rfl) dX4_findWithout_4 ?_
  refine j_iconst (v := (0 : Int32)) E dX4_findWithout_7 (by decide) ?_
  refine j_istore_n (lv' := [(3, .int (0 : Int32)), (0, .ref v0), (1, .ref v1), (2, .int v2)]) E dX4_findWithout_8 rfl (by decide) rfl ?_
  exact j_sub [1, 2, 3, 0] rfl (wX4_findWithout_L9 E _ _ _ h)
def mX4_countInner_L20 (fu : Nat) (k4 : Int32 → Int32 → jM → Option (Int32 × jM)) (v0 : Nat) (v1 : Nat) (v3 : Int32) : Nat → Int32 → Int32 → jM → Option (Int32 × jM)
  | 0, _, _, _ => none
  | n + 1, v2, v4, f =>
    if (120 : Int32) ≤ v4 then (
    k4 v2 (v3 + (1 : Int32)) f) else (
    (rdR 4 f v0 2).bind fun x7 =>
    (ldI 0 f x7 v4).bind fun x8 =>
    if x8 = (1 : Int32) then (
    mX4_countInner_L20 fu k4 v0 v1 v3 n (v2 + (1 : Int32)) (v4 + (1 : Int32)) f) else (
    mX4_countInner_L20 fu k4 v0 v1 v3 n v2 (v4 + (1 : Int32)) f))
set_option maxRecDepth 100000 in
set_option maxHeartbeats 4000000 in
theorem wX4_countInner_L20 {c : jS} {sz : Nat} {fu : Nat} {k4 : Int32 → Int32 → jM → Option (Int32 × jM)} {v0 : Nat} {v1 : Nat} {v3 : Int32} {res : (Int32 × jM)} (E : jOk c cX4_countInner 5 RX4 (some .int) 3 68) (hk4 : ∀ (v2 : Int32) (v3 : Int32) (f : jM), k4 v2 v3 f = some res → J c (jZ c (some (.int res.1)) res.2 sz) f sz 0 0 4 [(0, .ref v0), (1, .ref v1), (2, .int v2), (3, .int v3)] []) : ∀ (n : Nat) (v2 : Int32) (v4 : Int32) (f : jM), mX4_countInner_L20 fu k4 v0 v1 v3 n v2 v4 f = some res → J c (jZ c (some (.int res.1)) res.2 sz) f sz 0 0 20 [(0, .ref v0), (1, .ref v1), (2, .int v2), (3, .int v3), (4, .int v4)] [] := by
  intro n
  induction n with
  | zero => intro v2 v4 f h; exact jn0 h
  | succ n ih =>
    intro v2 v4 f h
    rw [mX4_countInner_L20] at h
    refine j_iload E 4 dX4_countInner_20 rfl ?_
    refine j_bipush (v := (120 : Int32)) E dX4_countInner_22 (by decide) ?_
    refine j_icmp_ge (tgt := 47) E dX4_countInner_24 (by decide) (fun hc6 => ?_) (fun hc6 => ?_)
    · replace h := jt hc6 h
      refine j_iinc (v := (v3 + (1 : Int32))) (lv' := [(3, .int (v3 + (1 : Int32))), (0, .ref v0), (1, .ref v1), (2, .int v2), (4, .int v4)]) E 3 dX4_countInner_47 rfl rfl (by decide) rfl ?_
      refine j_goto (tgt := 4) E dX4_countInner_50 (by decide) ?_
      exact j_sub [1, 2, 3, 0] rfl (hk4 _ _ _ h)
    replace h := jf hc6 h
    refine j_aload_n E 0 dX4_countInner_27 rfl rfl ?_
    obtain ⟨x7, h7, h⟩ := jb h
    refine j_getR E gX4_21 h7 dX4_countInner_28 ?_
    refine j_iload E 4 dX4_countInner_31 rfl ?_
    obtain ⟨x8, h8, h⟩ := jb h
    refine j_iald E h8 dX4_countInner_33 ?_
    refine j_iconst (v := (1 : Int32)) E dX4_countInner_34 (by decide) ?_
    refine j_icmp_ne (tgt := 41) E dX4_countInner_35 (by decide) (fun hc9 => ?_) (fun hc9 => ?_)
    · replace h := jf hc9 h
      refine j_iinc (v := (v4 + (1 : Int32))) (lv' := [(4, .int (v4 + (1 : Int32))), (0, .ref v0), (1, .ref v1), (2, .int v2), (3, .int v3)]) E 4 dX4_countInner_41 rfl rfl (by decide) rfl ?_
      refine j_goto (tgt := 20) E dX4_countInner_44 (by decide) ?_
      exact j_sub [1, 2, 3, 4, 0] rfl (ih _ _ _ h)
    replace h := jt hc9 h
    refine j_iinc (v := (v2 + (1 : Int32))) (lv' := [(2, .int (v2 + (1 : Int32))), (0, .ref v0), (1, .ref v1), (3, .int v3), (4, .int v4)]) E 2 dX4_countInner_38 rfl rfl (by decide) rfl ?_
    refine j_iinc (v := (v4 + (1 : Int32))) (lv' := [(4, .int (v4 + (1 : Int32))), (2, .int (v2 + (1 : Int32))), (0, .ref v0), (1, .ref v1), (3, .int v3)]) E 4 dX4_countInner_41 rfl rfl (by decide) rfl ?_
    refine j_goto (tgt := 20) E dX4_countInner_44 (by decide) ?_
    exact j_sub [2, 3, 1, 4, 0] rfl (ih _ _ _ h)
def mX4_countInner_L4 (fu : Nat)  (v0 : Nat) (v1 : Nat) : Nat → Int32 → Int32 → jM → Option (Int32 × jM)
  | 0, _, _, _ => none
  | n + 1, v2, v3, f =>
    (alen f v1).bind fun x1 =>
    if x1 ≤ v3 then (
    some (v2, f)) else (
    (ldR 2 f v1 v3).bind fun x3 =>
    (chk 4 f v0).bind fun _ =>
    (mX4_findHolders fu f v0 x3).bind fun f5 =>
    mX4_countInner_L20 fu (mX4_countInner_L4 fu v0 v1 n) v0 v1 v3 fu v2 (0 : Int32) f5)
set_option maxRecDepth 100000 in
set_option maxHeartbeats 4000000 in
theorem wX4_countInner_L4 {c : jS} {sz : Nat} {fu : Nat}  {v0 : Nat} {v1 : Nat} {res : (Int32 × jM)} (E : jOk c cX4_countInner 5 RX4 (some .int) 3 68)  : ∀ (n : Nat) (v2 : Int32) (v3 : Int32) (f : jM), mX4_countInner_L4 fu  v0 v1 n v2 v3 f = some res → J c (jZ c (some (.int res.1)) res.2 sz) f sz 0 0 4 [(0, .ref v0), (1, .ref v1), (2, .int v2), (3, .int v3)] [] := by
  intro n
  induction n with
  | zero => intro v2 v3 f h; exact jn0 h
  | succ n ih =>
    intro v2 v3 f h
    rw [mX4_countInner_L4] at h
    refine j_iload_n E 3 dX4_countInner_4 rfl rfl ?_
    refine j_aload_n E 1 dX4_countInner_5 rfl rfl ?_
    obtain ⟨x1, h1, h⟩ := jb h
    refine j_alen E h1 dX4_countInner_6 ?_
    refine j_icmp_ge (tgt := 53) E dX4_countInner_7 (by decide) (fun hc2 => ?_) (fun hc2 => ?_)
    · replace h := jt hc2 h
      refine j_iload_n E 2 dX4_countInner_53 rfl rfl ?_
      cases h
      exact j_iret E dX4_countInner_54
    replace h := jf hc2 h
    refine j_aload_n E 0 dX4_countInner_10 rfl rfl ?_
    refine j_aload_n E 1 dX4_countInner_11 rfl rfl ?_
    refine j_iload_n E 3 dX4_countInner_12 rfl rfl ?_
    obtain ⟨x3, h3, h⟩ := jb h
    refine j_aald E rfl h3 dX4_countInner_13 ?_
    obtain ⟨u4, h4, h⟩ := jb h
    obtain ⟨fs4, h4⟩ := chk_spec h4
    obtain ⟨f5, h5, h⟩ := jb h
    refine j_callV (As := [.ref x3]) (b := v0) (rest := []) (rc := 0) (rs := 0) E (sX4_findHolders h5) lwX4_findHolders lkX4_107 imX4_findHolders seX4_findHolders rfl h4 (by decide) rfl (Nat.le_of_ble_eq_true rfl) dX4_countInner_14 ?_
    refine j_iconst (v := (0 : Int32)) E dX4_countInner_17 (by decide) ?_
    refine j_istore (lv' := [(4, .int (0 : Int32)), (0, .ref v0), (1, .ref v1), (2, .int v2), (3, .int v3)]) E dX4_countInner_18 (by decide) rfl ?_
    exact j_sub [1, 2, 3, 4, 0] rfl (wX4_countInner_L20 E ih _ _ _ _ h)
def mX4_countInner (fu : Nat) (f : jM) (v0 : Nat) (v1 : Nat) : Option (Int32 × jM) :=
    mX4_countInner_L4 fu v0 v1 fu (0 : Int32) (0 : Int32) f
set_option maxRecDepth 100000 in
set_option maxHeartbeats 4000000 in
theorem sX4_countInner {l : Launch} {D : jD} {sz : Nat} {fu : Nat} {f : jM} {v0 : Nat} {v1 : Nat} {res : (Int32 × jM)} (h : mX4_countInner fu f v0 v1 = some res) : jCt l D yX4_countInner cX4_countInner 5 (some .int) 3 68 [.ref v0, .ref v1] f sz 0 0 (some (.int res.1)) res.2 sz := by
  refine j_start (by decide +kernel) (Nat.le_of_ble_eq_true rfl) (fun c hcl hcD hcn E => ?_)
  subst hcl
  subst hcD
  replace E : jOk c cX4_countInner 5 RX4 (some .int) 3 68 := E
  show J c (jZ c (some (.int res.1)) res.2 sz) f sz 0 0 0 [(0, .ref v0), (1, .ref v1)] []
  unfold mX4_countInner at h
  refine j_iconst (v := (0 : Int32)) E dX4_countInner_0 (by decide) ?_
  refine j_istore_n (lv' := [(2, .int (0 : Int32)), (0, .ref v0), (1, .ref v1)]) E dX4_countInner_1 rfl (by decide) rfl ?_
  refine j_iconst (v := (0 : Int32)) E dX4_countInner_2 (by decide) ?_
  refine j_istore_n (lv' := [(3, .int (0 : Int32)), (2, .int (0 : Int32)), (0, .ref v0), (1, .ref v1)]) E dX4_countInner_3 rfl (by decide) rfl ?_
  exact j_sub [2, 3, 1, 0] rfl (wX4_countInner_L4 E _ _ _ _ h)
def mX4_letGo_L37 (fu : Nat)  (v0 : Nat) (v1 : Nat) : Nat → Int32 → jM → Option jM
  | 0, _, _ => none
  | n + 1, v3, f =>
    if (24 : Int32) ≤ v3 then (
    some f) else (
    (chk 4 f v0).bind fun _ =>
    (mX4_isLetGo f v0 v1 v3).bind fun r9 =>
    if r9.1 = 0 then (
    mX4_letGo_L37 fu v0 v1 n (v3 + (1 : Int32)) r9.2) else (
    (chk 2 r9.2 v1).bind fun _ =>
    (mX2_emptyFields fu r9.2 v1 v3).bind fun f12 =>
    mX4_letGo_L37 fu v0 v1 n (v3 + (1 : Int32)) f12))
set_option maxRecDepth 100000 in
set_option maxHeartbeats 4000000 in
theorem wX4_letGo_L37 {c : jS} {sz : Nat} {fu : Nat}  {v0 : Nat} {v1 : Nat} {res : jM} (E : jOk c cX4_letGo 4 RX4 none 3 70)  : ∀ (n : Nat) (v3 : Int32) (f : jM), mX4_letGo_L37 fu  v0 v1 n v3 f = some res → J c (jZ c none res sz) f sz 0 0 37 [(0, .ref v0), (1, .ref v1), (3, .int v3)] [] := by
  intro n
  induction n with
  | zero => intro v3 f h; exact jn0 h
  | succ n ih =>
    intro v3 f h
    rw [mX4_letGo_L37] at h
    refine j_iload_n E 2 dX4_letGo_37 rfl rfl ?_
    refine j_bipush (v := (24 : Int32)) E dX4_letGo_38 (by decide) ?_
    refine j_icmp_ge (tgt := 63) E dX4_letGo_40 (by decide) (fun hc7 => ?_) (fun hc7 => ?_)
    · replace h := jt hc7 h
      cases h
      exact j_vret E dX4_letGo_63
    replace h := jf hc7 h
    refine j_aload_n E 0 dX4_letGo_43 rfl rfl ?_
    refine j_aload_n E 1 dX4_letGo_44 rfl rfl ?_
    refine j_iload_n E 2 dX4_letGo_45 rfl rfl ?_
    obtain ⟨u8, h8, h⟩ := jb h
    obtain ⟨fs8, h8⟩ := chk_spec h8
    obtain ⟨r9, h9, h⟩ := jb h
    refine j_callV (As := [.ref v1, .int v3]) (b := v0) (rest := []) (rc := 0) (rs := 0) E (sX4_isLetGo h9) lwX4_isLetGo lkX4_117 imX4_isLetGo seX4_isLetGo rfl h8 (by decide) rfl (Nat.le_of_ble_eq_true rfl) dX4_letGo_46 ?_
    refine j_if_eq (tgt := 57) E dX4_letGo_49 (by decide) (fun hc10 => ?_) (fun hc10 => ?_)
    · replace h := jt hc10 h
      refine j_iinc (v := (v3 + (1 : Int32))) (lv' := [(3, .int (v3 + (1 : Int32))), (0, .ref v0), (1, .ref v1)]) E 2 dX4_letGo_57 rfl rfl (by decide) rfl ?_
      refine j_goto (tgt := 37) E dX4_letGo_60 (by decide) ?_
      exact j_sub [1, 2, 0] rfl (ih _ _ h)
    replace h := jf hc10 h
    refine j_aload_n E 1 dX4_letGo_52 rfl rfl ?_
    refine j_iload_n E 2 dX4_letGo_53 rfl rfl ?_
    obtain ⟨u11, h11, h⟩ := jb h
    obtain ⟨fs11, h11⟩ := chk_spec h11
    obtain ⟨f12, h12, h⟩ := jb h
    refine j_callV (As := [.int v3]) (b := v1) (rest := []) (rc := 0) (rs := 0) E (sX2_emptyFields h12) lwX2_emptyFields lkX4_133 imX2_emptyFields seX2_emptyFields rfl h11 (by decide) rfl (Nat.le_of_ble_eq_true rfl) dX4_letGo_54 ?_
    refine j_iinc (v := (v3 + (1 : Int32))) (lv' := [(3, .int (v3 + (1 : Int32))), (0, .ref v0), (1, .ref v1)]) E 2 dX4_letGo_57 rfl rfl (by decide) rfl ?_
    refine j_goto (tgt := 37) E dX4_letGo_60 (by decide) ?_
    exact j_sub [1, 2, 0] rfl (ih _ _ h)
def mX4_letGo_L7 (fu : Nat)  (v0 : Nat) (v1 : Nat) (v2 : Nat) : Nat → Int32 → jM → Option jM
  | 0, _, _ => none
  | n + 1, v3, f =>
    if (120 : Int32) ≤ v3 then (
    mX4_letGo_L37 fu v0 v1 fu (0 : Int32) f) else (
    (rdR 4 f v0 2).bind fun x2 =>
    (ldI 0 f x2 v3).bind fun x3 =>
    if x3 = (1 : Int32) then (
    (chk 2 f v1).bind fun _ =>
    (mX2_giveBack f v1 v3 v2).bind fun f6 =>
    mX4_letGo_L7 fu v0 v1 v2 n (v3 + (1 : Int32)) f6) else (
    mX4_letGo_L7 fu v0 v1 v2 n (v3 + (1 : Int32)) f))
set_option maxRecDepth 100000 in
set_option maxHeartbeats 4000000 in
theorem wX4_letGo_L7 {c : jS} {sz : Nat} {fu : Nat}  {v0 : Nat} {v1 : Nat} {v2 : Nat} {res : jM} (E : jOk c cX4_letGo 4 RX4 none 3 70)  : ∀ (n : Nat) (v3 : Int32) (f : jM), mX4_letGo_L7 fu  v0 v1 v2 n v3 f = some res → J c (jZ c none res sz) f sz 0 0 7 [(0, .ref v0), (1, .ref v1), (2, .ref v2), (3, .int v3)] [] := by
  intro n
  induction n with
  | zero => intro v3 f h; exact jn0 h
  | succ n ih =>
    intro v3 f h
    rw [mX4_letGo_L7] at h
    refine j_iload_n E 3 dX4_letGo_7 rfl rfl ?_
    refine j_bipush (v := (120 : Int32)) E dX4_letGo_8 (by decide) ?_
    refine j_icmp_ge (tgt := 35) E dX4_letGo_10 (by decide) (fun hc1 => ?_) (fun hc1 => ?_)
    · replace h := jt hc1 h
      refine j_iconst (v := (0 : Int32)) E dX4_letGo_35 (by decide) ?_
      refine j_istore_n (lv' := [(3, .int (0 : Int32)), (0, .ref v0), (1, .ref v1), (2, .ref v2)]) E dX4_letGo_36 rfl (by decide) rfl ?_
      exact j_sub [1, 2, 0] rfl (wX4_letGo_L37 E _ _ _ h)
    replace h := jf hc1 h
    refine j_aload_n E 0 dX4_letGo_13 rfl rfl ?_
    obtain ⟨x2, h2, h⟩ := jb h
    refine j_getR E gX4_21 h2 dX4_letGo_14 ?_
    refine j_iload_n E 3 dX4_letGo_17 rfl rfl ?_
    obtain ⟨x3, h3, h⟩ := jb h
    refine j_iald E h3 dX4_letGo_18 ?_
    refine j_iconst (v := (1 : Int32)) E dX4_letGo_19 (by decide) ?_
    refine j_icmp_ne (tgt := 29) E dX4_letGo_20 (by decide) (fun hc4 => ?_) (fun hc4 => ?_)
    · replace h := jf hc4 h
      refine j_iinc (v := (v3 + (1 : Int32))) (lv' := [(3, .int (v3 + (1 : Int32))), (0, .ref v0), (1, .ref v1), (2, .ref v2)]) E 3 dX4_letGo_29 rfl rfl (by decide) rfl ?_
      refine j_goto (tgt := 7) E dX4_letGo_32 (by decide) ?_
      exact j_sub [1, 2, 3, 0] rfl (ih _ _ h)
    replace h := jt hc4 h
    refine j_aload_n E 1 dX4_letGo_23 rfl rfl ?_
    refine j_iload_n E 3 dX4_letGo_24 rfl rfl ?_
    refine j_aload_n E 2 dX4_letGo_25 rfl rfl ?_
    obtain ⟨u5, h5, h⟩ := jb h
    obtain ⟨fs5, h5⟩ := chk_spec h5
    obtain ⟨f6, h6, h⟩ := jb h
    refine j_callV (As := [.int v3, .ref v2]) (b := v1) (rest := []) (rc := 0) (rs := 0) E (sX2_giveBack h6) lwX2_giveBack lkX4_129 imX2_giveBack seX2_giveBack rfl h5 (by decide) rfl (Nat.le_of_ble_eq_true rfl) dX4_letGo_26 ?_
    refine j_iinc (v := (v3 + (1 : Int32))) (lv' := [(3, .int (v3 + (1 : Int32))), (0, .ref v0), (1, .ref v1), (2, .ref v2)]) E 3 dX4_letGo_29 rfl rfl (by decide) rfl ?_
    refine j_goto (tgt := 7) E dX4_letGo_32 (by decide) ?_
    exact j_sub [1, 2, 3, 0] rfl (ih _ _ h)
def mX4_letGo (fu : Nat) (f : jM) (v0 : Nat) (v1 : Nat) (v2 : Nat) : Option jM :=
    (chk 4 f v0).bind fun _ =>
    (mX4_findHolders fu f v0 v1).bind fun f14 =>
    mX4_letGo_L7 fu v0 v1 v2 fu (0 : Int32) f14
set_option maxRecDepth 100000 in
set_option maxHeartbeats 4000000 in
theorem sX4_letGo {l : Launch} {D : jD} {sz : Nat} {fu : Nat} {f : jM} {v0 : Nat} {v1 : Nat} {v2 : Nat} {res : jM} (h : mX4_letGo fu f v0 v1 v2 = some res) : jCt l D yX4_letGo cX4_letGo 4 none 3 70 [.ref v0, .ref v1, .ref v2] f sz 0 0 none res sz := by
  refine j_start (by decide +kernel) (Nat.le_of_ble_eq_true rfl) (fun c hcl hcD hcn E => ?_)
  subst hcl
  subst hcD
  replace E : jOk c cX4_letGo 4 RX4 none 3 70 := E
  show J c (jZ c none res sz) f sz 0 0 0 [(0, .ref v0), (1, .ref v1), (2, .ref v2)] []
  unfold mX4_letGo at h
  refine j_aload_n E 0 dX4_letGo_0 rfl rfl ?_
  refine j_aload_n E 1 dX4_letGo_1 rfl rfl ?_
  obtain ⟨u13, h13, h⟩ := jb h
  obtain ⟨fs13, h13⟩ := chk_spec h13
  obtain ⟨f14, h14, h⟩ := jb h
  refine j_callV (As := [.ref v1]) (b := v0) (rest := []) (rc := 0) (rs := 0) E (sX4_findHolders h14) lwX4_findHolders lkX4_107 imX4_findHolders seX4_findHolders rfl h13 (by decide) rfl (Nat.le_of_ble_eq_true rfl) dX4_letGo_2 ?_
  refine j_iconst (v := (0 : Int32)) E dX4_letGo_5 (by decide) ?_
  refine j_istore_n (lv' := [(3, .int (0 : Int32)), (0, .ref v0), (1, .ref v1), (2, .ref v2)]) E dX4_letGo_6 rfl (by decide) rfl ?_
  exact j_sub [1, 2, 3, 0] rfl (wX4_letGo_L7 E _ _ _ h)
def mX4_run_L60 (fu : Nat)  (v0 : Nat) (v1 : Nat) (v3 : Nat) : Nat → Int32 → jM → Option (Int32 × jM)
  | 0, _, _ => none
  | n + 1, v4, f =>
    (alen f v1).bind fun x1 =>
    if x1 ≤ v4 then (
    (rdR 4 f v0 0).bind fun x3 =>
    (rdI 1 f x3 2).bind fun x4 =>
    (rdR 4 f v0 1).bind fun x5 =>
    (rdI 1 f x5 2).bind fun x6 =>
    some ((x4 - x6), f)) else (
    (ldR 2 f v1 v4).bind fun x7 =>
    (chk 4 f v0).bind fun _ =>
    (mX4_letGo fu f v0 x7 v3).bind fun f9 =>
    mX4_run_L60 fu v0 v1 v3 n (v4 + (1 : Int32)) f9)
set_option maxRecDepth 100000 in
set_option maxHeartbeats 4000000 in
theorem wX4_run_L60 {c : jS} {sz : Nat} {fu : Nat}  {v0 : Nat} {v1 : Nat} {v3 : Nat} {res : (Int32 × jM)} (E : jOk c cX4_run 5 RX4 (some .int) 5 114)  : ∀ (n : Nat) (v4 : Int32) (f : jM), mX4_run_L60 fu  v0 v1 v3 n v4 f = some res → J c (jZ c (some (.int res.1)) res.2 sz) f sz 0 0 60 [(0, .ref v0), (1, .ref v1), (3, .ref v3), (4, .int v4)] [] := by
  intro n
  induction n with
  | zero => intro v4 f h; exact jn0 h
  | succ n ih =>
    intro v4 f h
    rw [mX4_run_L60] at h
    refine j_iload E 3 dX4_run_60 rfl ?_
    refine j_aload_n E 1 dX4_run_62 rfl rfl ?_
    obtain ⟨x1, h1, h⟩ := jb h
    refine j_alen E h1 dX4_run_63 ?_
    refine j_icmp_ge (tgt := 82) E dX4_run_64 (by decide) (fun hc2 => ?_) (fun hc2 => ?_)
    · replace h := jt hc2 h
      refine j_aload_n E 0 dX4_run_82 rfl rfl ?_
      obtain ⟨x3, h3, h⟩ := jb h
      refine j_getR E gX4_12 h3 dX4_run_83 ?_
      obtain ⟨x4, h4, h⟩ := jb h
      refine j_getI E gX4_61 h4 dX4_run_86 ?_
      refine j_aload_n E 0 dX4_run_89 rfl rfl ?_
      obtain ⟨x5, h5, h⟩ := jb h
      refine j_getR E gX4_18 h5 dX4_run_90 ?_
      obtain ⟨x6, h6, h⟩ := jb h
      refine j_getI E gX4_61 h6 dX4_run_93 ?_
      refine j_isub E dX4_run_96 ?_
      cases h
      exact j_iret E dX4_run_97
    replace h := jf hc2 h
    refine j_aload_n E 0 dX4_run_67 rfl rfl ?_
    refine j_aload_n E 1 dX4_run_68 rfl rfl ?_
    refine j_iload E 3 dX4_run_69 rfl ?_
    obtain ⟨x7, h7, h⟩ := jb h
    refine j_aald E rfl h7 dX4_run_71 ?_
    refine j_aload_n E 2 dX4_run_72 rfl rfl ?_
    obtain ⟨u8, h8, h⟩ := jb h
    obtain ⟨fs8, h8⟩ := chk_spec h8
    obtain ⟨f9, h9, h⟩ := jb h
    refine j_callV (As := [.ref x7, .ref v3]) (b := v0) (rest := []) (rc := 0) (rs := 0) E (sX4_letGo h9) lwX4_letGo lkX4_57 imX4_letGo seX4_letGo rfl h8 (by decide) rfl (Nat.le_of_ble_eq_true rfl) dX4_run_73 ?_
    refine j_iinc (v := (v4 + (1 : Int32))) (lv' := [(4, .int (v4 + (1 : Int32))), (0, .ref v0), (1, .ref v1), (3, .ref v3)]) E 3 dX4_run_76 rfl rfl (by decide) rfl ?_
    refine j_goto (tgt := 60) E dX4_run_79 (by decide) ?_
    exact j_sub [1, 2, 3, 0] rfl (ih _ _ h)
def mX4_run (fu : Nat) (f : jM) (v0 : Nat) (v1 : Nat) (v2 : Int32) (v3 : Nat) : Option (Int32 × jM) :=
    (rdR 4 f v0 0).bind fun x10 =>
    (chk 1 f x10).bind fun _ =>
    (mX1_clear fu f x10).bind fun f12 =>
    (rdR 4 f12 v0 0).bind fun x13 =>
    (chk 1 f12 x13).bind fun _ =>
    (mX1_add f12 x13 v2).bind fun f15 =>
    (rdR 4 f15 v0 0).bind fun x16 =>
    (chk 1 f15 x16).bind fun _ =>
    (mX1_spread fu f15 x16 v1).bind fun f18 =>
    (chk 4 f18 v0).bind fun _ =>
    (mX4_findWithout fu f18 v0 v1 v2).bind fun f20 =>
    (rdR 4 f20 v0 1).bind fun x21 =>
    (chk 1 f20 x21).bind fun _ =>
    (mX1_has f20 x21 v2).bind fun r23 =>
    if r23.1 = 0 then (
    (chk 4 r23.2 v0).bind fun _ =>
    (mX4_countInner fu r23.2 v0 v1).bind fun r26 =>
    (rdI 3 r26.2 v3 1).bind fun x27 =>
    if (r26.1 + x27) ≤ (60 : Int32) then (
    mX4_run_L60 fu v0 v1 v3 fu (0 : Int32) r26.2) else (
    some ((0 : Int32), r26.2))) else (
    some ((0 : Int32), r23.2))
set_option maxRecDepth 100000 in
set_option maxHeartbeats 4000000 in
theorem sX4_run {l : Launch} {D : jD} {sz : Nat} {fu : Nat} {f : jM} {v0 : Nat} {v1 : Nat} {v2 : Int32} {v3 : Nat} {res : (Int32 × jM)} (h : mX4_run fu f v0 v1 v2 v3 = some res) : jCt l D yX4_run cX4_run 5 (some .int) 5 114 [.ref v0, .ref v1, .int v2, .ref v3] f sz 0 0 (some (.int res.1)) res.2 sz := by
  refine j_start (by decide +kernel) (Nat.le_of_ble_eq_true rfl) (fun c hcl hcD hcn E => ?_)
  subst hcl
  subst hcD
  replace E : jOk c cX4_run 5 RX4 (some .int) 5 114 := E
  show J c (jZ c (some (.int res.1)) res.2 sz) f sz 0 0 0 [(0, .ref v0), (1, .ref v1), (2, .int v2), (3, .ref v3)] []
  unfold mX4_run at h
  refine j_aload_n E 0 dX4_run_0 rfl rfl ?_
  obtain ⟨x10, h10, h⟩ := jb h
  refine j_getR E gX4_12 h10 dX4_run_1 ?_
  obtain ⟨u11, h11, h⟩ := jb h
  obtain ⟨fs11, h11⟩ := chk_spec h11
  obtain ⟨f12, h12, h⟩ := jb h
  refine j_callV (As := []) (b := x10) (rest := []) (rc := 0) (rs := 0) E (sX1_clear h12) lwX1_clear lkX4_28 imX1_clear seX1_clear rfl h11 (by decide) rfl (Nat.le_of_ble_eq_true rfl) dX4_run_4 ?_
  refine j_aload_n E 0 dX4_run_7 rfl rfl ?_
  obtain ⟨x13, h13, h⟩ := jb h
  refine j_getR E gX4_12 h13 dX4_run_8 ?_
  refine j_iload_n E 2 dX4_run_11 rfl rfl ?_
  obtain ⟨u14, h14, h⟩ := jb h
  obtain ⟨fs14, h14⟩ := chk_spec h14
  obtain ⟨f15, h15, h⟩ := jb h
  refine j_callV (As := [.int v2]) (b := x13) (rest := []) (rc := 0) (rs := 0) E (sX1_add h15) lwX1_add lkX4_31 imX1_add seX1_add rfl h14 (by decide) rfl (Nat.le_of_ble_eq_true rfl) dX4_run_12 ?_
  refine j_aload_n E 0 dX4_run_15 rfl rfl ?_
  obtain ⟨x16, h16, h⟩ := jb h
  refine j_getR E gX4_12 h16 dX4_run_16 ?_
  refine j_aload_n E 1 dX4_run_19 rfl rfl ?_
  obtain ⟨u17, h17, h⟩ := jb h
  obtain ⟨fs17, h17⟩ := chk_spec h17
  obtain ⟨f18, h18, h⟩ := jb h
  refine j_callV (As := [.ref v1]) (b := x16) (rest := []) (rc := 0) (rs := 0) E (sX1_spread h18) lwX1_spread lkX4_35 imX1_spread seX1_spread rfl h17 (by decide) rfl (Nat.le_of_ble_eq_true rfl) dX4_run_20 ?_
  refine j_aload_n E 0 dX4_run_23 rfl rfl ?_
  refine j_aload_n E 1 dX4_run_24 rfl rfl ?_
  refine j_iload_n E 2 dX4_run_25 rfl rfl ?_
  obtain ⟨u19, h19, h⟩ := jb h
  obtain ⟨fs19, h19⟩ := chk_spec h19
  obtain ⟨f20, h20, h⟩ := jb h
  refine j_callV (As := [.ref v1, .int v2]) (b := v0) (rest := []) (rc := 0) (rs := 0) E (sX4_findWithout h20) lwX4_findWithout lkX4_39 imX4_findWithout seX4_findWithout rfl h19 (by decide) rfl (Nat.le_of_ble_eq_true rfl) dX4_run_26 ?_
  refine j_aload_n E 0 dX4_run_29 rfl rfl ?_
  obtain ⟨x21, h21, h⟩ := jb h
  refine j_getR E gX4_18 h21 dX4_run_30 ?_
  refine j_iload_n E 2 dX4_run_33 rfl rfl ?_
  obtain ⟨u22, h22, h⟩ := jb h
  obtain ⟨fs22, h22⟩ := chk_spec h22
  obtain ⟨r23, h23, h⟩ := jb h
  refine j_callV (As := [.int v2]) (b := x21) (rest := []) (rc := 0) (rs := 0) E (sX1_has h23) lwX1_has lkX4_43 imX1_has seX1_has rfl h22 (by decide) rfl (Nat.le_of_ble_eq_true rfl) dX4_run_34 ?_
  refine j_if_ne (tgt := 55) E dX4_run_37 (by decide) (fun hc24 => ?_) (fun hc24 => ?_)
  · replace h := jf hc24 h
    refine j_iconst (v := (0 : Int32)) E dX4_run_55 (by decide) ?_
    cases h
    exact j_iret E dX4_run_56
  replace h := jt hc24 h
  refine j_aload_n E 0 dX4_run_40 rfl rfl ?_
  refine j_aload_n E 1 dX4_run_41 rfl rfl ?_
  obtain ⟨u25, h25, h⟩ := jb h
  obtain ⟨fs25, h25⟩ := chk_spec h25
  obtain ⟨r26, h26, h⟩ := jb h
  refine j_callV (As := [.ref v1]) (b := v0) (rest := []) (rc := 0) (rs := 0) E (sX4_countInner h26) lwX4_countInner lkX4_47 imX4_countInner seX4_countInner rfl h25 (by decide) rfl (Nat.le_of_ble_eq_true rfl) dX4_run_42 ?_
  refine j_aload_n E 3 dX4_run_45 rfl rfl ?_
  obtain ⟨x27, h27, h⟩ := jb h
  refine j_getI E gX4_51 h27 dX4_run_46 ?_
  refine j_iadd E dX4_run_49 ?_
  refine j_bipush (v := (60 : Int32)) E dX4_run_50 (by decide) ?_
  refine j_icmp_le (tgt := 57) E dX4_run_52 (by decide) (fun hc28 => ?_) (fun hc28 => ?_)
  · replace h := jt hc28 h
    refine j_iconst (v := (0 : Int32)) E dX4_run_57 (by decide) ?_
    refine j_istore (lv' := [(4, .int (0 : Int32)), (0, .ref v0), (1, .ref v1), (2, .int v2), (3, .ref v3)]) E dX4_run_58 (by decide) rfl ?_
    exact j_sub [1, 2, 4, 0] rfl (wX4_run_L60 E _ _ _ h)
  replace h := jf hc28 h
  refine j_iconst (v := (0 : Int32)) E dX4_run_55 (by decide) ?_
  cases h
  exact j_iret E dX4_run_56
def mX5_init_L22 (fu : Nat)  (v0 : Nat) : Nat → Int32 → jM → Nat → Option jRA
  | 0, _, _, _ => none
  | n + 1, v2, f, sz =>
    (rdR 5 f v0 0).bind fun x1 =>
    (alen f x1).bind fun x2 =>
    if x2 ≤ v2 then (
    ((nwO 3 [.null, .int 0] f sz).bind fun f4 =>
    (mX3_init fu f4 (sz + 1) sz).bind fun r5 => (
    (wrV 5 r5.1 v0 1 (.ref sz)).bind fun f6 =>
    ((nwO 1 [.null, .null, .int 0, .int 0] f6 r5.2.1).bind fun f7 =>
    (mX1_init f7 (r5.2.1 + 1) r5.2.1).bind fun r8 => (
    (wrV 5 r8.1 v0 2 (.ref r5.2.1)).bind fun f9 =>
    ((nwO 4 [.null, .null, .null, .null] f9 r8.2.1).bind fun f10 =>
    (mX4_init f10 (r8.2.1 + 1) r8.2.1).bind fun r11 => (
    (wrV 5 r11.1 v0 3 (.ref r8.2.1)).bind fun f12 =>
    some (f12, r11.2.1, 0, 0)).map (jcnt r11.2.2.1 r11.2.2.2)).map (jcnt 1 4)).map (jcnt r8.2.2.1 r8.2.2.2)).map (jcnt 1 4)).map (jcnt r5.2.2.1 r5.2.2.2)).map (jcnt 1 2)) else (
    (rdR 5 f v0 0).bind fun x13 =>
    ((nwO 2 [.int 0, .null, .null, .null, .null, .null, .null, .null, .int 0, .int 0, .int 0, .int 0] f sz).bind fun f14 =>
    (mX2_init fu f14 (sz + 1) sz v2).bind fun r15 => (
    (stR 2 2 r15.1 x13 v2 sz).bind fun f16 =>
    mX5_init_L22 fu v0 n (v2 + (1 : Int32)) f16 r15.2.1).map (jcnt r15.2.2.1 r15.2.2.2)).map (jcnt 1 12))
set_option maxRecDepth 100000 in
set_option maxHeartbeats 4000000 in
theorem wX5_init_L22 {c : jS} {fu : Nat}  {v0 : Nat} (E : jOk c cX5_init 3 RX5 none 3 53) (hcn : (j_h c).name = "<init>")  : ∀ (n : Nat) (v2 : Int32) (f : jM) (sz : Nat) (res : jRA), mX5_init_L22 fu  v0 n v2 f sz = some res → J c (jZ c none res.1 res.2.1) f sz res.2.2.1 res.2.2.2 22 [(0, .ref v0), (2, .int v2)] [] := by
  intro n
  induction n with
  | zero => intro v2 f sz res h; exact jn0 h
  | succ n ih =>
    intro v2 f sz res h
    rw [mX5_init_L22] at h
    refine j_iload_n E 1 dX5_init_22 rfl rfl ?_
    refine j_aload_n E 0 dX5_init_23 rfl rfl ?_
    obtain ⟨x1, h1, h⟩ := jb h
    refine j_getR E gX5_20 h1 dX5_init_24 ?_
    obtain ⟨x2, h2, h⟩ := jb h
    refine j_alen E h2 dX5_init_27 ?_
    refine j_icmp_ge (tgt := 51) E dX5_init_28 (by decide) (fun hc3 => ?_) (fun hc3 => ?_)
    · replace h := jt hc3 h
      refine j_aload_n E 0 dX5_init_51 rfl rfl ?_
      obtain ⟨r4, q4, e4⟩ := jmp h
      clear h
      subst e4
      have h := q4
      obtain ⟨f4, h4, h⟩ := jb h
      have h4 := nwO_spec h4
      subst h4
      refine j_new (ci := 3) (fs := [.null, .int 0]) (rc := r4.2.2.1) (rs := r4.2.2.2) E tyX3 rfl in_X3 tyX3_ok clX5_27 insX3 iniX3 (fun j hj => by rcases (show j = 0 ∨ j = 1 by omega) with rfl | rfl <;> rfl) dX5_init_52 ?_
      refine j_dup E dX5_init_55 rfl ?_
      obtain ⟨r5, h5, h⟩ := jb h
      obtain ⟨z5, q5, e5⟩ := jmp h
      clear h
      subst e5
      have h := q5
      refine j_callI (As := []) (b := sz) (rest := [.ref sz, .ref v0]) (rc := z5.2.2.1) (rs := z5.2.2.2) E (sX3_init h5) lwX3_init lkX5_29 imX3_init rfl (by decide) rfl (Nat.le_of_ble_eq_true rfl) dX5_init_56 ?_
      obtain ⟨f6, h6, h⟩ := jb h
      refine j_putF E hcn gfX5_30 h6 rfl rfl dX5_init_59 ?_
      refine j_aload_n E 0 dX5_init_62 rfl rfl ?_
      obtain ⟨r7, q7, e7⟩ := jmp h
      clear h
      subst e7
      have h := q7
      obtain ⟨f7, h7, h⟩ := jb h
      have h7 := nwO_spec h7
      subst h7
      refine j_new (ci := 1) (fs := [.null, .null, .int 0, .int 0]) (rc := r7.2.2.1) (rs := r7.2.2.2) E tyX1 rfl in_X1 tyX1_ok clX5_34 insX1 iniX1 (fun j hj => by rcases (show j = 0 ∨ j = 1 ∨ j = 2 ∨ j = 3 by omega) with rfl | rfl | rfl | rfl <;> rfl) dX5_init_63 ?_
      refine j_dup E dX5_init_66 rfl ?_
      obtain ⟨r8, h8, h⟩ := jb h
      obtain ⟨z8, q8, e8⟩ := jmp h
      clear h
      subst e8
      have h := q8
      refine j_callI (As := []) (b := r5.2.1) (rest := [.ref r5.2.1, .ref v0]) (rc := z8.2.2.1) (rs := z8.2.2.2) E (sX1_init h8) lwX1_init lkX5_36 imX1_init rfl (by decide) rfl (Nat.le_of_ble_eq_true rfl) dX5_init_67 ?_
      obtain ⟨f9, h9, h⟩ := jb h
      refine j_putF E hcn gfX5_37 h9 rfl rfl dX5_init_70 ?_
      refine j_aload_n E 0 dX5_init_73 rfl rfl ?_
      obtain ⟨r10, q10, e10⟩ := jmp h
      clear h
      subst e10
      have h := q10
      obtain ⟨f10, h10, h⟩ := jb h
      have h10 := nwO_spec h10
      subst h10
      refine j_new (ci := 4) (fs := [.null, .null, .null, .null]) (rc := r10.2.2.1) (rs := r10.2.2.2) E tyX4 rfl in_X4 tyX4_ok clX5_41 insX4 iniX4 (fun j hj => by rcases (show j = 0 ∨ j = 1 ∨ j = 2 ∨ j = 3 by omega) with rfl | rfl | rfl | rfl <;> rfl) dX5_init_74 ?_
      refine j_dup E dX5_init_77 rfl ?_
      obtain ⟨r11, h11, h⟩ := jb h
      obtain ⟨z11, q11, e11⟩ := jmp h
      clear h
      subst e11
      have h := q11
      refine j_callI (As := []) (b := r8.2.1) (rest := [.ref r8.2.1, .ref v0]) (rc := z11.2.2.1) (rs := z11.2.2.2) E (sX4_init h11) lwX4_init lkX5_43 imX4_init rfl (by decide) rfl (Nat.le_of_ble_eq_true rfl) dX5_init_78 ?_
      obtain ⟨f12, h12, h⟩ := jb h
      refine j_putF E hcn gfX5_44 h12 rfl rfl dX5_init_81 ?_
      cases h
      exact j_vret E dX5_init_84
    replace h := jf hc3 h
    refine j_aload_n E 0 dX5_init_31 rfl rfl ?_
    obtain ⟨x13, h13, h⟩ := jb h
    refine j_getR E gX5_20 h13 dX5_init_32 ?_
    refine j_iload_n E 1 dX5_init_35 rfl rfl ?_
    obtain ⟨r14, q14, e14⟩ := jmp h
    clear h
    subst e14
    have h := q14
    obtain ⟨f14, h14, h⟩ := jb h
    have h14 := nwO_spec h14
    subst h14
    refine j_new (ci := 2) (fs := [.int 0, .null, .null, .null, .null, .null, .null, .null, .int 0, .int 0, .int 0, .int 0]) (rc := r14.2.2.1) (rs := r14.2.2.2) E tyX2 rfl in_X2 tyX2_ok clX5_18 insX2 iniX2 (fun j hj => by rcases (show j = 0 ∨ j = 1 ∨ j = 2 ∨ j = 3 ∨ j = 4 ∨ j = 5 ∨ j = 6 ∨ j = 7 ∨ j = 8 ∨ j = 9 ∨ j = 10 ∨ j = 11 by omega) with rfl | rfl | rfl | rfl | rfl | rfl | rfl | rfl | rfl | rfl | rfl | rfl <;> rfl) dX5_init_36 ?_
    refine j_dup E dX5_init_39 rfl ?_
    refine j_iload_n E 1 dX5_init_40 rfl rfl ?_
    obtain ⟨r15, h15, h⟩ := jb h
    obtain ⟨z15, q15, e15⟩ := jmp h
    clear h
    subst e15
    have h := q15
    refine j_callI (As := [.int v2]) (b := sz) (rest := [.ref sz, .int v2, .ref x13]) (rc := z15.2.2.1) (rs := z15.2.2.2) E (sX2_init h15) lwX2_init lkX5_24 imX2_init rfl (by decide) rfl (Nat.le_of_ble_eq_true rfl) dX5_init_41 ?_
    obtain ⟨f16, h16, h⟩ := jb h
    refine j_aast E rfl rfl h16 dX5_init_44 ?_
    refine j_iinc (v := (v2 + (1 : Int32))) (lv' := [(2, .int (v2 + (1 : Int32))), (0, .ref v0)]) E 1 dX5_init_45 rfl rfl (by decide) rfl ?_
    refine j_goto (tgt := 22) E dX5_init_48 (by decide) ?_
    exact j_sub [1, 0] rfl (ih _ _ _ _ h)
def mX5_init (fu : Nat) (f : jM) (sz : Nat) (v0 : Nat) (v1 : Int32) : Option jRA :=
    ((nwR 2 f sz (if (1 : Int32) < (if v1 < (5 : Int32) then v1 else (5 : Int32)) then (if v1 < (5 : Int32) then v1 else (5 : Int32)) else (1 : Int32))).bind fun f17 =>
    (wrV 5 f17 v0 0 (.ref sz)).bind fun f18 =>
    mX5_init_L22 fu v0 fu (0 : Int32) f18 (sz + 1)).map (jcnt 1 (Int32.toNatClampNeg (if (1 : Int32) < (if v1 < (5 : Int32) then v1 else (5 : Int32)) then (if v1 < (5 : Int32) then v1 else (5 : Int32)) else (1 : Int32))))
set_option maxRecDepth 100000 in
set_option maxHeartbeats 4000000 in
theorem sX5_init {l : Launch} {D : jD} {sz : Nat} {fu : Nat} {f : jM} {v0 : Nat} {v1 : Int32} {res : jRA} (h : mX5_init fu f sz v0 v1 = some res) : jCt l D yX5_init cX5_init 3 none 3 53 [.ref v0, .int v1] f sz res.2.2.1 res.2.2.2 none res.1 res.2.1 := by
  refine j_start (by decide +kernel) (Nat.le_of_ble_eq_true rfl) (fun c hcl hcD hcn E => ?_)
  subst hcl
  subst hcD
  replace E : jOk c cX5_init 3 RX5 none 3 53 := E
  replace hcn : (j_h c).name = "<init>" := hcn
  show J c (jZ c none res.1 res.2.1) f sz res.2.2.1 res.2.2.2 0 [(0, .ref v0), (1, .int v1)] []
  unfold mX5_init at h
  refine j_aload_n E 0 dX5_init_0 rfl rfl ?_
  refine j_objInit E lkX5_3 oi_in oi_co (by decide) (by decide) dX5_init_1 ?_
  refine j_aload_n E 0 dX5_init_4 rfl rfl ?_
  refine j_iconst (v := (1 : Int32)) E dX5_init_5 (by decide) ?_
  refine j_iconst (v := (5 : Int32)) E dX5_init_6 (by decide) ?_
  refine j_iload_n E 1 dX5_init_7 rfl rfl ?_
  refine j_mmin E lkX5_9 ma_st_min ma_in ma_co_min (by decide) (Nat.le_of_ble_eq_true rfl) dX5_init_8 ?_
  refine j_mmax E lkX5_15 ma_st_max ma_in ma_co_max (by decide) (Nat.le_of_ble_eq_true rfl) dX5_init_11 ?_
  obtain ⟨r17, q17, e17⟩ := jmp h
  clear h
  subst e17
  have h := q17
  obtain ⟨f17, h17, h⟩ := jb h
  obtain ⟨h17a, h17b, h17⟩ := nwR_spec h17
  subst h17
  refine j_anew (kd := 2) (rc := r17.2.2.1) (rs := r17.2.2.2) E rfl (by decide) clX5_18 h17a rfl (Nat.le_trans (Nat.mul_le_mul_right _ h17b) (by decide)) dX5_init_14 ?_
  obtain ⟨f18, h18, h⟩ := jb h
  refine j_putF E hcn gfX5_20 h18 rfl rfl dX5_init_17 ?_
  refine j_iconst (v := (0 : Int32)) E dX5_init_20 (by decide) ?_
  refine j_istore_n (lv' := [(2, .int (0 : Int32)), (0, .ref v0), (1, .int v1)]) E dX5_init_21 rfl (by decide) rfl ?_
  exact j_sub [1, 0] rfl (wX5_init_L22 E hcn _ _ _ _ _ h)
def mX5_isNode (f : jM) (v0 : Nat) (v1 : Int32) : Option (Int32 × jM) :=
    if v1 < 0 then (
    some ((0 : Int32), f)) else (
    (rdR 5 f v0 0).bind fun x2 =>
    (alen f x2).bind fun x3 =>
    if x3 ≤ v1 then (
    some ((0 : Int32), f)) else (
    some ((1 : Int32), f)))
set_option maxRecDepth 100000 in
set_option maxHeartbeats 4000000 in
theorem sX5_isNode {l : Launch} {D : jD} {sz : Nat} {f : jM} {v0 : Nat} {v1 : Int32} {res : (Int32 × jM)} (h : mX5_isNode f v0 v1 = some res) : jCt l D yX5_isNode cX5_isNode 2 (some .boolean) 0 0 [.ref v0, .int v1] f sz 0 0 (some (.int res.1)) res.2 sz := by
  refine j_start (by decide +kernel) (Nat.le_of_ble_eq_true rfl) (fun c hcl hcD hcn E => ?_)
  subst hcl
  subst hcD
  replace E : jOk c cX5_isNode 2 RX5 (some .boolean) 0 0 := E
  show J c (jZ c (some (.int res.1)) res.2 sz) f sz 0 0 0 [(0, .ref v0), (1, .int v1)] []
  unfold mX5_isNode at h
  refine j_iload_n E 1 dX5_isNode_0 rfl rfl ?_
  refine j_if_lt (tgt := 17) E dX5_isNode_1 (by decide) (fun hc1 => ?_) (fun hc1 => ?_)
  · replace h := jt hc1 h
    refine j_iconst (v := (0 : Int32)) E dX5_isNode_17 (by decide) ?_
    cases h
    exact j_zret (v := (0 : Int32)) E (by decide +kernel) dX5_isNode_18
  replace h := jf hc1 h
  refine j_iload_n E 1 dX5_isNode_4 rfl rfl ?_
  refine j_aload_n E 0 dX5_isNode_5 rfl rfl ?_
  obtain ⟨x2, h2, h⟩ := jb h
  refine j_getR E gX5_20 h2 dX5_isNode_6 ?_
  obtain ⟨x3, h3, h⟩ := jb h
  refine j_alen E h3 dX5_isNode_9 ?_
  refine j_icmp_ge (tgt := 17) E dX5_isNode_10 (by decide) (fun hc4 => ?_) (fun hc4 => ?_)
  · replace h := jt hc4 h
    refine j_iconst (v := (0 : Int32)) E dX5_isNode_17 (by decide) ?_
    cases h
    exact j_zret (v := (0 : Int32)) E (by decide +kernel) dX5_isNode_18
  replace h := jf hc4 h
  refine j_iconst (v := (1 : Int32)) E dX5_isNode_13 (by decide) ?_
  refine j_goto (tgt := 18) E dX5_isNode_14 (by decide) ?_
  cases h
  exact j_zret (v := (1 : Int32)) E (by decide +kernel) dX5_isNode_18
def mX5_isRegister (f : jM) (v0 : Int32) : Option (Int32 × jM) :=
    if v0 < 0 then (
    some ((0 : Int32), f)) else (
    if (6 : Int32) ≤ v0 then (
    some ((0 : Int32), f)) else (
    some ((1 : Int32), f)))
set_option maxRecDepth 100000 in
set_option maxHeartbeats 4000000 in
theorem sX5_isRegister {l : Launch} {D : jD} {sz : Nat} {f : jM} {v0 : Int32} {res : (Int32 × jM)} (h : mX5_isRegister f v0 = some res) : jCt l D yX5_isRegister cX5_isRegister 1 (some .boolean) 0 0 [.int v0] f sz 0 0 (some (.int res.1)) res.2 sz := by
  refine j_start (by decide +kernel) (Nat.le_of_ble_eq_true rfl) (fun c hcl hcD hcn E => ?_)
  subst hcl
  subst hcD
  replace E : jOk c cX5_isRegister 1 RX5 (some .boolean) 0 0 := E
  show J c (jZ c (some (.int res.1)) res.2 sz) f sz 0 0 0 [(0, .int v0)] []
  unfold mX5_isRegister at h
  refine j_iload_n E 0 dX5_isRegister_0 rfl rfl ?_
  refine j_if_lt (tgt := 14) E dX5_isRegister_1 (by decide) (fun hc1 => ?_) (fun hc1 => ?_)
  · replace h := jt hc1 h
    refine j_iconst (v := (0 : Int32)) E dX5_isRegister_14 (by decide) ?_
    cases h
    exact j_zret (v := (0 : Int32)) E (by decide +kernel) dX5_isRegister_15
  replace h := jf hc1 h
  refine j_iload_n E 0 dX5_isRegister_4 rfl rfl ?_
  refine j_bipush (v := (6 : Int32)) E dX5_isRegister_5 (by decide) ?_
  refine j_icmp_ge (tgt := 14) E dX5_isRegister_7 (by decide) (fun hc2 => ?_) (fun hc2 => ?_)
  · replace h := jt hc2 h
    refine j_iconst (v := (0 : Int32)) E dX5_isRegister_14 (by decide) ?_
    cases h
    exact j_zret (v := (0 : Int32)) E (by decide +kernel) dX5_isRegister_15
  replace h := jf hc2 h
  refine j_iconst (v := (1 : Int32)) E dX5_isRegister_10 (by decide) ?_
  refine j_goto (tgt := 15) E dX5_isRegister_11 (by decide) ?_
  cases h
  exact j_zret (v := (1 : Int32)) E (by decide +kernel) dX5_isRegister_15
def mX5_make (fu : Nat) (f : jM) (v0 : Nat) (v1 : Int32) (v2 : Int32) (v3 : Int32) : Option (Int32 × jM) :=
    (chk 5 f v0).bind fun _ =>
    (mX5_isNode f v0 v1).bind fun r2 =>
    if r2.1 = 0 then (
    some ((-1 : Int32), r2.2)) else (
    (mX5_isRegister r2.2 v2).bind fun r4 =>
    if r4.1 = 0 then (
    some ((-1 : Int32), r4.2)) else (
    if v3 < 0 then (
    some ((-1 : Int32), r4.2)) else (
    if v3 ≤ (12 : Int32) then (
    (rdR 5 r4.2 v0 0).bind fun x8 =>
    (ldR 2 r4.2 x8 v1).bind fun x9 =>
    (chk 2 r4.2 x9).bind fun _ =>
    (mX2_freeNumber fu r4.2 x9).bind fun r11 =>
    if r11.1 = (-1 : Int32) then (
    some ((-1 : Int32), r11.2)) else (
    (chk 2 r11.2 x9).bind fun _ =>
    (mX2_hasRoom r11.2 x9 v3).bind fun r14 =>
    if r14.1 = 0 then (
    some ((-2 : Int32), r14.2)) else (
    (chk 2 r14.2 x9).bind fun _ =>
    (mX2_lay r14.2 x9 r11.1 v3).bind fun f17 =>
    (mX5_idOf f17 v1 r11.1).bind fun r18 =>
    (chk 2 r18.2 x9).bind fun _ =>
    (mX2_fill r18.2 x9 v2 (2 : Int32) r18.1).bind fun f20 =>
    some (r11.1, f20)))) else (
    some ((-1 : Int32), r4.2)))))
set_option maxRecDepth 100000 in
set_option maxHeartbeats 4000000 in
theorem sX5_make {l : Launch} {D : jD} {sz : Nat} {fu : Nat} {f : jM} {v0 : Nat} {v1 : Int32} {v2 : Int32} {v3 : Int32} {res : (Int32 × jM)} (h : mX5_make fu f v0 v1 v2 v3 = some res) : jCt l D yX5_make cX5_make 6 (some .int) 1 23 [.ref v0, .int v1, .int v2, .int v3] f sz 0 0 (some (.int res.1)) res.2 sz := by
  refine j_start (by decide +kernel) (Nat.le_of_ble_eq_true rfl) (fun c hcl hcD hcn E => ?_)
  subst hcl
  subst hcD
  replace E : jOk c cX5_make 6 RX5 (some .int) 1 23 := E
  show J c (jZ c (some (.int res.1)) res.2 sz) f sz 0 0 0 [(0, .ref v0), (1, .int v1), (2, .int v2), (3, .int v3)] []
  unfold mX5_make at h
  refine j_aload_n E 0 dX5_make_0 rfl rfl ?_
  refine j_iload_n E 1 dX5_make_1 rfl rfl ?_
  obtain ⟨u1, h1, h⟩ := jb h
  obtain ⟨fs1, h1⟩ := chk_spec h1
  obtain ⟨r2, h2, h⟩ := jb h
  refine j_callV (As := [.int v1]) (b := v0) (rest := []) (rc := 0) (rs := 0) E (sX5_isNode h2) lwX5_isNode lkX5_48 imX5_isNode seX5_isNode rfl h1 (by decide) rfl (Nat.le_of_ble_eq_true rfl) dX5_make_2 ?_
  refine j_if_eq (tgt := 25) E dX5_make_5 (by decide) (fun hc3 => ?_) (fun hc3 => ?_)
  · replace h := jt hc3 h
    refine j_iconst (v := (-1 : Int32)) E dX5_make_25 (by decide) ?_
    cases h
    exact j_iret E dX5_make_26
  replace h := jf hc3 h
  refine j_iload_n E 2 dX5_make_8 rfl rfl ?_
  obtain ⟨r4, h4, h⟩ := jb h
  refine j_callS (As := [.int v2]) (rest := []) (rc := 0) (rs := 0) E (sX5_isRegister h4) lwX5_isRegister lkX5_52 stX5_isRegister (by decide) rfl (Nat.le_of_ble_eq_true rfl) dX5_make_9 ?_
  refine j_if_eq (tgt := 25) E dX5_make_12 (by decide) (fun hc5 => ?_) (fun hc5 => ?_)
  · replace h := jt hc5 h
    refine j_iconst (v := (-1 : Int32)) E dX5_make_25 (by decide) ?_
    cases h
    exact j_iret E dX5_make_26
  replace h := jf hc5 h
  refine j_iload_n E 3 dX5_make_15 rfl rfl ?_
  refine j_if_lt (tgt := 25) E dX5_make_16 (by decide) (fun hc6 => ?_) (fun hc6 => ?_)
  · replace h := jt hc6 h
    refine j_iconst (v := (-1 : Int32)) E dX5_make_25 (by decide) ?_
    cases h
    exact j_iret E dX5_make_26
  replace h := jf hc6 h
  refine j_iload_n E 3 dX5_make_19 rfl rfl ?_
  refine j_bipush (v := (12 : Int32)) E dX5_make_20 (by decide) ?_
  refine j_icmp_le (tgt := 27) E dX5_make_22 (by decide) (fun hc7 => ?_) (fun hc7 => ?_)
  · replace h := jt hc7 h
    refine j_aload_n E 0 dX5_make_27 rfl rfl ?_
    obtain ⟨x8, h8, h⟩ := jb h
    refine j_getR E gX5_20 h8 dX5_make_28 ?_
    refine j_iload_n E 1 dX5_make_31 rfl rfl ?_
    obtain ⟨x9, h9, h⟩ := jb h
    refine j_aald E rfl h9 dX5_make_32 ?_
    refine j_astore (lv' := [(4, .ref x9), (0, .ref v0), (1, .int v1), (2, .int v2), (3, .int v3)]) E dX5_make_33 (by decide) rfl ?_
    refine j_aload E 0 dX5_make_35 rfl ?_
    obtain ⟨u10, h10, h⟩ := jb h
    obtain ⟨fs10, h10⟩ := chk_spec h10
    obtain ⟨r11, h11, h⟩ := jb h
    refine j_callV (As := []) (b := x9) (rest := []) (rc := 0) (rs := 0) E (sX2_freeNumber h11) lwX2_freeNumber lkX5_55 imX2_freeNumber seX2_freeNumber rfl h10 (by decide) rfl (Nat.le_of_ble_eq_true rfl) dX5_make_37 ?_
    refine j_istore (lv' := [(5, .int r11.1), (4, .ref x9), (0, .ref v0), (1, .int v1), (2, .int v2), (3, .int v3)]) E dX5_make_40 (by decide) rfl ?_
    refine j_iload E 0 dX5_make_42 rfl ?_
    refine j_iconst (v := (-1 : Int32)) E dX5_make_44 (by decide) ?_
    refine j_icmp_ne (tgt := 50) E dX5_make_45 (by decide) (fun hc12 => ?_) (fun hc12 => ?_)
    · replace h := jf hc12 h
      refine j_aload E 1 dX5_make_50 rfl ?_
      refine j_iload_n E 5 dX5_make_52 rfl rfl ?_
      obtain ⟨u13, h13, h⟩ := jb h
      obtain ⟨fs13, h13⟩ := chk_spec h13
      obtain ⟨r14, h14, h⟩ := jb h
      refine j_callV (As := [.int v3]) (b := x9) (rest := []) (rc := 0) (rs := 0) E (sX2_hasRoom h14) lwX2_hasRoom lkX5_59 imX2_hasRoom seX2_hasRoom rfl h13 (by decide) rfl (Nat.le_of_ble_eq_true rfl) dX5_make_53 ?_
      refine j_if_ne (tgt := 62) E dX5_make_56 (by decide) (fun hc15 => ?_) (fun hc15 => ?_)
      · replace h := jf hc15 h
        refine j_aload E 1 dX5_make_62 rfl ?_
        refine j_iload E 0 dX5_make_64 rfl ?_
        refine j_iload_n E 5 dX5_make_66 rfl rfl ?_
        obtain ⟨u16, h16, h⟩ := jb h
        obtain ⟨fs16, h16⟩ := chk_spec h16
        obtain ⟨f17, h17, h⟩ := jb h
        refine j_callV (As := [.int r11.1, .int v3]) (b := x9) (rest := []) (rc := 0) (rs := 0) E (sX2_lay h17) lwX2_lay lkX5_62 imX2_lay seX2_lay rfl h16 (by decide) rfl (Nat.le_of_ble_eq_true rfl) dX5_make_67 ?_
        refine j_aload E 1 dX5_make_70 rfl ?_
        refine j_iload_n E 4 dX5_make_72 rfl rfl ?_
        refine j_iconst (v := (2 : Int32)) E dX5_make_73 (by decide) ?_
        refine j_iload_n E 3 dX5_make_74 rfl rfl ?_
        refine j_iload E 0 dX5_make_75 rfl ?_
        obtain ⟨r18, h18, h⟩ := jb h
        refine j_callS (As := [.int v1, .int r11.1]) (rest := [.int (2 : Int32), .int v2, .ref x9]) (rc := 0) (rs := 0) E (sX5_idOf h18) lwX5_idOf lkX5_66 stX5_idOf (by decide) rfl (Nat.le_of_ble_eq_true rfl) dX5_make_77 ?_
        obtain ⟨u19, h19, h⟩ := jb h
        obtain ⟨fs19, h19⟩ := chk_spec h19
        obtain ⟨f20, h20, h⟩ := jb h
        refine j_callV (As := [.int v2, .int (2 : Int32), .int r18.1]) (b := x9) (rest := []) (rc := 0) (rs := 0) E (sX2_fill h20) lwX2_fill lkX5_69 imX2_fill seX2_fill rfl h19 (by decide) rfl (Nat.le_of_ble_eq_true rfl) dX5_make_80 ?_
        refine j_iload E 0 dX5_make_83 rfl ?_
        cases h
        exact j_iret E dX5_make_85
      replace h := jt hc15 h
      refine j_bipush (v := (-2 : Int32)) E dX5_make_59 (by decide) ?_
      cases h
      exact j_iret E dX5_make_61
    replace h := jt hc12 h
    refine j_iconst (v := (-1 : Int32)) E dX5_make_48 (by decide) ?_
    cases h
    exact j_iret E dX5_make_49
  replace h := jf hc7 h
  refine j_iconst (v := (-1 : Int32)) E dX5_make_25 (by decide) ?_
  cases h
  exact j_iret E dX5_make_26
def mX5_slotBehind (f : jM) (v0 : Nat) (v1 : Int32) (v2 : Int32) (v3 : Int32) : Option (Int32 × jM) :=
    (chk 5 f v0).bind fun _ =>
    (mX5_isNode f v0 v1).bind fun r2 =>
    if r2.1 = 0 then (
    some ((-1 : Int32), r2.2)) else (
    (mX5_isRegister r2.2 v2).bind fun r4 =>
    if r4.1 = 0 then (
    some ((-1 : Int32), r4.2)) else (
    (rdR 5 r4.2 v0 0).bind fun x6 =>
    (ldR 2 r4.2 x6 v1).bind fun x7 =>
    (rdR 2 r4.2 x7 1).bind fun x8 =>
    (ldI 0 r4.2 x8 v2).bind fun x9 =>
    if x9 = (2 : Int32) then (
    (rdR 5 r4.2 v0 0).bind fun x11 =>
    (ldR 2 r4.2 x11 v1).bind fun x12 =>
    (rdR 2 r4.2 x12 2).bind fun x13 =>
    (ldI 0 r4.2 x13 v2).bind fun x14 =>
    (mX5_numberOf r4.2 x14).bind fun r15 =>
    (rdR 5 r15.2 v0 0).bind fun x16 =>
    (ldR 2 r15.2 x16 v1).bind fun x17 =>
    (chk 2 r15.2 x17).bind fun _ =>
    (mX2_hasField r15.2 x17 r15.1 v3).bind fun r19 =>
    if r19.1 = 0 then (
    some ((-1 : Int32), r19.2)) else (
    (mX5_fieldSlot r19.2 r15.1 v3).bind fun r21 =>
    some (r21.1, r21.2))) else (
    some ((-1 : Int32), r4.2))))
set_option maxRecDepth 100000 in
set_option maxHeartbeats 4000000 in
theorem sX5_slotBehind {l : Launch} {D : jD} {sz : Nat} {f : jM} {v0 : Nat} {v1 : Int32} {v2 : Int32} {v3 : Int32} {res : (Int32 × jM)} (h : mX5_slotBehind f v0 v1 v2 v3 = some res) : jCt l D yX5_slotBehind cX5_slotBehind 5 (some .int) 2 43 [.ref v0, .int v1, .int v2, .int v3] f sz 0 0 (some (.int res.1)) res.2 sz := by
  refine j_start (by decide +kernel) (Nat.le_of_ble_eq_true rfl) (fun c hcl hcD hcn E => ?_)
  subst hcl
  subst hcD
  replace E : jOk c cX5_slotBehind 5 RX5 (some .int) 2 43 := E
  show J c (jZ c (some (.int res.1)) res.2 sz) f sz 0 0 0 [(0, .ref v0), (1, .int v1), (2, .int v2), (3, .int v3)] []
  unfold mX5_slotBehind at h
  refine j_aload_n E 0 dX5_slotBehind_0 rfl rfl ?_
  refine j_iload_n E 1 dX5_slotBehind_1 rfl rfl ?_
  obtain ⟨u1, h1, h⟩ := jb h
  obtain ⟨fs1, h1⟩ := chk_spec h1
  obtain ⟨r2, h2, h⟩ := jb h
  refine j_callV (As := [.int v1]) (b := v0) (rest := []) (rc := 0) (rs := 0) E (sX5_isNode h2) lwX5_isNode lkX5_48 imX5_isNode seX5_isNode rfl h1 (by decide) rfl (Nat.le_of_ble_eq_true rfl) dX5_slotBehind_2 ?_
  refine j_if_eq (tgt := 30) E dX5_slotBehind_5 (by decide) (fun hc3 => ?_) (fun hc3 => ?_)
  · replace h := jt hc3 h
    refine j_iconst (v := (-1 : Int32)) E dX5_slotBehind_30 (by decide) ?_
    cases h
    exact j_iret E dX5_slotBehind_31
  replace h := jf hc3 h
  refine j_iload_n E 2 dX5_slotBehind_8 rfl rfl ?_
  obtain ⟨r4, h4, h⟩ := jb h
  refine j_callS (As := [.int v2]) (rest := []) (rc := 0) (rs := 0) E (sX5_isRegister h4) lwX5_isRegister lkX5_52 stX5_isRegister (by decide) rfl (Nat.le_of_ble_eq_true rfl) dX5_slotBehind_9 ?_
  refine j_if_eq (tgt := 30) E dX5_slotBehind_12 (by decide) (fun hc5 => ?_) (fun hc5 => ?_)
  · replace h := jt hc5 h
    refine j_iconst (v := (-1 : Int32)) E dX5_slotBehind_30 (by decide) ?_
    cases h
    exact j_iret E dX5_slotBehind_31
  replace h := jf hc5 h
  refine j_aload_n E 0 dX5_slotBehind_15 rfl rfl ?_
  obtain ⟨x6, h6, h⟩ := jb h
  refine j_getR E gX5_20 h6 dX5_slotBehind_16 ?_
  refine j_iload_n E 1 dX5_slotBehind_19 rfl rfl ?_
  obtain ⟨x7, h7, h⟩ := jb h
  refine j_aald E rfl h7 dX5_slotBehind_20 ?_
  obtain ⟨x8, h8, h⟩ := jb h
  refine j_getR E gX5_102 h8 dX5_slotBehind_21 ?_
  refine j_iload_n E 2 dX5_slotBehind_24 rfl rfl ?_
  obtain ⟨x9, h9, h⟩ := jb h
  refine j_iald E h9 dX5_slotBehind_25 ?_
  refine j_iconst (v := (2 : Int32)) E dX5_slotBehind_26 (by decide) ?_
  refine j_icmp_eq (tgt := 32) E dX5_slotBehind_27 (by decide) (fun hc10 => ?_) (fun hc10 => ?_)
  · replace h := jt hc10 h
    refine j_aload_n E 0 dX5_slotBehind_32 rfl rfl ?_
    obtain ⟨x11, h11, h⟩ := jb h
    refine j_getR E gX5_20 h11 dX5_slotBehind_33 ?_
    refine j_iload_n E 1 dX5_slotBehind_36 rfl rfl ?_
    obtain ⟨x12, h12, h⟩ := jb h
    refine j_aald E rfl h12 dX5_slotBehind_37 ?_
    obtain ⟨x13, h13, h⟩ := jb h
    refine j_getR E gX5_90 h13 dX5_slotBehind_38 ?_
    refine j_iload_n E 2 dX5_slotBehind_41 rfl rfl ?_
    obtain ⟨x14, h14, h⟩ := jb h
    refine j_iald E h14 dX5_slotBehind_42 ?_
    obtain ⟨r15, h15, h⟩ := jb h
    refine j_callS (As := [.int x14]) (rest := []) (rc := 0) (rs := 0) E (sX5_numberOf h15) lwX5_numberOf lkX5_185 stX5_numberOf (by decide) rfl (Nat.le_of_ble_eq_true rfl) dX5_slotBehind_43 ?_
    refine j_istore (lv' := [(4, .int r15.1), (0, .ref v0), (1, .int v1), (2, .int v2), (3, .int v3)]) E dX5_slotBehind_46 (by decide) rfl ?_
    refine j_aload_n E 1 dX5_slotBehind_48 rfl rfl ?_
    obtain ⟨x16, h16, h⟩ := jb h
    refine j_getR E gX5_20 h16 dX5_slotBehind_49 ?_
    refine j_iload_n E 2 dX5_slotBehind_52 rfl rfl ?_
    obtain ⟨x17, h17, h⟩ := jb h
    refine j_aald E rfl h17 dX5_slotBehind_53 ?_
    refine j_iload E 0 dX5_slotBehind_54 rfl ?_
    refine j_iload_n E 4 dX5_slotBehind_56 rfl rfl ?_
    obtain ⟨u18, h18, h⟩ := jb h
    obtain ⟨fs18, h18⟩ := chk_spec h18
    obtain ⟨r19, h19, h⟩ := jb h
    refine j_callV (As := [.int r15.1, .int v3]) (b := x17) (rest := []) (rc := 0) (rs := 0) E (sX2_hasField h19) lwX2_hasField lkX5_194 imX2_hasField seX2_hasField rfl h18 (by decide) rfl (Nat.le_of_ble_eq_true rfl) dX5_slotBehind_57 ?_
    refine j_if_eq (tgt := 72) E dX5_slotBehind_60 (by decide) (fun hc20 => ?_) (fun hc20 => ?_)
    · replace h := jt hc20 h
      refine j_iconst (v := (-1 : Int32)) E dX5_slotBehind_72 (by decide) ?_
      cases h
      exact j_iret E dX5_slotBehind_73
    replace h := jf hc20 h
    refine j_iload E 0 dX5_slotBehind_63 rfl ?_
    refine j_iload_n E 4 dX5_slotBehind_65 rfl rfl ?_
    obtain ⟨r21, h21, h⟩ := jb h
    refine j_callS (As := [.int r15.1, .int v3]) (rest := []) (rc := 0) (rs := 0) E (sX5_fieldSlot h21) lwX5_fieldSlot lkX5_197 stX5_fieldSlot (by decide) rfl (Nat.le_of_ble_eq_true rfl) dX5_slotBehind_66 ?_
    refine j_goto (tgt := 73) E dX5_slotBehind_69 (by decide) ?_
    cases h
    exact j_iret E dX5_slotBehind_73
  replace h := jf hc10 h
  refine j_iconst (v := (-1 : Int32)) E dX5_slotBehind_30 (by decide) ?_
  cases h
  exact j_iret E dX5_slotBehind_31
def mX5_set (f : jM) (v0 : Nat) (v1 : Int32) (v2 : Int32) (v3 : Int32) (v4 : Int32) : Option (Int32 × jM) :=
    (chk 5 f v0).bind fun _ =>
    (mX5_slotBehind f v0 v1 v2 v3).bind fun r2 =>
    if r2.1 = (-1 : Int32) then (
    some ((0 : Int32), r2.2)) else (
    (mX5_isRegister r2.2 v4).bind fun r4 =>
    if r4.1 = 0 then (
    some ((0 : Int32), r4.2)) else (
    (rdR 5 r4.2 v0 0).bind fun x6 =>
    (ldR 2 r4.2 x6 v1).bind fun x7 =>
    (chk 2 r4.2 x7).bind fun _ =>
    (mX2_copy r4.2 x7 v4 r2.1).bind fun f9 =>
    some ((1 : Int32), f9)))
set_option maxRecDepth 100000 in
set_option maxHeartbeats 4000000 in
theorem sX5_set {l : Launch} {D : jD} {sz : Nat} {f : jM} {v0 : Nat} {v1 : Int32} {v2 : Int32} {v3 : Int32} {v4 : Int32} {res : (Int32 × jM)} (h : mX5_set f v0 v1 v2 v3 v4 = some res) : jCt l D yX5_set cX5_set 6 (some .boolean) 3 67 [.ref v0, .int v1, .int v2, .int v3, .int v4] f sz 0 0 (some (.int res.1)) res.2 sz := by
  refine j_start (by decide +kernel) (Nat.le_of_ble_eq_true rfl) (fun c hcl hcD hcn E => ?_)
  subst hcl
  subst hcD
  replace E : jOk c cX5_set 6 RX5 (some .boolean) 3 67 := E
  show J c (jZ c (some (.int res.1)) res.2 sz) f sz 0 0 0 [(0, .ref v0), (1, .int v1), (2, .int v2), (3, .int v3), (4, .int v4)] []
  unfold mX5_set at h
  refine j_aload_n E 0 dX5_set_0 rfl rfl ?_
  refine j_iload_n E 1 dX5_set_1 rfl rfl ?_
  refine j_iload_n E 2 dX5_set_2 rfl rfl ?_
  refine j_iload_n E 3 dX5_set_3 rfl rfl ?_
  obtain ⟨u1, h1, h⟩ := jb h
  obtain ⟨fs1, h1⟩ := chk_spec h1
  obtain ⟨r2, h2, h⟩ := jb h
  refine j_callV (As := [.int v1, .int v2, .int v3]) (b := v0) (rest := []) (rc := 0) (rs := 0) E (sX5_slotBehind h2) lwX5_slotBehind lkX5_73 imX5_slotBehind seX5_slotBehind rfl h1 (by decide) rfl (Nat.le_of_ble_eq_true rfl) dX5_set_4 ?_
  refine j_istore (lv' := [(5, .int r2.1), (0, .ref v0), (1, .int v1), (2, .int v2), (3, .int v3), (4, .int v4)]) E dX5_set_7 (by decide) rfl ?_
  refine j_iload E 0 dX5_set_9 rfl ?_
  refine j_iconst (v := (-1 : Int32)) E dX5_set_11 (by decide) ?_
  refine j_icmp_eq (tgt := 23) E dX5_set_12 (by decide) (fun hc3 => ?_) (fun hc3 => ?_)
  · replace h := jt hc3 h
    refine j_iconst (v := (0 : Int32)) E dX5_set_23 (by decide) ?_
    cases h
    exact j_zret (v := (0 : Int32)) E (by decide +kernel) dX5_set_24
  replace h := jf hc3 h
  refine j_iload E 5 dX5_set_15 rfl ?_
  obtain ⟨r4, h4, h⟩ := jb h
  refine j_callS (As := [.int v4]) (rest := []) (rc := 0) (rs := 0) E (sX5_isRegister h4) lwX5_isRegister lkX5_52 stX5_isRegister (by decide) rfl (Nat.le_of_ble_eq_true rfl) dX5_set_17 ?_
  refine j_if_ne (tgt := 25) E dX5_set_20 (by decide) (fun hc5 => ?_) (fun hc5 => ?_)
  · replace h := jf hc5 h
    refine j_aload_n E 1 dX5_set_25 rfl rfl ?_
    obtain ⟨x6, h6, h⟩ := jb h
    refine j_getR E gX5_20 h6 dX5_set_26 ?_
    refine j_iload_n E 2 dX5_set_29 rfl rfl ?_
    obtain ⟨x7, h7, h⟩ := jb h
    refine j_aald E rfl h7 dX5_set_30 ?_
    refine j_iload E 5 dX5_set_31 rfl ?_
    refine j_iload E 0 dX5_set_33 rfl ?_
    obtain ⟨u8, h8, h⟩ := jb h
    obtain ⟨fs8, h8⟩ := chk_spec h8
    obtain ⟨f9, h9, h⟩ := jb h
    refine j_callV (As := [.int v4, .int r2.1]) (b := x7) (rest := []) (rc := 0) (rs := 0) E (sX2_copy h9) lwX2_copy lkX5_77 imX2_copy seX2_copy rfl h8 (by decide) rfl (Nat.le_of_ble_eq_true rfl) dX5_set_35 ?_
    refine j_iconst (v := (1 : Int32)) E dX5_set_38 (by decide) ?_
    cases h
    exact j_zret (v := (1 : Int32)) E (by decide +kernel) dX5_set_39
  replace h := jt hc5 h
  refine j_iconst (v := (0 : Int32)) E dX5_set_23 (by decide) ?_
  cases h
  exact j_zret (v := (0 : Int32)) E (by decide +kernel) dX5_set_24
def mX5_get (f : jM) (v0 : Nat) (v1 : Int32) (v2 : Int32) (v3 : Int32) (v4 : Int32) : Option (Int32 × jM) :=
    (chk 5 f v0).bind fun _ =>
    (mX5_slotBehind f v0 v1 v2 v3).bind fun r2 =>
    if r2.1 = (-1 : Int32) then (
    some ((0 : Int32), r2.2)) else (
    (mX5_isRegister r2.2 v4).bind fun r4 =>
    if r4.1 = 0 then (
    some ((0 : Int32), r4.2)) else (
    (rdR 5 r4.2 v0 0).bind fun x6 =>
    (ldR 2 r4.2 x6 v1).bind fun x7 =>
    (chk 2 r4.2 x7).bind fun _ =>
    (mX2_copy r4.2 x7 r2.1 v4).bind fun f9 =>
    some ((1 : Int32), f9)))
set_option maxRecDepth 100000 in
set_option maxHeartbeats 4000000 in
theorem sX5_get {l : Launch} {D : jD} {sz : Nat} {f : jM} {v0 : Nat} {v1 : Int32} {v2 : Int32} {v3 : Int32} {v4 : Int32} {res : (Int32 × jM)} (h : mX5_get f v0 v1 v2 v3 v4 = some res) : jCt l D yX5_get cX5_get 6 (some .boolean) 3 67 [.ref v0, .int v1, .int v2, .int v3, .int v4] f sz 0 0 (some (.int res.1)) res.2 sz := by
  refine j_start (by decide +kernel) (Nat.le_of_ble_eq_true rfl) (fun c hcl hcD hcn E => ?_)
  subst hcl
  subst hcD
  replace E : jOk c cX5_get 6 RX5 (some .boolean) 3 67 := E
  show J c (jZ c (some (.int res.1)) res.2 sz) f sz 0 0 0 [(0, .ref v0), (1, .int v1), (2, .int v2), (3, .int v3), (4, .int v4)] []
  unfold mX5_get at h
  refine j_aload_n E 0 dX5_get_0 rfl rfl ?_
  refine j_iload_n E 1 dX5_get_1 rfl rfl ?_
  refine j_iload_n E 2 dX5_get_2 rfl rfl ?_
  refine j_iload_n E 3 dX5_get_3 rfl rfl ?_
  obtain ⟨u1, h1, h⟩ := jb h
  obtain ⟨fs1, h1⟩ := chk_spec h1
  obtain ⟨r2, h2, h⟩ := jb h
  refine j_callV (As := [.int v1, .int v2, .int v3]) (b := v0) (rest := []) (rc := 0) (rs := 0) E (sX5_slotBehind h2) lwX5_slotBehind lkX5_73 imX5_slotBehind seX5_slotBehind rfl h1 (by decide) rfl (Nat.le_of_ble_eq_true rfl) dX5_get_4 ?_
  refine j_istore (lv' := [(5, .int r2.1), (0, .ref v0), (1, .int v1), (2, .int v2), (3, .int v3), (4, .int v4)]) E dX5_get_7 (by decide) rfl ?_
  refine j_iload E 0 dX5_get_9 rfl ?_
  refine j_iconst (v := (-1 : Int32)) E dX5_get_11 (by decide) ?_
  refine j_icmp_eq (tgt := 23) E dX5_get_12 (by decide) (fun hc3 => ?_) (fun hc3 => ?_)
  · replace h := jt hc3 h
    refine j_iconst (v := (0 : Int32)) E dX5_get_23 (by decide) ?_
    cases h
    exact j_zret (v := (0 : Int32)) E (by decide +kernel) dX5_get_24
  replace h := jf hc3 h
  refine j_iload E 5 dX5_get_15 rfl ?_
  obtain ⟨r4, h4, h⟩ := jb h
  refine j_callS (As := [.int v4]) (rest := []) (rc := 0) (rs := 0) E (sX5_isRegister h4) lwX5_isRegister lkX5_52 stX5_isRegister (by decide) rfl (Nat.le_of_ble_eq_true rfl) dX5_get_17 ?_
  refine j_if_ne (tgt := 25) E dX5_get_20 (by decide) (fun hc5 => ?_) (fun hc5 => ?_)
  · replace h := jf hc5 h
    refine j_aload_n E 1 dX5_get_25 rfl rfl ?_
    obtain ⟨x6, h6, h⟩ := jb h
    refine j_getR E gX5_20 h6 dX5_get_26 ?_
    refine j_iload_n E 2 dX5_get_29 rfl rfl ?_
    obtain ⟨x7, h7, h⟩ := jb h
    refine j_aald E rfl h7 dX5_get_30 ?_
    refine j_iload E 0 dX5_get_31 rfl ?_
    refine j_iload E 5 dX5_get_33 rfl ?_
    obtain ⟨u8, h8, h⟩ := jb h
    obtain ⟨fs8, h8⟩ := chk_spec h8
    obtain ⟨f9, h9, h⟩ := jb h
    refine j_callV (As := [.int r2.1, .int v4]) (b := x7) (rest := []) (rc := 0) (rs := 0) E (sX2_copy h9) lwX2_copy lkX5_77 imX2_copy seX2_copy rfl h8 (by decide) rfl (Nat.le_of_ble_eq_true rfl) dX5_get_35 ?_
    refine j_iconst (v := (1 : Int32)) E dX5_get_38 (by decide) ?_
    cases h
    exact j_zret (v := (1 : Int32)) E (by decide +kernel) dX5_get_39
  replace h := jt hc5 h
  refine j_iconst (v := (0 : Int32)) E dX5_get_23 (by decide) ?_
  cases h
  exact j_zret (v := (0 : Int32)) E (by decide +kernel) dX5_get_24
def mX5_number (f : jM) (v0 : Nat) (v1 : Int32) (v2 : Int32) (v3 : Int32) : Option (Int32 × jM) :=
    (chk 5 f v0).bind fun _ =>
    (mX5_isNode f v0 v1).bind fun r2 =>
    if r2.1 = 0 then (
    some ((0 : Int32), r2.2)) else (
    (mX5_isRegister r2.2 v2).bind fun r4 =>
    if r4.1 = 0 then (
    some ((0 : Int32), r4.2)) else (
    (rdR 5 r4.2 v0 0).bind fun x6 =>
    (ldR 2 r4.2 x6 v1).bind fun x7 =>
    (chk 2 r4.2 x7).bind fun _ =>
    (mX2_fill r4.2 x7 v2 (1 : Int32) v3).bind fun f9 =>
    some ((1 : Int32), f9)))
set_option maxRecDepth 100000 in
set_option maxHeartbeats 4000000 in
theorem sX5_number {l : Launch} {D : jD} {sz : Nat} {f : jM} {v0 : Nat} {v1 : Int32} {v2 : Int32} {v3 : Int32} {res : (Int32 × jM)} (h : mX5_number f v0 v1 v2 v3 = some res) : jCt l D yX5_number cX5_number 4 (some .boolean) 1 23 [.ref v0, .int v1, .int v2, .int v3] f sz 0 0 (some (.int res.1)) res.2 sz := by
  refine j_start (by decide +kernel) (Nat.le_of_ble_eq_true rfl) (fun c hcl hcD hcn E => ?_)
  subst hcl
  subst hcD
  replace E : jOk c cX5_number 4 RX5 (some .boolean) 1 23 := E
  show J c (jZ c (some (.int res.1)) res.2 sz) f sz 0 0 0 [(0, .ref v0), (1, .int v1), (2, .int v2), (3, .int v3)] []
  unfold mX5_number at h
  refine j_aload_n E 0 dX5_number_0 rfl rfl ?_
  refine j_iload_n E 1 dX5_number_1 rfl rfl ?_
  obtain ⟨u1, h1, h⟩ := jb h
  obtain ⟨fs1, h1⟩ := chk_spec h1
  obtain ⟨r2, h2, h⟩ := jb h
  refine j_callV (As := [.int v1]) (b := v0) (rest := []) (rc := 0) (rs := 0) E (sX5_isNode h2) lwX5_isNode lkX5_48 imX5_isNode seX5_isNode rfl h1 (by decide) rfl (Nat.le_of_ble_eq_true rfl) dX5_number_2 ?_
  refine j_if_eq (tgt := 15) E dX5_number_5 (by decide) (fun hc3 => ?_) (fun hc3 => ?_)
  · replace h := jt hc3 h
    refine j_iconst (v := (0 : Int32)) E dX5_number_15 (by decide) ?_
    cases h
    exact j_zret (v := (0 : Int32)) E (by decide +kernel) dX5_number_16
  replace h := jf hc3 h
  refine j_iload_n E 2 dX5_number_8 rfl rfl ?_
  obtain ⟨r4, h4, h⟩ := jb h
  refine j_callS (As := [.int v2]) (rest := []) (rc := 0) (rs := 0) E (sX5_isRegister h4) lwX5_isRegister lkX5_52 stX5_isRegister (by decide) rfl (Nat.le_of_ble_eq_true rfl) dX5_number_9 ?_
  refine j_if_ne (tgt := 17) E dX5_number_12 (by decide) (fun hc5 => ?_) (fun hc5 => ?_)
  · replace h := jf hc5 h
    refine j_aload_n E 0 dX5_number_17 rfl rfl ?_
    obtain ⟨x6, h6, h⟩ := jb h
    refine j_getR E gX5_20 h6 dX5_number_18 ?_
    refine j_iload_n E 1 dX5_number_21 rfl rfl ?_
    obtain ⟨x7, h7, h⟩ := jb h
    refine j_aald E rfl h7 dX5_number_22 ?_
    refine j_iload_n E 2 dX5_number_23 rfl rfl ?_
    refine j_iconst (v := (1 : Int32)) E dX5_number_24 (by decide) ?_
    refine j_iload_n E 3 dX5_number_25 rfl rfl ?_
    obtain ⟨u8, h8, h⟩ := jb h
    obtain ⟨fs8, h8⟩ := chk_spec h8
    obtain ⟨f9, h9, h⟩ := jb h
    refine j_callV (As := [.int v2, .int (1 : Int32), .int v3]) (b := x7) (rest := []) (rc := 0) (rs := 0) E (sX2_fill h9) lwX2_fill lkX5_69 imX2_fill seX2_fill rfl h8 (by decide) rfl (Nat.le_of_ble_eq_true rfl) dX5_number_26 ?_
    refine j_iconst (v := (1 : Int32)) E dX5_number_29 (by decide) ?_
    cases h
    exact j_zret (v := (1 : Int32)) E (by decide +kernel) dX5_number_30
  replace h := jt hc5 h
  refine j_iconst (v := (0 : Int32)) E dX5_number_15 (by decide) ?_
  cases h
  exact j_zret (v := (0 : Int32)) E (by decide +kernel) dX5_number_16
def mX5_drop (f : jM) (v0 : Nat) (v1 : Int32) (v2 : Int32) : Option (Int32 × jM) :=
    (chk 5 f v0).bind fun _ =>
    (mX5_isNode f v0 v1).bind fun r2 =>
    if r2.1 = 0 then (
    some ((0 : Int32), r2.2)) else (
    (mX5_isRegister r2.2 v2).bind fun r4 =>
    if r4.1 = 0 then (
    some ((0 : Int32), r4.2)) else (
    (rdR 5 r4.2 v0 0).bind fun x6 =>
    (ldR 2 r4.2 x6 v1).bind fun x7 =>
    (chk 2 r4.2 x7).bind fun _ =>
    (mX2_empty r4.2 x7 v2).bind fun f9 =>
    some ((1 : Int32), f9)))
set_option maxRecDepth 100000 in
set_option maxHeartbeats 4000000 in
theorem sX5_drop {l : Launch} {D : jD} {sz : Nat} {f : jM} {v0 : Nat} {v1 : Int32} {v2 : Int32} {res : (Int32 × jM)} (h : mX5_drop f v0 v1 v2 = some res) : jCt l D yX5_drop cX5_drop 3 (some .boolean) 2 44 [.ref v0, .int v1, .int v2] f sz 0 0 (some (.int res.1)) res.2 sz := by
  refine j_start (by decide +kernel) (Nat.le_of_ble_eq_true rfl) (fun c hcl hcD hcn E => ?_)
  subst hcl
  subst hcD
  replace E : jOk c cX5_drop 3 RX5 (some .boolean) 2 44 := E
  show J c (jZ c (some (.int res.1)) res.2 sz) f sz 0 0 0 [(0, .ref v0), (1, .int v1), (2, .int v2)] []
  unfold mX5_drop at h
  refine j_aload_n E 0 dX5_drop_0 rfl rfl ?_
  refine j_iload_n E 1 dX5_drop_1 rfl rfl ?_
  obtain ⟨u1, h1, h⟩ := jb h
  obtain ⟨fs1, h1⟩ := chk_spec h1
  obtain ⟨r2, h2, h⟩ := jb h
  refine j_callV (As := [.int v1]) (b := v0) (rest := []) (rc := 0) (rs := 0) E (sX5_isNode h2) lwX5_isNode lkX5_48 imX5_isNode seX5_isNode rfl h1 (by decide) rfl (Nat.le_of_ble_eq_true rfl) dX5_drop_2 ?_
  refine j_if_eq (tgt := 15) E dX5_drop_5 (by decide) (fun hc3 => ?_) (fun hc3 => ?_)
  · replace h := jt hc3 h
    refine j_iconst (v := (0 : Int32)) E dX5_drop_15 (by decide) ?_
    cases h
    exact j_zret (v := (0 : Int32)) E (by decide +kernel) dX5_drop_16
  replace h := jf hc3 h
  refine j_iload_n E 2 dX5_drop_8 rfl rfl ?_
  obtain ⟨r4, h4, h⟩ := jb h
  refine j_callS (As := [.int v2]) (rest := []) (rc := 0) (rs := 0) E (sX5_isRegister h4) lwX5_isRegister lkX5_52 stX5_isRegister (by decide) rfl (Nat.le_of_ble_eq_true rfl) dX5_drop_9 ?_
  refine j_if_ne (tgt := 17) E dX5_drop_12 (by decide) (fun hc5 => ?_) (fun hc5 => ?_)
  · replace h := jf hc5 h
    refine j_aload_n E 0 dX5_drop_17 rfl rfl ?_
    obtain ⟨x6, h6, h⟩ := jb h
    refine j_getR E gX5_20 h6 dX5_drop_18 ?_
    refine j_iload_n E 1 dX5_drop_21 rfl rfl ?_
    obtain ⟨x7, h7, h⟩ := jb h
    refine j_aald E rfl h7 dX5_drop_22 ?_
    refine j_iload_n E 2 dX5_drop_23 rfl rfl ?_
    obtain ⟨u8, h8, h⟩ := jb h
    obtain ⟨fs8, h8⟩ := chk_spec h8
    obtain ⟨f9, h9, h⟩ := jb h
    refine j_callV (As := [.int v2]) (b := x7) (rest := []) (rc := 0) (rs := 0) E (sX2_empty h9) lwX2_empty lkX5_80 imX2_empty seX2_empty rfl h8 (by decide) rfl (Nat.le_of_ble_eq_true rfl) dX5_drop_24 ?_
    refine j_iconst (v := (1 : Int32)) E dX5_drop_27 (by decide) ?_
    cases h
    exact j_zret (v := (1 : Int32)) E (by decide +kernel) dX5_drop_28
  replace h := jt hc5 h
  refine j_iconst (v := (0 : Int32)) E dX5_drop_15 (by decide) ?_
  cases h
  exact j_zret (v := (0 : Int32)) E (by decide +kernel) dX5_drop_16
