def mX6_object (fu : Nat) (f : jM) (v0 : Nat) (v1 : Int32) (v2 : Int32) (v3 : Int32) : Option (Int32 × jM) :=
    (chk 6 f v0).bind fun _ =>
    (mX6_isObject f v0 v1 v2).bind fun r2 =>
    if r2.1 = 0 then (
    some ((-2 : Int32), r2.2)) else (
    if v3 = (0 : Int32) then (
    (rdR 6 r2.2 v0 3).bind fun x5 =>
    (ldI 0 r2.2 x5 (((24 : Int32) * v1) + v2)).bind fun x6 =>
    some (x6, r2.2)) else (if v3 = (1 : Int32) then (
    (rdR 6 r2.2 v0 2).bind fun x8 =>
    (ldI 0 r2.2 x8 (((24 : Int32) * v1) + v2)).bind fun x9 =>
    some (x9, r2.2)) else (if v3 = (2 : Int32) then (
    (rdR 6 r2.2 v0 4).bind fun x11 =>
    (ldI 0 r2.2 x11 (((24 : Int32) * v1) + v2)).bind fun x12 =>
    some (x12, r2.2)) else (if v3 = (3 : Int32) then (
    (chk 6 r2.2 v0).bind fun _ =>
    (mX6_hold fu r2.2 v0).bind fun f15 =>
    (rdR 6 f15 v0 27).bind fun x16 =>
    (ldI 1 f15 x16 (((24 : Int32) * v1) + v2)).bind fun x17 =>
    if x17 = 0 then (
    some ((0 : Int32), f15)) else (
    some ((1 : Int32), f15))) else (
    some ((-2 : Int32), r2.2))))))
set_option maxRecDepth 100000 in
set_option maxHeartbeats 4000000 in
theorem sX6_object {l : Launch} {D : jD} {sz : Nat} {fu : Nat} {f : jM} {v0 : Nat} {v1 : Int32} {v2 : Int32} {v3 : Int32} {res : (Int32 × jM)} (h : mX6_object fu f v0 v1 v2 v3 = some res) : jCt l D yX6_object cX6_object 5 (some .int) 2 43 [.ref v0, .int v1, .int v2, .int v3] f sz 0 0 (some (.int res.1)) res.2 sz := by
  refine j_start (by decide +kernel) (Nat.le_of_ble_eq_true rfl) (fun c hcl hcD hcn E => ?_)
  subst hcl
  subst hcD
  replace E : jOk c cX6_object 5 RX6 (some .int) 2 43 := E
  show J c (jZ c (some (.int res.1)) res.2 sz) f sz 0 0 0 [(0, .ref v0), (1, .int v1), (2, .int v2), (3, .int v3)] []
  unfold mX6_object at h
  refine j_aload_n E 0 dX6_object_0 rfl rfl ?_
  refine j_iload_n E 1 dX6_object_1 rfl rfl ?_
  refine j_iload_n E 2 dX6_object_2 rfl rfl ?_
  obtain ⟨u1, h1, h⟩ := jb h
  obtain ⟨fs1, h1⟩ := chk_spec h1
  obtain ⟨r2, h2, h⟩ := jb h
  refine j_callV (As := [.int v1, .int v2]) (b := v0) (rest := []) (rc := 0) (rs := 0) E (sX6_isObject h2) lwX6_isObject lkX6_154 imX6_isObject seX6_isObject rfl h1 (by decide) rfl (Nat.le_of_ble_eq_true rfl) dX6_object_3 ?_
  refine j_if_ne (tgt := 12) E dX6_object_6 (by decide) (fun hc3 => ?_) (fun hc3 => ?_)
  · replace h := jf hc3 h
    refine j_bipush (v := (24 : Int32)) E dX6_object_12 (by decide) ?_
    refine j_iload_n E 1 dX6_object_14 rfl rfl ?_
    refine j_imul E dX6_object_15 ?_
    refine j_iload_n E 2 dX6_object_16 rfl rfl ?_
    refine j_iadd E dX6_object_17 ?_
    refine j_istore (lv' := [(4, .int (((24 : Int32) * v1) + v2)), (0, .ref v0), (1, .int v1), (2, .int v2), (3, .int v3)]) E dX6_object_18 (by decide) rfl ?_
    refine j_iload_n E 4 dX6_object_20 rfl rfl ?_
    by_cases hc4 : v3 = (0 : Int32)
    · replace h := jt hc4 h
      refine j_tableIn (off := 31) (tgt := 52) E dX6_object_21 (by rw [hc4]; decide) (by rw [hc4]; decide) (by rw [hc4]; rfl) (by decide) ?_
      refine j_aload_n E 1 dX6_object_52 rfl rfl ?_
      obtain ⟨x5, h5, h⟩ := jb h
      refine j_getR E gX6_17 h5 dX6_object_53 ?_
      refine j_iload E 0 dX6_object_56 rfl ?_
      obtain ⟨x6, h6, h⟩ := jb h
      refine j_iald E h6 dX6_object_58 ?_
      cases h
      exact j_iret E dX6_object_59
    replace h := jf hc4 h
    by_cases hc7 : v3 = (1 : Int32)
    · replace h := jt hc7 h
      refine j_tableIn (off := 39) (tgt := 60) E dX6_object_21 (by rw [hc7]; decide) (by rw [hc7]; decide) (by rw [hc7]; rfl) (by decide) ?_
      refine j_aload_n E 1 dX6_object_60 rfl rfl ?_
      obtain ⟨x8, h8, h⟩ := jb h
      refine j_getR E gX6_13 h8 dX6_object_61 ?_
      refine j_iload E 0 dX6_object_64 rfl ?_
      obtain ⟨x9, h9, h⟩ := jb h
      refine j_iald E h9 dX6_object_66 ?_
      cases h
      exact j_iret E dX6_object_67
    replace h := jf hc7 h
    by_cases hc10 : v3 = (2 : Int32)
    · replace h := jt hc10 h
      refine j_tableIn (off := 47) (tgt := 68) E dX6_object_21 (by rw [hc10]; decide) (by rw [hc10]; decide) (by rw [hc10]; rfl) (by decide) ?_
      refine j_aload_n E 1 dX6_object_68 rfl rfl ?_
      obtain ⟨x11, h11, h⟩ := jb h
      refine j_getR E gX6_20 h11 dX6_object_69 ?_
      refine j_iload E 0 dX6_object_72 rfl ?_
      obtain ⟨x12, h12, h⟩ := jb h
      refine j_iald E h12 dX6_object_74 ?_
      cases h
      exact j_iret E dX6_object_75
    replace h := jf hc10 h
    by_cases hc13 : v3 = (3 : Int32)
    · replace h := jt hc13 h
      refine j_tableIn (off := 55) (tgt := 76) E dX6_object_21 (by rw [hc13]; decide) (by rw [hc13]; decide) (by rw [hc13]; rfl) (by decide) ?_
      refine j_aload_n E 1 dX6_object_76 rfl rfl ?_
      obtain ⟨u14, h14, h⟩ := jb h
      obtain ⟨fs14, h14⟩ := chk_spec h14
      obtain ⟨f15, h15, h⟩ := jb h
      refine j_callV (As := []) (b := v0) (rest := []) (rc := 0) (rs := 0) E (sX6_hold h15) lwX6_hold lkX6_184 imX6_hold seX6_hold rfl h14 (by decide) rfl (Nat.le_of_ble_eq_true rfl) dX6_object_77 ?_
      refine j_aload_n E 1 dX6_object_80 rfl rfl ?_
      obtain ⟨x16, h16, h⟩ := jb h
      refine j_getR E gX6_84 h16 dX6_object_81 ?_
      refine j_iload E 0 dX6_object_84 rfl ?_
      obtain ⟨x17, h17, h⟩ := jb h
      refine j_zald E h17 dX6_object_86 ?_
      refine j_if_eq (tgt := 94) E dX6_object_87 (by decide) (fun hc18 => ?_) (fun hc18 => ?_)
      · replace h := jt hc18 h
        refine j_iconst (v := (0 : Int32)) E dX6_object_94 (by decide) ?_
        cases h
        exact j_iret E dX6_object_95
      replace h := jf hc18 h
      refine j_iconst (v := (1 : Int32)) E dX6_object_90 (by decide) ?_
      refine j_goto (tgt := 95) E dX6_object_91 (by decide) ?_
      cases h
      exact j_iret E dX6_object_95
    replace h := jf hc13 h
    have q4 := jne (0 : Int32) (k := 0) rfl hc4
    have q7 := jne (1 : Int32) (k := 1) rfl hc7
    have q10 := jne (2 : Int32) (k := 2) rfl hc10
    have q13 := jne (3 : Int32) (k := 3) rfl hc13
    refine j_tableOut (tgt := 96) E dX6_object_21 (by omega) (by decide) ?_
    refine j_bipush (v := (-2 : Int32)) E dX6_object_96 (by decide) ?_
    cases h
    exact j_iret E dX6_object_98
  replace h := jt hc3 h
  refine j_bipush (v := (-2 : Int32)) E dX6_object_9 (by decide) ?_
  cases h
  exact j_iret E dX6_object_11
def mX6_weight (f : jM) (v0 : Nat) (v1 : Int32) (v2 : Int32) (v3 : Int32) : Option (Int32 × jM) :=
    (chk 6 f v0).bind fun _ =>
    (mX6_isNode f v0 v1).bind fun r2 =>
    if r2.1 = 0 then (
    some ((0 : Int32), r2.2)) else (
    (chk 6 r2.2 v0).bind fun _ =>
    (mX6_isNode r2.2 v0 v2).bind fun r5 =>
    if r5.1 = 0 then (
    some ((0 : Int32), r5.2)) else (
    if v3 < 0 then (
    some ((0 : Int32), r5.2)) else (
    if (24 : Int32) ≤ v3 then (
    some ((0 : Int32), r5.2)) else (
    (rdR 6 r5.2 v0 10).bind fun x9 =>
    (ldI 0 r5.2 x9 ((((120 : Int32) * v1) + ((24 : Int32) * v2)) + v3)).bind fun x10 =>
    some (x10, r5.2)))))
set_option maxRecDepth 100000 in
set_option maxHeartbeats 4000000 in
theorem sX6_weight {l : Launch} {D : jD} {sz : Nat} {f : jM} {v0 : Nat} {v1 : Int32} {v2 : Int32} {v3 : Int32} {res : (Int32 × jM)} (h : mX6_weight f v0 v1 v2 v3 = some res) : jCt l D yX6_weight cX6_weight 4 (some .int) 1 21 [.ref v0, .int v1, .int v2, .int v3] f sz 0 0 (some (.int res.1)) res.2 sz := by
  refine j_start (by decide +kernel) (Nat.le_of_ble_eq_true rfl) (fun c hcl hcD hcn E => ?_)
  subst hcl
  subst hcD
  replace E : jOk c cX6_weight 4 RX6 (some .int) 1 21 := E
  show J c (jZ c (some (.int res.1)) res.2 sz) f sz 0 0 0 [(0, .ref v0), (1, .int v1), (2, .int v2), (3, .int v3)] []
  unfold mX6_weight at h
  refine j_aload_n E 0 dX6_weight_0 rfl rfl ?_
  refine j_iload_n E 1 dX6_weight_1 rfl rfl ?_
  obtain ⟨u1, h1, h⟩ := jb h
  obtain ⟨fs1, h1⟩ := chk_spec h1
  obtain ⟨r2, h2, h⟩ := jb h
  refine j_callV (As := [.int v1]) (b := v0) (rest := []) (rc := 0) (rs := 0) E (sX6_isNode h2) lwX6_isNode lkX6_90 imX6_isNode seX6_isNode rfl h1 (by decide) rfl (Nat.le_of_ble_eq_true rfl) dX6_weight_2 ?_
  refine j_if_eq (tgt := 45) E dX6_weight_5 (by decide) (fun hc3 => ?_) (fun hc3 => ?_)
  · replace h := jt hc3 h
    refine j_iconst (v := (0 : Int32)) E dX6_weight_45 (by decide) ?_
    cases h
    exact j_iret E dX6_weight_46
  replace h := jf hc3 h
  refine j_aload_n E 0 dX6_weight_8 rfl rfl ?_
  refine j_iload_n E 2 dX6_weight_9 rfl rfl ?_
  obtain ⟨u4, h4, h⟩ := jb h
  obtain ⟨fs4, h4⟩ := chk_spec h4
  obtain ⟨r5, h5, h⟩ := jb h
  refine j_callV (As := [.int v2]) (b := v0) (rest := []) (rc := 0) (rs := 0) E (sX6_isNode h5) lwX6_isNode lkX6_90 imX6_isNode seX6_isNode rfl h4 (by decide) rfl (Nat.le_of_ble_eq_true rfl) dX6_weight_10 ?_
  refine j_if_eq (tgt := 45) E dX6_weight_13 (by decide) (fun hc6 => ?_) (fun hc6 => ?_)
  · replace h := jt hc6 h
    refine j_iconst (v := (0 : Int32)) E dX6_weight_45 (by decide) ?_
    cases h
    exact j_iret E dX6_weight_46
  replace h := jf hc6 h
  refine j_iload_n E 3 dX6_weight_16 rfl rfl ?_
  refine j_if_lt (tgt := 45) E dX6_weight_17 (by decide) (fun hc7 => ?_) (fun hc7 => ?_)
  · replace h := jt hc7 h
    refine j_iconst (v := (0 : Int32)) E dX6_weight_45 (by decide) ?_
    cases h
    exact j_iret E dX6_weight_46
  replace h := jf hc7 h
  refine j_iload_n E 3 dX6_weight_20 rfl rfl ?_
  refine j_bipush (v := (24 : Int32)) E dX6_weight_21 (by decide) ?_
  refine j_icmp_ge (tgt := 45) E dX6_weight_23 (by decide) (fun hc8 => ?_) (fun hc8 => ?_)
  · replace h := jt hc8 h
    refine j_iconst (v := (0 : Int32)) E dX6_weight_45 (by decide) ?_
    cases h
    exact j_iret E dX6_weight_46
  replace h := jf hc8 h
  refine j_aload_n E 0 dX6_weight_26 rfl rfl ?_
  obtain ⟨x9, h9, h⟩ := jb h
  refine j_getR E gX6_39 h9 dX6_weight_27 ?_
  refine j_bipush (v := (120 : Int32)) E dX6_weight_30 (by decide) ?_
  refine j_iload_n E 1 dX6_weight_32 rfl rfl ?_
  refine j_imul E dX6_weight_33 ?_
  refine j_bipush (v := (24 : Int32)) E dX6_weight_34 (by decide) ?_
  refine j_iload_n E 2 dX6_weight_36 rfl rfl ?_
  refine j_imul E dX6_weight_37 ?_
  refine j_iadd E dX6_weight_38 ?_
  refine j_iload_n E 3 dX6_weight_39 rfl rfl ?_
  refine j_iadd E dX6_weight_40 ?_
  obtain ⟨x10, h10, h⟩ := jb h
  refine j_iald E h10 dX6_weight_41 ?_
  refine j_goto (tgt := 46) E dX6_weight_42 (by decide) ?_
  cases h
  exact j_iret E dX6_weight_46
def mX6_message_L39 (fu : Nat)  (v0 : Nat) (v1 : Int32) (v2 : Int32) (v4 : Int32) : Nat → Int32 → Int32 → jM → Option (Int32 × jM)
  | 0, _, _, _ => none
  | n + 1, v5, v6, f =>
    (rdI 6 f v0 13).bind fun x1 =>
    if x1 ≤ v6 then (
    some ((-1 : Int32), f)) else (
    (rdR 6 f v0 14).bind fun x3 =>
    (ldI 0 f x3 v6).bind fun x4 =>
    if x4 = v1 then (
    (rdR 6 f v0 15).bind fun x6 =>
    (ldI 0 f x6 v6).bind fun x7 =>
    if x7 = v2 then (
    if v5 ≤ 0 then (
    if v4 = 0 then (
    (rdR 6 f v0 16).bind fun x21 =>
    (ldI 0 f x21 v6).bind fun x22 =>
    some (x22, f)) else (
    if v4 = (1 : Int32) then (
    (rdR 6 f v0 17).bind fun x17 =>
    (ldI 0 f x17 v6).bind fun x18 =>
    (rdR 6 f v0 17).bind fun x19 =>
    (ldI 0 f x19 v6).bind fun x20 =>
    some ((((100 : Int32) * (x18 / (24 : Int32))) + (x20 - x20 / (24 : Int32) * (24 : Int32))), f)) else (
    if v4 = (2 : Int32) then (
    (rdR 6 f v0 18).bind fun x15 =>
    (ldI 0 f x15 v6).bind fun x16 =>
    some (x16, f)) else (
    (rdR 6 f v0 19).bind fun x13 =>
    (ldI 0 f x13 v6).bind fun x14 =>
    some (x14, f))))) else (
    mX6_message_L39 fu v0 v1 v2 v4 n (v5 + (-1 : Int32)) (v6 + (1 : Int32)) f)) else (
    mX6_message_L39 fu v0 v1 v2 v4 n v5 (v6 + (1 : Int32)) f)) else (
    mX6_message_L39 fu v0 v1 v2 v4 n v5 (v6 + (1 : Int32)) f))
set_option maxRecDepth 100000 in
set_option maxHeartbeats 4000000 in
theorem wX6_message_L39 {c : jS} {sz : Nat} {fu : Nat}  {v0 : Nat} {v1 : Int32} {v2 : Int32} {v4 : Int32} {res : (Int32 × jM)} (E : jOk c cX6_message 7 RX6 (some .int) 1 21)  : ∀ (n : Nat) (v5 : Int32) (v6 : Int32) (f : jM), mX6_message_L39 fu  v0 v1 v2 v4 n v5 v6 f = some res → J c (jZ c (some (.int res.1)) res.2 sz) f sz 0 0 39 [(0, .ref v0), (1, .int v1), (2, .int v2), (4, .int v4), (5, .int v5), (6, .int v6)] [] := by
  intro n
  induction n with
  | zero => intro v5 v6 f h; exact jn0 h
  | succ n ih =>
    intro v5 v6 f h
    rw [mX6_message_L39] at h
    refine j_iload E 5 dX6_message_39 rfl ?_
    refine j_aload_n E 0 dX6_message_41 rfl rfl ?_
    obtain ⟨x1, h1, h⟩ := jb h
    refine j_getI E gX6_110 h1 dX6_message_42 ?_
    refine j_icmp_ge (tgt := 162) E dX6_message_45 (by decide) (fun hc2 => ?_) (fun hc2 => ?_)
    · replace h := jt hc2 h
      refine j_iconst (v := (-1 : Int32)) E dX6_message_162 (by decide) ?_
      cases h
      exact j_iret E dX6_message_163
    replace h := jf hc2 h
    refine j_aload_n E 0 dX6_message_48 rfl rfl ?_
    obtain ⟨x3, h3, h⟩ := jb h
    refine j_getR E gX6_48 h3 dX6_message_49 ?_
    refine j_iload E 5 dX6_message_52 rfl ?_
    obtain ⟨x4, h4, h⟩ := jb h
    refine j_iald E h4 dX6_message_54 ?_
    refine j_iload_n E 1 dX6_message_55 rfl rfl ?_
    refine j_icmp_ne (tgt := 156) E dX6_message_56 (by decide) (fun hc5 => ?_) (fun hc5 => ?_)
    · replace h := jf hc5 h
      refine j_iinc (v := (v6 + (1 : Int32))) (lv' := [(6, .int (v6 + (1 : Int32))), (0, .ref v0), (1, .int v1), (2, .int v2), (4, .int v4), (5, .int v5)]) E 5 dX6_message_156 rfl rfl (by decide) rfl ?_
      refine j_goto (tgt := 39) E dX6_message_159 (by decide) ?_
      exact j_sub [1, 2, 3, 4, 5, 0] rfl (ih _ _ _ h)
    replace h := jt hc5 h
    refine j_aload_n E 0 dX6_message_59 rfl rfl ?_
    obtain ⟨x6, h6, h⟩ := jb h
    refine j_getR E gX6_51 h6 dX6_message_60 ?_
    refine j_iload E 5 dX6_message_63 rfl ?_
    obtain ⟨x7, h7, h⟩ := jb h
    refine j_iald E h7 dX6_message_65 ?_
    refine j_iload_n E 2 dX6_message_66 rfl rfl ?_
    refine j_icmp_eq (tgt := 73) E dX6_message_67 (by decide) (fun hc8 => ?_) (fun hc8 => ?_)
    · replace h := jt hc8 h
      refine j_iload E 4 dX6_message_73 rfl ?_
      refine j_if_le (tgt := 84) E dX6_message_75 (by decide) (fun hc9 => ?_) (fun hc9 => ?_)
      · replace h := jt hc9 h
        refine j_iload E 3 dX6_message_84 rfl ?_
        refine j_if_ne (tgt := 99) E dX6_message_86 (by decide) (fun hc10 => ?_) (fun hc10 => ?_)
        · replace h := jf hc10 h
          refine j_iload E 3 dX6_message_99 rfl ?_
          refine j_iconst (v := (1 : Int32)) E dX6_message_101 (by decide) ?_
          refine j_icmp_ne (tgt := 132) E dX6_message_102 (by decide) (fun hc11 => ?_) (fun hc11 => ?_)
          · replace h := jf hc11 h
            refine j_iload E 3 dX6_message_132 rfl ?_
            refine j_iconst (v := (2 : Int32)) E dX6_message_134 (by decide) ?_
            refine j_icmp_ne (tgt := 148) E dX6_message_135 (by decide) (fun hc12 => ?_) (fun hc12 => ?_)
            · replace h := jf hc12 h
              refine j_aload_n E 0 dX6_message_148 rfl rfl ?_
              obtain ⟨x13, h13, h⟩ := jb h
              refine j_getR E gX6_63 h13 dX6_message_149 ?_
              refine j_iload E 5 dX6_message_152 rfl ?_
              obtain ⟨x14, h14, h⟩ := jb h
              refine j_iald E h14 dX6_message_154 ?_
              cases h
              exact j_iret E dX6_message_155
            replace h := jt hc12 h
            refine j_aload_n E 0 dX6_message_138 rfl rfl ?_
            obtain ⟨x15, h15, h⟩ := jb h
            refine j_getR E gX6_60 h15 dX6_message_139 ?_
            refine j_iload E 5 dX6_message_142 rfl ?_
            obtain ⟨x16, h16, h⟩ := jb h
            refine j_iald E h16 dX6_message_144 ?_
            refine j_goto (tgt := 155) E dX6_message_145 (by decide) ?_
            cases h
            exact j_iret E dX6_message_155
          replace h := jt hc11 h
          refine j_bipush (v := (100 : Int32)) E dX6_message_105 (by decide) ?_
          refine j_aload_n E 0 dX6_message_107 rfl rfl ?_
          obtain ⟨x17, h17, h⟩ := jb h
          refine j_getR E gX6_57 h17 dX6_message_108 ?_
          refine j_iload E 5 dX6_message_111 rfl ?_
          obtain ⟨x18, h18, h⟩ := jb h
          refine j_iald E h18 dX6_message_113 ?_
          refine j_bipush (v := (24 : Int32)) E dX6_message_114 (by decide) ?_
          refine j_idiv E dX6_message_116 (by decide) ?_
          refine j_imul E dX6_message_117 ?_
          refine j_aload_n E 0 dX6_message_118 rfl rfl ?_
          obtain ⟨x19, h19, h⟩ := jb h
          refine j_getR E gX6_57 h19 dX6_message_119 ?_
          refine j_iload E 5 dX6_message_122 rfl ?_
          obtain ⟨x20, h20, h⟩ := jb h
          refine j_iald E h20 dX6_message_124 ?_
          refine j_bipush (v := (24 : Int32)) E dX6_message_125 (by decide) ?_
          refine j_irem E dX6_message_127 (by decide) ?_
          refine j_iadd E dX6_message_128 ?_
          refine j_goto (tgt := 155) E dX6_message_129 (by decide) ?_
          cases h
          exact j_iret E dX6_message_155
        replace h := jt hc10 h
        refine j_aload_n E 0 dX6_message_89 rfl rfl ?_
        obtain ⟨x21, h21, h⟩ := jb h
        refine j_getR E gX6_54 h21 dX6_message_90 ?_
        refine j_iload E 5 dX6_message_93 rfl ?_
        obtain ⟨x22, h22, h⟩ := jb h
        refine j_iald E h22 dX6_message_95 ?_
        refine j_goto (tgt := 155) E dX6_message_96 (by decide) ?_
        cases h
        exact j_iret E dX6_message_155
      replace h := jf hc9 h
      refine j_iinc (v := (v5 + (-1 : Int32))) (lv' := [(5, .int (v5 + (-1 : Int32))), (0, .ref v0), (1, .int v1), (2, .int v2), (4, .int v4), (6, .int v6)]) E 4 dX6_message_78 rfl rfl (by decide) rfl ?_
      refine j_goto (tgt := 156) E dX6_message_81 (by decide) ?_
      refine j_iinc (v := (v6 + (1 : Int32))) (lv' := [(6, .int (v6 + (1 : Int32))), (5, .int (v5 + (-1 : Int32))), (0, .ref v0), (1, .int v1), (2, .int v2), (4, .int v4)]) E 5 dX6_message_156 rfl rfl (by decide) rfl ?_
      refine j_goto (tgt := 39) E dX6_message_159 (by decide) ?_
      exact j_sub [2, 3, 4, 5, 1, 0] rfl (ih _ _ _ h)
    replace h := jf hc8 h
    refine j_goto (tgt := 156) E dX6_message_70 (by decide) ?_
    refine j_iinc (v := (v6 + (1 : Int32))) (lv' := [(6, .int (v6 + (1 : Int32))), (0, .ref v0), (1, .int v1), (2, .int v2), (4, .int v4), (5, .int v5)]) E 5 dX6_message_156 rfl rfl (by decide) rfl ?_
    refine j_goto (tgt := 39) E dX6_message_159 (by decide) ?_
    exact j_sub [1, 2, 3, 4, 5, 0] rfl (ih _ _ _ h)
def mX6_message (fu : Nat) (f : jM) (v0 : Nat) (v1 : Int32) (v2 : Int32) (v3 : Int32) (v4 : Int32) : Option (Int32 × jM) :=
    (chk 6 f v0).bind fun _ =>
    (mX6_isNode f v0 v1).bind fun r24 =>
    if r24.1 = 0 then (
    some ((-1 : Int32), r24.2)) else (
    (chk 6 r24.2 v0).bind fun _ =>
    (mX6_isNode r24.2 v0 v2).bind fun r27 =>
    if r27.1 = 0 then (
    some ((-1 : Int32), r27.2)) else (
    if v3 < 0 then (
    some ((-1 : Int32), r27.2)) else (
    if v4 < 0 then (
    some ((-1 : Int32), r27.2)) else (
    if v4 ≤ (3 : Int32) then (
    mX6_message_L39 fu v0 v1 v2 v4 fu v3 (0 : Int32) r27.2) else (
    some ((-1 : Int32), r27.2))))))
set_option maxRecDepth 100000 in
set_option maxHeartbeats 4000000 in
theorem sX6_message {l : Launch} {D : jD} {sz : Nat} {fu : Nat} {f : jM} {v0 : Nat} {v1 : Int32} {v2 : Int32} {v3 : Int32} {v4 : Int32} {res : (Int32 × jM)} (h : mX6_message fu f v0 v1 v2 v3 v4 = some res) : jCt l D yX6_message cX6_message 7 (some .int) 1 21 [.ref v0, .int v1, .int v2, .int v3, .int v4] f sz 0 0 (some (.int res.1)) res.2 sz := by
  refine j_start (by decide +kernel) (Nat.le_of_ble_eq_true rfl) (fun c hcl hcD hcn E => ?_)
  subst hcl
  subst hcD
  replace E : jOk c cX6_message 7 RX6 (some .int) 1 21 := E
  show J c (jZ c (some (.int res.1)) res.2 sz) f sz 0 0 0 [(0, .ref v0), (1, .int v1), (2, .int v2), (3, .int v3), (4, .int v4)] []
  unfold mX6_message at h
  refine j_aload_n E 0 dX6_message_0 rfl rfl ?_
  refine j_iload_n E 1 dX6_message_1 rfl rfl ?_
  obtain ⟨u23, h23, h⟩ := jb h
  obtain ⟨fs23, h23⟩ := chk_spec h23
  obtain ⟨r24, h24, h⟩ := jb h
  refine j_callV (As := [.int v1]) (b := v0) (rest := []) (rc := 0) (rs := 0) E (sX6_isNode h24) lwX6_isNode lkX6_90 imX6_isNode seX6_isNode rfl h23 (by decide) rfl (Nat.le_of_ble_eq_true rfl) dX6_message_2 ?_
  refine j_if_eq (tgt := 31) E dX6_message_5 (by decide) (fun hc25 => ?_) (fun hc25 => ?_)
  · replace h := jt hc25 h
    refine j_iconst (v := (-1 : Int32)) E dX6_message_31 (by decide) ?_
    cases h
    exact j_iret E dX6_message_32
  replace h := jf hc25 h
  refine j_aload_n E 0 dX6_message_8 rfl rfl ?_
  refine j_iload_n E 2 dX6_message_9 rfl rfl ?_
  obtain ⟨u26, h26, h⟩ := jb h
  obtain ⟨fs26, h26⟩ := chk_spec h26
  obtain ⟨r27, h27, h⟩ := jb h
  refine j_callV (As := [.int v2]) (b := v0) (rest := []) (rc := 0) (rs := 0) E (sX6_isNode h27) lwX6_isNode lkX6_90 imX6_isNode seX6_isNode rfl h26 (by decide) rfl (Nat.le_of_ble_eq_true rfl) dX6_message_10 ?_
  refine j_if_eq (tgt := 31) E dX6_message_13 (by decide) (fun hc28 => ?_) (fun hc28 => ?_)
  · replace h := jt hc28 h
    refine j_iconst (v := (-1 : Int32)) E dX6_message_31 (by decide) ?_
    cases h
    exact j_iret E dX6_message_32
  replace h := jf hc28 h
  refine j_iload_n E 3 dX6_message_16 rfl rfl ?_
  refine j_if_lt (tgt := 31) E dX6_message_17 (by decide) (fun hc29 => ?_) (fun hc29 => ?_)
  · replace h := jt hc29 h
    refine j_iconst (v := (-1 : Int32)) E dX6_message_31 (by decide) ?_
    cases h
    exact j_iret E dX6_message_32
  replace h := jf hc29 h
  refine j_iload E 4 dX6_message_20 rfl ?_
  refine j_if_lt (tgt := 31) E dX6_message_22 (by decide) (fun hc30 => ?_) (fun hc30 => ?_)
  · replace h := jt hc30 h
    refine j_iconst (v := (-1 : Int32)) E dX6_message_31 (by decide) ?_
    cases h
    exact j_iret E dX6_message_32
  replace h := jf hc30 h
  refine j_iload E 4 dX6_message_25 rfl ?_
  refine j_iconst (v := (3 : Int32)) E dX6_message_27 (by decide) ?_
  refine j_icmp_le (tgt := 33) E dX6_message_28 (by decide) (fun hc31 => ?_) (fun hc31 => ?_)
  · replace h := jt hc31 h
    refine j_iload_n E 3 dX6_message_33 rfl rfl ?_
    refine j_istore (lv' := [(5, .int v3), (0, .ref v0), (1, .int v1), (2, .int v2), (3, .int v3), (4, .int v4)]) E dX6_message_34 (by decide) rfl ?_
    refine j_iconst (v := (0 : Int32)) E dX6_message_36 (by decide) ?_
    refine j_istore (lv' := [(6, .int (0 : Int32)), (5, .int v3), (0, .ref v0), (1, .int v1), (2, .int v2), (3, .int v3), (4, .int v4)]) E dX6_message_37 (by decide) rfl ?_
    exact j_sub [2, 3, 4, 6, 1, 0] rfl (wX6_message_L39 E _ _ _ _ h)
  replace h := jf hc31 h
  refine j_iconst (v := (-1 : Int32)) E dX6_message_31 (by decide) ?_
  cases h
  exact j_iret E dX6_message_32
def mX6_count_L111 (fu : Nat) (k39 : Int32 → Int32 → jM → Option (Int32 × jM)) (v0 : Nat) (v1 : Int32) (v2 : Int32) (v4 : Int32) : Nat → Int32 → Int32 → jM → Option (Int32 × jM)
  | 0, _, _, _ => none
  | n + 1, v3, v5, f =>
    (rdI 6 f v0 13).bind fun x16 =>
    if x16 ≤ v5 then (
    k39 v3 (v4 + (1 : Int32)) f) else (
    (rdR 6 f v0 15).bind fun x18 =>
    (ldI 0 f x18 v5).bind fun x19 =>
    if x19 = v4 then (
    mX6_count_L111 fu k39 v0 v1 v2 v4 n (v3 + (1 : Int32)) (v5 + (1 : Int32)) f) else (
    mX6_count_L111 fu k39 v0 v1 v2 v4 n v3 (v5 + (1 : Int32)) f))
set_option maxRecDepth 100000 in
set_option maxHeartbeats 4000000 in
theorem wX6_count_L111 {c : jS} {sz : Nat} {fu : Nat} {k39 : Int32 → Int32 → jM → Option (Int32 × jM)} {v0 : Nat} {v1 : Int32} {v2 : Int32} {v4 : Int32} {res : (Int32 × jM)} (E : jOk c cX6_count 6 RX6 (some .int) 2 43) (hk39 : ∀ (v3 : Int32) (v4 : Int32) (f : jM), k39 v3 v4 f = some res → J c (jZ c (some (.int res.1)) res.2 sz) f sz 0 0 39 [(0, .ref v0), (1, .int v1), (2, .int v2), (3, .int v3), (4, .int v4)] []) : ∀ (n : Nat) (v3 : Int32) (v5 : Int32) (f : jM), mX6_count_L111 fu k39 v0 v1 v2 v4 n v3 v5 f = some res → J c (jZ c (some (.int res.1)) res.2 sz) f sz 0 0 111 [(0, .ref v0), (1, .int v1), (2, .int v2), (3, .int v3), (4, .int v4), (5, .int v5)] [] := by
  intro n
  induction n with
  | zero => intro v3 v5 f h; exact jn0 h
  | succ n ih =>
    intro v3 v5 f h
    rw [mX6_count_L111] at h
    refine j_iload E 5 dX6_count_111 rfl ?_
    refine j_aload_n E 0 dX6_count_113 rfl rfl ?_
    obtain ⟨x16, h16, h⟩ := jb h
    refine j_getI E gX6_110 h16 dX6_count_114 ?_
    refine j_icmp_ge (tgt := 141) E dX6_count_117 (by decide) (fun hc17 => ?_) (fun hc17 => ?_)
    · replace h := jt hc17 h
      refine j_goto (tgt := 243) E dX6_count_141 (by decide) ?_
      refine j_iinc (v := (v4 + (1 : Int32))) (lv' := [(4, .int (v4 + (1 : Int32))), (0, .ref v0), (1, .int v1), (2, .int v2), (3, .int v3), (5, .int v5)]) E 4 dX6_count_243 rfl rfl (by decide) rfl ?_
      refine j_goto (tgt := 39) E dX6_count_246 (by decide) ?_
      exact j_sub [1, 2, 3, 4, 0] rfl (hk39 _ _ _ h)
    replace h := jf hc17 h
    refine j_aload_n E 0 dX6_count_120 rfl rfl ?_
    obtain ⟨x18, h18, h⟩ := jb h
    refine j_getR E gX6_51 h18 dX6_count_121 ?_
    refine j_iload E 5 dX6_count_124 rfl ?_
    obtain ⟨x19, h19, h⟩ := jb h
    refine j_iald E h19 dX6_count_126 ?_
    refine j_iload E 4 dX6_count_127 rfl ?_
    refine j_icmp_ne (tgt := 135) E dX6_count_129 (by decide) (fun hc20 => ?_) (fun hc20 => ?_)
    · replace h := jf hc20 h
      refine j_iinc (v := (v5 + (1 : Int32))) (lv' := [(5, .int (v5 + (1 : Int32))), (0, .ref v0), (1, .int v1), (2, .int v2), (3, .int v3), (4, .int v4)]) E 5 dX6_count_135 rfl rfl (by decide) rfl ?_
      refine j_goto (tgt := 111) E dX6_count_138 (by decide) ?_
      exact j_sub [1, 2, 3, 4, 5, 0] rfl (ih _ _ _ h)
    replace h := jt hc20 h
    refine j_iinc (v := (v3 + (1 : Int32))) (lv' := [(3, .int (v3 + (1 : Int32))), (0, .ref v0), (1, .int v1), (2, .int v2), (4, .int v4), (5, .int v5)]) E 3 dX6_count_132 rfl rfl (by decide) rfl ?_
    refine j_iinc (v := (v5 + (1 : Int32))) (lv' := [(5, .int (v5 + (1 : Int32))), (3, .int (v3 + (1 : Int32))), (0, .ref v0), (1, .int v1), (2, .int v2), (4, .int v4)]) E 5 dX6_count_135 rfl rfl (by decide) rfl ?_
    refine j_goto (tgt := 111) E dX6_count_138 (by decide) ?_
    exact j_sub [2, 3, 4, 1, 5, 0] rfl (ih _ _ _ h)
def mX6_count_B219 (fu : Nat) (k39 : Int32 → Int32 → jM → Option (Int32 × jM)) (k177 : Int32 → Int32 → jM → Option (Int32 × jM)) (v0 : Nat) (v1 : Int32) (v2 : Int32) (v3 : Int32) (v4 : Int32) (v5 : Int32)  (f : jM) : Option (Int32 × jM) :=
    if v2 = (3 : Int32) then (
    (rdR 6 f v0 27).bind fun x31 =>
    (ldI 1 f x31 v5).bind fun x32 =>
    if x32 = 0 then (
    k177 (v3 + (1 : Int32)) (v5 + (1 : Int32)) f) else (
    k177 v3 (v5 + (1 : Int32)) f)) else (
    k177 v3 (v5 + (1 : Int32)) f)
set_option maxRecDepth 100000 in
set_option maxHeartbeats 4000000 in
theorem wX6_count_B219 {c : jS} {sz : Nat} {fu : Nat} {k39 : Int32 → Int32 → jM → Option (Int32 × jM)} {k177 : Int32 → Int32 → jM → Option (Int32 × jM)} {v0 : Nat} {v1 : Int32} {v2 : Int32} {v3 : Int32} {v4 : Int32} {v5 : Int32}  {f : jM} {res : (Int32 × jM)} (E : jOk c cX6_count 6 RX6 (some .int) 2 43) (hk39 : ∀ (v3 : Int32) (v4 : Int32) (f : jM), k39 v3 v4 f = some res → J c (jZ c (some (.int res.1)) res.2 sz) f sz 0 0 39 [(0, .ref v0), (1, .int v1), (2, .int v2), (3, .int v3), (4, .int v4)] []) (hk177 : ∀ (v3 : Int32) (v5 : Int32) (f : jM), k177 v3 v5 f = some res → J c (jZ c (some (.int res.1)) res.2 sz) f sz 0 0 177 [(0, .ref v0), (1, .int v1), (2, .int v2), (3, .int v3), (4, .int v4), (5, .int v5)] []) (h : mX6_count_B219 fu k39 k177 v0 v1 v2 v3 v4 v5  f = some res) : J c (jZ c (some (.int res.1)) res.2 sz) f sz 0 0 219 [(0, .ref v0), (1, .int v1), (2, .int v2), (3, .int v3), (4, .int v4), (5, .int v5)] [] := by
  unfold mX6_count_B219 at h
  refine j_iload_n E 2 dX6_count_219 rfl rfl ?_
  refine j_iconst (v := (3 : Int32)) E dX6_count_220 (by decide) ?_
  refine j_icmp_ne (tgt := 237) E dX6_count_221 (by decide) (fun hc30 => ?_) (fun hc30 => ?_)
  · replace h := jf hc30 h
    refine j_iinc (v := (v5 + (1 : Int32))) (lv' := [(5, .int (v5 + (1 : Int32))), (0, .ref v0), (1, .int v1), (2, .int v2), (3, .int v3), (4, .int v4)]) E 5 dX6_count_237 rfl rfl (by decide) rfl ?_
    refine j_goto (tgt := 177) E dX6_count_240 (by decide) ?_
    exact j_sub [1, 2, 3, 4, 5, 0] rfl (hk177 _ _ _ h)
  replace h := jt hc30 h
  refine j_aload_n E 0 dX6_count_224 rfl rfl ?_
  obtain ⟨x31, h31, h⟩ := jb h
  refine j_getR E gX6_84 h31 dX6_count_225 ?_
  refine j_iload E 5 dX6_count_228 rfl ?_
  obtain ⟨x32, h32, h⟩ := jb h
  refine j_zald E h32 dX6_count_230 ?_
  refine j_if_ne (tgt := 237) E dX6_count_231 (by decide) (fun hc33 => ?_) (fun hc33 => ?_)
  · replace h := jf hc33 h
    refine j_iinc (v := (v5 + (1 : Int32))) (lv' := [(5, .int (v5 + (1 : Int32))), (0, .ref v0), (1, .int v1), (2, .int v2), (3, .int v3), (4, .int v4)]) E 5 dX6_count_237 rfl rfl (by decide) rfl ?_
    refine j_goto (tgt := 177) E dX6_count_240 (by decide) ?_
    exact j_sub [1, 2, 3, 4, 5, 0] rfl (hk177 _ _ _ h)
  replace h := jt hc33 h
  refine j_iinc (v := (v3 + (1 : Int32))) (lv' := [(3, .int (v3 + (1 : Int32))), (0, .ref v0), (1, .int v1), (2, .int v2), (4, .int v4), (5, .int v5)]) E 3 dX6_count_234 rfl rfl (by decide) rfl ?_
  refine j_iinc (v := (v5 + (1 : Int32))) (lv' := [(5, .int (v5 + (1 : Int32))), (3, .int (v3 + (1 : Int32))), (0, .ref v0), (1, .int v1), (2, .int v2), (4, .int v4)]) E 5 dX6_count_237 rfl rfl (by decide) rfl ?_
  refine j_goto (tgt := 177) E dX6_count_240 (by decide) ?_
  exact j_sub [2, 3, 4, 1, 5, 0] rfl (hk177 _ _ _ h)
def mX6_count_L177 (fu : Nat) (k39 : Int32 → Int32 → jM → Option (Int32 × jM)) (v0 : Nat) (v1 : Int32) (v2 : Int32) (v4 : Int32) : Nat → Int32 → Int32 → jM → Option (Int32 × jM)
  | 0, _, _, _ => none
  | n + 1, v3, v5, f =>
    if (((24 : Int32) * v4) + (24 : Int32)) ≤ v5 then (
    k39 v3 (v4 + (1 : Int32)) f) else (
    (rdR 6 f v0 5).bind fun x22 =>
    (ldI 1 f x22 v5).bind fun x23 =>
    if x23 = 0 then (
    mX6_count_L177 fu k39 v0 v1 v2 v4 n v3 (v5 + (1 : Int32)) f) else (
    if v2 = 0 then (
    mX6_count_L177 fu k39 v0 v1 v2 v4 n (v3 + (1 : Int32)) (v5 + (1 : Int32)) f) else (
    if v2 = (1 : Int32) then (
    (rdR 6 f v0 4).bind fun x27 =>
    (ldI 0 f x27 v5).bind fun x28 =>
    if 0 < x28 then (
    mX6_count_L177 fu k39 v0 v1 v2 v4 n (v3 + (1 : Int32)) (v5 + (1 : Int32)) f) else (
    mX6_count_B219 fu k39 (mX6_count_L177 fu k39 v0 v1 v2 v4 n) v0 v1 v2 v3 v4 v5 f)) else (
    mX6_count_B219 fu k39 (mX6_count_L177 fu k39 v0 v1 v2 v4 n) v0 v1 v2 v3 v4 v5 f))))
set_option maxRecDepth 100000 in
set_option maxHeartbeats 4000000 in
theorem wX6_count_L177 {c : jS} {sz : Nat} {fu : Nat} {k39 : Int32 → Int32 → jM → Option (Int32 × jM)} {v0 : Nat} {v1 : Int32} {v2 : Int32} {v4 : Int32} {res : (Int32 × jM)} (E : jOk c cX6_count 6 RX6 (some .int) 2 43) (hk39 : ∀ (v3 : Int32) (v4 : Int32) (f : jM), k39 v3 v4 f = some res → J c (jZ c (some (.int res.1)) res.2 sz) f sz 0 0 39 [(0, .ref v0), (1, .int v1), (2, .int v2), (3, .int v3), (4, .int v4)] []) : ∀ (n : Nat) (v3 : Int32) (v5 : Int32) (f : jM), mX6_count_L177 fu k39 v0 v1 v2 v4 n v3 v5 f = some res → J c (jZ c (some (.int res.1)) res.2 sz) f sz 0 0 177 [(0, .ref v0), (1, .int v1), (2, .int v2), (3, .int v3), (4, .int v4), (5, .int v5)] [] := by
  intro n
  induction n with
  | zero => intro v3 v5 f h; exact jn0 h
  | succ n ih =>
    intro v3 v5 f h
    rw [mX6_count_L177] at h
    refine j_iload E 5 dX6_count_177 rfl ?_
    refine j_bipush (v := (24 : Int32)) E dX6_count_179 (by decide) ?_
    refine j_iload E 4 dX6_count_181 rfl ?_
    refine j_imul E dX6_count_183 ?_
    refine j_bipush (v := (24 : Int32)) E dX6_count_184 (by decide) ?_
    refine j_iadd E dX6_count_186 ?_
    refine j_icmp_ge (tgt := 243) E dX6_count_187 (by decide) (fun hc21 => ?_) (fun hc21 => ?_)
    · replace h := jt hc21 h
      refine j_iinc (v := (v4 + (1 : Int32))) (lv' := [(4, .int (v4 + (1 : Int32))), (0, .ref v0), (1, .int v1), (2, .int v2), (3, .int v3), (5, .int v5)]) E 4 dX6_count_243 rfl rfl (by decide) rfl ?_
      refine j_goto (tgt := 39) E dX6_count_246 (by decide) ?_
      exact j_sub [1, 2, 3, 4, 0] rfl (hk39 _ _ _ h)
    replace h := jf hc21 h
    refine j_aload_n E 0 dX6_count_190 rfl rfl ?_
    obtain ⟨x22, h22, h⟩ := jb h
    refine j_getR E gX6_23 h22 dX6_count_191 ?_
    refine j_iload E 5 dX6_count_194 rfl ?_
    obtain ⟨x23, h23, h⟩ := jb h
    refine j_zald E h23 dX6_count_196 ?_
    refine j_if_eq (tgt := 237) E dX6_count_197 (by decide) (fun hc24 => ?_) (fun hc24 => ?_)
    · replace h := jt hc24 h
      refine j_iinc (v := (v5 + (1 : Int32))) (lv' := [(5, .int (v5 + (1 : Int32))), (0, .ref v0), (1, .int v1), (2, .int v2), (3, .int v3), (4, .int v4)]) E 5 dX6_count_237 rfl rfl (by decide) rfl ?_
      refine j_goto (tgt := 177) E dX6_count_240 (by decide) ?_
      exact j_sub [1, 2, 3, 4, 5, 0] rfl (ih _ _ _ h)
    replace h := jf hc24 h
    refine j_iload_n E 2 dX6_count_200 rfl rfl ?_
    refine j_if_eq (tgt := 234) E dX6_count_201 (by decide) (fun hc25 => ?_) (fun hc25 => ?_)
    · replace h := jt hc25 h
      refine j_iinc (v := (v3 + (1 : Int32))) (lv' := [(3, .int (v3 + (1 : Int32))), (0, .ref v0), (1, .int v1), (2, .int v2), (4, .int v4), (5, .int v5)]) E 3 dX6_count_234 rfl rfl (by decide) rfl ?_
      refine j_iinc (v := (v5 + (1 : Int32))) (lv' := [(5, .int (v5 + (1 : Int32))), (3, .int (v3 + (1 : Int32))), (0, .ref v0), (1, .int v1), (2, .int v2), (4, .int v4)]) E 5 dX6_count_237 rfl rfl (by decide) rfl ?_
      refine j_goto (tgt := 177) E dX6_count_240 (by decide) ?_
      exact j_sub [2, 3, 4, 1, 5, 0] rfl (ih _ _ _ h)
    replace h := jf hc25 h
    refine j_iload_n E 2 dX6_count_204 rfl rfl ?_
    refine j_iconst (v := (1 : Int32)) E dX6_count_205 (by decide) ?_
    refine j_icmp_ne (tgt := 219) E dX6_count_206 (by decide) (fun hc26 => ?_) (fun hc26 => ?_)
    · replace h := jf hc26 h
      exact j_sub [0, 1, 2, 3, 4, 5] rfl (wX6_count_B219 E hk39 ih h)
    replace h := jt hc26 h
    refine j_aload_n E 0 dX6_count_209 rfl rfl ?_
    obtain ⟨x27, h27, h⟩ := jb h
    refine j_getR E gX6_20 h27 dX6_count_210 ?_
    refine j_iload E 5 dX6_count_213 rfl ?_
    obtain ⟨x28, h28, h⟩ := jb h
    refine j_iald E h28 dX6_count_215 ?_
    refine j_if_gt (tgt := 234) E dX6_count_216 (by decide) (fun hc29 => ?_) (fun hc29 => ?_)
    · replace h := jt hc29 h
      refine j_iinc (v := (v3 + (1 : Int32))) (lv' := [(3, .int (v3 + (1 : Int32))), (0, .ref v0), (1, .int v1), (2, .int v2), (4, .int v4), (5, .int v5)]) E 3 dX6_count_234 rfl rfl (by decide) rfl ?_
      refine j_iinc (v := (v5 + (1 : Int32))) (lv' := [(5, .int (v5 + (1 : Int32))), (3, .int (v3 + (1 : Int32))), (0, .ref v0), (1, .int v1), (2, .int v2), (4, .int v4)]) E 5 dX6_count_237 rfl rfl (by decide) rfl ?_
      refine j_goto (tgt := 177) E dX6_count_240 (by decide) ?_
      exact j_sub [2, 3, 4, 1, 5, 0] rfl (ih _ _ _ h)
    replace h := jf hc29 h
    exact j_sub [0, 1, 2, 3, 4, 5] rfl (wX6_count_B219 E hk39 ih h)
def mX6_count_B170 (fu : Nat) (k39 : Int32 → Int32 → jM → Option (Int32 × jM)) (v0 : Nat) (v1 : Int32) (v2 : Int32) (v3 : Int32) (v4 : Int32)  (f : jM) : Option (Int32 × jM) :=
    mX6_count_L177 fu k39 v0 v1 v2 v4 fu v3 ((24 : Int32) * v4) f
set_option maxRecDepth 100000 in
set_option maxHeartbeats 4000000 in
theorem wX6_count_B170 {c : jS} {sz : Nat} {fu : Nat} {k39 : Int32 → Int32 → jM → Option (Int32 × jM)} {v0 : Nat} {v1 : Int32} {v2 : Int32} {v3 : Int32} {v4 : Int32}  {f : jM} {res : (Int32 × jM)} (E : jOk c cX6_count 6 RX6 (some .int) 2 43) (hk39 : ∀ (v3 : Int32) (v4 : Int32) (f : jM), k39 v3 v4 f = some res → J c (jZ c (some (.int res.1)) res.2 sz) f sz 0 0 39 [(0, .ref v0), (1, .int v1), (2, .int v2), (3, .int v3), (4, .int v4)] []) (h : mX6_count_B170 fu k39 v0 v1 v2 v3 v4  f = some res) : J c (jZ c (some (.int res.1)) res.2 sz) f sz 0 0 170 [(0, .ref v0), (1, .int v1), (2, .int v2), (3, .int v3), (4, .int v4)] [] := by
  unfold mX6_count_B170 at h
  refine j_bipush (v := (24 : Int32)) E dX6_count_170 (by decide) ?_
  refine j_iload E 4 dX6_count_172 rfl ?_
  refine j_imul E dX6_count_174 ?_
  refine j_istore (lv' := [(5, .int ((24 : Int32) * v4)), (0, .ref v0), (1, .int v1), (2, .int v2), (3, .int v3), (4, .int v4)]) E dX6_count_175 (by decide) rfl ?_
  exact j_sub [1, 2, 3, 4, 5, 0] rfl (wX6_count_L177 E hk39 _ _ _ _ h)
def mX6_count_B62 (fu : Nat) (k39 : Int32 → Int32 → jM → Option (Int32 × jM)) (v0 : Nat) (v1 : Int32) (v2 : Int32) (v3 : Int32) (v4 : Int32)  (f : jM) : Option (Int32 × jM) :=
    if v2 = (2 : Int32) then (
    (chk 6 f v0).bind fun _ =>
    (mX6_importsOf fu f v0 v4).bind fun r7 =>
    k39 (v3 + r7.1) (v4 + (1 : Int32)) r7.2) else (if v2 = (3 : Int32) then (
    mX6_count_B170 fu k39 v0 v1 v2 v3 v4 f) else (if v2 = (4 : Int32) then (
    mX6_count_L111 fu k39 v0 v1 v2 v4 fu v3 (0 : Int32) f) else (if v2 = (5 : Int32) then (
    (rdR 6 f v0 11).bind fun x11 =>
    (ldI 0 f x11 v4).bind fun x12 =>
    k39 (v3 + x12) (v4 + (1 : Int32)) f) else (if v2 = (6 : Int32) then (
    (rdR 6 f v0 12).bind fun x14 =>
    (ldI 0 f x14 v4).bind fun x15 =>
    k39 (v3 + x15) (v4 + (1 : Int32)) f) else (
    mX6_count_B170 fu k39 v0 v1 v2 v3 v4 f)))))
set_option maxRecDepth 100000 in
set_option maxHeartbeats 4000000 in
theorem wX6_count_B62 {c : jS} {sz : Nat} {fu : Nat} {k39 : Int32 → Int32 → jM → Option (Int32 × jM)} {v0 : Nat} {v1 : Int32} {v2 : Int32} {v3 : Int32} {v4 : Int32}  {f : jM} {res : (Int32 × jM)} (E : jOk c cX6_count 6 RX6 (some .int) 2 43) (hk39 : ∀ (v3 : Int32) (v4 : Int32) (f : jM), k39 v3 v4 f = some res → J c (jZ c (some (.int res.1)) res.2 sz) f sz 0 0 39 [(0, .ref v0), (1, .int v1), (2, .int v2), (3, .int v3), (4, .int v4)] []) (h : mX6_count_B62 fu k39 v0 v1 v2 v3 v4  f = some res) : J c (jZ c (some (.int res.1)) res.2 sz) f sz 0 0 62 [(0, .ref v0), (1, .int v1), (2, .int v2), (3, .int v3), (4, .int v4)] [] := by
  unfold mX6_count_B62 at h
  refine j_iload_n E 2 dX6_count_62 rfl rfl ?_
  by_cases hc5 : v2 = (2 : Int32)
  · replace h := jt hc5 h
    refine j_tableIn (off := 33) (tgt := 96) E dX6_count_63 (by rw [hc5]; decide) (by rw [hc5]; decide) (by rw [hc5]; rfl) (by decide) ?_
    refine j_iload_n E 3 dX6_count_96 rfl rfl ?_
    refine j_aload_n E 0 dX6_count_97 rfl rfl ?_
    refine j_iload E 4 dX6_count_98 rfl ?_
    obtain ⟨u6, h6, h⟩ := jb h
    obtain ⟨fs6, h6⟩ := chk_spec h6
    obtain ⟨r7, h7, h⟩ := jb h
    refine j_callV (As := [.int v4]) (b := v0) (rest := [.int v3]) (rc := 0) (rs := 0) E (sX6_importsOf h7) lwX6_importsOf lkX6_117 imX6_importsOf seX6_importsOf rfl h6 (by decide) rfl (Nat.le_of_ble_eq_true rfl) dX6_count_100 ?_
    refine j_iadd E dX6_count_103 ?_
    refine j_istore_n (lv' := [(3, .int (v3 + r7.1)), (0, .ref v0), (1, .int v1), (2, .int v2), (4, .int v4)]) E dX6_count_104 rfl (by decide) rfl ?_
    refine j_goto (tgt := 243) E dX6_count_105 (by decide) ?_
    refine j_iinc (v := (v4 + (1 : Int32))) (lv' := [(4, .int (v4 + (1 : Int32))), (3, .int (v3 + r7.1)), (0, .ref v0), (1, .int v1), (2, .int v2)]) E 4 dX6_count_243 rfl rfl (by decide) rfl ?_
    refine j_goto (tgt := 39) E dX6_count_246 (by decide) ?_
    exact j_sub [2, 3, 4, 1, 0] rfl (hk39 _ _ _ h)
  replace h := jf hc5 h
  by_cases hc8 : v2 = (3 : Int32)
  · replace h := jt hc8 h
    refine j_tableIn (off := 107) (tgt := 170) E dX6_count_63 (by rw [hc8]; decide) (by rw [hc8]; decide) (by rw [hc8]; rfl) (by decide) ?_
    exact j_sub [0, 1, 2, 3, 4] rfl (wX6_count_B170 E hk39 h)
  replace h := jf hc8 h
  by_cases hc9 : v2 = (4 : Int32)
  · replace h := jt hc9 h
    refine j_tableIn (off := 45) (tgt := 108) E dX6_count_63 (by rw [hc9]; decide) (by rw [hc9]; decide) (by rw [hc9]; rfl) (by decide) ?_
    refine j_iconst (v := (0 : Int32)) E dX6_count_108 (by decide) ?_
    refine j_istore (lv' := [(5, .int (0 : Int32)), (0, .ref v0), (1, .int v1), (2, .int v2), (3, .int v3), (4, .int v4)]) E dX6_count_109 (by decide) rfl ?_
    exact j_sub [1, 2, 3, 4, 5, 0] rfl (wX6_count_L111 E hk39 _ _ _ _ h)
  replace h := jf hc9 h
  by_cases hc10 : v2 = (5 : Int32)
  · replace h := jt hc10 h
    refine j_tableIn (off := 81) (tgt := 144) E dX6_count_63 (by rw [hc10]; decide) (by rw [hc10]; decide) (by rw [hc10]; rfl) (by decide) ?_
    refine j_iload_n E 3 dX6_count_144 rfl rfl ?_
    refine j_aload_n E 0 dX6_count_145 rfl rfl ?_
    obtain ⟨x11, h11, h⟩ := jb h
    refine j_getR E gX6_42 h11 dX6_count_146 ?_
    refine j_iload E 4 dX6_count_149 rfl ?_
    obtain ⟨x12, h12, h⟩ := jb h
    refine j_iald E h12 dX6_count_151 ?_
    refine j_iadd E dX6_count_152 ?_
    refine j_istore_n (lv' := [(3, .int (v3 + x12)), (0, .ref v0), (1, .int v1), (2, .int v2), (4, .int v4)]) E dX6_count_153 rfl (by decide) rfl ?_
    refine j_goto (tgt := 243) E dX6_count_154 (by decide) ?_
    refine j_iinc (v := (v4 + (1 : Int32))) (lv' := [(4, .int (v4 + (1 : Int32))), (3, .int (v3 + x12)), (0, .ref v0), (1, .int v1), (2, .int v2)]) E 4 dX6_count_243 rfl rfl (by decide) rfl ?_
    refine j_goto (tgt := 39) E dX6_count_246 (by decide) ?_
    exact j_sub [2, 3, 4, 1, 0] rfl (hk39 _ _ _ h)
  replace h := jf hc10 h
  by_cases hc13 : v2 = (6 : Int32)
  · replace h := jt hc13 h
    refine j_tableIn (off := 94) (tgt := 157) E dX6_count_63 (by rw [hc13]; decide) (by rw [hc13]; decide) (by rw [hc13]; rfl) (by decide) ?_
    refine j_iload_n E 3 dX6_count_157 rfl rfl ?_
    refine j_aload_n E 0 dX6_count_158 rfl rfl ?_
    obtain ⟨x14, h14, h⟩ := jb h
    refine j_getR E gX6_45 h14 dX6_count_159 ?_
    refine j_iload E 4 dX6_count_162 rfl ?_
    obtain ⟨x15, h15, h⟩ := jb h
    refine j_iald E h15 dX6_count_164 ?_
    refine j_iadd E dX6_count_165 ?_
    refine j_istore_n (lv' := [(3, .int (v3 + x15)), (0, .ref v0), (1, .int v1), (2, .int v2), (4, .int v4)]) E dX6_count_166 rfl (by decide) rfl ?_
    refine j_goto (tgt := 243) E dX6_count_167 (by decide) ?_
    refine j_iinc (v := (v4 + (1 : Int32))) (lv' := [(4, .int (v4 + (1 : Int32))), (3, .int (v3 + x15)), (0, .ref v0), (1, .int v1), (2, .int v2)]) E 4 dX6_count_243 rfl rfl (by decide) rfl ?_
    refine j_goto (tgt := 39) E dX6_count_246 (by decide) ?_
    exact j_sub [2, 3, 4, 1, 0] rfl (hk39 _ _ _ h)
  replace h := jf hc13 h
  have q5 := jne (2 : Int32) (k := 2) rfl hc5
  have q8 := jne (3 : Int32) (k := 3) rfl hc8
  have q9 := jne (4 : Int32) (k := 4) rfl hc9
  have q10 := jne (5 : Int32) (k := 5) rfl hc10
  have q13 := jne (6 : Int32) (k := 6) rfl hc13
  refine j_tableOut (tgt := 170) E dX6_count_63 (by omega) (by decide) ?_
  exact j_sub [0, 1, 2, 3, 4] rfl (wX6_count_B170 E hk39 h)
def mX6_count_L39 (fu : Nat)  (v0 : Nat) (v1 : Int32) (v2 : Int32) : Nat → Int32 → Int32 → jM → Option (Int32 × jM)
  | 0, _, _, _ => none
  | n + 1, v3, v4, f =>
    (rdI 6 f v0 1).bind fun x1 =>
    if x1 ≤ v4 then (
    some (v3, f)) else (
    if v1 = (-1 : Int32) then (
    mX6_count_B62 fu (mX6_count_L39 fu v0 v1 v2 n) v0 v1 v2 v3 v4 f) else (
    if v4 = v1 then (
    mX6_count_B62 fu (mX6_count_L39 fu v0 v1 v2 n) v0 v1 v2 v3 v4 f) else (
    mX6_count_L39 fu v0 v1 v2 n v3 (v4 + (1 : Int32)) f)))
set_option maxRecDepth 100000 in
set_option maxHeartbeats 4000000 in
theorem wX6_count_L39 {c : jS} {sz : Nat} {fu : Nat}  {v0 : Nat} {v1 : Int32} {v2 : Int32} {res : (Int32 × jM)} (E : jOk c cX6_count 6 RX6 (some .int) 2 43)  : ∀ (n : Nat) (v3 : Int32) (v4 : Int32) (f : jM), mX6_count_L39 fu  v0 v1 v2 n v3 v4 f = some res → J c (jZ c (some (.int res.1)) res.2 sz) f sz 0 0 39 [(0, .ref v0), (1, .int v1), (2, .int v2), (3, .int v3), (4, .int v4)] [] := by
  intro n
  induction n with
  | zero => intro v3 v4 f h; exact jn0 h
  | succ n ih =>
    intro v3 v4 f h
    rw [mX6_count_L39] at h
    refine j_iload E 4 dX6_count_39 rfl ?_
    refine j_aload_n E 0 dX6_count_41 rfl rfl ?_
    obtain ⟨x1, h1, h⟩ := jb h
    refine j_getI E gX6_87 h1 dX6_count_42 ?_
    refine j_icmp_ge (tgt := 249) E dX6_count_45 (by decide) (fun hc2 => ?_) (fun hc2 => ?_)
    · replace h := jt hc2 h
      refine j_iload_n E 3 dX6_count_249 rfl rfl ?_
      cases h
      exact j_iret E dX6_count_250
    replace h := jf hc2 h
    refine j_iload_n E 1 dX6_count_48 rfl rfl ?_
    refine j_iconst (v := (-1 : Int32)) E dX6_count_49 (by decide) ?_
    refine j_icmp_eq (tgt := 62) E dX6_count_50 (by decide) (fun hc3 => ?_) (fun hc3 => ?_)
    · replace h := jt hc3 h
      exact j_sub [0, 1, 2, 3, 4] rfl (wX6_count_B62 E ih h)
    replace h := jf hc3 h
    refine j_iload E 4 dX6_count_53 rfl ?_
    refine j_iload_n E 1 dX6_count_55 rfl rfl ?_
    refine j_icmp_eq (tgt := 62) E dX6_count_56 (by decide) (fun hc4 => ?_) (fun hc4 => ?_)
    · replace h := jt hc4 h
      exact j_sub [0, 1, 2, 3, 4] rfl (wX6_count_B62 E ih h)
    replace h := jf hc4 h
    refine j_goto (tgt := 243) E dX6_count_59 (by decide) ?_
    refine j_iinc (v := (v4 + (1 : Int32))) (lv' := [(4, .int (v4 + (1 : Int32))), (0, .ref v0), (1, .int v1), (2, .int v2), (3, .int v3)]) E 4 dX6_count_243 rfl rfl (by decide) rfl ?_
    refine j_goto (tgt := 39) E dX6_count_246 (by decide) ?_
    exact j_sub [1, 2, 3, 4, 0] rfl (ih _ _ _ h)
def mX6_count_B36 (fu : Nat)  (v0 : Nat) (v1 : Int32) (v2 : Int32) (v3 : Int32)  (f : jM) : Option (Int32 × jM) :=
    mX6_count_L39 fu v0 v1 v2 fu v3 (0 : Int32) f
set_option maxRecDepth 100000 in
set_option maxHeartbeats 4000000 in
theorem wX6_count_B36 {c : jS} {sz : Nat} {fu : Nat}  {v0 : Nat} {v1 : Int32} {v2 : Int32} {v3 : Int32}  {f : jM} {res : (Int32 × jM)} (E : jOk c cX6_count 6 RX6 (some .int) 2 43)  (h : mX6_count_B36 fu  v0 v1 v2 v3  f = some res) : J c (jZ c (some (.int res.1)) res.2 sz) f sz 0 0 36 [(0, .ref v0), (1, .int v1), (2, .int v2), (3, .int v3)] [] := by
  unfold mX6_count_B36 at h
  refine j_iconst (v := (0 : Int32)) E dX6_count_36 (by decide) ?_
  refine j_istore (lv' := [(4, .int (0 : Int32)), (0, .ref v0), (1, .int v1), (2, .int v2), (3, .int v3)]) E dX6_count_37 (by decide) rfl ?_
  exact j_sub [1, 2, 3, 4, 0] rfl (wX6_count_L39 E _ _ _ _ h)
def mX6_count (fu : Nat) (f : jM) (v0 : Nat) (v1 : Int32) (v2 : Int32) : Option (Int32 × jM) :=
    if v1 < (-1 : Int32) then (
    some ((-1 : Int32), f)) else (
    (rdI 6 f v0 1).bind fun x35 =>
    if x35 ≤ v1 then (
    some ((-1 : Int32), f)) else (
    if v2 < 0 then (
    some ((-1 : Int32), f)) else (
    if v2 ≤ (6 : Int32) then (
    if v2 = (3 : Int32) then (
    (chk 6 f v0).bind fun _ =>
    (mX6_hold fu f v0).bind fun f41 =>
    mX6_count_B36 fu v0 v1 v2 (0 : Int32) f41) else (
    mX6_count_B36 fu v0 v1 v2 (0 : Int32) f)) else (
    some ((-1 : Int32), f)))))
set_option maxRecDepth 100000 in
set_option maxHeartbeats 4000000 in
theorem sX6_count {l : Launch} {D : jD} {sz : Nat} {fu : Nat} {f : jM} {v0 : Nat} {v1 : Int32} {v2 : Int32} {res : (Int32 × jM)} (h : mX6_count fu f v0 v1 v2 = some res) : jCt l D yX6_count cX6_count 6 (some .int) 2 43 [.ref v0, .int v1, .int v2] f sz 0 0 (some (.int res.1)) res.2 sz := by
  refine j_start (by decide +kernel) (Nat.le_of_ble_eq_true rfl) (fun c hcl hcD hcn E => ?_)
  subst hcl
  subst hcD
  replace E : jOk c cX6_count 6 RX6 (some .int) 2 43 := E
  show J c (jZ c (some (.int res.1)) res.2 sz) f sz 0 0 0 [(0, .ref v0), (1, .int v1), (2, .int v2)] []
  unfold mX6_count at h
  refine j_iload_n E 1 dX6_count_0 rfl rfl ?_
  refine j_iconst (v := (-1 : Int32)) E dX6_count_1 (by decide) ?_
  refine j_icmp_lt (tgt := 23) E dX6_count_2 (by decide) (fun hc34 => ?_) (fun hc34 => ?_)
  · replace h := jt hc34 h
    refine j_iconst (v := (-1 : Int32)) E dX6_count_23 (by decide) ?_
    cases h
    exact j_iret E dX6_count_24
  replace h := jf hc34 h
  refine j_iload_n E 1 dX6_count_5 rfl rfl ?_
  refine j_aload_n E 0 dX6_count_6 rfl rfl ?_
  obtain ⟨x35, h35, h⟩ := jb h
  refine j_getI E gX6_87 h35 dX6_count_7 ?_
  refine j_icmp_ge (tgt := 23) E dX6_count_10 (by decide) (fun hc36 => ?_) (fun hc36 => ?_)
  · replace h := jt hc36 h
    refine j_iconst (v := (-1 : Int32)) E dX6_count_23 (by decide) ?_
    cases h
    exact j_iret E dX6_count_24
  replace h := jf hc36 h
  refine j_iload_n E 2 dX6_count_13 rfl rfl ?_
  refine j_if_lt (tgt := 23) E dX6_count_14 (by decide) (fun hc37 => ?_) (fun hc37 => ?_)
  · replace h := jt hc37 h
    refine j_iconst (v := (-1 : Int32)) E dX6_count_23 (by decide) ?_
    cases h
    exact j_iret E dX6_count_24
  replace h := jf hc37 h
  refine j_iload_n E 2 dX6_count_17 rfl rfl ?_
  refine j_bipush (v := (6 : Int32)) E dX6_count_18 (by decide) ?_
  refine j_icmp_le (tgt := 25) E dX6_count_20 (by decide) (fun hc38 => ?_) (fun hc38 => ?_)
  · replace h := jt hc38 h
    refine j_iconst (v := (0 : Int32)) E dX6_count_25 (by decide) ?_
    refine j_istore_n (lv' := [(3, .int (0 : Int32)), (0, .ref v0), (1, .int v1), (2, .int v2)]) E dX6_count_26 rfl (by decide) rfl ?_
    refine j_iload_n E 3 dX6_count_27 rfl rfl ?_
    refine j_iconst (v := (3 : Int32)) E dX6_count_28 (by decide) ?_
    refine j_icmp_ne (tgt := 36) E dX6_count_29 (by decide) (fun hc39 => ?_) (fun hc39 => ?_)
    · replace h := jf hc39 h
      exact j_sub [1, 2, 3, 0] rfl (wX6_count_B36 E  h)
    replace h := jt hc39 h
    refine j_aload_n E 1 dX6_count_32 rfl rfl ?_
    obtain ⟨u40, h40, h⟩ := jb h
    obtain ⟨fs40, h40⟩ := chk_spec h40
    obtain ⟨f41, h41, h⟩ := jb h
    refine j_callV (As := []) (b := v0) (rest := []) (rc := 0) (rs := 0) E (sX6_hold h41) lwX6_hold lkX6_184 imX6_hold seX6_hold rfl h40 (by decide) rfl (Nat.le_of_ble_eq_true rfl) dX6_count_33 ?_
    exact j_sub [1, 2, 3, 0] rfl (wX6_count_B36 E  h)
  replace h := jf hc38 h
  refine j_iconst (v := (-1 : Int32)) E dX6_count_23 (by decide) ?_
  cases h
  exact j_iret E dX6_count_24
def mX6_isEven_B104 (fu : Nat) (k2 : Int32 → jM → Option (Int32 × jM)) (v0 : Nat) (v1 : Int32) (v2 : Int32) (s0 : Int32) (f : jM) : Option (Int32 × jM) :=
    if s0 = v2 then (
    k2 (v1 + (1 : Int32)) f) else (
    some ((0 : Int32), f))
set_option maxRecDepth 100000 in
set_option maxHeartbeats 4000000 in
theorem wX6_isEven_B104 {c : jS} {sz : Nat} {fu : Nat} {k2 : Int32 → jM → Option (Int32 × jM)} {v0 : Nat} {v1 : Int32} {v2 : Int32} {s0 : Int32} {f : jM} {res : (Int32 × jM)} (E : jOk c cX6_isEven 4 RX6 (some .boolean) 0 0) (hk2 : ∀ (v1 : Int32) (f : jM), k2 v1 f = some res → J c (jZ c (some (.int res.1)) res.2 sz) f sz 0 0 2 [(0, .ref v0), (1, .int v1)] []) (h : mX6_isEven_B104 fu k2 v0 v1 v2 s0 f = some res) : J c (jZ c (some (.int res.1)) res.2 sz) f sz 0 0 104 [(0, .ref v0), (1, .int v1), (2, .int v2)] [.int s0] := by
  unfold mX6_isEven_B104 at h
  refine j_iload_n E 2 dX6_isEven_104 rfl rfl ?_
  refine j_icmp_eq (tgt := 110) E dX6_isEven_105 (by decide) (fun hc21 => ?_) (fun hc21 => ?_)
  · replace h := jt hc21 h
    refine j_iinc (v := (v1 + (1 : Int32))) (lv' := [(1, .int (v1 + (1 : Int32))), (0, .ref v0), (2, .int v2)]) E 1 dX6_isEven_110 rfl rfl (by decide) rfl ?_
    refine j_goto (tgt := 2) E dX6_isEven_113 (by decide) ?_
    exact j_sub [1, 0] rfl (hk2 _ _ h)
  replace h := jf hc21 h
  refine j_iconst (v := (0 : Int32)) E dX6_isEven_108 (by decide) ?_
  cases h
  exact j_zret (v := (0 : Int32)) E (by decide +kernel) dX6_isEven_109
def mX6_isEven_L42 (fu : Nat) (k2 : Int32 → jM → Option (Int32 × jM)) (v0 : Nat) (v1 : Int32) : Nat → Int32 → Int32 → jM → Option (Int32 × jM)
  | 0, _, _, _ => none
  | n + 1, v2, v3, f =>
    (rdI 6 f v0 13).bind fun x6 =>
    if x6 ≤ v3 then (
    (rdR 6 f v0 5).bind fun x8 =>
    (ldI 1 f x8 v1).bind fun x9 =>
    if x9 = 0 then (
    mX6_isEven_B104 fu k2 v0 v1 v2 (0 : Int32) f) else (
    (rdR 6 f v0 4).bind fun x11 =>
    (ldI 0 f x11 v1).bind fun x12 =>
    mX6_isEven_B104 fu k2 v0 v1 v2 x12 f)) else (
    (rdR 6 f v0 17).bind fun x13 =>
    (ldI 0 f x13 v3).bind fun x14 =>
    if x14 = v1 then (
    (rdR 6 f v0 16).bind fun x16 =>
    (ldI 0 f x16 v3).bind fun x17 =>
    if x17 = (3 : Int32) then (
    mX6_isEven_L42 fu k2 v0 v1 n v2 (v3 + (1 : Int32)) f) else (
    (rdR 6 f v0 18).bind fun x19 =>
    (ldI 0 f x19 v3).bind fun x20 =>
    mX6_isEven_L42 fu k2 v0 v1 n (v2 + x20) (v3 + (1 : Int32)) f)) else (
    mX6_isEven_L42 fu k2 v0 v1 n v2 (v3 + (1 : Int32)) f))
set_option maxRecDepth 100000 in
set_option maxHeartbeats 4000000 in
theorem wX6_isEven_L42 {c : jS} {sz : Nat} {fu : Nat} {k2 : Int32 → jM → Option (Int32 × jM)} {v0 : Nat} {v1 : Int32} {res : (Int32 × jM)} (E : jOk c cX6_isEven 4 RX6 (some .boolean) 0 0) (hk2 : ∀ (v1 : Int32) (f : jM), k2 v1 f = some res → J c (jZ c (some (.int res.1)) res.2 sz) f sz 0 0 2 [(0, .ref v0), (1, .int v1)] []) : ∀ (n : Nat) (v2 : Int32) (v3 : Int32) (f : jM), mX6_isEven_L42 fu k2 v0 v1 n v2 v3 f = some res → J c (jZ c (some (.int res.1)) res.2 sz) f sz 0 0 42 [(0, .ref v0), (1, .int v1), (2, .int v2), (3, .int v3)] [] := by
  intro n
  induction n with
  | zero => intro v2 v3 f h; exact jn0 h
  | succ n ih =>
    intro v2 v3 f h
    rw [mX6_isEven_L42] at h
    refine j_iload_n E 3 dX6_isEven_42 rfl rfl ?_
    refine j_aload_n E 0 dX6_isEven_43 rfl rfl ?_
    obtain ⟨x6, h6, h⟩ := jb h
    refine j_getI E gX6_110 h6 dX6_isEven_44 ?_
    refine j_icmp_ge (tgt := 85) E dX6_isEven_47 (by decide) (fun hc7 => ?_) (fun hc7 => ?_)
    · replace h := jt hc7 h
      refine j_aload_n E 0 dX6_isEven_85 rfl rfl ?_
      obtain ⟨x8, h8, h⟩ := jb h
      refine j_getR E gX6_23 h8 dX6_isEven_86 ?_
      refine j_iload_n E 1 dX6_isEven_89 rfl rfl ?_
      obtain ⟨x9, h9, h⟩ := jb h
      refine j_zald E h9 dX6_isEven_90 ?_
      refine j_if_eq (tgt := 103) E dX6_isEven_91 (by decide) (fun hc10 => ?_) (fun hc10 => ?_)
      · replace h := jt hc10 h
        refine j_iconst (v := (0 : Int32)) E dX6_isEven_103 (by decide) ?_
        exact j_sub [0, 1, 2] rfl (wX6_isEven_B104 E hk2 h)
      replace h := jf hc10 h
      refine j_aload_n E 0 dX6_isEven_94 rfl rfl ?_
      obtain ⟨x11, h11, h⟩ := jb h
      refine j_getR E gX6_20 h11 dX6_isEven_95 ?_
      refine j_iload_n E 1 dX6_isEven_98 rfl rfl ?_
      obtain ⟨x12, h12, h⟩ := jb h
      refine j_iald E h12 dX6_isEven_99 ?_
      refine j_goto (tgt := 104) E dX6_isEven_100 (by decide) ?_
      exact j_sub [0, 1, 2] rfl (wX6_isEven_B104 E hk2 h)
    replace h := jf hc7 h
    refine j_aload_n E 0 dX6_isEven_50 rfl rfl ?_
    obtain ⟨x13, h13, h⟩ := jb h
    refine j_getR E gX6_57 h13 dX6_isEven_51 ?_
    refine j_iload_n E 3 dX6_isEven_54 rfl rfl ?_
    obtain ⟨x14, h14, h⟩ := jb h
    refine j_iald E h14 dX6_isEven_55 ?_
    refine j_iload_n E 1 dX6_isEven_56 rfl rfl ?_
    refine j_icmp_ne (tgt := 79) E dX6_isEven_57 (by decide) (fun hc15 => ?_) (fun hc15 => ?_)
    · replace h := jf hc15 h
      refine j_iinc (v := (v3 + (1 : Int32))) (lv' := [(3, .int (v3 + (1 : Int32))), (0, .ref v0), (1, .int v1), (2, .int v2)]) E 3 dX6_isEven_79 rfl rfl (by decide) rfl ?_
      refine j_goto (tgt := 42) E dX6_isEven_82 (by decide) ?_
      exact j_sub [1, 2, 3, 0] rfl (ih _ _ _ h)
    replace h := jt hc15 h
    refine j_aload_n E 0 dX6_isEven_60 rfl rfl ?_
    obtain ⟨x16, h16, h⟩ := jb h
    refine j_getR E gX6_54 h16 dX6_isEven_61 ?_
    refine j_iload_n E 3 dX6_isEven_64 rfl rfl ?_
    obtain ⟨x17, h17, h⟩ := jb h
    refine j_iald E h17 dX6_isEven_65 ?_
    refine j_iconst (v := (3 : Int32)) E dX6_isEven_66 (by decide) ?_
    refine j_icmp_eq (tgt := 79) E dX6_isEven_67 (by decide) (fun hc18 => ?_) (fun hc18 => ?_)
    · replace h := jt hc18 h
      refine j_iinc (v := (v3 + (1 : Int32))) (lv' := [(3, .int (v3 + (1 : Int32))), (0, .ref v0), (1, .int v1), (2, .int v2)]) E 3 dX6_isEven_79 rfl rfl (by decide) rfl ?_
      refine j_goto (tgt := 42) E dX6_isEven_82 (by decide) ?_
      exact j_sub [1, 2, 3, 0] rfl (ih _ _ _ h)
    replace h := jf hc18 h
    refine j_iload_n E 2 dX6_isEven_70 rfl rfl ?_
    refine j_aload_n E 0 dX6_isEven_71 rfl rfl ?_
    obtain ⟨x19, h19, h⟩ := jb h
    refine j_getR E gX6_60 h19 dX6_isEven_72 ?_
    refine j_iload_n E 3 dX6_isEven_75 rfl rfl ?_
    obtain ⟨x20, h20, h⟩ := jb h
    refine j_iald E h20 dX6_isEven_76 ?_
    refine j_iadd E dX6_isEven_77 ?_
    refine j_istore_n (lv' := [(2, .int (v2 + x20)), (0, .ref v0), (1, .int v1), (3, .int v3)]) E dX6_isEven_78 rfl (by decide) rfl ?_
    refine j_iinc (v := (v3 + (1 : Int32))) (lv' := [(3, .int (v3 + (1 : Int32))), (2, .int (v2 + x20)), (0, .ref v0), (1, .int v1)]) E 3 dX6_isEven_79 rfl rfl (by decide) rfl ?_
    refine j_goto (tgt := 42) E dX6_isEven_82 (by decide) ?_
    exact j_sub [2, 3, 1, 0] rfl (ih _ _ _ h)
def mX6_isEven_L12 (fu : Nat) (k2 : Int32 → jM → Option (Int32 × jM)) (v0 : Nat) (v1 : Int32) : Nat → Int32 → Int32 → jM → Option (Int32 × jM)
  | 0, _, _, _ => none
  | n + 1, v2, v3, f =>
    (rdI 6 f v0 1).bind fun x2 =>
    if x2 ≤ v3 then (
    mX6_isEven_L42 fu k2 v0 v1 fu v2 (0 : Int32) f) else (
    (rdR 6 f v0 10).bind fun x4 =>
    (ldI 0 f x4 (((120 : Int32) * v3) + v1)).bind fun x5 =>
    mX6_isEven_L12 fu k2 v0 v1 n (v2 + x5) (v3 + (1 : Int32)) f)
set_option maxRecDepth 100000 in
set_option maxHeartbeats 4000000 in
theorem wX6_isEven_L12 {c : jS} {sz : Nat} {fu : Nat} {k2 : Int32 → jM → Option (Int32 × jM)} {v0 : Nat} {v1 : Int32} {res : (Int32 × jM)} (E : jOk c cX6_isEven 4 RX6 (some .boolean) 0 0) (hk2 : ∀ (v1 : Int32) (f : jM), k2 v1 f = some res → J c (jZ c (some (.int res.1)) res.2 sz) f sz 0 0 2 [(0, .ref v0), (1, .int v1)] []) : ∀ (n : Nat) (v2 : Int32) (v3 : Int32) (f : jM), mX6_isEven_L12 fu k2 v0 v1 n v2 v3 f = some res → J c (jZ c (some (.int res.1)) res.2 sz) f sz 0 0 12 [(0, .ref v0), (1, .int v1), (2, .int v2), (3, .int v3)] [] := by
  intro n
  induction n with
  | zero => intro v2 v3 f h; exact jn0 h
  | succ n ih =>
    intro v2 v3 f h
    rw [mX6_isEven_L12] at h
    refine j_iload_n E 3 dX6_isEven_12 rfl rfl ?_
    refine j_aload_n E 0 dX6_isEven_13 rfl rfl ?_
    obtain ⟨x2, h2, h⟩ := jb h
    refine j_getI E gX6_87 h2 dX6_isEven_14 ?_
    refine j_icmp_ge (tgt := 40) E dX6_isEven_17 (by decide) (fun hc3 => ?_) (fun hc3 => ?_)
    · replace h := jt hc3 h
      refine j_iconst (v := (0 : Int32)) E dX6_isEven_40 (by decide) ?_
      refine j_istore_n (lv' := [(3, .int (0 : Int32)), (0, .ref v0), (1, .int v1), (2, .int v2)]) E dX6_isEven_41 rfl (by decide) rfl ?_
      exact j_sub [1, 2, 3, 0] rfl (wX6_isEven_L42 E hk2 _ _ _ _ h)
    replace h := jf hc3 h
    refine j_iload_n E 2 dX6_isEven_20 rfl rfl ?_
    refine j_aload_n E 0 dX6_isEven_21 rfl rfl ?_
    obtain ⟨x4, h4, h⟩ := jb h
    refine j_getR E gX6_39 h4 dX6_isEven_22 ?_
    refine j_bipush (v := (120 : Int32)) E dX6_isEven_25 (by decide) ?_
    refine j_iload_n E 3 dX6_isEven_27 rfl rfl ?_
    refine j_imul E dX6_isEven_28 ?_
    refine j_iload_n E 1 dX6_isEven_29 rfl rfl ?_
    refine j_iadd E dX6_isEven_30 ?_
    obtain ⟨x5, h5, h⟩ := jb h
    refine j_iald E h5 dX6_isEven_31 ?_
    refine j_iadd E dX6_isEven_32 ?_
    refine j_istore_n (lv' := [(2, .int (v2 + x5)), (0, .ref v0), (1, .int v1), (3, .int v3)]) E dX6_isEven_33 rfl (by decide) rfl ?_
    refine j_iinc (v := (v3 + (1 : Int32))) (lv' := [(3, .int (v3 + (1 : Int32))), (2, .int (v2 + x5)), (0, .ref v0), (1, .int v1)]) E 3 dX6_isEven_34 rfl rfl (by decide) rfl ?_
    refine j_goto (tgt := 12) E dX6_isEven_37 (by decide) ?_
    exact j_sub [2, 3, 1, 0] rfl (ih _ _ _ h)
def mX6_isEven_L2 (fu : Nat)  (v0 : Nat) : Nat → Int32 → jM → Option (Int32 × jM)
  | 0, _, _ => none
  | n + 1, v1, f =>
    if (120 : Int32) ≤ v1 then (
    some ((1 : Int32), f)) else (
    mX6_isEven_L12 fu (mX6_isEven_L2 fu v0 n) v0 v1 fu (0 : Int32) (0 : Int32) f)
set_option maxRecDepth 100000 in
set_option maxHeartbeats 4000000 in
theorem wX6_isEven_L2 {c : jS} {sz : Nat} {fu : Nat}  {v0 : Nat} {res : (Int32 × jM)} (E : jOk c cX6_isEven 4 RX6 (some .boolean) 0 0)  : ∀ (n : Nat) (v1 : Int32) (f : jM), mX6_isEven_L2 fu  v0 n v1 f = some res → J c (jZ c (some (.int res.1)) res.2 sz) f sz 0 0 2 [(0, .ref v0), (1, .int v1)] [] := by
  intro n
  induction n with
  | zero => intro v1 f h; exact jn0 h
  | succ n ih =>
    intro v1 f h
    rw [mX6_isEven_L2] at h
    refine j_iload_n E 1 dX6_isEven_2 rfl rfl ?_
    refine j_bipush (v := (120 : Int32)) E dX6_isEven_3 (by decide) ?_
    refine j_icmp_ge (tgt := 116) E dX6_isEven_5 (by decide) (fun hc1 => ?_) (fun hc1 => ?_)
    · replace h := jt hc1 h
      refine j_iconst (v := (1 : Int32)) E dX6_isEven_116 (by decide) ?_
      cases h
      exact j_zret (v := (1 : Int32)) E (by decide +kernel) dX6_isEven_117
    replace h := jf hc1 h
    refine j_iconst (v := (0 : Int32)) E dX6_isEven_8 (by decide) ?_
    refine j_istore_n (lv' := [(2, .int (0 : Int32)), (0, .ref v0), (1, .int v1)]) E dX6_isEven_9 rfl (by decide) rfl ?_
    refine j_iconst (v := (0 : Int32)) E dX6_isEven_10 (by decide) ?_
    refine j_istore_n (lv' := [(3, .int (0 : Int32)), (2, .int (0 : Int32)), (0, .ref v0), (1, .int v1)]) E dX6_isEven_11 rfl (by decide) rfl ?_
    exact j_sub [2, 3, 1, 0] rfl (wX6_isEven_L12 E ih _ _ _ _ h)
def mX6_isEven (fu : Nat) (f : jM) (v0 : Nat) : Option (Int32 × jM) :=
    mX6_isEven_L2 fu v0 fu (0 : Int32) f
set_option maxRecDepth 100000 in
set_option maxHeartbeats 4000000 in
theorem sX6_isEven {l : Launch} {D : jD} {sz : Nat} {fu : Nat} {f : jM} {v0 : Nat} {res : (Int32 × jM)} (h : mX6_isEven fu f v0 = some res) : jCt l D yX6_isEven cX6_isEven 4 (some .boolean) 0 0 [.ref v0] f sz 0 0 (some (.int res.1)) res.2 sz := by
  refine j_start (by decide +kernel) (Nat.le_of_ble_eq_true rfl) (fun c hcl hcD hcn E => ?_)
  subst hcl
  subst hcD
  replace E : jOk c cX6_isEven 4 RX6 (some .boolean) 0 0 := E
  show J c (jZ c (some (.int res.1)) res.2 sz) f sz 0 0 0 [(0, .ref v0)] []
  unfold mX6_isEven at h
  refine j_iconst (v := (0 : Int32)) E dX6_isEven_0 (by decide) ?_
  refine j_istore_n (lv' := [(1, .int (0 : Int32)), (0, .ref v0)]) E dX6_isEven_1 rfl (by decide) rfl ?_
  exact j_sub [1, 0] rfl (wX6_isEven_L2 E _ _ _ h)
