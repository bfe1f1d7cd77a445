def mX6_isNode (f : jM) (v0 : Nat) (v1 : Int32) : Option (Int32 × jM) :=
    if v1 < 0 then (
    some ((0 : Int32), f)) else (
    (rdI 6 f v0 1).bind fun x2 =>
    if x2 ≤ v1 then (
    some ((0 : Int32), f)) else (
    some ((1 : Int32), f)))
set_option maxRecDepth 100000 in
set_option maxHeartbeats 4000000 in
theorem sX6_isNode {l : Launch} {D : jD} {sz : Nat} {f : jM} {v0 : Nat} {v1 : Int32} {res : (Int32 × jM)} (h : mX6_isNode f v0 v1 = some res) : jCt l D yX6_isNode cX6_isNode 2 (some .boolean) 0 0 [.ref v0, .int v1] f sz 0 0 (some (.int res.1)) res.2 sz := by
  refine j_start (by decide +kernel) (Nat.le_of_ble_eq_true rfl) (fun c hcl hcD hcn E => ?_)
  subst hcl
  subst hcD
  replace E : jOk c cX6_isNode 2 RX6 (some .boolean) 0 0 := E
  show J c (jZ c (some (.int res.1)) res.2 sz) f sz 0 0 0 [(0, .ref v0), (1, .int v1)] []
  unfold mX6_isNode at h
  refine j_iload_n E 1 dX6_isNode_0 rfl rfl ?_
  refine j_if_lt (tgt := 16) E dX6_isNode_1 (by decide) (fun hc1 => ?_) (fun hc1 => ?_)
  · replace h := jt hc1 h
    refine j_iconst (v := (0 : Int32)) E dX6_isNode_16 (by decide) ?_
    cases h
    exact j_zret (v := (0 : Int32)) E (by decide +kernel) dX6_isNode_17
  replace h := jf hc1 h
  refine j_iload_n E 1 dX6_isNode_4 rfl rfl ?_
  refine j_aload_n E 0 dX6_isNode_5 rfl rfl ?_
  obtain ⟨x2, h2, h⟩ := jb h
  refine j_getI E gX6_87 h2 dX6_isNode_6 ?_
  refine j_icmp_ge (tgt := 16) E dX6_isNode_9 (by decide) (fun hc3 => ?_) (fun hc3 => ?_)
  · replace h := jt hc3 h
    refine j_iconst (v := (0 : Int32)) E dX6_isNode_16 (by decide) ?_
    cases h
    exact j_zret (v := (0 : Int32)) E (by decide +kernel) dX6_isNode_17
  replace h := jf hc3 h
  refine j_iconst (v := (1 : Int32)) E dX6_isNode_12 (by decide) ?_
  refine j_goto (tgt := 17) E dX6_isNode_13 (by decide) ?_
  cases h
  exact j_zret (v := (1 : Int32)) E (by decide +kernel) dX6_isNode_17
def mX6_isRegister (f : jM) (v0 : Nat) (v1 : Int32) (v2 : Int32) : Option (Int32 × jM) :=
    (chk 6 f v0).bind fun _ =>
    (mX6_isNode f v0 v1).bind fun r2 =>
    if r2.1 = 0 then (
    some ((0 : Int32), r2.2)) else (
    if v2 < 0 then (
    some ((0 : Int32), r2.2)) else (
    if (6 : Int32) ≤ v2 then (
    some ((0 : Int32), r2.2)) else (
    some ((1 : Int32), r2.2))))
set_option maxRecDepth 100000 in
set_option maxHeartbeats 4000000 in
theorem sX6_isRegister {l : Launch} {D : jD} {sz : Nat} {f : jM} {v0 : Nat} {v1 : Int32} {v2 : Int32} {res : (Int32 × jM)} (h : mX6_isRegister f v0 v1 v2 = some res) : jCt l D yX6_isRegister cX6_isRegister 3 (some .boolean) 1 21 [.ref v0, .int v1, .int v2] f sz 0 0 (some (.int res.1)) res.2 sz := by
  refine j_start (by decide +kernel) (Nat.le_of_ble_eq_true rfl) (fun c hcl hcD hcn E => ?_)
  subst hcl
  subst hcD
  replace E : jOk c cX6_isRegister 3 RX6 (some .boolean) 1 21 := E
  show J c (jZ c (some (.int res.1)) res.2 sz) f sz 0 0 0 [(0, .ref v0), (1, .int v1), (2, .int v2)] []
  unfold mX6_isRegister at h
  refine j_aload_n E 0 dX6_isRegister_0 rfl rfl ?_
  refine j_iload_n E 1 dX6_isRegister_1 rfl rfl ?_
  obtain ⟨u1, h1, h⟩ := jb h
  obtain ⟨fs1, h1⟩ := chk_spec h1
  obtain ⟨r2, h2, h⟩ := jb h
  refine j_callV (As := [.int v1]) (b := v0) (rest := []) (rc := 0) (rs := 0) E (sX6_isNode h2) lwX6_isNode lkX6_90 imX6_isNode seX6_isNode rfl h1 (by decide) rfl (Nat.le_of_ble_eq_true rfl) dX6_isRegister_2 ?_
  refine j_if_eq (tgt := 22) E dX6_isRegister_5 (by decide) (fun hc3 => ?_) (fun hc3 => ?_)
  · replace h := jt hc3 h
    refine j_iconst (v := (0 : Int32)) E dX6_isRegister_22 (by decide) ?_
    cases h
    exact j_zret (v := (0 : Int32)) E (by decide +kernel) dX6_isRegister_23
  replace h := jf hc3 h
  refine j_iload_n E 2 dX6_isRegister_8 rfl rfl ?_
  refine j_if_lt (tgt := 22) E dX6_isRegister_9 (by decide) (fun hc4 => ?_) (fun hc4 => ?_)
  · replace h := jt hc4 h
    refine j_iconst (v := (0 : Int32)) E dX6_isRegister_22 (by decide) ?_
    cases h
    exact j_zret (v := (0 : Int32)) E (by decide +kernel) dX6_isRegister_23
  replace h := jf hc4 h
  refine j_iload_n E 2 dX6_isRegister_12 rfl rfl ?_
  refine j_bipush (v := (6 : Int32)) E dX6_isRegister_13 (by decide) ?_
  refine j_icmp_ge (tgt := 22) E dX6_isRegister_15 (by decide) (fun hc5 => ?_) (fun hc5 => ?_)
  · replace h := jt hc5 h
    refine j_iconst (v := (0 : Int32)) E dX6_isRegister_22 (by decide) ?_
    cases h
    exact j_zret (v := (0 : Int32)) E (by decide +kernel) dX6_isRegister_23
  replace h := jf hc5 h
  refine j_iconst (v := (1 : Int32)) E dX6_isRegister_18 (by decide) ?_
  refine j_goto (tgt := 23) E dX6_isRegister_19 (by decide) ?_
  cases h
  exact j_zret (v := (1 : Int32)) E (by decide +kernel) dX6_isRegister_23
def mX6_isObject (f : jM) (v0 : Nat) (v1 : Int32) (v2 : Int32) : Option (Int32 × jM) :=
    (chk 6 f v0).bind fun _ =>
    (mX6_isNode f v0 v1).bind fun r2 =>
    if r2.1 = 0 then (
    some ((0 : Int32), r2.2)) else (
    if v2 < 0 then (
    some ((0 : Int32), r2.2)) else (
    if (24 : Int32) ≤ v2 then (
    some ((0 : Int32), r2.2)) else (
    (rdR 6 r2.2 v0 5).bind fun x6 =>
    (ldI 1 r2.2 x6 (((24 : Int32) * v1) + v2)).bind fun x7 =>
    if x7 = 0 then (
    some ((0 : Int32), r2.2)) else (
    some ((1 : Int32), r2.2)))))
set_option maxRecDepth 100000 in
set_option maxHeartbeats 4000000 in
theorem sX6_isObject {l : Launch} {D : jD} {sz : Nat} {f : jM} {v0 : Nat} {v1 : Int32} {v2 : Int32} {res : (Int32 × jM)} (h : mX6_isObject f v0 v1 v2 = some res) : jCt l D yX6_isObject cX6_isObject 3 (some .boolean) 1 21 [.ref v0, .int v1, .int v2] f sz 0 0 (some (.int res.1)) res.2 sz := by
  refine j_start (by decide +kernel) (Nat.le_of_ble_eq_true rfl) (fun c hcl hcD hcn E => ?_)
  subst hcl
  subst hcD
  replace E : jOk c cX6_isObject 3 RX6 (some .boolean) 1 21 := E
  show J c (jZ c (some (.int res.1)) res.2 sz) f sz 0 0 0 [(0, .ref v0), (1, .int v1), (2, .int v2)] []
  unfold mX6_isObject at h
  refine j_aload_n E 0 dX6_isObject_0 rfl rfl ?_
  refine j_iload_n E 1 dX6_isObject_1 rfl rfl ?_
  obtain ⟨u1, h1, h⟩ := jb h
  obtain ⟨fs1, h1⟩ := chk_spec h1
  obtain ⟨r2, h2, h⟩ := jb h
  refine j_callV (As := [.int v1]) (b := v0) (rest := []) (rc := 0) (rs := 0) E (sX6_isNode h2) lwX6_isNode lkX6_90 imX6_isNode seX6_isNode rfl h1 (by decide) rfl (Nat.le_of_ble_eq_true rfl) dX6_isObject_2 ?_
  refine j_if_eq (tgt := 36) E dX6_isObject_5 (by decide) (fun hc3 => ?_) (fun hc3 => ?_)
  · replace h := jt hc3 h
    refine j_iconst (v := (0 : Int32)) E dX6_isObject_36 (by decide) ?_
    cases h
    exact j_zret (v := (0 : Int32)) E (by decide +kernel) dX6_isObject_37
  replace h := jf hc3 h
  refine j_iload_n E 2 dX6_isObject_8 rfl rfl ?_
  refine j_if_lt (tgt := 36) E dX6_isObject_9 (by decide) (fun hc4 => ?_) (fun hc4 => ?_)
  · replace h := jt hc4 h
    refine j_iconst (v := (0 : Int32)) E dX6_isObject_36 (by decide) ?_
    cases h
    exact j_zret (v := (0 : Int32)) E (by decide +kernel) dX6_isObject_37
  replace h := jf hc4 h
  refine j_iload_n E 2 dX6_isObject_12 rfl rfl ?_
  refine j_bipush (v := (24 : Int32)) E dX6_isObject_13 (by decide) ?_
  refine j_icmp_ge (tgt := 36) E dX6_isObject_15 (by decide) (fun hc5 => ?_) (fun hc5 => ?_)
  · replace h := jt hc5 h
    refine j_iconst (v := (0 : Int32)) E dX6_isObject_36 (by decide) ?_
    cases h
    exact j_zret (v := (0 : Int32)) E (by decide +kernel) dX6_isObject_37
  replace h := jf hc5 h
  refine j_aload_n E 0 dX6_isObject_18 rfl rfl ?_
  obtain ⟨x6, h6, h⟩ := jb h
  refine j_getR E gX6_23 h6 dX6_isObject_19 ?_
  refine j_bipush (v := (24 : Int32)) E dX6_isObject_22 (by decide) ?_
  refine j_iload_n E 1 dX6_isObject_24 rfl rfl ?_
  refine j_imul E dX6_isObject_25 ?_
  refine j_iload_n E 2 dX6_isObject_26 rfl rfl ?_
  refine j_iadd E dX6_isObject_27 ?_
  obtain ⟨x7, h7, h⟩ := jb h
  refine j_zald E h7 dX6_isObject_28 ?_
  refine j_if_eq (tgt := 36) E dX6_isObject_29 (by decide) (fun hc8 => ?_) (fun hc8 => ?_)
  · replace h := jt hc8 h
    refine j_iconst (v := (0 : Int32)) E dX6_isObject_36 (by decide) ?_
    cases h
    exact j_zret (v := (0 : Int32)) E (by decide +kernel) dX6_isObject_37
  replace h := jf hc8 h
  refine j_iconst (v := (1 : Int32)) E dX6_isObject_32 (by decide) ?_
  refine j_goto (tgt := 37) E dX6_isObject_33 (by decide) ?_
  cases h
  exact j_zret (v := (1 : Int32)) E (by decide +kernel) dX6_isObject_37
def mX6_local (f : jM) (v0 : Nat) (v1 : Int32) (v2 : Int32) : Option (Int32 × jM) :=
    (rdR 6 f v0 8).bind fun x1 =>
    (ldI 0 f x1 (((6 : Int32) * v1) + v2)).bind fun x2 =>
    if x2 = (2 : Int32) then (
    (rdR 6 f v0 9).bind fun x4 =>
    (ldI 0 f x4 (((6 : Int32) * v1) + v2)).bind fun x5 =>
    if (x5 / (24 : Int32)) = v1 then (
    (rdR 6 f v0 9).bind fun x7 =>
    (ldI 0 f x7 (((6 : Int32) * v1) + v2)).bind fun x8 =>
    some (x8, f)) else (
    some ((-1 : Int32), f))) else (
    some ((-1 : Int32), f))
set_option maxRecDepth 100000 in
set_option maxHeartbeats 4000000 in
theorem sX6_local {l : Launch} {D : jD} {sz : Nat} {f : jM} {v0 : Nat} {v1 : Int32} {v2 : Int32} {res : (Int32 × jM)} (h : mX6_local f v0 v1 v2 = some res) : jCt l D yX6_local cX6_local 4 (some .int) 0 0 [.ref v0, .int v1, .int v2] f sz 0 0 (some (.int res.1)) res.2 sz := by
  refine j_start (by decide +kernel) (Nat.le_of_ble_eq_true rfl) (fun c hcl hcD hcn E => ?_)
  subst hcl
  subst hcD
  replace E : jOk c cX6_local 4 RX6 (some .int) 0 0 := E
  show J c (jZ c (some (.int res.1)) res.2 sz) f sz 0 0 0 [(0, .ref v0), (1, .int v1), (2, .int v2)] []
  unfold mX6_local at h
  refine j_bipush (v := (6 : Int32)) E dX6_local_0 (by decide) ?_
  refine j_iload_n E 1 dX6_local_2 rfl rfl ?_
  refine j_imul E dX6_local_3 ?_
  refine j_iload_n E 2 dX6_local_4 rfl rfl ?_
  refine j_iadd E dX6_local_5 ?_
  refine j_istore_n (lv' := [(3, .int (((6 : Int32) * v1) + v2)), (0, .ref v0), (1, .int v1), (2, .int v2)]) E dX6_local_6 rfl (by decide) rfl ?_
  refine j_aload_n E 1 dX6_local_7 rfl rfl ?_
  obtain ⟨x1, h1, h⟩ := jb h
  refine j_getR E gX6_33 h1 dX6_local_8 ?_
  refine j_iload_n E 0 dX6_local_11 rfl rfl ?_
  obtain ⟨x2, h2, h⟩ := jb h
  refine j_iald E h2 dX6_local_12 ?_
  refine j_iconst (v := (2 : Int32)) E dX6_local_13 (by decide) ?_
  refine j_icmp_ne (tgt := 39) E dX6_local_14 (by decide) (fun hc3 => ?_) (fun hc3 => ?_)
  · replace h := jf hc3 h
    refine j_iconst (v := (-1 : Int32)) E dX6_local_39 (by decide) ?_
    cases h
    exact j_iret E dX6_local_40
  replace h := jt hc3 h
  refine j_aload_n E 1 dX6_local_17 rfl rfl ?_
  obtain ⟨x4, h4, h⟩ := jb h
  refine j_getR E gX6_36 h4 dX6_local_18 ?_
  refine j_iload_n E 0 dX6_local_21 rfl rfl ?_
  obtain ⟨x5, h5, h⟩ := jb h
  refine j_iald E h5 dX6_local_22 ?_
  refine j_bipush (v := (24 : Int32)) E dX6_local_23 (by decide) ?_
  refine j_idiv E dX6_local_25 (by decide) ?_
  refine j_iload_n E 2 dX6_local_26 rfl rfl ?_
  refine j_icmp_ne (tgt := 39) E dX6_local_27 (by decide) (fun hc6 => ?_) (fun hc6 => ?_)
  · replace h := jf hc6 h
    refine j_iconst (v := (-1 : Int32)) E dX6_local_39 (by decide) ?_
    cases h
    exact j_iret E dX6_local_40
  replace h := jt hc6 h
  refine j_aload_n E 1 dX6_local_30 rfl rfl ?_
  obtain ⟨x7, h7, h⟩ := jb h
  refine j_getR E gX6_36 h7 dX6_local_31 ?_
  refine j_iload_n E 0 dX6_local_34 rfl rfl ?_
  obtain ⟨x8, h8, h⟩ := jb h
  refine j_iald E h8 dX6_local_35 ?_
  refine j_goto (tgt := 40) E dX6_local_36 (by decide) ?_
  cases h
  exact j_iret E dX6_local_40
def mX6_make_L141 (fu : Nat)  (v0 : Nat) (v1 : Int32) (v2 : Int32) (v4 : Int32) (v5 : Int32) : Nat → Int32 → jM → Option (Int32 × jM)
  | 0, _, _ => none
  | n + 1, v6, f =>
    if (12 : Int32) ≤ v6 then (
    (rdR 6 f v0 8).bind fun x23 =>
    (stI 0 f x23 (((6 : Int32) * v1) + v2) (2 : Int32)).bind fun f24 =>
    (rdR 6 f24 v0 9).bind fun x25 =>
    (stI 0 f24 x25 (((6 : Int32) * v1) + v2) v5).bind fun f26 =>
    some (v4, f26)) else (
    (rdR 6 f v0 6).bind fun x27 =>
    (stI 0 f x27 (((12 : Int32) * v5) + v6) (0 : Int32)).bind fun f28 =>
    (rdR 6 f28 v0 7).bind fun x29 =>
    (stI 0 f28 x29 (((12 : Int32) * v5) + v6) (0 : Int32)).bind fun f30 =>
    mX6_make_L141 fu v0 v1 v2 v4 v5 n (v6 + (1 : Int32)) f30)
set_option maxRecDepth 100000 in
set_option maxHeartbeats 4000000 in
theorem wX6_make_L141 {c : jS} {sz : Nat} {fu : Nat}  {v0 : Nat} {v1 : Int32} {v2 : Int32} {v4 : Int32} {v5 : Int32} {res : (Int32 × jM)} (E : jOk c cX6_make 7 RX6 (some .int) 2 43)  : ∀ (n : Nat) (v6 : Int32) (f : jM), mX6_make_L141 fu  v0 v1 v2 v4 v5 n v6 f = some res → J c (jZ c (some (.int res.1)) res.2 sz) f sz 0 0 141 [(0, .ref v0), (1, .int v1), (2, .int v2), (4, .int v4), (5, .int v5), (6, .int v6)] [] := by
  intro n
  induction n with
  | zero => intro v6 f h; exact jn0 h
  | succ n ih =>
    intro v6 f h
    rw [mX6_make_L141] at h
    refine j_iload E 5 dX6_make_141 rfl ?_
    refine j_bipush (v := (12 : Int32)) E dX6_make_143 (by decide) ?_
    refine j_icmp_ge (tgt := 182) E dX6_make_145 (by decide) (fun hc22 => ?_) (fun hc22 => ?_)
    · replace h := jt hc22 h
      refine j_aload_n E 0 dX6_make_182 rfl rfl ?_
      obtain ⟨x23, h23, h⟩ := jb h
      refine j_getR E gX6_33 h23 dX6_make_183 ?_
      refine j_bipush (v := (6 : Int32)) E dX6_make_186 (by decide) ?_
      refine j_iload_n E 1 dX6_make_188 rfl rfl ?_
      refine j_imul E dX6_make_189 ?_
      refine j_iload_n E 2 dX6_make_190 rfl rfl ?_
      refine j_iadd E dX6_make_191 ?_
      refine j_iconst (v := (2 : Int32)) E dX6_make_192 (by decide) ?_
      obtain ⟨f24, h24, h⟩ := jb h
      refine j_iast E h24 dX6_make_193 ?_
      refine j_aload_n E 0 dX6_make_194 rfl rfl ?_
      obtain ⟨x25, h25, h⟩ := jb h
      refine j_getR E gX6_36 h25 dX6_make_195 ?_
      refine j_bipush (v := (6 : Int32)) E dX6_make_198 (by decide) ?_
      refine j_iload_n E 1 dX6_make_200 rfl rfl ?_
      refine j_imul E dX6_make_201 ?_
      refine j_iload_n E 2 dX6_make_202 rfl rfl ?_
      refine j_iadd E dX6_make_203 ?_
      refine j_iload E 4 dX6_make_204 rfl ?_
      obtain ⟨f26, h26, h⟩ := jb h
      refine j_iast E h26 dX6_make_206 ?_
      refine j_iload E 3 dX6_make_207 rfl ?_
      cases h
      exact j_iret E dX6_make_209
    replace h := jf hc22 h
    refine j_aload_n E 0 dX6_make_148 rfl rfl ?_
    obtain ⟨x27, h27, h⟩ := jb h
    refine j_getR E gX6_27 h27 dX6_make_149 ?_
    refine j_bipush (v := (12 : Int32)) E dX6_make_152 (by decide) ?_
    refine j_iload E 4 dX6_make_154 rfl ?_
    refine j_imul E dX6_make_156 ?_
    refine j_iload E 5 dX6_make_157 rfl ?_
    refine j_iadd E dX6_make_159 ?_
    refine j_iconst (v := (0 : Int32)) E dX6_make_160 (by decide) ?_
    obtain ⟨f28, h28, h⟩ := jb h
    refine j_iast E h28 dX6_make_161 ?_
    refine j_aload_n E 0 dX6_make_162 rfl rfl ?_
    obtain ⟨x29, h29, h⟩ := jb h
    refine j_getR E gX6_30 h29 dX6_make_163 ?_
    refine j_bipush (v := (12 : Int32)) E dX6_make_166 (by decide) ?_
    refine j_iload E 4 dX6_make_168 rfl ?_
    refine j_imul E dX6_make_170 ?_
    refine j_iload E 5 dX6_make_171 rfl ?_
    refine j_iadd E dX6_make_173 ?_
    refine j_iconst (v := (0 : Int32)) E dX6_make_174 (by decide) ?_
    obtain ⟨f30, h30, h⟩ := jb h
    refine j_iast E h30 dX6_make_175 ?_
    refine j_iinc (v := (v6 + (1 : Int32))) (lv' := [(6, .int (v6 + (1 : Int32))), (0, .ref v0), (1, .int v1), (2, .int v2), (4, .int v4), (5, .int v5)]) E 5 dX6_make_176 rfl rfl (by decide) rfl ?_
    refine j_goto (tgt := 141) E dX6_make_179 (by decide) ?_
    exact j_sub [1, 2, 3, 4, 5, 0] rfl (ih _ _ h)
def mX6_make_B52 (fu : Nat)  (v0 : Nat) (v1 : Int32) (v2 : Int32) (v3 : Int32) (v4 : Int32)  (f : jM) : Option (Int32 × jM) :=
    if v4 = (24 : Int32) then (
    some ((-1 : Int32), f)) else (
    (rdR 6 f v0 11).bind fun x6 =>
    (ldI 0 f x6 v1).bind fun x7 =>
    if ((x7 + v3) + (1 : Int32)) ≤ (160 : Int32) then (
    (rdR 6 f v0 5).bind fun x9 =>
    (stI 1 f x9 (((24 : Int32) * v1) + v4) (vp_nar .boolean (1 : Int32))).bind fun f10 =>
    (rdR 6 f10 v0 2).bind fun x11 =>
    (stI 0 f10 x11 (((24 : Int32) * v1) + v4) v3).bind fun f12 =>
    (rdR 6 f12 v0 3).bind fun x13 =>
    (rdR 6 f12 v0 11).bind fun x14 =>
    (ldI 0 f12 x14 v1).bind fun x15 =>
    (stI 0 f12 x13 (((24 : Int32) * v1) + v4) x15).bind fun f16 =>
    (rdR 6 f16 v0 4).bind fun x17 =>
    (stI 0 f16 x17 (((24 : Int32) * v1) + v4) (0 : Int32)).bind fun f18 =>
    (rdR 6 f18 v0 11).bind fun x19 =>
    (ldI 0 f18 x19 v1).bind fun x20 =>
    (stI 0 f18 x19 v1 (x20 + (v3 + (1 : Int32)))).bind fun f21 =>
    mX6_make_L141 fu v0 v1 v2 v4 (((24 : Int32) * v1) + v4) fu (0 : Int32) f21) else (
    some ((-2 : Int32), f)))
set_option maxRecDepth 100000 in
set_option maxHeartbeats 4000000 in
theorem wX6_make_B52 {c : jS} {sz : Nat} {fu : Nat}  {v0 : Nat} {v1 : Int32} {v2 : Int32} {v3 : Int32} {v4 : Int32}  {f : jM} {res : (Int32 × jM)} (E : jOk c cX6_make 7 RX6 (some .int) 2 43)  (h : mX6_make_B52 fu  v0 v1 v2 v3 v4  f = some res) : J c (jZ c (some (.int res.1)) res.2 sz) f sz 0 0 52 [(0, .ref v0), (1, .int v1), (2, .int v2), (3, .int v3), (4, .int v4)] [] := by
  unfold mX6_make_B52 at h
  refine j_iload E 4 dX6_make_52 rfl ?_
  refine j_bipush (v := (24 : Int32)) E dX6_make_54 (by decide) ?_
  refine j_icmp_ne (tgt := 61) E dX6_make_56 (by decide) (fun hc5 => ?_) (fun hc5 => ?_)
  · replace h := jf hc5 h
    refine j_aload_n E 0 dX6_make_61 rfl rfl ?_
    obtain ⟨x6, h6, h⟩ := jb h
    refine j_getR E gX6_42 h6 dX6_make_62 ?_
    refine j_iload_n E 1 dX6_make_65 rfl rfl ?_
    obtain ⟨x7, h7, h⟩ := jb h
    refine j_iald E h7 dX6_make_66 ?_
    refine j_iload_n E 3 dX6_make_67 rfl rfl ?_
    refine j_iadd E dX6_make_68 ?_
    refine j_iconst (v := (1 : Int32)) E dX6_make_69 (by decide) ?_
    refine j_iadd E dX6_make_70 ?_
    refine j_sipush (v := (160 : Int32)) E dX6_make_71 (by decide) ?_
    refine j_icmp_le (tgt := 80) E dX6_make_74 (by decide) (fun hc8 => ?_) (fun hc8 => ?_)
    · replace h := jt hc8 h
      refine j_bipush (v := (24 : Int32)) E dX6_make_80 (by decide) ?_
      refine j_iload_n E 1 dX6_make_82 rfl rfl ?_
      refine j_imul E dX6_make_83 ?_
      refine j_iload E 4 dX6_make_84 rfl ?_
      refine j_iadd E dX6_make_86 ?_
      refine j_istore (lv' := [(5, .int (((24 : Int32) * v1) + v4)), (0, .ref v0), (1, .int v1), (2, .int v2), (3, .int v3), (4, .int v4)]) E dX6_make_87 (by decide) rfl ?_
      refine j_aload_n E 1 dX6_make_89 rfl rfl ?_
      obtain ⟨x9, h9, h⟩ := jb h
      refine j_getR E gX6_23 h9 dX6_make_90 ?_
      refine j_iload E 0 dX6_make_93 rfl ?_
      refine j_iconst (v := (1 : Int32)) E dX6_make_95 (by decide) ?_
      obtain ⟨f10, h10, h⟩ := jb h
      refine j_zast E h10 dX6_make_96 ?_
      refine j_aload_n E 1 dX6_make_97 rfl rfl ?_
      obtain ⟨x11, h11, h⟩ := jb h
      refine j_getR E gX6_13 h11 dX6_make_98 ?_
      refine j_iload E 0 dX6_make_101 rfl ?_
      refine j_iload_n E 4 dX6_make_103 rfl rfl ?_
      obtain ⟨f12, h12, h⟩ := jb h
      refine j_iast E h12 dX6_make_104 ?_
      refine j_aload_n E 1 dX6_make_105 rfl rfl ?_
      obtain ⟨x13, h13, h⟩ := jb h
      refine j_getR E gX6_17 h13 dX6_make_106 ?_
      refine j_iload E 0 dX6_make_109 rfl ?_
      refine j_aload_n E 1 dX6_make_111 rfl rfl ?_
      obtain ⟨x14, h14, h⟩ := jb h
      refine j_getR E gX6_42 h14 dX6_make_112 ?_
      refine j_iload_n E 2 dX6_make_115 rfl rfl ?_
      obtain ⟨x15, h15, h⟩ := jb h
      refine j_iald E h15 dX6_make_116 ?_
      obtain ⟨f16, h16, h⟩ := jb h
      refine j_iast E h16 dX6_make_117 ?_
      refine j_aload_n E 1 dX6_make_118 rfl rfl ?_
      obtain ⟨x17, h17, h⟩ := jb h
      refine j_getR E gX6_20 h17 dX6_make_119 ?_
      refine j_iload E 0 dX6_make_122 rfl ?_
      refine j_iconst (v := (0 : Int32)) E dX6_make_124 (by decide) ?_
      obtain ⟨f18, h18, h⟩ := jb h
      refine j_iast E h18 dX6_make_125 ?_
      refine j_aload_n E 1 dX6_make_126 rfl rfl ?_
      obtain ⟨x19, h19, h⟩ := jb h
      refine j_getR E gX6_42 h19 dX6_make_127 ?_
      refine j_iload_n E 2 dX6_make_130 rfl rfl ?_
      refine j_dup2 E dX6_make_131 rfl rfl ?_
      obtain ⟨x20, h20, h⟩ := jb h
      refine j_iald E h20 dX6_make_132 ?_
      refine j_iload_n E 4 dX6_make_133 rfl rfl ?_
      refine j_iconst (v := (1 : Int32)) E dX6_make_134 (by decide) ?_
      refine j_iadd E dX6_make_135 ?_
      refine j_iadd E dX6_make_136 ?_
      obtain ⟨f21, h21, h⟩ := jb h
      refine j_iast E h21 dX6_make_137 ?_
      refine j_iconst (v := (0 : Int32)) E dX6_make_138 (by decide) ?_
      refine j_istore (lv' := [(6, .int (0 : Int32)), (5, .int (((24 : Int32) * v1) + v4)), (0, .ref v0), (1, .int v1), (2, .int v2), (3, .int v3), (4, .int v4)]) E dX6_make_139 (by decide) rfl ?_
      exact j_sub [2, 3, 4, 6, 1, 0] rfl (wX6_make_L141 E _ _ _ h)
    replace h := jf hc8 h
    refine j_bipush (v := (-2 : Int32)) E dX6_make_77 (by decide) ?_
    cases h
    exact j_iret E dX6_make_79
  replace h := jt hc5 h
  refine j_iconst (v := (-1 : Int32)) E dX6_make_59 (by decide) ?_
  cases h
  exact j_iret E dX6_make_60
def mX6_make_L24 (fu : Nat)  (v0 : Nat) (v1 : Int32) (v2 : Int32) (v3 : Int32) : Nat → Int32 → jM → Option (Int32 × jM)
  | 0, _, _ => none
  | n + 1, v4, f =>
    if (24 : Int32) ≤ v4 then (
    mX6_make_B52 fu v0 v1 v2 v3 v4 f) else (
    (rdR 6 f v0 5).bind fun x2 =>
    (ldI 1 f x2 (((24 : Int32) * v1) + v4)).bind fun x3 =>
    if x3 = 0 then (
    mX6_make_B52 fu v0 v1 v2 v3 v4 f) else (
    mX6_make_L24 fu v0 v1 v2 v3 n (v4 + (1 : Int32)) f))
set_option maxRecDepth 100000 in
set_option maxHeartbeats 4000000 in
theorem wX6_make_L24 {c : jS} {sz : Nat} {fu : Nat}  {v0 : Nat} {v1 : Int32} {v2 : Int32} {v3 : Int32} {res : (Int32 × jM)} (E : jOk c cX6_make 7 RX6 (some .int) 2 43)  : ∀ (n : Nat) (v4 : Int32) (f : jM), mX6_make_L24 fu  v0 v1 v2 v3 n v4 f = some res → J c (jZ c (some (.int res.1)) res.2 sz) f sz 0 0 24 [(0, .ref v0), (1, .int v1), (2, .int v2), (3, .int v3), (4, .int v4)] [] := by
  intro n
  induction n with
  | zero => intro v4 f h; exact jn0 h
  | succ n ih =>
    intro v4 f h
    rw [mX6_make_L24] at h
    refine j_iload E 4 dX6_make_24 rfl ?_
    refine j_bipush (v := (24 : Int32)) E dX6_make_26 (by decide) ?_
    refine j_icmp_ge (tgt := 52) E dX6_make_28 (by decide) (fun hc1 => ?_) (fun hc1 => ?_)
    · replace h := jt hc1 h
      exact j_sub [0, 1, 2, 3, 4] rfl (wX6_make_B52 E  h)
    replace h := jf hc1 h
    refine j_aload_n E 0 dX6_make_31 rfl rfl ?_
    obtain ⟨x2, h2, h⟩ := jb h
    refine j_getR E gX6_23 h2 dX6_make_32 ?_
    refine j_bipush (v := (24 : Int32)) E dX6_make_35 (by decide) ?_
    refine j_iload_n E 1 dX6_make_37 rfl rfl ?_
    refine j_imul E dX6_make_38 ?_
    refine j_iload E 4 dX6_make_39 rfl ?_
    refine j_iadd E dX6_make_41 ?_
    obtain ⟨x3, h3, h⟩ := jb h
    refine j_zald E h3 dX6_make_42 ?_
    refine j_if_eq (tgt := 52) E dX6_make_43 (by decide) (fun hc4 => ?_) (fun hc4 => ?_)
    · replace h := jt hc4 h
      exact j_sub [0, 1, 2, 3, 4] rfl (wX6_make_B52 E  h)
    replace h := jf hc4 h
    refine j_iinc (v := (v4 + (1 : Int32))) (lv' := [(4, .int (v4 + (1 : Int32))), (0, .ref v0), (1, .int v1), (2, .int v2), (3, .int v3)]) E 4 dX6_make_46 rfl rfl (by decide) rfl ?_
    refine j_goto (tgt := 24) E dX6_make_49 (by decide) ?_
    exact j_sub [1, 2, 3, 4, 0] rfl (ih _ _ h)
def mX6_make (fu : Nat) (f : jM) (v0 : Nat) (v1 : Int32) (v2 : Int32) (v3 : Int32) : Option (Int32 × jM) :=
    (chk 6 f v0).bind fun _ =>
    (mX6_isRegister f v0 v1 v2).bind fun r32 =>
    if r32.1 = 0 then (
    some ((-1 : Int32), r32.2)) else (
    if v3 < 0 then (
    some ((-1 : Int32), r32.2)) else (
    if v3 ≤ (12 : Int32) then (
    mX6_make_L24 fu v0 v1 v2 v3 fu (0 : Int32) r32.2) else (
    some ((-1 : Int32), r32.2))))
set_option maxRecDepth 100000 in
set_option maxHeartbeats 4000000 in
theorem sX6_make {l : Launch} {D : jD} {sz : Nat} {fu : Nat} {f : jM} {v0 : Nat} {v1 : Int32} {v2 : Int32} {v3 : Int32} {res : (Int32 × jM)} (h : mX6_make fu f v0 v1 v2 v3 = some res) : jCt l D yX6_make cX6_make 7 (some .int) 2 43 [.ref v0, .int v1, .int v2, .int v3] f sz 0 0 (some (.int res.1)) res.2 sz := by
  refine j_start (by decide +kernel) (Nat.le_of_ble_eq_true rfl) (fun c hcl hcD hcn E => ?_)
  subst hcl
  subst hcD
  replace E : jOk c cX6_make 7 RX6 (some .int) 2 43 := E
  show J c (jZ c (some (.int res.1)) res.2 sz) f sz 0 0 0 [(0, .ref v0), (1, .int v1), (2, .int v2), (3, .int v3)] []
  unfold mX6_make at h
  refine j_aload_n E 0 dX6_make_0 rfl rfl ?_
  refine j_iload_n E 1 dX6_make_1 rfl rfl ?_
  refine j_iload_n E 2 dX6_make_2 rfl rfl ?_
  obtain ⟨u31, h31, h⟩ := jb h
  obtain ⟨fs31, h31⟩ := chk_spec h31
  obtain ⟨r32, h32, h⟩ := jb h
  refine j_callV (As := [.int v1, .int v2]) (b := v0) (rest := []) (rc := 0) (rs := 0) E (sX6_isRegister h32) lwX6_isRegister lkX6_94 imX6_isRegister seX6_isRegister rfl h31 (by decide) rfl (Nat.le_of_ble_eq_true rfl) dX6_make_3 ?_
  refine j_if_eq (tgt := 19) E dX6_make_6 (by decide) (fun hc33 => ?_) (fun hc33 => ?_)
  · replace h := jt hc33 h
    refine j_iconst (v := (-1 : Int32)) E dX6_make_19 (by decide) ?_
    cases h
    exact j_iret E dX6_make_20
  replace h := jf hc33 h
  refine j_iload_n E 3 dX6_make_9 rfl rfl ?_
  refine j_if_lt (tgt := 19) E dX6_make_10 (by decide) (fun hc34 => ?_) (fun hc34 => ?_)
  · replace h := jt hc34 h
    refine j_iconst (v := (-1 : Int32)) E dX6_make_19 (by decide) ?_
    cases h
    exact j_iret E dX6_make_20
  replace h := jf hc34 h
  refine j_iload_n E 3 dX6_make_13 rfl rfl ?_
  refine j_bipush (v := (12 : Int32)) E dX6_make_14 (by decide) ?_
  refine j_icmp_le (tgt := 21) E dX6_make_16 (by decide) (fun hc35 => ?_) (fun hc35 => ?_)
  · replace h := jt hc35 h
    refine j_iconst (v := (0 : Int32)) E dX6_make_21 (by decide) ?_
    refine j_istore (lv' := [(4, .int (0 : Int32)), (0, .ref v0), (1, .int v1), (2, .int v2), (3, .int v3)]) E dX6_make_22 (by decide) rfl ?_
    exact j_sub [1, 2, 3, 4, 0] rfl (wX6_make_L24 E _ _ _ h)
  replace h := jf hc35 h
  refine j_iconst (v := (-1 : Int32)) E dX6_make_19 (by decide) ?_
  cases h
  exact j_iret E dX6_make_20
def mX6_isField (f : jM) (v0 : Nat) (v1 : Int32) (v2 : Int32) (v3 : Int32) : Option (Int32 × jM) :=
    (chk 6 f v0).bind fun _ =>
    (mX6_local f v0 v1 v2).bind fun r2 =>
    if r2.1 = (-1 : Int32) then (
    some ((0 : Int32), r2.2)) else (
    if v3 < 0 then (
    some ((0 : Int32), r2.2)) else (
    (rdR 6 r2.2 v0 2).bind fun x5 =>
    (chk 6 r2.2 v0).bind fun _ =>
    (mX6_local r2.2 v0 v1 v2).bind fun r7 =>
    (ldI 0 r7.2 x5 r7.1).bind fun x8 =>
    if x8 ≤ v3 then (
    some ((0 : Int32), r7.2)) else (
    some ((1 : Int32), r7.2))))
set_option maxRecDepth 100000 in
set_option maxHeartbeats 4000000 in
theorem sX6_isField {l : Launch} {D : jD} {sz : Nat} {f : jM} {v0 : Nat} {v1 : Int32} {v2 : Int32} {v3 : Int32} {res : (Int32 × jM)} (h : mX6_isField f v0 v1 v2 v3 = some res) : jCt l D yX6_isField cX6_isField 4 (some .boolean) 1 23 [.ref v0, .int v1, .int v2, .int v3] f sz 0 0 (some (.int res.1)) res.2 sz := by
  refine j_start (by decide +kernel) (Nat.le_of_ble_eq_true rfl) (fun c hcl hcD hcn E => ?_)
  subst hcl
  subst hcD
  replace E : jOk c cX6_isField 4 RX6 (some .boolean) 1 23 := E
  show J c (jZ c (some (.int res.1)) res.2 sz) f sz 0 0 0 [(0, .ref v0), (1, .int v1), (2, .int v2), (3, .int v3)] []
  unfold mX6_isField at h
  refine j_aload_n E 0 dX6_isField_0 rfl rfl ?_
  refine j_iload_n E 1 dX6_isField_1 rfl rfl ?_
  refine j_iload_n E 2 dX6_isField_2 rfl rfl ?_
  obtain ⟨u1, h1, h⟩ := jb h
  obtain ⟨fs1, h1⟩ := chk_spec h1
  obtain ⟨r2, h2, h⟩ := jb h
  refine j_callV (As := [.int v1, .int v2]) (b := v0) (rest := []) (rc := 0) (rs := 0) E (sX6_local h2) lwX6_local lkX6_98 imX6_local seX6_local rfl h1 (by decide) rfl (Nat.le_of_ble_eq_true rfl) dX6_isField_3 ?_
  refine j_iconst (v := (-1 : Int32)) E dX6_isField_6 (by decide) ?_
  refine j_icmp_eq (tgt := 33) E dX6_isField_7 (by decide) (fun hc3 => ?_) (fun hc3 => ?_)
  · replace h := jt hc3 h
    refine j_iconst (v := (0 : Int32)) E dX6_isField_33 (by decide) ?_
    cases h
    exact j_zret (v := (0 : Int32)) E (by decide +kernel) dX6_isField_34
  replace h := jf hc3 h
  refine j_iload_n E 3 dX6_isField_10 rfl rfl ?_
  refine j_if_lt (tgt := 33) E dX6_isField_11 (by decide) (fun hc4 => ?_) (fun hc4 => ?_)
  · replace h := jt hc4 h
    refine j_iconst (v := (0 : Int32)) E dX6_isField_33 (by decide) ?_
    cases h
    exact j_zret (v := (0 : Int32)) E (by decide +kernel) dX6_isField_34
  replace h := jf hc4 h
  refine j_iload_n E 3 dX6_isField_14 rfl rfl ?_
  refine j_aload_n E 0 dX6_isField_15 rfl rfl ?_
  obtain ⟨x5, h5, h⟩ := jb h
  refine j_getR E gX6_13 h5 dX6_isField_16 ?_
  refine j_aload_n E 0 dX6_isField_19 rfl rfl ?_
  refine j_iload_n E 1 dX6_isField_20 rfl rfl ?_
  refine j_iload_n E 2 dX6_isField_21 rfl rfl ?_
  obtain ⟨u6, h6, h⟩ := jb h
  obtain ⟨fs6, h6⟩ := chk_spec h6
  obtain ⟨r7, h7, h⟩ := jb h
  refine j_callV (As := [.int v1, .int v2]) (b := v0) (rest := [.ref x5, .int v3]) (rc := 0) (rs := 0) E (sX6_local h7) lwX6_local lkX6_98 imX6_local seX6_local rfl h6 (by decide) rfl (Nat.le_of_ble_eq_true rfl) dX6_isField_22 ?_
  obtain ⟨x8, h8, h⟩ := jb h
  refine j_iald E h8 dX6_isField_25 ?_
  refine j_icmp_ge (tgt := 33) E dX6_isField_26 (by decide) (fun hc9 => ?_) (fun hc9 => ?_)
  · replace h := jt hc9 h
    refine j_iconst (v := (0 : Int32)) E dX6_isField_33 (by decide) ?_
    cases h
    exact j_zret (v := (0 : Int32)) E (by decide +kernel) dX6_isField_34
  replace h := jf hc9 h
  refine j_iconst (v := (1 : Int32)) E dX6_isField_29 (by decide) ?_
  refine j_goto (tgt := 34) E dX6_isField_30 (by decide) ?_
  cases h
  exact j_zret (v := (1 : Int32)) E (by decide +kernel) dX6_isField_34
def mX6_set (f : jM) (v0 : Nat) (v1 : Int32) (v2 : Int32) (v3 : Int32) (v4 : Int32) : Option (Int32 × jM) :=
    (chk 6 f v0).bind fun _ =>
    (mX6_isRegister f v0 v1 v2).bind fun r2 =>
    if r2.1 = 0 then (
    some ((0 : Int32), r2.2)) else (
    (chk 6 r2.2 v0).bind fun _ =>
    (mX6_isRegister r2.2 v0 v1 v4).bind fun r5 =>
    if r5.1 = 0 then (
    some ((0 : Int32), r5.2)) else (
    (chk 6 r5.2 v0).bind fun _ =>
    (mX6_isField r5.2 v0 v1 v2 v3).bind fun r8 =>
    if r8.1 = 0 then (
    some ((0 : Int32), r8.2)) else (
    (chk 6 r8.2 v0).bind fun _ =>
    (mX6_local r8.2 v0 v1 v2).bind fun r11 =>
    (rdR 6 r11.2 v0 6).bind fun x12 =>
    (rdR 6 r11.2 v0 8).bind fun x13 =>
    (ldI 0 r11.2 x13 (((6 : Int32) * v1) + v4)).bind fun x14 =>
    (stI 0 r11.2 x12 (((12 : Int32) * r11.1) + v3) x14).bind fun f15 =>
    (rdR 6 f15 v0 7).bind fun x16 =>
    (rdR 6 f15 v0 9).bind fun x17 =>
    (ldI 0 f15 x17 (((6 : Int32) * v1) + v4)).bind fun x18 =>
    (stI 0 f15 x16 (((12 : Int32) * r11.1) + v3) x18).bind fun f19 =>
    some ((1 : Int32), f19))))
set_option maxRecDepth 100000 in
set_option maxHeartbeats 4000000 in
theorem sX6_set {l : Launch} {D : jD} {sz : Nat} {f : jM} {v0 : Nat} {v1 : Int32} {v2 : Int32} {v3 : Int32} {v4 : Int32} {res : (Int32 × jM)} (h : mX6_set f v0 v1 v2 v3 v4 = some res) : jCt l D yX6_set cX6_set 6 (some .boolean) 2 46 [.ref v0, .int v1, .int v2, .int v3, .int v4] f sz 0 0 (some (.int res.1)) res.2 sz := by
  refine j_start (by decide +kernel) (Nat.le_of_ble_eq_true rfl) (fun c hcl hcD hcn E => ?_)
  subst hcl
  subst hcD
  replace E : jOk c cX6_set 6 RX6 (some .boolean) 2 46 := E
  show J c (jZ c (some (.int res.1)) res.2 sz) f sz 0 0 0 [(0, .ref v0), (1, .int v1), (2, .int v2), (3, .int v3), (4, .int v4)] []
  unfold mX6_set at h
  refine j_aload_n E 0 dX6_set_0 rfl rfl ?_
  refine j_iload_n E 1 dX6_set_1 rfl rfl ?_
  refine j_iload_n E 2 dX6_set_2 rfl rfl ?_
  obtain ⟨u1, h1, h⟩ := jb h
  obtain ⟨fs1, h1⟩ := chk_spec h1
  obtain ⟨r2, h2, h⟩ := jb h
  refine j_callV (As := [.int v1, .int v2]) (b := v0) (rest := []) (rc := 0) (rs := 0) E (sX6_isRegister h2) lwX6_isRegister lkX6_94 imX6_isRegister seX6_isRegister rfl h1 (by decide) rfl (Nat.le_of_ble_eq_true rfl) dX6_set_3 ?_
  refine j_if_eq (tgt := 29) E dX6_set_6 (by decide) (fun hc3 => ?_) (fun hc3 => ?_)
  · replace h := jt hc3 h
    refine j_iconst (v := (0 : Int32)) E dX6_set_29 (by decide) ?_
    cases h
    exact j_zret (v := (0 : Int32)) E (by decide +kernel) dX6_set_30
  replace h := jf hc3 h
  refine j_aload_n E 0 dX6_set_9 rfl rfl ?_
  refine j_iload_n E 1 dX6_set_10 rfl rfl ?_
  refine j_iload E 4 dX6_set_11 rfl ?_
  obtain ⟨u4, h4, h⟩ := jb h
  obtain ⟨fs4, h4⟩ := chk_spec h4
  obtain ⟨r5, h5, h⟩ := jb h
  refine j_callV (As := [.int v1, .int v4]) (b := v0) (rest := []) (rc := 0) (rs := 0) E (sX6_isRegister h5) lwX6_isRegister lkX6_94 imX6_isRegister seX6_isRegister rfl h4 (by decide) rfl (Nat.le_of_ble_eq_true rfl) dX6_set_13 ?_
  refine j_if_eq (tgt := 29) E dX6_set_16 (by decide) (fun hc6 => ?_) (fun hc6 => ?_)
  · replace h := jt hc6 h
    refine j_iconst (v := (0 : Int32)) E dX6_set_29 (by decide) ?_
    cases h
    exact j_zret (v := (0 : Int32)) E (by decide +kernel) dX6_set_30
  replace h := jf hc6 h
  refine j_aload_n E 0 dX6_set_19 rfl rfl ?_
  refine j_iload_n E 1 dX6_set_20 rfl rfl ?_
  refine j_iload_n E 2 dX6_set_21 rfl rfl ?_
  refine j_iload_n E 3 dX6_set_22 rfl rfl ?_
  obtain ⟨u7, h7, h⟩ := jb h
  obtain ⟨fs7, h7⟩ := chk_spec h7
  obtain ⟨r8, h8, h⟩ := jb h
  refine j_callV (As := [.int v1, .int v2, .int v3]) (b := v0) (rest := []) (rc := 0) (rs := 0) E (sX6_isField h8) lwX6_isField lkX6_102 imX6_isField seX6_isField rfl h7 (by decide) rfl (Nat.le_of_ble_eq_true rfl) dX6_set_23 ?_
  refine j_if_ne (tgt := 31) E dX6_set_26 (by decide) (fun hc9 => ?_) (fun hc9 => ?_)
  · replace h := jf hc9 h
    refine j_bipush (v := (12 : Int32)) E dX6_set_31 (by decide) ?_
    refine j_aload_n E 0 dX6_set_33 rfl rfl ?_
    refine j_iload_n E 1 dX6_set_34 rfl rfl ?_
    refine j_iload_n E 2 dX6_set_35 rfl rfl ?_
    obtain ⟨u10, h10, h⟩ := jb h
    obtain ⟨fs10, h10⟩ := chk_spec h10
    obtain ⟨r11, h11, h⟩ := jb h
    refine j_callV (As := [.int v1, .int v2]) (b := v0) (rest := [.int (12 : Int32)]) (rc := 0) (rs := 0) E (sX6_local h11) lwX6_local lkX6_98 imX6_local seX6_local rfl h10 (by decide) rfl (Nat.le_of_ble_eq_true rfl) dX6_set_36 ?_
    refine j_imul E dX6_set_39 ?_
    refine j_iload_n E 3 dX6_set_40 rfl rfl ?_
    refine j_iadd E dX6_set_41 ?_
    refine j_istore (lv' := [(5, .int (((12 : Int32) * r11.1) + v3)), (0, .ref v0), (1, .int v1), (2, .int v2), (3, .int v3), (4, .int v4)]) E dX6_set_42 (by decide) rfl ?_
    refine j_aload_n E 1 dX6_set_44 rfl rfl ?_
    obtain ⟨x12, h12, h⟩ := jb h
    refine j_getR E gX6_27 h12 dX6_set_45 ?_
    refine j_iload E 0 dX6_set_48 rfl ?_
    refine j_aload_n E 1 dX6_set_50 rfl rfl ?_
    obtain ⟨x13, h13, h⟩ := jb h
    refine j_getR E gX6_33 h13 dX6_set_51 ?_
    refine j_bipush (v := (6 : Int32)) E dX6_set_54 (by decide) ?_
    refine j_iload_n E 2 dX6_set_56 rfl rfl ?_
    refine j_imul E dX6_set_57 ?_
    refine j_iload E 5 dX6_set_58 rfl ?_
    refine j_iadd E dX6_set_60 ?_
    obtain ⟨x14, h14, h⟩ := jb h
    refine j_iald E h14 dX6_set_61 ?_
    obtain ⟨f15, h15, h⟩ := jb h
    refine j_iast E h15 dX6_set_62 ?_
    refine j_aload_n E 1 dX6_set_63 rfl rfl ?_
    obtain ⟨x16, h16, h⟩ := jb h
    refine j_getR E gX6_30 h16 dX6_set_64 ?_
    refine j_iload E 0 dX6_set_67 rfl ?_
    refine j_aload_n E 1 dX6_set_69 rfl rfl ?_
    obtain ⟨x17, h17, h⟩ := jb h
    refine j_getR E gX6_36 h17 dX6_set_70 ?_
    refine j_bipush (v := (6 : Int32)) E dX6_set_73 (by decide) ?_
    refine j_iload_n E 2 dX6_set_75 rfl rfl ?_
    refine j_imul E dX6_set_76 ?_
    refine j_iload E 5 dX6_set_77 rfl ?_
    refine j_iadd E dX6_set_79 ?_
    obtain ⟨x18, h18, h⟩ := jb h
    refine j_iald E h18 dX6_set_80 ?_
    obtain ⟨f19, h19, h⟩ := jb h
    refine j_iast E h19 dX6_set_81 ?_
    refine j_iconst (v := (1 : Int32)) E dX6_set_82 (by decide) ?_
    cases h
    exact j_zret (v := (1 : Int32)) E (by decide +kernel) dX6_set_83
  replace h := jt hc9 h
  refine j_iconst (v := (0 : Int32)) E dX6_set_29 (by decide) ?_
  cases h
  exact j_zret (v := (0 : Int32)) E (by decide +kernel) dX6_set_30
def mX6_get (f : jM) (v0 : Nat) (v1 : Int32) (v2 : Int32) (v3 : Int32) (v4 : Int32) : Option (Int32 × jM) :=
    (chk 6 f v0).bind fun _ =>
    (mX6_isRegister f v0 v1 v2).bind fun r2 =>
    if r2.1 = 0 then (
    some ((0 : Int32), r2.2)) else (
    (chk 6 r2.2 v0).bind fun _ =>
    (mX6_isRegister r2.2 v0 v1 v4).bind fun r5 =>
    if r5.1 = 0 then (
    some ((0 : Int32), r5.2)) else (
    (chk 6 r5.2 v0).bind fun _ =>
    (mX6_isField r5.2 v0 v1 v2 v3).bind fun r8 =>
    if r8.1 = 0 then (
    some ((0 : Int32), r8.2)) else (
    (chk 6 r8.2 v0).bind fun _ =>
    (mX6_local r8.2 v0 v1 v2).bind fun r11 =>
    (rdR 6 r11.2 v0 8).bind fun x12 =>
    (rdR 6 r11.2 v0 6).bind fun x13 =>
    (ldI 0 r11.2 x13 (((12 : Int32) * r11.1) + v3)).bind fun x14 =>
    (stI 0 r11.2 x12 (((6 : Int32) * v1) + v4) x14).bind fun f15 =>
    (rdR 6 f15 v0 9).bind fun x16 =>
    (rdR 6 f15 v0 7).bind fun x17 =>
    (ldI 0 f15 x17 (((12 : Int32) * r11.1) + v3)).bind fun x18 =>
    (stI 0 f15 x16 (((6 : Int32) * v1) + v4) x18).bind fun f19 =>
    some ((1 : Int32), f19))))
set_option maxRecDepth 100000 in
set_option maxHeartbeats 4000000 in
theorem sX6_get {l : Launch} {D : jD} {sz : Nat} {f : jM} {v0 : Nat} {v1 : Int32} {v2 : Int32} {v3 : Int32} {v4 : Int32} {res : (Int32 × jM)} (h : mX6_get f v0 v1 v2 v3 v4 = some res) : jCt l D yX6_get cX6_get 6 (some .boolean) 2 46 [.ref v0, .int v1, .int v2, .int v3, .int v4] f sz 0 0 (some (.int res.1)) res.2 sz := by
  refine j_start (by decide +kernel) (Nat.le_of_ble_eq_true rfl) (fun c hcl hcD hcn E => ?_)
  subst hcl
  subst hcD
  replace E : jOk c cX6_get 6 RX6 (some .boolean) 2 46 := E
  show J c (jZ c (some (.int res.1)) res.2 sz) f sz 0 0 0 [(0, .ref v0), (1, .int v1), (2, .int v2), (3, .int v3), (4, .int v4)] []
  unfold mX6_get at h
  refine j_aload_n E 0 dX6_get_0 rfl rfl ?_
  refine j_iload_n E 1 dX6_get_1 rfl rfl ?_
  refine j_iload_n E 2 dX6_get_2 rfl rfl ?_
  obtain ⟨u1, h1, h⟩ := jb h
  obtain ⟨fs1, h1⟩ := chk_spec h1
  obtain ⟨r2, h2, h⟩ := jb h
  refine j_callV (As := [.int v1, .int v2]) (b := v0) (rest := []) (rc := 0) (rs := 0) E (sX6_isRegister h2) lwX6_isRegister lkX6_94 imX6_isRegister seX6_isRegister rfl h1 (by decide) rfl (Nat.le_of_ble_eq_true rfl) dX6_get_3 ?_
  refine j_if_eq (tgt := 29) E dX6_get_6 (by decide) (fun hc3 => ?_) (fun hc3 => ?_)
  · replace h := jt hc3 h
    refine j_iconst (v := (0 : Int32)) E dX6_get_29 (by decide) ?_
    cases h
    exact j_zret (v := (0 : Int32)) E (by decide +kernel) dX6_get_30
  replace h := jf hc3 h
  refine j_aload_n E 0 dX6_get_9 rfl rfl ?_
  refine j_iload_n E 1 dX6_get_10 rfl rfl ?_
  refine j_iload E 4 dX6_get_11 rfl ?_
  obtain ⟨u4, h4, h⟩ := jb h
  obtain ⟨fs4, h4⟩ := chk_spec h4
  obtain ⟨r5, h5, h⟩ := jb h
  refine j_callV (As := [.int v1, .int v4]) (b := v0) (rest := []) (rc := 0) (rs := 0) E (sX6_isRegister h5) lwX6_isRegister lkX6_94 imX6_isRegister seX6_isRegister rfl h4 (by decide) rfl (Nat.le_of_ble_eq_true rfl) dX6_get_13 ?_
  refine j_if_eq (tgt := 29) E dX6_get_16 (by decide) (fun hc6 => ?_) (fun hc6 => ?_)
  · replace h := jt hc6 h
    refine j_iconst (v := (0 : Int32)) E dX6_get_29 (by decide) ?_
    cases h
    exact j_zret (v := (0 : Int32)) E (by decide +kernel) dX6_get_30
  replace h := jf hc6 h
  refine j_aload_n E 0 dX6_get_19 rfl rfl ?_
  refine j_iload_n E 1 dX6_get_20 rfl rfl ?_
  refine j_iload_n E 2 dX6_get_21 rfl rfl ?_
  refine j_iload_n E 3 dX6_get_22 rfl rfl ?_
  obtain ⟨u7, h7, h⟩ := jb h
  obtain ⟨fs7, h7⟩ := chk_spec h7
  obtain ⟨r8, h8, h⟩ := jb h
  refine j_callV (As := [.int v1, .int v2, .int v3]) (b := v0) (rest := []) (rc := 0) (rs := 0) E (sX6_isField h8) lwX6_isField lkX6_102 imX6_isField seX6_isField rfl h7 (by decide) rfl (Nat.le_of_ble_eq_true rfl) dX6_get_23 ?_
  refine j_if_ne (tgt := 31) E dX6_get_26 (by decide) (fun hc9 => ?_) (fun hc9 => ?_)
  · replace h := jf hc9 h
    refine j_bipush (v := (12 : Int32)) E dX6_get_31 (by decide) ?_
    refine j_aload_n E 0 dX6_get_33 rfl rfl ?_
    refine j_iload_n E 1 dX6_get_34 rfl rfl ?_
    refine j_iload_n E 2 dX6_get_35 rfl rfl ?_
    obtain ⟨u10, h10, h⟩ := jb h
    obtain ⟨fs10, h10⟩ := chk_spec h10
    obtain ⟨r11, h11, h⟩ := jb h
    refine j_callV (As := [.int v1, .int v2]) (b := v0) (rest := [.int (12 : Int32)]) (rc := 0) (rs := 0) E (sX6_local h11) lwX6_local lkX6_98 imX6_local seX6_local rfl h10 (by decide) rfl (Nat.le_of_ble_eq_true rfl) dX6_get_36 ?_
    refine j_imul E dX6_get_39 ?_
    refine j_iload_n E 3 dX6_get_40 rfl rfl ?_
    refine j_iadd E dX6_get_41 ?_
    refine j_istore (lv' := [(5, .int (((12 : Int32) * r11.1) + v3)), (0, .ref v0), (1, .int v1), (2, .int v2), (3, .int v3), (4, .int v4)]) E dX6_get_42 (by decide) rfl ?_
    refine j_aload_n E 1 dX6_get_44 rfl rfl ?_
    obtain ⟨x12, h12, h⟩ := jb h
    refine j_getR E gX6_33 h12 dX6_get_45 ?_
    refine j_bipush (v := (6 : Int32)) E dX6_get_48 (by decide) ?_
    refine j_iload_n E 2 dX6_get_50 rfl rfl ?_
    refine j_imul E dX6_get_51 ?_
    refine j_iload E 5 dX6_get_52 rfl ?_
    refine j_iadd E dX6_get_54 ?_
    refine j_aload_n E 1 dX6_get_55 rfl rfl ?_
    obtain ⟨x13, h13, h⟩ := jb h
    refine j_getR E gX6_27 h13 dX6_get_56 ?_
    refine j_iload E 0 dX6_get_59 rfl ?_
    obtain ⟨x14, h14, h⟩ := jb h
    refine j_iald E h14 dX6_get_61 ?_
    obtain ⟨f15, h15, h⟩ := jb h
    refine j_iast E h15 dX6_get_62 ?_
    refine j_aload_n E 1 dX6_get_63 rfl rfl ?_
    obtain ⟨x16, h16, h⟩ := jb h
    refine j_getR E gX6_36 h16 dX6_get_64 ?_
    refine j_bipush (v := (6 : Int32)) E dX6_get_67 (by decide) ?_
    refine j_iload_n E 2 dX6_get_69 rfl rfl ?_
    refine j_imul E dX6_get_70 ?_
    refine j_iload E 5 dX6_get_71 rfl ?_
    refine j_iadd E dX6_get_73 ?_
    refine j_aload_n E 1 dX6_get_74 rfl rfl ?_
    obtain ⟨x17, h17, h⟩ := jb h
    refine j_getR E gX6_30 h17 dX6_get_75 ?_
    refine j_iload E 0 dX6_get_78 rfl ?_
    obtain ⟨x18, h18, h⟩ := jb h
    refine j_iald E h18 dX6_get_80 ?_
    obtain ⟨f19, h19, h⟩ := jb h
    refine j_iast E h19 dX6_get_81 ?_
    refine j_iconst (v := (1 : Int32)) E dX6_get_82 (by decide) ?_
    cases h
    exact j_zret (v := (1 : Int32)) E (by decide +kernel) dX6_get_83
  replace h := jt hc9 h
  refine j_iconst (v := (0 : Int32)) E dX6_get_29 (by decide) ?_
  cases h
  exact j_zret (v := (0 : Int32)) E (by decide +kernel) dX6_get_30
def mX6_holds (f : jM) (v0 : Nat) (v1 : Int32) (v2 : Int32) (v3 : Int32) (v4 : Int32) : Option jM :=
    (rdR 6 f v0 8).bind fun x1 =>
    (stI 0 f x1 (((6 : Int32) * v1) + v2) v3).bind fun f2 =>
    (rdR 6 f2 v0 9).bind fun x3 =>
    (stI 0 f2 x3 (((6 : Int32) * v1) + v2) v4).bind fun f4 =>
    some f4
set_option maxRecDepth 100000 in
set_option maxHeartbeats 4000000 in
theorem sX6_holds {l : Launch} {D : jD} {sz : Nat} {f : jM} {v0 : Nat} {v1 : Int32} {v2 : Int32} {v3 : Int32} {v4 : Int32} {res : jM} (h : mX6_holds f v0 v1 v2 v3 v4 = some res) : jCt l D yX6_holds cX6_holds 5 none 0 0 [.ref v0, .int v1, .int v2, .int v3, .int v4] f sz 0 0 none res sz := by
  refine j_start (by decide +kernel) (Nat.le_of_ble_eq_true rfl) (fun c hcl hcD hcn E => ?_)
  subst hcl
  subst hcD
  replace E : jOk c cX6_holds 5 RX6 none 0 0 := E
  show J c (jZ c none res sz) f sz 0 0 0 [(0, .ref v0), (1, .int v1), (2, .int v2), (3, .int v3), (4, .int v4)] []
  unfold mX6_holds at h
  refine j_aload_n E 0 dX6_holds_0 rfl rfl ?_
  obtain ⟨x1, h1, h⟩ := jb h
  refine j_getR E gX6_33 h1 dX6_holds_1 ?_
  refine j_bipush (v := (6 : Int32)) E dX6_holds_4 (by decide) ?_
  refine j_iload_n E 1 dX6_holds_6 rfl rfl ?_
  refine j_imul E dX6_holds_7 ?_
  refine j_iload_n E 2 dX6_holds_8 rfl rfl ?_
  refine j_iadd E dX6_holds_9 ?_
  refine j_iload_n E 3 dX6_holds_10 rfl rfl ?_
  obtain ⟨f2, h2, h⟩ := jb h
  refine j_iast E h2 dX6_holds_11 ?_
  refine j_aload_n E 0 dX6_holds_12 rfl rfl ?_
  obtain ⟨x3, h3, h⟩ := jb h
  refine j_getR E gX6_36 h3 dX6_holds_13 ?_
  refine j_bipush (v := (6 : Int32)) E dX6_holds_16 (by decide) ?_
  refine j_iload_n E 1 dX6_holds_18 rfl rfl ?_
  refine j_imul E dX6_holds_19 ?_
  refine j_iload_n E 2 dX6_holds_20 rfl rfl ?_
  refine j_iadd E dX6_holds_21 ?_
  refine j_iload E 4 dX6_holds_22 rfl ?_
  obtain ⟨f4, h4, h⟩ := jb h
  refine j_iast E h4 dX6_holds_24 ?_
  cases h
  exact j_vret E dX6_holds_25
def mX6_number (f : jM) (v0 : Nat) (v1 : Int32) (v2 : Int32) (v3 : Int32) : Option (Int32 × jM) :=
    (chk 6 f v0).bind fun _ =>
    (mX6_isRegister f v0 v1 v2).bind fun r2 =>
    if r2.1 = 0 then (
    some ((0 : Int32), r2.2)) else (
    (chk 6 r2.2 v0).bind fun _ =>
    (mX6_holds r2.2 v0 v1 v2 (1 : Int32) v3).bind fun f5 =>
    some ((1 : Int32), f5))
set_option maxRecDepth 100000 in
set_option maxHeartbeats 4000000 in
theorem sX6_number {l : Launch} {D : jD} {sz : Nat} {f : jM} {v0 : Nat} {v1 : Int32} {v2 : Int32} {v3 : Int32} {res : (Int32 × jM)} (h : mX6_number f v0 v1 v2 v3 = some res) : jCt l D yX6_number cX6_number 4 (some .boolean) 2 43 [.ref v0, .int v1, .int v2, .int v3] f sz 0 0 (some (.int res.1)) res.2 sz := by
  refine j_start (by decide +kernel) (Nat.le_of_ble_eq_true rfl) (fun c hcl hcD hcn E => ?_)
  subst hcl
  subst hcD
  replace E : jOk c cX6_number 4 RX6 (some .boolean) 2 43 := E
  show J c (jZ c (some (.int res.1)) res.2 sz) f sz 0 0 0 [(0, .ref v0), (1, .int v1), (2, .int v2), (3, .int v3)] []
  unfold mX6_number at h
  refine j_aload_n E 0 dX6_number_0 rfl rfl ?_
  refine j_iload_n E 1 dX6_number_1 rfl rfl ?_
  refine j_iload_n E 2 dX6_number_2 rfl rfl ?_
  obtain ⟨u1, h1, h⟩ := jb h
  obtain ⟨fs1, h1⟩ := chk_spec h1
  obtain ⟨r2, h2, h⟩ := jb h
  refine j_callV (As := [.int v1, .int v2]) (b := v0) (rest := []) (rc := 0) (rs := 0) E (sX6_isRegister h2) lwX6_isRegister lkX6_94 imX6_isRegister seX6_isRegister rfl h1 (by decide) rfl (Nat.le_of_ble_eq_true rfl) dX6_number_3 ?_
  refine j_if_ne (tgt := 11) E dX6_number_6 (by decide) (fun hc3 => ?_) (fun hc3 => ?_)
  · replace h := jf hc3 h
    refine j_aload_n E 0 dX6_number_11 rfl rfl ?_
    refine j_iload_n E 1 dX6_number_12 rfl rfl ?_
    refine j_iload_n E 2 dX6_number_13 rfl rfl ?_
    refine j_iconst (v := (1 : Int32)) E dX6_number_14 (by decide) ?_
    refine j_iload_n E 3 dX6_number_15 rfl rfl ?_
    obtain ⟨u4, h4, h⟩ := jb h
    obtain ⟨fs4, h4⟩ := chk_spec h4
    obtain ⟨f5, h5, h⟩ := jb h
    refine j_callV (As := [.int v1, .int v2, .int (1 : Int32), .int v3]) (b := v0) (rest := []) (rc := 0) (rs := 0) E (sX6_holds h5) lwX6_holds lkX6_106 imX6_holds seX6_holds rfl h4 (by decide) rfl (Nat.le_of_ble_eq_true rfl) dX6_number_16 ?_
    refine j_iconst (v := (1 : Int32)) E dX6_number_19 (by decide) ?_
    cases h
    exact j_zret (v := (1 : Int32)) E (by decide +kernel) dX6_number_20
  replace h := jt hc3 h
  refine j_iconst (v := (0 : Int32)) E dX6_number_9 (by decide) ?_
  cases h
  exact j_zret (v := (0 : Int32)) E (by decide +kernel) dX6_number_10
def mX6_drop (f : jM) (v0 : Nat) (v1 : Int32) (v2 : Int32) : Option (Int32 × jM) :=
    (chk 6 f v0).bind fun _ =>
    (mX6_isRegister f v0 v1 v2).bind fun r2 =>
    if r2.1 = 0 then (
    some ((0 : Int32), r2.2)) else (
    (chk 6 r2.2 v0).bind fun _ =>
    (mX6_holds r2.2 v0 v1 v2 (0 : Int32) (0 : Int32)).bind fun f5 =>
    some ((1 : Int32), f5))
set_option maxRecDepth 100000 in
set_option maxHeartbeats 4000000 in
theorem sX6_drop {l : Launch} {D : jD} {sz : Nat} {f : jM} {v0 : Nat} {v1 : Int32} {v2 : Int32} {res : (Int32 × jM)} (h : mX6_drop f v0 v1 v2 = some res) : jCt l D yX6_drop cX6_drop 3 (some .boolean) 2 43 [.ref v0, .int v1, .int v2] f sz 0 0 (some (.int res.1)) res.2 sz := by
  refine j_start (by decide +kernel) (Nat.le_of_ble_eq_true rfl) (fun c hcl hcD hcn E => ?_)
  subst hcl
  subst hcD
  replace E : jOk c cX6_drop 3 RX6 (some .boolean) 2 43 := E
  show J c (jZ c (some (.int res.1)) res.2 sz) f sz 0 0 0 [(0, .ref v0), (1, .int v1), (2, .int v2)] []
  unfold mX6_drop at h
  refine j_aload_n E 0 dX6_drop_0 rfl rfl ?_
  refine j_iload_n E 1 dX6_drop_1 rfl rfl ?_
  refine j_iload_n E 2 dX6_drop_2 rfl rfl ?_
  obtain ⟨u1, h1, h⟩ := jb h
  obtain ⟨fs1, h1⟩ := chk_spec h1
  obtain ⟨r2, h2, h⟩ := jb h
  refine j_callV (As := [.int v1, .int v2]) (b := v0) (rest := []) (rc := 0) (rs := 0) E (sX6_isRegister h2) lwX6_isRegister lkX6_94 imX6_isRegister seX6_isRegister rfl h1 (by decide) rfl (Nat.le_of_ble_eq_true rfl) dX6_drop_3 ?_
  refine j_if_ne (tgt := 11) E dX6_drop_6 (by decide) (fun hc3 => ?_) (fun hc3 => ?_)
  · replace h := jf hc3 h
    refine j_aload_n E 0 dX6_drop_11 rfl rfl ?_
    refine j_iload_n E 1 dX6_drop_12 rfl rfl ?_
    refine j_iload_n E 2 dX6_drop_13 rfl rfl ?_
    refine j_iconst (v := (0 : Int32)) E dX6_drop_14 (by decide) ?_
    refine j_iconst (v := (0 : Int32)) E dX6_drop_15 (by decide) ?_
    obtain ⟨u4, h4, h⟩ := jb h
    obtain ⟨fs4, h4⟩ := chk_spec h4
    obtain ⟨f5, h5, h⟩ := jb h
    refine j_callV (As := [.int v1, .int v2, .int (0 : Int32), .int (0 : Int32)]) (b := v0) (rest := []) (rc := 0) (rs := 0) E (sX6_holds h5) lwX6_holds lkX6_106 imX6_holds seX6_holds rfl h4 (by decide) rfl (Nat.le_of_ble_eq_true rfl) dX6_drop_16 ?_
    refine j_iconst (v := (1 : Int32)) E dX6_drop_19 (by decide) ?_
    cases h
    exact j_zret (v := (1 : Int32)) E (by decide +kernel) dX6_drop_20
  replace h := jt hc3 h
  refine j_iconst (v := (0 : Int32)) E dX6_drop_9 (by decide) ?_
  cases h
  exact j_zret (v := (0 : Int32)) E (by decide +kernel) dX6_drop_10
def mX6_sends (f : jM) (v0 : Nat) (v1 : Int32) (v2 : Int32) (v3 : Int32) (v4 : Int32) (v5 : Int32) (v6 : Int32) : Option jM :=
    (rdR 6 f v0 14).bind fun x1 =>
    (rdI 6 f v0 13).bind fun x2 =>
    (stI 0 f x1 x2 v1).bind fun f3 =>
    (rdR 6 f3 v0 15).bind fun x4 =>
    (rdI 6 f3 v0 13).bind fun x5 =>
    (stI 0 f3 x4 x5 v2).bind fun f6 =>
    (rdR 6 f6 v0 16).bind fun x7 =>
    (rdI 6 f6 v0 13).bind fun x8 =>
    (stI 0 f6 x7 x8 v3).bind fun f9 =>
    (rdR 6 f9 v0 17).bind fun x10 =>
    (rdI 6 f9 v0 13).bind fun x11 =>
    (stI 0 f9 x10 x11 v4).bind fun f12 =>
    (rdR 6 f12 v0 18).bind fun x13 =>
    (rdI 6 f12 v0 13).bind fun x14 =>
    (stI 0 f12 x13 x14 v5).bind fun f15 =>
    (rdR 6 f15 v0 19).bind fun x16 =>
    (rdI 6 f15 v0 13).bind fun x17 =>
    (stI 0 f15 x16 x17 v6).bind fun f18 =>
    (rdI 6 f18 v0 13).bind fun x19 =>
    (wrV 6 f18 v0 13 (.int (x19 + (1 : Int32)))).bind fun f20 =>
    some f20
set_option maxRecDepth 100000 in
set_option maxHeartbeats 4000000 in
theorem sX6_sends {l : Launch} {D : jD} {sz : Nat} {f : jM} {v0 : Nat} {v1 : Int32} {v2 : Int32} {v3 : Int32} {v4 : Int32} {v5 : Int32} {v6 : Int32} {res : jM} (h : mX6_sends f v0 v1 v2 v3 v4 v5 v6 = some res) : jCt l D yX6_sends cX6_sends 7 none 0 0 [.ref v0, .int v1, .int v2, .int v3, .int v4, .int v5, .int v6] f sz 0 0 none res sz := by
  refine j_start (by decide +kernel) (Nat.le_of_ble_eq_true rfl) (fun c hcl hcD hcn E => ?_)
  subst hcl
  subst hcD
  replace E : jOk c cX6_sends 7 RX6 none 0 0 := E
  show J c (jZ c none res sz) f sz 0 0 0 [(0, .ref v0), (1, .int v1), (2, .int v2), (3, .int v3), (4, .int v4), (5, .int v5), (6, .int v6)] []
  unfold mX6_sends at h
  refine j_aload_n E 0 dX6_sends_0 rfl rfl ?_
  obtain ⟨x1, h1, h⟩ := jb h
  refine j_getR E gX6_48 h1 dX6_sends_1 ?_
  refine j_aload_n E 0 dX6_sends_4 rfl rfl ?_
  obtain ⟨x2, h2, h⟩ := jb h
  refine j_getI E gX6_110 h2 dX6_sends_5 ?_
  refine j_iload_n E 1 dX6_sends_8 rfl rfl ?_
  obtain ⟨f3, h3, h⟩ := jb h
  refine j_iast E h3 dX6_sends_9 ?_
  refine j_aload_n E 0 dX6_sends_10 rfl rfl ?_
  obtain ⟨x4, h4, h⟩ := jb h
  refine j_getR E gX6_51 h4 dX6_sends_11 ?_
  refine j_aload_n E 0 dX6_sends_14 rfl rfl ?_
  obtain ⟨x5, h5, h⟩ := jb h
  refine j_getI E gX6_110 h5 dX6_sends_15 ?_
  refine j_iload_n E 2 dX6_sends_18 rfl rfl ?_
  obtain ⟨f6, h6, h⟩ := jb h
  refine j_iast E h6 dX6_sends_19 ?_
  refine j_aload_n E 0 dX6_sends_20 rfl rfl ?_
  obtain ⟨x7, h7, h⟩ := jb h
  refine j_getR E gX6_54 h7 dX6_sends_21 ?_
  refine j_aload_n E 0 dX6_sends_24 rfl rfl ?_
  obtain ⟨x8, h8, h⟩ := jb h
  refine j_getI E gX6_110 h8 dX6_sends_25 ?_
  refine j_iload_n E 3 dX6_sends_28 rfl rfl ?_
  obtain ⟨f9, h9, h⟩ := jb h
  refine j_iast E h9 dX6_sends_29 ?_
  refine j_aload_n E 0 dX6_sends_30 rfl rfl ?_
  obtain ⟨x10, h10, h⟩ := jb h
  refine j_getR E gX6_57 h10 dX6_sends_31 ?_
  refine j_aload_n E 0 dX6_sends_34 rfl rfl ?_
  obtain ⟨x11, h11, h⟩ := jb h
  refine j_getI E gX6_110 h11 dX6_sends_35 ?_
  refine j_iload E 4 dX6_sends_38 rfl ?_
  obtain ⟨f12, h12, h⟩ := jb h
  refine j_iast E h12 dX6_sends_40 ?_
  refine j_aload_n E 0 dX6_sends_41 rfl rfl ?_
  obtain ⟨x13, h13, h⟩ := jb h
  refine j_getR E gX6_60 h13 dX6_sends_42 ?_
  refine j_aload_n E 0 dX6_sends_45 rfl rfl ?_
  obtain ⟨x14, h14, h⟩ := jb h
  refine j_getI E gX6_110 h14 dX6_sends_46 ?_
  refine j_iload E 5 dX6_sends_49 rfl ?_
  obtain ⟨f15, h15, h⟩ := jb h
  refine j_iast E h15 dX6_sends_51 ?_
  refine j_aload_n E 0 dX6_sends_52 rfl rfl ?_
  obtain ⟨x16, h16, h⟩ := jb h
  refine j_getR E gX6_63 h16 dX6_sends_53 ?_
  refine j_aload_n E 0 dX6_sends_56 rfl rfl ?_
  obtain ⟨x17, h17, h⟩ := jb h
  refine j_getI E gX6_110 h17 dX6_sends_57 ?_
  refine j_iload E 6 dX6_sends_60 rfl ?_
  obtain ⟨f18, h18, h⟩ := jb h
  refine j_iast E h18 dX6_sends_62 ?_
  refine j_aload_n E 0 dX6_sends_63 rfl rfl ?_
  refine j_dup E dX6_sends_64 rfl ?_
  obtain ⟨x19, h19, h⟩ := jb h
  refine j_getI E gX6_110 h19 dX6_sends_65 ?_
  refine j_iconst (v := (1 : Int32)) E dX6_sends_68 (by decide) ?_
  refine j_iadd E dX6_sends_69 ?_
  obtain ⟨f20, h20, h⟩ := jb h
  refine j_putV E gpX6_110 h20 rfl rfl dX6_sends_70 ?_
  cases h
  exact j_vret E dX6_sends_73
